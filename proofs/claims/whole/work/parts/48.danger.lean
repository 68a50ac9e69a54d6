/-! the class: orders that lead from kinds used in interrupts -/
section DA
variable {D : RD} {G : GD} {U : Nat → Nat} {its bi bo p s a : Nat}
theorem tD_add {st n st' x' y : Nat} {x : Nat → Nat} : tD (addR D st p s n x) st' x' y ↔ tD D st' x' y ∨ (rC D ≠ 60 ∧ st = st' ∧ x 0 = x' ∧ x (n - 1) = y) := by
  by_cases h : rC D = 60
  · rw [addR_full h]
    exact ⟨Or.inl, fun z => z.resolve_right (fun q => q.1 h)⟩
  · unfold tD
    rw [addR_C h, addR_S h, addR_N h, addR_X h]
    constructor
    · rintro ⟨r, q1, q2, q3, q4⟩
      by_cases hrc : r = rC D
      · subst hrc
        simp only [sbf_at] at q2 q3 q4
        exact Or.inr ⟨h, q2, q3, q4⟩
      · simp only [sbf_ne hrc] at q2 q3 q4
        exact Or.inl ⟨r, by omega, q2, q3, q4⟩
    · rintro (⟨r, q1, q2, q3, q4⟩ | ⟨_, q2, q3, q4⟩)
      · refine ⟨r, by omega, ?_⟩
        rw [sbf_ne (by omega), sbf_ne (by omega), sbf_ne (by omega)]
        exact ⟨q2, q3, q4⟩
      · refine ⟨rC D, by omega, ?_⟩
        simp only [sbf_at]
        exact ⟨q2, q3, q4⟩
theorem uns1_tD {c y : Nat} (hc : c < 16) (hy : y ≠ c) : tD (uns1 D G U its bi bo p s a c) its a y ↔ tD D its a y := by
  unfold uns1
  by_cases h : a = c ∨ U a &&& bi = 0 ∨ U c &&& bo = 0 ∨ tD D its a c ∨ ¬ Rc 16 (gE G) a c
  · rw [ci_t h]
  · rw [ci_f h, tD_add]
    have hr : Rc 16 (gE G) a c := Classical.byContradiction fun z => h (Or.inr (Or.inr (Or.inr (Or.inr z))))
    have e := (w_ok hc hr).end
    refine ⟨fun z => z.resolve_right (fun q => hy ?_), Or.inl⟩
    rw [← q.2.2.2, Nat.add_sub_cancel, e]
theorem unsN_tD {y : Nat} : ∀ k, k ≤ 16 → k ≤ y → (tD (unsN D G U its bi bo p s a k) its a y ↔ tD D its a y) := by
  intro k
  induction k with
  | zero => intro _ _; exact Iff.rfl
  | succ k ih => intro h1 h2; exact (uns1_tD (by omega) (by omega)).trans (ih (by omega) (by omega))
theorem uns1_full {c : Nat} (h : rC D = 60) : uns1 D G U its bi bo p s a c = D := by
  unfold uns1
  rw [addR_full h]
  by_cases z : a = c ∨ U a &&& bi = 0 ∨ U c &&& bo = 0 ∨ tD D its a c ∨ ¬ Rc 16 (gE G) a c
  · rw [ci_t z]
  · rw [ci_f z]
theorem unsN_full {k : Nat} (h : rC (unsN D G U its bi bo p s a k) = 60) : ∀ j, unsN D G U its bi bo p s a (k + j) = unsN D G U its bi bo p s a k := by
  intro j
  induction j with
  | zero => rfl
  | succ j ih =>
    show uns1 (unsN D G U its bi bo p s a (k + j)) G U its bi bo p s a (k + j) = _
    rw [ih, uns1_full h]
theorem unsN_id (h : ∀ c, c < 16 → a = c ∨ U a &&& bi = 0 ∨ U c &&& bo = 0 ∨ tD D its a c ∨ ¬ Rc 16 (gE G) a c) : ∀ k, k ≤ 16 → unsN D G U its bi bo p s a k = D := by
  intro k
  induction k with
  | zero => intro _; rfl
  | succ k ih =>
    intro hk
    show uns1 (unsN D G U its bi bo p s a k) G U its bi bo p s a k = _
    rw [ih (by omega)]
    unfold uns1
    rw [ci_t (h k (by omega))]
end DA
section DB
variable {h : Hp} {m : Mem} {w P b : Nat} {D : RD} {G : GD} {U : Nat → Nat} {its bi bo p s a : Nat}
theorem w_isFull (s7 : Sh7 h b) (R : RRc m b D) (wD : RW D) {Q : Int32 → Prop} : wp (fX7_isFull (wI h m) b) Q = Q (b01 (rC D = 60)) := by
  have h0 := R.1
  have h60 := wD.1
  unfold fX7_isFull jX7_isFull_14
  rw [wp_bind, s7.g0, h0, L_60]
  by_cases z : rC D = 60
  · rw [wp_f (by rw [i_lt (by omega) (by decide)]; omega), wp_eq (show (bz 1).bind (fun x3 => some x3) = some 1 from by rw [bz_1]; rfl)]
    unfold b01; rw [if_pos z]
  · rw [wp_t (by rw [i_lt (by omega) (by decide)]; omega), wp_eq (show (bz 0).bind (fun x3 => some x3) = some 0 from by rw [bz_0]; rfl)]
    unfold b01; rw [if_neg z]
theorem c_unsRow (W : WH h w P b) (R : RRc m (b + 8) D) (wD : RW D) (Rg : GRc m (b + 4) G) (e3 : m w 3 = nI p) (e4 : m w 4 = nI s) (h1 : 1 ≤ its) (h2 : its ≤ 9) (h5 : p < 6) (h6 : s ≤ 12) (ha : a < 16) (hbi : ¬ U a &&& bi = 0) {ends u4 u5 : Int32} (he : ∀ y, y < 32 → (bt ends y = true ↔ y < 16 ∧ ¬ a = y ∧ ¬ U y &&& bo = 0 ∧ ¬ tD D its a y ∧ Rc 16 (gE G) a y)) : wp (lp (bX9_tellUnsafe_88 w (nI its) u4 u5 (nI a) ends) FU (nI 0, wI h m)) (fun r => ∃ m', r = wI h m' ∧ (∀ c, ¬ (b + 8 ≤ c ∧ c ≤ b + 14) → ¬ (w + 1 ≤ c ∧ c ≤ w + 3) → m' c = m c) ∧ RRc m' (b + 8) (unsN D G U its bi bo p s a 16)) := by
  have s9 := W.1
  have s3 := W.2.2.2.2.1
  have s7 := s3.s4
  have W' := W
  obtain ⟨_, _, _, _, _, d1, d2, d3⟩ := W
  refine wp_for (κ := Mem) (fun i c => (nI i, wI h c)) 16 (fun i m' => (∀ c, ¬ (b + 8 ≤ c ∧ c ≤ b + 14) → ¬ (w + 1 ≤ c ∧ c ≤ w + 3) → m' c = m c) ∧ RRc m' (b + 8) (unsN D G U its bi bo p s a i)) (fun i c hi H => ?_) (fun c H => ?_) 0 m (by omega) ⟨fun _ _ _ => rfl, R⟩ (by decide)
  · obtain ⟨fr, Ri⟩ := H
    have wi := unsN_W (G := G) (U := U) (bi := bi) (bo := bo) wD h1 h2 h5 h6 ha i (by omega)
    have Rgi : GRc c (b + 4) G := Rg.congr (fun q h1 h2 => fr q (by omega) (by omega))
    have e3i : c w 3 = nI p := by rw [fr w (by omega) (by omega)]; exact e3
    have e4i : c w 4 = nI s := by rw [fr w (by omega) (by omega)]; exact e4
    by_cases z0 : ends = 0
    · have nid : ∀ k, k ≤ 16 → unsN D G U its bi bo p s a k = D := by
        refine unsN_id (fun y hy => ?_)
        have hb := he y (by omega)
        rw [z0, b_0] at hb
        refine Classical.byContradiction fun hc => ?_
        have : (false = true) := hb.mpr ⟨hy, fun q => hc (Or.inl q), fun q => hc (Or.inr (Or.inr (Or.inl q))), fun q => hc (Or.inr (Or.inr (Or.inr (Or.inl q)))), Classical.byContradiction fun q => hc (Or.inr (Or.inr (Or.inr (Or.inr q))))⟩
        cases this
      simp (disch := omega) only [bX9_tellUnsafe_88, L_16, i_le, wp_f]
      rw [wp_t z0, wp_some, lq_r]
      exact ⟨c, rfl, fr, by rw [nid 16 (Nat.le_refl _)]; rw [nid i (by omega)] at Ri; exact Ri⟩
    · simp (disch := omega) only [bX9_tellUnsafe_88, L_16, i_le, wp_f, wp_bind, W'.le, s3.r4, s7.o, w_isFull s7 Ri wi, b01_z]
      by_cases zf : rC (unsN D G U its bi bo p s a i) = 60
      · rw [wp_f (fun z => z zf), wp_some, lq_r]
        refine ⟨c, rfl, fr, ?_⟩
        rw [show (16 : Nat) = i + (16 - i) by omega, unsN_full zf]
        exact Ri
      · rw [wp_t zf]
        simp (disch := omega) only [wp_bind, w_has, b01_z]
        have hb := he i (by omega)
        have ht := unsN_tD (D := D) (G := G) (U := U) (its := its) (bi := bi) (bo := bo) (p := p) (s := s) (a := a) (y := i) i (by omega) (Nat.le_refl _)
        by_cases hh : bt ends i = true
        · obtain ⟨_, g1, g2, g3, g4⟩ := hb.mp hh
          have un : unsN D G U its bi bo p s a (i + 1) = addR (unsN D G U its bi bo p s a i) its p s (wK G a i + 1) (wX G a i) := by
            show uns1 (unsN D G U its bi bo p s a i) G U its bi bo p s a i = _
            unfold uns1
            rw [ci_f]
            rintro (q | q | q | q | q)
            · exact g1 q
            · exact hbi q
            · exact g2 q
            · exact g3 (ht.mp q)
            · exact q g4
          rw [wp_f (fun z => z hh)]
          simp (disch := omega) only [wp_bind, W'.le, s3.r4, s9.g3, s9.g4, e3i, e4i, s7.o]
          refine wp_mono (q_open s7 Ri wi its p s (wX G a i)) ?_
          rintro r ⟨m2, rfl, f2, O2⟩
          simp (disch := omega) only [wp_bind, s9.o]
          have Rg2 : GRc m2 (b + 4) G := Rgi.congr (fun q h1 h2 => f2 q (by omega))
          refine wp_mono (c_tellWay W' Rg2 wi ha hi g1 g4 (Nat.zero_le _) O2 h1 h2 (fun j hj => by rw [Nat.zero_add]) (fun j hj => by omega)) ?_
          rintro r ⟨m3, rfl, f3, R3⟩
          simp only [jX9_tellUnsafe_150, wp_bind, wp_some, lq_l, L_1, i_add]
          refine ⟨m3, rfl, fun q h1 h2 => by rw [f3 q h1 h2, f2 q (by omega)]; exact fr q h1 h2, ?_⟩
          rw [un]
          rw [Nat.zero_add] at R3
          exact R3
        · have un : unsN D G U its bi bo p s a (i + 1) = unsN D G U its bi bo p s a i := by
            show uns1 (unsN D G U its bi bo p s a i) G U its bi bo p s a i = _
            unfold uns1
            rw [ci_t]
            refine Classical.byContradiction fun hc => hh (hb.mpr ⟨hi, fun q => hc (Or.inl q), fun q => hc (Or.inr (Or.inr (Or.inl q))), fun q => hc (Or.inr (Or.inr (Or.inr (Or.inl (ht.mpr q))))), Classical.byContradiction fun q => hc (Or.inr (Or.inr (Or.inr (Or.inr q))))⟩)
          rw [wp_t hh]
          simp only [jX9_tellUnsafe_150, wp_bind, wp_some, lq_l, L_1, i_add]
          exact ⟨c, rfl, fr, by rw [un]; exact Ri⟩
  · simp (disch := omega) only [bX9_tellUnsafe_88, L_16, i_le, wp_t, wp_some, lq_r]
    exact ⟨c, rfl, H.1, H.2⟩
theorem c_tellUnsafe (W : WH h w P b) (R : RRc m (b + 8) D) (wD : RW D) (Rg : GRc m (b + 4) G) (hU : ∀ x, x < 16 → m (b + 3) x = nI (U x) ∧ U x < 16) (e3 : m w 3 = nI p) (e4 : m w 4 = nI s) (h1 : 1 ≤ its) (h2 : its ≤ 9) (h5 : p < 6) (h6 : s ≤ 12) : wp (fX9_tellUnsafe (wI h m) w (nI its) (nI bi) (nI bo)) (fun r => ∃ m', r = wI h m' ∧ (∀ c, ¬ (b + 8 ≤ c ∧ c ≤ b + 14) → ¬ (w + 1 ≤ c ∧ c ≤ w + 3) → m' c = m c) ∧ RRc m' (b + 8) (unsA D G U its bi bo p s 16)) := by
  have s9 := W.1
  have s3 := W.2.2.2.2.1
  have s7 := s3.s4
  have s1 := s3.s3
  have W' := W
  obtain ⟨_, _, _, _, _, d1, d2, d3⟩ := W
  simp (disch := omega) only [fX9_tellUnsafe, wp_bind, W'.le, s3.o]
  refine wp_mono (c_nodesWith s3 hU) (fun used hu => ?_)
  try simp (disch := omega) only [wp_bind, W'.le, s3.o]
  refine wp_mono (c_nodesWith s3 hU) (fun opn ho => ?_)
  try simp only [wp_some]
  refine wp_for (κ := Mem) (fun i c => (nI i, wI h c)) 16 (fun i m' => (∀ c, ¬ (b + 8 ≤ c ∧ c ≤ b + 14) → ¬ (w + 1 ≤ c ∧ c ≤ w + 3) → m' c = m c) ∧ RRc m' (b + 8) (unsA D G U its bi bo p s i)) (fun i c hi H => ?_) (fun c H => ?_) 0 m (by omega) ⟨fun _ _ _ => rfl, R⟩ (by decide)
  · obtain ⟨fr, Ri⟩ := H
    have wi := unsA_W (G := G) (U := U) (bi := bi) (bo := bo) wD h1 h2 h5 h6 i (by omega)
    have Rgi : GRc c (b + 4) G := Rg.congr (fun q h1 h2 => fr q (by omega) (by omega))
    have e3i : c w 3 = nI p := by rw [fr w (by omega) (by omega)]; exact e3
    have e4i : c w 4 = nI s := by rw [fr w (by omega) (by omega)]; exact e4
    simp (disch := omega) only [bX9_tellUnsafe_23, L_16, i_le, wp_f, wp_bind, w_has, b01_z]
    by_cases hh : bt used i = true
    · have hbi := ((hu i (by omega)).mp hh).2
      rw [wp_f (fun z => z hh)]
      simp (disch := omega) only [↓mI_e, wp_bind, W'.le, s3.r3, s1.r2, s1.l2, s3.r4, s7.o, wp_some, L_1]
      refine wp_mono (c_told s7 Ri (by omega) hi) (fun told ht => ?_)
      try simp only [wp_bind, wp_some]
      refine wp_mono (c_unsRow W' Ri wi Rgi e3i e4i h1 h2 h5 h6 hi hbi (bo := bo) (fun y hy => ?_)) ?_
      · rw [b_andm _ _ hy, b_andm _ _ hy, b_and, Bool.and_eq_true, Bool.and_eq_true, Bool.and_eq_true, (Rgi.2 i hi).2.1 y hy, ho y hy, Bool.not_eq_true', ← Bool.not_eq_true, b_sh1 (by omega) hy, decide_eq_true_iff, Bool.not_eq_true', ← Bool.not_eq_true, ht y hy]
        constructor
        · rintro ⟨⟨⟨⟨g1, g2⟩, g3, g4⟩, g5⟩, g6⟩
          exact ⟨g1, fun q => g5 q.symm, g4, g6, g2⟩
        · rintro ⟨g1, g2, g3, g4, g5⟩
          exact ⟨⟨⟨⟨g1, g5⟩, g1, g3⟩, fun q => g2 q.symm⟩, g4⟩
      · rintro r ⟨m3, rfl, f3, R3⟩
        simp only [jX9_tellUnsafe_156, wp_bind, wp_some, lq_l, L_1, i_add]
        exact ⟨m3, rfl, fun q h1 h2 => by rw [f3 q h1 h2]; exact fr q h1 h2, R3⟩
    · rw [wp_t hh]
      simp only [jX9_tellUnsafe_156, wp_bind, wp_some, lq_l, L_1, i_add]
      refine ⟨c, rfl, fr, ?_⟩
      have : unsA D G U its bi bo p s (i + 1) = unsA D G U its bi bo p s i := by
        show unsN (unsA D G U its bi bo p s i) G U its bi bo p s i 16 = _
        refine unsN_id (fun y hy => ?_) 16 (Nat.le_refl _)
        exact Or.inr (Or.inl (Classical.byContradiction fun q => hh ((hu i (by omega)).mpr ⟨hi, q⟩)))
      rw [this]; exact Ri
  · simp (disch := omega) only [bX9_tellUnsafe_23, L_16, i_le, wp_t, wp_some, lq_r]
    exact ⟨c, rfl, H.1, H.2⟩
end DB

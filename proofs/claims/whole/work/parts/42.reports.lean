/-! a report, told by the class -/
section RP
theorem b_sh1 {n : Nat} (hn : n < 32) {i : Nat} (hi : i < 32) : bt (nI 1 <<< (nI n &&& 31)) i = decide (i = n) := b_shl1 hn hi
variable {h : Hp} {m m0 : Mem} {b : Nat} {D : RD}
/-- a report that is being told -/
def OR (μ μ0 : Mem) (b : Nat) (D : RD) (st p s n : Nat) (x : Nat → Nat) : Prop := (∀ a, ¬ (b + 1 ≤ a ∧ a ≤ b + 5) → μ a = μ0 a) ∧ RRc μ b D ∧ μ (b + 1) (rC D) = nI st ∧ μ (b + 2) (rC D) = nI p ∧ μ (b + 3) (rC D) = nI s ∧ μ (b + 4) (rC D) = nI n ∧ ∀ i, i < n → μ (b + 5) (17 * rC D + i) = nI (x i)
theorem c_open (s : Sh7 h b) (R : RRc m b D) (hc : rC D < 60) (st p t : Nat) (x : Nat → Nat) : wp (fX7_open (wI h m) b (nI st) (nI p) (nI t)) (fun r => ∃ m', r = wI h m' ∧ OR m' m b D st p t 0 x) := by
  have h0 := R.1
  simp (disch := omega) only [fX7_open, jX7_open_49, wp_bind, wp_some, s.g0, h0, L_60, i_le, wp_f, s.r1, s.t1, s.r2, s.t2, s.r3, s.t3, s.r4, s.t4, up_r]
  refine ⟨_, rfl, fun a ha => ?_, ⟨?_, fun r hr => ?_, fun st' x' y h1 h2 h3 => ?_⟩, ?_, ?_, ?_, ?_, fun i hi => by omega⟩
  · rw [up_r (by omega), up_r (by omega), up_r (by omega), up_r (by omega)]
  · rw [up_r (by omega), up_r (by omega), up_r (by omega), up_r (by omega)]; exact h0
  · obtain ⟨⟨g1, g2, g3, g4⟩, g5⟩ := R.2.1 r hr
    refine ⟨⟨?_, ?_, ?_, ?_⟩, fun i hi => ?_⟩
    · rw [up_r (by omega), up_r (by omega), up_r (by omega), up_a, if_neg (by omega)]; exact g1
    · rw [up_r (by omega), up_r (by omega), up_a, if_neg (by omega), up_r (by omega)]; exact g2
    · rw [up_r (by omega), up_a, if_neg (by omega), up_r (by omega), up_r (by omega)]; exact g3
    · rw [up_a, if_neg (by omega), up_r (by omega), up_r (by omega), up_r (by omega)]; exact g4
    · rw [up_r (by omega), up_r (by omega), up_r (by omega), up_r (by omega)]; exact g5 i hi
  · rw [up_r (by omega), up_r (by omega), up_r (by omega), up_r (by omega)]; exact R.2.2 st' x' y h1 h2 h3
  · rw [up_r (by omega), up_r (by omega), up_r (by omega), up_at]
  · rw [up_r (by omega), up_r (by omega), up_at]
  · rw [up_r (by omega), up_at]
  · rw [up_at]; rfl
theorem nI_byte : ∀ x, x < 16 → (nI x).toInt8.toInt32.toInt8.toInt32 = nI x := by decide +kernel
theorem c_add (s : Sh7 h b) {st p t n : Nat} {x : Nat → Nat} (O : OR m m0 b D st p t n x) (w : RW D) (hc : rC D < 60) (hn : n < 17) (hx : x n < 16) : wp (fX7_addNode (wI h m) b (nI (x n))) (fun r => ∃ m', r = wI h m' ∧ OR m' m0 b D st p t (n + 1) x) := by
  obtain ⟨fr, R, e1, e2, e3, e4, e5⟩ := O
  have h0 := R.1
  simp (disch := omega) only [fX7_addNode, jX7_addNode_60, wp_bind, wp_some, s.g0, h0, L_60, L_17, L_1, i_le, wp_f, s.r4, s.l4, e4, s.r5, i_mul, i_add, s.t5, up_r, s.t4, nI_byte]
  refine ⟨_, rfl, fun a ha => ?_, ⟨?_, fun r hr => ?_, fun st' x' y h1 h2 h3 => ?_⟩, ?_, ?_, ?_, ?_, fun i hi => ?_⟩
  · rw [up_r (by omega), up_r (by omega)]; exact fr a ha
  · rw [up_r (by omega), up_r (by omega)]; exact h0
  · obtain ⟨⟨g1, g2, g3, g4⟩, g5⟩ := R.2.1 r hr
    have hN := (w.2 r hr).1
    refine ⟨⟨?_, ?_, ?_, ?_⟩, fun i hi => ?_⟩
    · rw [up_r (by omega), up_r (by omega)]; exact g1
    · rw [up_r (by omega), up_r (by omega)]; exact g2
    · rw [up_r (by omega), up_r (by omega)]; exact g3
    · rw [up_a, if_neg (by omega), up_r (by omega)]; exact g4
    · rw [up_r (by omega), up_a, if_neg (by omega)]; exact g5 i hi
  · rw [up_r (by omega), up_r (by omega)]; exact R.2.2 st' x' y h1 h2 h3
  · rw [up_r (by omega), up_r (by omega)]; exact e1
  · rw [up_r (by omega), up_r (by omega)]; exact e2
  · rw [up_r (by omega), up_r (by omega)]; exact e3
  · rw [up_at]
  · rw [up_r (by omega), up_a]
    by_cases hi2 : i = n
    · subst hi2; rw [if_pos (by omega)]
    · rw [if_neg (by omega)]; exact e5 i (by omega)
theorem c_close (s : Sh7 h b) {st p t n : Nat} {x : Nat → Nat} (O : OR m m0 b D st p t n x) (w : RW D) (hc : rC D < 60) (h1 : 1 ≤ st) (h2 : st ≤ 9) (hn1 : 1 ≤ n) (hn : n ≤ 17) (hx : ∀ i, i < n → x i < 16) : wp (fX7_close (wI h m) b) (fun r => ∃ m', r = wI h m' ∧ (∀ a, ¬ (b ≤ a ∧ a ≤ b + 6) → m' a = m0 a) ∧ RRc m' b (addR D st p t n x)) := by
  obtain ⟨fr, R, e1, e2, e3, e4, e5⟩ := O
  have h0 := R.1
  have x0 := e5 0 (by omega)
  have xn : m (b + 5) (rC D * 17 + n - 1) = nI (x (n - 1)) := by
    rw [show rC D * 17 + n - 1 = 17 * rC D + (n - 1) by omega]; exact e5 (n - 1) (by omega)
  rw [show 17 * rC D + 0 = rC D * 17 by omega] at x0
  have hx0 := hx 0 (by omega)
  have hxn := hx (n - 1) (by omega)
  have hne : rC D ≠ 60 := by omega
  simp (disch := omega) only [fX7_close, jX7_close_94, wp_bind, wp_some, s.g0, h0, L_60, L_17, i_le, wp_f, s.r4, s.l4, e4, z_le, s.r5, i_mul, i_add, s.l5, x0, s.r6, s.r1, s.l1, e1, L_16, s.l6, s.t6, up_r, s.p0]
  simp (disch := omega) only [L_1, i_sub, i_add, s.l5, xn, wp_bind, s.r6, s.r1, s.g0, h0, s.l1, e1, i_mul, s.l6, s.t6, up_r, s.p0, wp_some]
  refine ⟨_, rfl, fun a ha => ?_, ⟨?_, fun r hr => ?_, fun st' x' y g1 g2 g3 => ?_⟩⟩
  · rw [up_r (by omega), up_r (by omega)]; exact fr a (by omega)
  · rw [up_at, addR_C hne]
  · rw [addR_C hne] at hr
    rw [addR_S hne, addR_P hne, addR_T hne, addR_N hne, addR_X hne]
    rw [up_r (by omega), up_r (by omega), up_r (by omega), up_r (by omega), up_r (by omega), up_r (by omega), up_r (by omega), up_r (by omega), up_r (by omega), up_r (by omega)]
    by_cases hrc : r = rC D
    · subst hrc
      simp only [sbf_at]
      exact ⟨⟨e1, e2, e3, e4⟩, e5⟩
    · simp only [sbf_ne hrc]
      exact R.2.1 r (by omega)
  · have old := R.2.2 st' x' y g1 g2 g3
    rw [up_r (by omega), up_a, addR_C hne, addR_S hne, addR_N hne, addR_X hne]
    have spl : (∃ r, r < rC D + 1 ∧ sbf (rS D) (rC D) st r = st' ∧ sbf (rX D) (rC D) x r 0 = x' ∧ sbf (rX D) (rC D) x r (sbf (rN D) (rC D) n r - 1) = y) ↔ (∃ r, r < rC D ∧ rS D r = st' ∧ rX D r 0 = x' ∧ rX D r (rN D r - 1) = y) ∨ (st = st' ∧ x 0 = x' ∧ x (n - 1) = y) := by
      constructor
      · rintro ⟨r, q1, q2, q3, q4⟩
        by_cases hrc : r = rC D
        · subst hrc
          simp only [sbf_at] at q2 q3 q4
          exact Or.inr ⟨q2, q3, q4⟩
        · simp only [sbf_ne hrc] at q2 q3 q4
          exact Or.inl ⟨r, by omega, q2, q3, q4⟩
      · rintro (⟨r, q1, q2, q3, q4⟩ | ⟨q2, q3, q4⟩)
        · refine ⟨r, by omega, ?_⟩
          rw [sbf_ne (by omega), sbf_ne (by omega), sbf_ne (by omega)]
          exact ⟨q2, q3, q4⟩
        · refine ⟨rC D, by omega, ?_⟩
          simp only [sbf_at]
          exact ⟨q2, q3, q4⟩
    rw [spl, ← old]
    by_cases hk : 16 * st' + x' = st * 16 + x 0
    · have k1 : st' = st := by omega
      have k2 : x' = x 0 := by omega
      subst k1 k2
      rw [if_pos (by omega), b_or, Bool.or_eq_true, b_sh1 (by omega) g3, decide_eq_true_iff, show st' * 16 + x 0 = 16 * st' + x 0 by omega]
      constructor
      · rintro (q | q)
        · exact Or.inl q
        · exact Or.inr ⟨rfl, rfl, q.symm⟩
      · rintro (q | ⟨_, _, q⟩)
        · exact Or.inl q
        · exact Or.inr q.symm
    · rw [if_neg hk]
      exact ⟨Or.inl, fun q => q.resolve_right (fun z => hk (by omega))⟩
theorem c_open60 (s : Sh7 h b) (R : RRc m b D) (hc : rC D = 60) (u v w : Int32) : fX7_open (wI h m) b u v w = some (wI h m) := by
  have : wp (fX7_open (wI h m) b u v w) (fun r => r = wI h m) := by
    have h0 := R.1
    simp (disch := omega) only [fX7_open, jX7_open_49, wp_bind, wp_some, s.g0, h0, L_60, i_le, wp_t]
  obtain ⟨a, e, rfl⟩ := this
  exact e
theorem c_add60 (s : Sh7 h b) (R : RRc m b D) (hc : rC D = 60) (u : Int32) : fX7_addNode (wI h m) b u = some (wI h m) := by
  have : wp (fX7_addNode (wI h m) b u) (fun r => r = wI h m) := by
    have h0 := R.1
    simp (disch := omega) only [fX7_addNode, jX7_addNode_60, wp_bind, wp_some, s.g0, h0, L_60, i_le, wp_t]
  obtain ⟨a, e, rfl⟩ := this
  exact e
theorem c_close60 (s : Sh7 h b) (R : RRc m b D) (hc : rC D = 60) : fX7_close (wI h m) b = some (wI h m) := by
  have : wp (fX7_close (wI h m) b) (fun r => r = wI h m) := by
    have h0 := R.1
    simp (disch := omega) only [fX7_close, jX7_close_94, wp_bind, wp_some, s.g0, h0, L_60, i_le, wp_t]
  obtain ⟨a, e, rfl⟩ := this
  exact e
end RP
/-! a report, told by the reference -/
section RQ
variable {m : Mem} {D : RD}
theorem r_atReport (r k : Nat) : gX12_atReport (nI r) (nI k) = some (nI (273 + 21 * r + k)) := by
  unfold gX12_atReport
  rw [L_273, L_21, i_mul, i_add, i_add]
theorem w_atReport {r k : Nat} {Q : Int32 → Prop} : wp (gX12_atReport (nI r) (nI k)) Q = Q (nI (273 + 21 * r + k)) := wp_eq (r_atReport r k)
theorem r_report (R : RRr (m 1) D) (w : RW D) {st p t n : Nat} {x : Nat → Nat} (hn : n ≤ 17) (hx : ∀ i, i < n → m 17 i = nI (x i)) : wp (gX12_report m (nI st) (nI p) (nI t) (nI n)) (fun m' => (∀ o, o ≠ 1 → m' o = m o) ∧ (∀ j, (j < 272 ∨ 1533 ≤ j) → m' 1 j = m 1 j) ∧ RRr (m' 1) (addR D st p t n x)) := by
  have h0 := R.1
  by_cases hc : rC D = 60
  · simp (disch := omega) only [gX12_report, wp_bind, L_272, w_rd, h0, L_60, i_eq, wp_t, wp_some]
    rw [addR_full hc]
    exact ⟨by intros; trivial, by intros; trivial, R⟩
  · have h60 := w.1
    simp (disch := omega) only [gX12_report, wp_bind, L_272, w_rd, h0, L_60, i_eq, wp_f]
    rw [show (0 : Int32) = nI 0 from rfl]
    simp (disch := omega) only [L_1, L_2, L_3, w_atReport, wp_bind, w_wr]
    refine wp_mono (Q := fun m' => (∀ o, o ≠ 1 → m' o = m o) ∧ (∀ j, (j < 273 + 21 * rC D ∨ 273 + 21 * rC D + 21 ≤ j) → m' 1 j = m 1 j) ∧ (m' 1 (273 + 21 * rC D) = nI st ∧ m' 1 (274 + 21 * rC D) = nI p ∧ m' 1 (275 + 21 * rC D) = nI t ∧ m' 1 (276 + 21 * rC D) = nI n) ∧ ∀ i, i < n → m' 1 (277 + 21 * rC D + i) = nI (x i)) ?_ ?_
    · refine wp_for (κ := Mem) (fun i c => (nI i, c)) n (fun k m' => (∀ o, o ≠ 1 → m' o = m o) ∧ (∀ j, (j < 273 + 21 * rC D ∨ 273 + 21 * rC D + 21 ≤ j) → m' 1 j = m 1 j) ∧ (m' 1 (273 + 21 * rC D) = nI st ∧ m' 1 (274 + 21 * rC D) = nI p ∧ m' 1 (275 + 21 * rC D) = nI t ∧ m' 1 (276 + 21 * rC D) = nI n) ∧ ∀ i, i < k → m' 1 (277 + 21 * rC D + i) = nI (x i)) (fun k c hk H => ?_) (fun c H => ?_) 0 _ (Nat.zero_le _) ⟨?_, ?_, ⟨?_, ?_, ?_, ?_⟩, fun i hi => by omega⟩ (by omega)
      · obtain ⟨H1, H2, ⟨H3, H4, H5, H6⟩, H7⟩ := H
        have e17 : c 17 k = nI (x k) := by rw [H1 17 (by decide)]; exact hx k hk
        simp (disch := omega) only [gbX12_report_76, i_le, wp_f, wp_bind, L_4, i_add, w_atReport, w_rd, w_wr, wp_some, lq_l, L_1, e17]
        refine ⟨_, rfl, fun o ho => by rw [up_r ho]; exact H1 o ho, fun j hj => ?_, ⟨?_, ?_, ?_, ?_⟩, fun i hi => ?_⟩
        · rw [up_a, if_neg (by omega)]; exact H2 j hj
        · rw [up_a, if_neg (by omega)]; exact H3
        · rw [up_a, if_neg (by omega)]; exact H4
        · rw [up_a, if_neg (by omega)]; exact H5
        · rw [up_a, if_neg (by omega)]; exact H6
        · rw [up_a]
          by_cases hik : i = k
          · rw [hik, if_pos (by omega)]
          · rw [if_neg (by omega)]; exact H7 i (by omega)
      · simp (disch := omega) only [gbX12_report_76, i_le, wp_t, wp_some, lq_r]
        exact H
      · intro o ho; rw [up_r ho, up_r ho, up_r ho, up_r ho]
      · intro j hj; rw [up_a, if_neg (by omega), up_a, if_neg (by omega), up_a, if_neg (by omega), up_a, if_neg (by omega)]
      · rw [up_a, if_neg (by omega), up_a, if_neg (by omega), up_a, if_neg (by omega), up_a, if_pos (by omega)]
      · rw [up_a, if_neg (by omega), up_a, if_neg (by omega), up_a, if_pos (by omega)]
      · rw [up_a, if_neg (by omega), up_a, if_pos (by omega)]
      · rw [up_a, if_pos (by omega)]
    · rintro m' ⟨H1, H2, ⟨H3, H4, H5, H6⟩, H7⟩
      have h272 : m' 1 272 = nI (rC D) := by rw [H2 272 (by omega)]; exact h0
      simp (disch := omega) only [w_rd, wp_bind, h272, L_1, i_add, w_wr, wp_some]
      refine ⟨fun o ho => by rw [up_r ho]; exact H1 o ho, fun j hj => ?_, ?_, fun r hr => ?_⟩
      · rw [up_a, if_neg (by omega)]; exact H2 j (by omega)
      · rw [up_at, addR_C hc]
      · rw [addR_C hc] at hr
        rw [addR_S hc, addR_P hc, addR_T hc, addR_N hc, addR_X hc]
        have nn : ∀ j, 273 ≤ j → up m' 1 272 (nI (rC D + 1)) 1 j = m' 1 j := fun j hj => by rw [up_a, if_neg (by omega)]
        rw [nn _ (by omega), nn _ (by omega), nn _ (by omega), nn _ (by omega)]
        by_cases hrc : r = rC D
        · subst hrc
          simp only [sbf_at]
          exact ⟨⟨H3, H4, H5, H6⟩, fun i hi => by rw [nn _ (by omega)]; exact H7 i hi⟩
        · simp only [sbf_ne hrc]
          obtain ⟨⟨g1, g2, g3, g4⟩, g5⟩ := R.2 r (by omega)
          have hN := (w.2 r (by omega)).1
          rw [H2 _ (by omega), H2 _ (by omega), H2 _ (by omega), H2 _ (by omega)]
          exact ⟨⟨g1, g2, g3, g4⟩, fun i hi => by rw [nn _ (by omega), H2 _ (by omega)]; exact g5 i hi⟩
theorem r_reportOne (R : RRr (m 1) D) (w : RW D) {st p t x : Nat} : wp (gX12_reportOne m (nI st) (nI p) (nI t) (nI x)) (fun m' => (∀ o, o ≠ 1 → o ≠ 17 → m' o = m o) ∧ (∀ j, (j < 272 ∨ 1533 ≤ j) → m' 1 j = m 1 j) ∧ RRr (m' 1) (addR D st p t 1 (fun _ => x))) := by
  unfold gX12_reportOne
  rw [wp_bind, show (0 : Int32) = nI 0 from rfl, w_wr (by decide) (by decide), wp_bind]
  have e1 : up m 17 0 (nI x) 1 = m 1 := up_r (by decide)
  refine wp_mono (r_report (m := up m 17 0 (nI x)) (D := D) (n := 1) (x := fun _ => x) (by rw [e1]; exact R) w (by decide) (fun i hi => by rw [show i = 0 by omega]; exact up_at)) (fun m' H => ?_)
  rw [wp_some]
  rw [e1] at H
  exact ⟨fun o h1 h2 => by rw [H.1 o h1, up_r h2], H.2.1, H.2.2⟩
/-- whether there is such a report -/
theorem r_isReported (R : RRr (m 1) D) (w : RW D) {st x y : Nat} (h1 : st < 10) (h2 : x < 16) (h3 : y < 16) : wp (gX12_isReported m (nI st) (nI x) (nI y)) (fun r => (r = 1 ∧ ∃ q, q < rC D ∧ rS D q = st ∧ rX D q 0 = x ∧ rX D q (rN D q - 1) = y) ∨ (r = 0 ∧ ¬ ∃ q, q < rC D ∧ rS D q = st ∧ rX D q 0 = x ∧ rX D q (rN D q - 1) = y)) := by
  have h60 := w.1
  unfold gX12_isReported
  rw [wp_bind]
  refine wp_mono (Q := fun r => (r = .inr () ∧ ∃ q, q < rC D ∧ rS D q = st ∧ rX D q 0 = x ∧ rX D q (rN D q - 1) = y) ∨ (r = .inl () ∧ ¬ ∃ q, q < rC D ∧ rS D q = st ∧ rX D q 0 = x ∧ rX D q (rN D q - 1) = y)) ?_ ?_
  · refine wp_for (κ := Unit) (fun i _ => nI i) (rC D) (fun k _ => ∀ q, q < k → ¬ (rS D q = st ∧ rX D q 0 = x ∧ rX D q (rN D q - 1) = y)) (fun k _ hk H => ?_) (fun _ H => ?_) 0 () (Nat.zero_le _) (fun q hq => by omega) (by omega)
    · obtain ⟨⟨g1, g2, g3, g4⟩, g5⟩ := R.2 k hk
      obtain ⟨⟨w1, w2, w3, w4, w5, w6⟩, w7⟩ := w.2 k hk
      have x0 := g5 0 (by omega)
      have xn := g5 (rN D k - 1) (by omega)
      have b0 := w7 0 (by omega)
      have bn := w7 (rN D k - 1) (by omega)
      have go : ¬ (rS D k = st ∧ rX D k 0 = x ∧ rX D k (rN D k - 1) = y) → wp (gjX12_isReported_53 (nI st) (nI x) (nI y) (nI k) m) (lq (fun s' => ∃ c' : Unit, s' = nI (k + 1) ∧ ∀ q, q < k + 1 → ¬ (rS D q = st ∧ rX D q 0 = x ∧ rX D q (rN D q - 1) = y)) (fun r : Unit ⊕ Unit => (r = .inr () ∧ ∃ q, q < rC D ∧ rS D q = st ∧ rX D q 0 = x ∧ rX D q (rN D q - 1) = y) ∨ (r = .inl () ∧ ¬ ∃ q, q < rC D ∧ rS D q = st ∧ rX D q 0 = x ∧ rX D q (rN D q - 1) = y))) := by
        intro hne
        unfold gjX12_isReported_53
        rw [wp_bind, wp_some, wp_some, lq_l, nI_1]
        refine ⟨(), rfl, fun q hq => ?_⟩
        by_cases hqk : q = k
        · rw [hqk]; exact hne
        · exact H q (by omega)
      simp (disch := omega) only [gbX12_isReported_3, wp_bind, L_272, w_rd, R.1, i_le, wp_f]
      rw [show (0 : Int32) = nI 0 from rfl]
      simp (disch := omega) only [w_atReport, w_rd, Nat.add_zero, g1, i_eq]
      by_cases c1 : rS D k = st
      · rw [wp_t c1]
        simp (disch := omega) only [gX12_firstOf, wp_bind, L_4, w_atReport, w_rd, wp_some]
        rw [show 273 + 21 * k + 4 = 277 + 21 * k + 0 by omega, x0]
        simp (disch := omega) only [i_eq]
        by_cases c2 : rX D k 0 = x
        · rw [wp_t c2]
          simp (disch := omega) only [gX12_lastOf, wp_bind, L_3, L_4, L_1, w_atReport, w_rd, wp_some]
          rw [show 273 + 21 * k + 3 = 276 + 21 * k by omega, g4]
          simp (disch := omega) only [i_add, i_sub, w_atReport, w_rd, wp_some]
          rw [show 273 + 21 * k + (4 + rN D k - 1) = 277 + 21 * k + (rN D k - 1) by omega, xn]
          simp (disch := omega) only [i_eq]
          by_cases c3 : rX D k (rN D k - 1) = y
          · rw [wp_t c3, wp_some, lq_r]
            exact Or.inl ⟨rfl, k, hk, c1, c2, c3⟩
          · rw [wp_f c3]; exact go (fun z => c3 z.2.2)
        · rw [wp_f c2]; exact go (fun z => c2 z.2.1)
      · rw [wp_f c1]; exact go (fun z => c1 z.1)
    · simp (disch := omega) only [gbX12_isReported_3, wp_bind, L_272, w_rd, R.1, i_le, wp_t, wp_some, lq_r]
      exact Or.inr ⟨trivial, fun ⟨q, q1, q2⟩ => H q q1 q2⟩
  · rintro r (⟨rfl, e⟩ | ⟨rfl, e⟩)
    · exact ⟨1, rfl, Or.inl ⟨rfl, e⟩⟩
    · exact ⟨0, rfl, Or.inr ⟨rfl, e⟩⟩
end RQ

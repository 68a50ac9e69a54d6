/-! the reference: a use; what leads from kinds used in interrupts; chains; places -/
section RV
variable {m : Mem} {D : RD} {G : GD} {U : Nat → Nat} {Pl : PD} {p s : Nat} {S : Nat → Nat}
theorem nzle {u k : Nat} (h : u < 2 ^ 31) : (nI u &&& nI k ≤ 0) ↔ u &&& k = 0 := by
  rw [nx_andn, z_le (Nat.lt_of_le_of_lt Nat.and_le_left h)]
theorem r_use61 (R : RRr (m 1) D) (w : RW D) {x u0 v : Nat} {y0 y1 y2 : Int32} (h5 : p < 6) (h6 : s < 12) (hx : x < 16) (eu : m 1 (256 + x) = nI u0) (hv : y2 ||| (y1 ||| y0) = nI v) (hu : u0 ||| v < 16) : wp (gjX12_use_61 (nI p) (nI s) (nI x) y0 y1 y2 m) (fun m' => (∀ o, o ≠ 1 → o ≠ 17 → m' o = m o) ∧ (∀ j, (j < 256 ∨ 1533 ≤ j) → m' 1 j = m 1 j) ∧ (∀ j, j < 16 → m' 1 (256 + j) = if j = x then nI (u0 ||| v) else m 1 (256 + j)) ∧ RRr (m' 1) (useD D (u0 ||| v) p s x)) := by
  have tail : ∀ (D1 : RD) (m1 : Mem), RW D1 → (∀ o, o ≠ 1 → o ≠ 17 → m1 o = m o) → (∀ j, (j < 256 ∨ 1533 ≤ j) → m1 1 j = m 1 j) → (∀ j, j < 16 → m1 1 (256 + j) = if j = x then nI (u0 ||| v) else m 1 (256 + j)) → RRr (m1 1) D1 → wp (gjX12_use_118 (nI p) (nI s) (nI x) m1) (fun m' => (∀ o, o ≠ 1 → o ≠ 17 → m' o = m o) ∧ (∀ j, (j < 256 ∨ 1533 ≤ j) → m' 1 j = m 1 j) ∧ (∀ j, j < 16 → m' 1 (256 + j) = if j = x then nI (u0 ||| v) else m 1 (256 + j)) ∧ RRr (m' 1) (if (u0 ||| v) &&& 2 = 0 ∨ (u0 ||| v) &&& 8 = 0 then D1 else once D1 5 p s x)) := by
    intro D1 m1 w1 f1 a1 g1 R1
    have eu1 : m1 1 (256 + x) = nI (u0 ||| v) := by rw [g1 x hx, if_pos rfl]
    unfold gjX12_use_118 gjX12_use_157
    rw [wp_bind, L_256, i_add, w_rd (by omega) (by decide), eu1, L_2]
    by_cases z1 : (u0 ||| v) &&& 2 = 0
    · rw [wp_t ((nzle (by omega)).mpr z1), wp_some, if_pos (Or.inl z1)]
      exact ⟨f1, a1, g1, R1⟩
    · rw [wp_f (fun z => z1 ((nzle (by omega)).mp z)), wp_bind, w_rd (by omega) (by decide), eu1, L_8]
      by_cases z2 : (u0 ||| v) &&& 8 = 0
      · rw [wp_t ((nzle (by omega)).mpr z2), wp_some, if_pos (Or.inr z2)]
        exact ⟨f1, a1, g1, R1⟩
      · rw [wp_f (fun z => z2 ((nzle (by omega)).mp z)), wp_bind, if_neg (fun z => z.elim z1 z2), L_5]
        refine wp_mono (r_reportOnce R1 w1 (by decide) hx) (fun m2 H => ?_)
        rw [wp_some]
        exact ⟨fun o h1 h2 => by rw [H.1 o h1 h2]; exact f1 o h1 h2, fun j hj => by rw [H.2.1 j (by omega)]; exact a1 j hj, fun j hj => by rw [H.2.1 _ (by omega)]; exact g1 j hj, H.2.2⟩
  unfold gjX12_use_61
  rw [wp_bind, wp_some, hv, wp_bind, L_256, i_add, w_rd (by omega) (by decide), eu, wp_bind, w_wr (by omega) (by decide), nx_or]
  have f1 : ∀ o, o ≠ 1 → o ≠ 17 → up m 1 (256 + x) (nI (u0 ||| v)) o = m o := fun o h1 _ => up_r h1
  have a1 : ∀ j, (j < 256 ∨ 1533 ≤ j) → up m 1 (256 + x) (nI (u0 ||| v)) 1 j = m 1 j := fun j hj => by rw [up_a, if_neg (by omega)]
  have g1 : ∀ j, j < 16 → up m 1 (256 + x) (nI (u0 ||| v)) 1 (256 + j) = if j = x then nI (u0 ||| v) else m 1 (256 + j) := by
    intro j hj
    rw [up_a]
    by_cases z : j = x
    · rw [if_pos (by omega), if_pos z]
    · rw [if_neg (by omega), if_neg z]
  have R1 : RRr (up m 1 (256 + x) (nI (u0 ||| v)) 1) D := R.congr w (fun j h1 h2 => by rw [up_a, if_neg (by omega)])
  generalize up m 1 (256 + x) (nI (u0 ||| v)) = m1 at f1 a1 g1 R1
  have eu1 : m1 1 (256 + x) = nI (u0 ||| v) := by rw [g1 x hx, if_pos rfl]
  unfold useD
  rw [wp_bind, w_rd (by omega) (by decide), eu1, L_1]
  by_cases z1 : (u0 ||| v) &&& 1 = 0
  · rw [wp_t ((nzle (by omega)).mpr z1), if_pos (Or.inl z1)]
    exact tail D m1 w f1 a1 g1 R1
  · rw [wp_f (fun z => z1 ((nzle (by omega)).mp z)), wp_bind, w_rd (by omega) (by decide), eu1, L_4]
    by_cases z2 : (u0 ||| v) &&& 4 = 0
    · rw [wp_t ((nzle (by omega)).mpr z2), if_pos (Or.inr z2)]
      exact tail D m1 w f1 a1 g1 R1
    · rw [wp_f (fun z => z2 ((nzle (by omega)).mp z)), wp_bind, if_neg (c := (u0 ||| v) &&& 1 = 0 ∨ (u0 ||| v) &&& 4 = 0) (fun z => z.elim z1 z2)]
      refine wp_mono (r_reportOnce R1 w (by decide) hx) (fun m2 H => ?_)
      exact tail _ m2 (once_W w (by decide) (by decide) h5 (by omega) hx) (fun o h1 h2 => by rw [H.1 o h1 h2]; exact f1 o h1 h2) (fun j hj => by rw [H.2.1 j (by omega)]; exact a1 j hj) (fun j hj => by rw [H.2.1 _ (by omega)]; exact g1 j hj) H.2.2
theorem useB_r (so c : Nat) : (if so = 2 then 1 else if so = 1 then 2 else 0) ||| ((if c &&& 4 = 0 then 0 else 4) ||| (if c = 6 then 8 else 0)) = useB so c := by
  unfold useB
  by_cases h2 : so = 2
  · rw [if_pos h2, if_pos h2, if_neg (show ¬ so = 1 by omega), Nat.or_zero, Nat.or_assoc]
  · rw [if_neg h2, if_neg h2, Nat.zero_or, Nat.or_assoc]
theorem r_use (f : PF m Pl) (pw : PW Pl) (hp : p < pP Pl) (hs : s < 12) (hop : ∀ k, k < s → m 1 (1541 + (12 * p + k)) = nI (S k / 16) ∧ S k / 16 ≤ 8) (R : RRr (m 1) D) (w : RW D) {x u0 : Nat} (hx : x < 16) (eu : m 1 (256 + x) = nI u0) (hu : u0 < 16) : wp (gX12_use m (nI p) (nI s) (nI x)) (fun m' => (∀ o, o ≠ 1 → o ≠ 17 → m' o = m o) ∧ (∀ j, (j < 256 ∨ 1533 ≤ j) → m' 1 j = m 1 j) ∧ (∀ j, j < 16 → m' 1 (256 + j) = if j = x then nI (u0 ||| useB (pS Pl p) (cx (pS Pl p) S s)) else m 1 (256 + j)) ∧ RRr (m' 1) (useD D (u0 ||| useB (pS Pl p) (cx (pS Pl p) S s)) p s x)) := by
  have h5 : p < 6 := Nat.lt_of_lt_of_le hp pw.2.2.1
  have hso := (pw.2.2.2.2 p hp).1
  rw [← useB_r]
  generalize hc : cx (pS Pl p) S s = c
  have hw := fun {Q : Int32 → Prop} => w_isHard (Q := Q) f pw hp (Nat.le_of_lt hs) hop
  have hw2 := fun {Q : Int32 → Prop} => w_canSoft (Q := Q) f pw hp (Nat.le_of_lt hs) hop
  rw [hc] at hw hw2
  have j46 : ∀ (a e : Nat), a < 16 → e < 16 → wp (gjX12_use_46 (nI p) (nI s) (nI x) (nI e) (nI a) m) (fun m' => (∀ o, o ≠ 1 → o ≠ 17 → m' o = m o) ∧ (∀ j, (j < 256 ∨ 1533 ≤ j) → m' 1 j = m 1 j) ∧ (∀ j, j < 16 → m' 1 (256 + j) = if j = x then nI (u0 ||| (a ||| (e ||| if c = 6 then 8 else 0))) else m 1 (256 + j)) ∧ RRr (m' 1) (useD D (u0 ||| (a ||| (e ||| if c = 6 then 8 else 0))) p s x)) := by
    intro a e ha he
    unfold gjX12_use_46
    rw [wp_bind, hw2]
    by_cases z : c = 6
    · rw [b01_t z, wp_f (by decide), if_pos z]
      exact r_use61 R w h5 hs hx eu (by rw [L_8, nx_or, nx_or]) (or16 hu (or16 ha (or16 he (by decide))))
    · rw [b01_n z, wp_t rfl, if_neg z]
      exact r_use61 R w h5 hs hx eu (by rw [show (0 : Int32) = nI 0 from rfl, nx_or, nx_or]) (or16 hu (or16 ha (or16 he (by decide))))
  have j27 : ∀ (a : Nat), a < 16 → wp (gjX12_use_27 (nI p) (nI s) (nI x) (nI a) m) (fun m' => (∀ o, o ≠ 1 → o ≠ 17 → m' o = m o) ∧ (∀ j, (j < 256 ∨ 1533 ≤ j) → m' 1 j = m 1 j) ∧ (∀ j, j < 16 → m' 1 (256 + j) = if j = x then nI (u0 ||| (a ||| ((if c &&& 4 = 0 then 0 else 4) ||| if c = 6 then 8 else 0))) else m 1 (256 + j)) ∧ RRr (m' 1) (useD D (u0 ||| (a ||| ((if c &&& 4 = 0 then 0 else 4) ||| if c = 6 then 8 else 0))) p s x)) := by
    intro a ha
    unfold gjX12_use_27
    rw [wp_bind, hw]
    by_cases z : c &&& 4 = 0
    · rw [b01_n (fun q => q z), wp_t rfl, if_pos z]
      exact j46 a 0 ha (by decide)
    · rw [b01_t z, wp_f (by decide), if_neg z]
      exact j46 a 4 ha (by decide)
  unfold gX12_use
  rw [wp_bind, w_sortOf f pw hp, L_2]
  by_cases z : pS Pl p = 2
  · rw [wp_t (by rw [z]), if_pos z]
    exact j27 1 (by decide)
  · rw [wp_f (by rw [i_eq (by omega) (by decide)]; exact z), if_neg z, wp_bind, w_sortOf f pw hp, L_1]
    by_cases z1 : pS Pl p = 1
    · rw [wp_t (by rw [z1]), if_pos z1]
      exact j27 2 (by decide)
    · rw [wp_f (by rw [i_eq (by omega) (by decide)]; exact z1), if_neg z1]
      exact j27 0 (by decide)
variable {its bi bo : Nat}
theorem r_unsRow (R : RRr (m 1) D) (w : RW D) (Rg : GRr (m 1) G) (g : GW G) (hU : ∀ y, y < 16 → m 1 (256 + y) = nI (U y) ∧ U y < 16) (h1 : 1 ≤ its) (h2 : its ≤ 9) (h5 : p < 6) (h6 : s ≤ 12) {a : Nat} (ha : a < 16) : wp (lp (gbX12_lookUnsafe_13 (nI p) (nI s) (nI its) (nI bi) (nI bo) (nI a)) FU (nI 0, m)) (fun m' => (∀ o, o ≠ 1 → o ≠ 16 → o ≠ 17 → m' o = m o) ∧ (∀ j, (j < 272 ∨ 1533 ≤ j) → m' 1 j = m 1 j) ∧ RRr (m' 1) (unsN D G U its bi bo p s a 16)) := by
  refine wp_for (κ := Mem) (fun i c => (nI i, c)) 16 (fun i m' => (∀ o, o ≠ 1 → o ≠ 16 → o ≠ 17 → m' o = m o) ∧ (∀ j, (j < 272 ∨ 1533 ≤ j) → m' 1 j = m 1 j) ∧ RRr (m' 1) (unsN D G U its bi bo p s a i)) (fun i c hi HH => ?_) (fun c HH => ?_) 0 m (Nat.zero_le _) ⟨fun _ _ _ _ => rfl, fun _ _ => rfl, R⟩ (by decide)
  · obtain ⟨fr, fa, Ri⟩ := HH
    have wi := unsN_W (G := G) (U := U) (bi := bi) (bo := bo) w h1 h2 h5 h6 ha i (by omega)
    have Rgi : GRr (c 1) G := Rg.congr (fun j hj => fa j (by omega))
    have ua := hU a ha
    have ui := hU i hi
    rw [← fa _ (by omega)] at ua ui
    have ustep : unsN D G U its bi bo p s a (i + 1) = uns1 (unsN D G U its bi bo p s a i) G U its bi bo p s a i := rfl
    generalize hD0 : unsN D G U its bi bo p s a i = D0 at *
    have skip : (a = i ∨ U a &&& bi = 0 ∨ U i &&& bo = 0 ∨ tD D0 its a i ∨ ¬ Rc 16 (gE G) a i) → ∀ c', (∀ o, o ≠ 1 → o ≠ 16 → o ≠ 17 → c' o = m o) → (∀ j, (j < 272 ∨ 1533 ≤ j) → c' 1 j = m 1 j) → RRr (c' 1) D0 → wp (gjX12_lookUnsafe_100 (nI p) (nI s) (nI its) (nI bi) (nI bo) (nI a) (nI i) c') (lq (fun s' => ∃ c', s' = (nI (i + 1), c') ∧ (∀ o, o ≠ 1 → o ≠ 16 → o ≠ 17 → c' o = m o) ∧ (∀ j, (j < 272 ∨ 1533 ≤ j) → c' 1 j = m 1 j) ∧ RRr (c' 1) (unsN D G U its bi bo p s a (i + 1))) (fun m' => (∀ o, o ≠ 1 → o ≠ 16 → o ≠ 17 → m' o = m o) ∧ (∀ j, (j < 272 ∨ 1533 ≤ j) → m' 1 j = m 1 j) ∧ RRr (m' 1) (unsN D G U its bi bo p s a 16))) := by
      intro hc c' f' a' R'
      unfold gjX12_lookUnsafe_100
      rw [wp_bind, wp_some, wp_some, lq_l, nI_1]
      refine ⟨c', rfl, f', a', ?_⟩
      rw [ustep]
      unfold uns1
      rw [ci_t hc]; exact R'
    simp (disch := omega) only [gbX12_lookUnsafe_13, L_16, i_le, wp_f, i_eq]
    by_cases c1 : a = i
    · rw [wp_t c1]; exact skip (Or.inl c1) c fr fa Ri
    · rw [wp_f c1]
      simp (disch := omega) only [wp_bind, L_256, i_add, w_rd, ua.1]
      by_cases c2 : U a &&& bi = 0
      · rw [wp_t ((nzi (by omega)).mpr c2)]; exact skip (Or.inr (Or.inl c2)) c fr fa Ri
      · rw [wp_f (fun z => c2 ((nzi (by omega)).mp z))]
        simp (disch := omega) only [wp_bind, L_256, i_add, w_rd, ui.1]
        by_cases c3 : U i &&& bo = 0
        · rw [wp_t ((nzi (by omega)).mpr c3)]; exact skip (Or.inr (Or.inr (Or.inl c3))) c fr fa Ri
        · rw [wp_f (fun z => c3 ((nzi (by omega)).mp z)), wp_bind]
          refine wp_mono (r_isReported Ri wi (by omega) ha hi) ?_
          rintro r (⟨rfl, ht⟩ | ⟨rfl, ht⟩)
          · rw [wp_f (by decide)]; exact skip (Or.inr (Or.inr (Or.inr (Or.inl ht)))) c fr fa Ri
          · rw [wp_t rfl, wp_bind]
            have hEE : ∀ q c', q < 16 → c' < 16 → (rE (c 1) q c' ↔ gE G q c') := fun q c' hq hc' => Rgi.E g hq hc'
            refine wp_mono (r_layWay (m := c) ha hi) ?_
            rintro ⟨r1, m2⟩ ⟨f2, HW⟩
            simp only at f2 HW ⊢
            have e21 : m2 1 = c 1 := f2 1 (by decide) (by decide)
            rcases HW with ⟨K, y, way, rfl, hy⟩ | ⟨rfl, no⟩
            · have way1 := Way_congr hEE ha way
              have hr : Rc 16 (gE G) a i := Rc_iff.mpr (fun z => way1.no z)
              have way0 := w_ok hi hr
              have hK := way1.K way0
              subst hK
              have hnod := way1.nodes way0
              have hK15 := way0.ltN ha hi c1
              simp (disch := omega) only [z_le, wp_f, wp_bind]
              refine wp_mono (r_report (m := m2) (D := D0) (st := its) (p := p) (t := s) (n := wK G a i + 1) (x := wX G a i) (by rw [e21]; exact Ri) wi (by omega) (fun j hj => by rw [hy j (by omega), hnod j (by omega)])) (fun m4 H => ?_)
              simp only [gjX12_lookUnsafe_100, wp_bind, wp_some, lq_l, L_1, i_add]
              refine ⟨m4, rfl, fun o h1 h2 h3 => by rw [H.1 o h1, f2 o h2 h3]; exact fr o h1 h2 h3, fun j hj => by rw [H.2.1 j hj, e21]; exact fa j hj, ?_⟩
              rw [ustep]
              unfold uns1
              rw [ci_f]
              · exact H.2.2
              · rintro (q | q | q | q | q)
                · exact c1 q
                · exact c2 q
                · exact c3 q
                · exact ht q
                · exact q hr
            · have hr : ¬ Rc 16 (gE G) a i := fun z => Rc_iff.mp z ((noWay_congr hEE ha).mp no)
              rw [wp_t (by decide)]
              exact skip (Or.inr (Or.inr (Or.inr (Or.inr hr)))) m2 (fun o h1 h2 h3 => by rw [f2 o h2 h3]; exact fr o h1 h2 h3) (fun j hj => by rw [e21]; exact fa j hj) (by rw [e21]; exact Ri)
  · simp (disch := omega) only [gbX12_lookUnsafe_13, L_16, i_le, wp_t, wp_some, lq_r]
    exact HH
theorem r_lookUnsafe (R : RRr (m 1) D) (w : RW D) (Rg : GRr (m 1) G) (g : GW G) (hU : ∀ y, y < 16 → m 1 (256 + y) = nI (U y) ∧ U y < 16) (h1 : 1 ≤ its) (h2 : its ≤ 9) (h5 : p < 6) (h6 : s ≤ 12) : wp (gX12_lookUnsafe m (nI p) (nI s) (nI its) (nI bi) (nI bo)) (fun m' => (∀ o, o ≠ 1 → o ≠ 16 → o ≠ 17 → m' o = m o) ∧ (∀ j, (j < 272 ∨ 1533 ≤ j) → m' 1 j = m 1 j) ∧ RRr (m' 1) (unsA D G U its bi bo p s 16)) := by
  unfold gX12_lookUnsafe
  rw [wp_bind]
  refine wp_for (κ := Mem) (fun i c => (nI i, c)) 16 (fun i m' => (∀ o, o ≠ 1 → o ≠ 16 → o ≠ 17 → m' o = m o) ∧ (∀ j, (j < 272 ∨ 1533 ≤ j) → m' 1 j = m 1 j) ∧ RRr (m' 1) (unsA D G U its bi bo p s i)) (fun i c hi HH => ?_) (fun c HH => ?_) 0 m (Nat.zero_le _) ⟨fun _ _ _ _ => rfl, fun _ _ => rfl, R⟩ (by decide)
  · obtain ⟨fr, fa, Ri⟩ := HH
    have wi := unsA_W (G := G) (U := U) (bi := bi) (bo := bo) w h1 h2 h5 h6 i (by omega)
    have Rgi : GRr (c 1) G := Rg.congr (fun j hj => fa j (by omega))
    simp (disch := omega) only [gbX12_lookUnsafe_3, L_16, i_le, wp_f, wp_bind]
    refine wp_mono (r_unsRow Ri wi Rgi g (fun y hy => by rw [fa _ (by omega)]; exact hU y hy) h1 h2 h5 h6 hi) (fun m' H => ?_)
    simp only [wp_some, lq_l, L_1, i_add]
    exact ⟨m', rfl, fun o h1 h2 h3 => by rw [H.1 o h1 h2 h3]; exact fr o h1 h2 h3, fun j hj => by rw [H.2.1 j hj]; exact fa j hj, H.2.2⟩
  · simp (disch := omega) only [gbX12_lookUnsafe_3, L_16, i_le, wp_t, wp_some, lq_r]
    exact HH
end RV

/-! the reference's search is srch -/
section RSE
variable {Pl : PD} {S : Nat → Nat} {X : Nat} {m m0 : Mem} {Z : SS} {fl : Int32}
theorem r_srch (G : RQ Pl S X m0 m Z fl) : wp (lp gbX12_search_15 FU (fl, (0 : Int32), m)) (fun y => RQ Pl S X m0 y.2 (goF Pl S X Z 4000) y.1) := by
  refine wp_for (κ := Int32 × Mem) (fun u c => (c.1, nI u, c.2)) 4000 (fun u c => RQ Pl S X m0 c.2 (goF Pl S X Z u) c.1) (fun u c hu hI => ?_) (fun c hI => ?_) 0 (fl, m) (Nat.zero_le _) G (by decide)
  · obtain ⟨f1, m1⟩ := c
    change RQ Pl S X m0 m1 (goF Pl S X Z u) f1 at hI
    have si1 := hI.2.2.2.1
    have n4 := si1.2.1
    have e1 : f1 = (if zO (goF Pl S X Z u) = 2 then 0 else 1) := hI.2.2.2.2
    have e46 := hI.2.2.1.2.1
    have e47 := hI.2.2.1.2.2.1
    have done : zO (goF Pl S X Z u) ≠ 3 ∨ zN (goF Pl S X Z u) ≤ u → RQ Pl S X m0 m1 (goF Pl S X Z 4000) f1 := fun y => by
      have := goF_more (Pl := Pl) (S := S) (X := X) (Z := Z) u (4000 - u) y
      rw [show u + (4000 - u) = 4000 by omega] at this
      rw [this]; exact hI
    simp only [gbX12_search_15]
    rw [e46]
    by_cases c1 : zN (goF Pl S X Z u) ≤ u
    · rw [wp_t (by rw [i_le (by omega) (by omega)]; exact c1), wp_some, lq_r]
      exact done (Or.inr c1)
    · rw [wp_f (by rw [i_le (by omega) (by omega)]; exact c1)]
      by_cases o2 : zO (goF Pl S X Z u) = 2
      · rw [wp_t (by rw [e1]; exact fl_0.mpr o2), wp_some, lq_r]
        exact done (Or.inl (by omega))
      · rw [wp_f (by rw [e1]; exact fun y => o2 (fl_0.mp y))]
        by_cases o1 : zO (goF Pl S X Z u) = 1
        · rw [wp_t ((fl_s n4 e47).mpr o1), wp_some, lq_r]
          exact done (Or.inl (by omega))
        · rw [wp_f (fun y => o1 ((fl_s n4 e47).mp y)), wp_bind]
          rw [if_neg o2] at e1
          rw [e1] at hI
          refine wp_mono (r_goFrom hI (by omega) rfl) ?_
          rintro ⟨y1, y2⟩ G2
          rw [wp_bind, wp_some, wp_some, lq_l, nI_1]
          refine ⟨(y1, y2), rfl, ?_⟩
          show RQ Pl S X m0 y2 (ci (u < zN (goF Pl S X Z u)) _ _) y1
          rw [ci_t (by omega)]; exact G2
  · obtain ⟨f1, m1⟩ := c
    change RQ Pl S X m0 m1 (goF Pl S X Z 4000) f1 at hI
    have n4 := hI.2.2.2.1.2.1
    have e46 := hI.2.2.1.2.1
    simp only [gbX12_search_15]
    rw [e46, wp_t (by rw [i_le (by omega) (by decide)]; exact n4), wp_some, lq_r]
    exact hI
theorem r_begin (R : RXc (up m 0 40 (nI X)) Pl S X) : wp (gX12_beginMoments m (nI X)) (fun m' => RFr (up m 0 40 (nI X)) m' ∧ RMo Pl X m' M00 ∧ m' 0 46 = nI 0 ∧ m' 0 47 = mI ∧ ∀ s, s < 16384 → m' 31 s = mI) := by
  have pw := R.2.1
  unfold gX12_beginMoments
  rw [wp_bind, wp_some, wp_bind, wp_some, wp_bind, wp_some]
  generalize hm1 : up m 0 40 (nI X) = m1 at *
  let m3 : Mem := up (up m1 0 46 0) 0 47 mI
  have f3 : RFr m1 m3 := ⟨fun o o1 _ => by show up (up m1 0 46 0) 0 47 mI o = _; rw [up_r (by omega), up_r (by omega)], fun j j1 j2 _ => by show up (up m1 0 46 0) 0 47 mI 0 j = _; rw [up_ne (by omega), up_ne (by omega)]⟩
  have e46 : m3 0 46 = nI 0 := by show up (up m1 0 46 0) 0 47 mI 0 46 = _; rw [up_ne (by omega), up_at]; rfl
  have e47 : m3 0 47 = mI := up_at
  show wp ((lp gbX12_beginMoments_17 FU ((0 : Int32), m3)).bind _) _
  rw [wp_bind]
  refine wp_mono (Q := fun k => (∀ o, o ≠ 31 → k o = m3 o) ∧ ∀ s, s < 16384 → k 31 s = mI) ?_ ?_
  · refine wp_for (κ := Mem) (fun i k => (nI i, k)) 16384 (fun i k => (∀ o, o ≠ 31 → k o = m3 o) ∧ ∀ s, s < i → k 31 s = mI) (fun i k hi hI => ?_) (fun k hI => ?_) 0 m3 (Nat.zero_le _) ⟨fun _ _ => rfl, fun s hs => absurd hs (Nat.not_lt_zero _)⟩ (by decide)
    · simp only [gbX12_beginMoments_17]
      rw [L_16384, wp_f (by rw [i_le (by decide) (by omega)]; omega), wp_bind, w_wr hi (by decide), wp_bind, wp_some, wp_some, lq_l, nI_1]
      refine ⟨_, rfl, fun o ho => by rw [up_r ho]; exact hI.1 o ho, fun s hs => ?_⟩
      rw [up_a]
      by_cases z : s = i
      · rw [if_pos z]; rfl
      · rw [if_neg z]; exact hI.2 s (by omega)
    · simp only [gbX12_beginMoments_17]
      rw [L_16384, wp_t (by rw [i_le (by decide) (by decide)]; omega), wp_some, lq_r]
      exact hI
  · rintro k0 ⟨k1, k2⟩
    rw [wp_bind]
    refine wp_mono (Q := fun k => (∀ o, o ≠ 23 → o ≠ 24 → k o = k0 o) ∧ ∀ p, p < 6 → k 23 p = nI (rdn Pl X M00 p) - 1 ∧ k 24 p = nI (rwh Pl X M00 p) - 1) ?_ ?_
    · refine wp_for (κ := Mem) (fun i k => (nI i, k)) 6 (fun i k => (∀ o, o ≠ 23 → o ≠ 24 → k o = k0 o) ∧ ∀ p, p < i → k 23 p = nI (rdn Pl X M00 p) - 1 ∧ k 24 p = nI (rwh Pl X M00 p) - 1) (fun i k hi hI => ?_) (fun k hI => ?_) 0 k0 (Nat.zero_le _) ⟨fun _ _ _ => rfl, fun s hs => absurd hs (Nat.not_lt_zero _)⟩ (by decide)
      · obtain ⟨h1, h2⟩ := hI
        have Rk : RXc k Pl S X := (R.rf f3).f2 fun o ho => by rw [h1 o (by omega) (by omega), k1 o (by omega)]
        have fin : ∀ a b : Int32, a = nI (rdn Pl X M00 i) - 1 → b = nI (rwh Pl X M00 i) - 1 → wp (gjX12_beginMoments_96 (nI i) b (nI i) (up k 23 i a)) (lq (fun s' => ∃ c' : Mem, s' = (nI (i + 1), c') ∧ (∀ o, o ≠ 23 → o ≠ 24 → c' o = k0 o) ∧ ∀ p, p < i + 1 → c' 23 p = nI (rdn Pl X M00 p) - 1 ∧ c' 24 p = nI (rwh Pl X M00 p) - 1) (fun k => (∀ o, o ≠ 23 → o ≠ 24 → k o = k0 o) ∧ ∀ p, p < 6 → k 23 p = nI (rdn Pl X M00 p) - 1 ∧ k 24 p = nI (rwh Pl X M00 p) - 1)) := by
          intro a b ha hb
          unfold gjX12_beginMoments_96
          rw [wp_bind, w_wr hi (by decide), wp_bind, wp_some, wp_some, lq_l, nI_1]
          refine ⟨_, rfl, fun o o1 o2 => by rw [up_r o2, up_r o1]; exact h1 o o1 o2, fun p hp => ?_⟩
          rw [up_r (show (23 : Nat) ≠ 24 by decide), up_a, up_a, up_r (show (24 : Nat) ≠ 23 by decide)]
          by_cases z : p = i
          · rw [if_pos z, if_pos z, z]; exact ⟨ha, hb⟩
          · rw [if_neg z, if_neg z]; exact h2 p (by omega)
        have no : ¬ tk Pl X i → wp (gjX12_beginMoments_66 (nI i) 0 k) (lq (fun s' => ∃ c' : Mem, s' = (nI (i + 1), c') ∧ (∀ o, o ≠ 23 → o ≠ 24 → c' o = k0 o) ∧ ∀ p, p < i + 1 → c' 23 p = nI (rdn Pl X M00 p) - 1 ∧ c' 24 p = nI (rwh Pl X M00 p) - 1) (fun k => (∀ o, o ≠ 23 → o ≠ 24 → k o = k0 o) ∧ ∀ p, p < 6 → k 23 p = nI (rdn Pl X M00 p) - 1 ∧ k 24 p = nI (rwh Pl X M00 p) - 1)) := fun hn => by
          unfold gjX12_beginMoments_66 gjX12_beginMoments_81
          rw [wp_t rfl, wp_bind, w_wr hi (by decide), wp_t rfl]
          refine fin mI mI ?_ ?_
          · unfold rdn
            rw [ci_f (fun z => z.elim hn (fun y => y rfl))]; rfl
          · unfold rwh
            rw [ci_f hn]; rfl
        simp only [gbX12_beginMoments_39]
        rw [L_6, wp_f (by rw [i_le (by decide) (by omega)]; omega), wp_bind, w_isIn0 Rk hi]
        by_cases c1 : X.testBit i = true
        · have iP := R.2.2.2.2 i c1
          have s2 := (pw.2.2.2.2 i iP).1
          rw [b01_t c1, wp_f (by decide), wp_bind, w_sortOf Rk.1 pw iP]
          by_cases c2 : pS Pl i = 0
          · have ht : tk Pl X i := ⟨iP, c1, c2⟩
            rw [wp_t (by rw [c2]; rfl)]
            unfold gjX12_beginMoments_66 gjX12_beginMoments_81
            rw [wp_f (by decide), wp_bind, w_wr hi (by decide), wp_f (by decide)]
            refine fin 0 (nI i) ?_ ?_
            · unfold rdn
              rw [ci_t (Or.inl ht)]
              show (0 : Int32) = nI 1 - 1
              rfl
            · unfold rwh
              rw [ci_t ht]; exact (i_sub (a := i + 1) (b := 1) (by omega)).symm
          · rw [wp_f (by rw [z_eq (by omega)]; exact c2)]
            unfold gjX12_beginMoments_65
            exact no (fun z => c2 z.2.2)
        · rw [b01_n c1, wp_t rfl]
          unfold gjX12_beginMoments_65
          exact no (fun z => c1 z.2.1)
      · simp only [gbX12_beginMoments_39]
        rw [L_6, wp_t (by rw [i_le (by decide) (by decide)]; omega), wp_some, lq_r]
        exact hI
    · rintro k3 ⟨h1, h2⟩
      rw [wp_bind]
      refine wp_mono (Q := fun k => (∀ o, o ≠ 25 → o ≠ 26 → k o = k3 o) ∧ ∀ l, l < 10 → k 25 l = mI ∧ k 26 l = 0) ?_ ?_
      · refine wp_for (κ := Mem) (fun i k => (nI i, k)) 10 (fun i k => (∀ o, o ≠ 25 → o ≠ 26 → k o = k3 o) ∧ ∀ l, l < i → k 25 l = mI ∧ k 26 l = 0) (fun i k hi hI => ?_) (fun k hI => ?_) 0 k3 (Nat.zero_le _) ⟨fun _ _ _ => rfl, fun s hs => absurd hs (Nat.not_lt_zero _)⟩ (by decide)
        · simp only [gbX12_beginMoments_105]
          rw [L_10, wp_f (by rw [i_le (by decide) (by omega)]; omega), wp_bind, w_wr hi (by decide), wp_bind, w_wr hi (by decide), wp_bind, wp_some, wp_some, lq_l, nI_1]
          refine ⟨_, rfl, fun o o1 o2 => by rw [up_r o2, up_r o1]; exact hI.1 o o1 o2, fun l hl => ?_⟩
          rw [up_r (show (25 : Nat) ≠ 26 by decide), up_a, up_a, up_r (show (26 : Nat) ≠ 25 by decide)]
          by_cases z : l = i
          · rw [if_pos z, if_pos z]; exact ⟨rfl, rfl⟩
          · rw [if_neg z, if_neg z]; exact hI.2 l (by omega)
        · simp only [gbX12_beginMoments_105]
          rw [L_10, wp_t (by rw [i_le (by decide) (by decide)]; omega), wp_some, lq_r]
          exact hI
      · rintro k4 ⟨g1, g2⟩
        rw [wp_some]
        have all : ∀ o, o ≠ 23 → o ≠ 24 → o ≠ 25 → o ≠ 26 → o ≠ 31 → k4 o = m3 o := fun o o1 o2 o3 o4 o5 => by rw [g1 o o3 o4, h1 o o1 o2, k1 o o5]
        refine ⟨f3.tr ⟨fun o o1 o2 => all o (by omega) (by omega) (by omega) (by omega) (by omega), fun j _ _ _ => by rw [all 0 (by decide) (by decide) (by decide) (by decide) (by decide)]⟩, ⟨fun p hp => ?_, fun l hl => ?_⟩, ?_, ?_, fun s hs => ?_⟩
        · rw [g1 23 (by decide) (by decide), g1 24 (by decide) (by decide)]; exact h2 p hp
        · obtain ⟨a1, a2⟩ := g2 l hl
          rw [a1, a2]; exact ⟨rfl, rfl⟩
        · rw [all 0 (by decide) (by decide) (by decide) (by decide) (by decide)]; exact e46
        · rw [all 0 (by decide) (by decide) (by decide) (by decide) (by decide)]; exact e47
        · rw [g1 31 (by decide) (by decide), h1 31 (by decide) (by decide)]; exact k2 s hs
/-- what the reference's search leaves -/
theorem r_search (R : RXc (up m 0 40 (nI X)) Pl S X) : wp (gX12_search m (nI X)) (fun y => RFr (up m 0 40 (nI X)) y.2 ∧ RXc y.2 Pl S X ∧ RZ Pl S X y.2 (srch Pl S X) ∧ SI Pl S X (srch Pl S X) ∧ y.1 = (if zO (srch Pl S X) = 2 then 0 else 1)) := by
  unfold gX12_search
  rw [wp_bind]
  refine wp_mono (r_begin R) ?_
  rintro m1 ⟨f1, r1, e46, e47, e31⟩
  have R1 := R.rf f1
  have z1 : RZ Pl S X m1 Z00 := ⟨⟨fun _ => none, fun s hs => Or.inl ⟨rfl, e31 s hs⟩, TB.new (fun _ _ => rfl)⟩, e46, e47, fun j hj => absurd hj (Nat.not_lt_zero _), fun h => absurd h (Nat.lt_irrefl _), fun j _ hj => absurd hj (Nat.not_lt_zero _), fun q => absurd (show (3 : Nat) = 1 from q) (by decide)⟩
  rw [wp_bind]
  refine wp_mono (r_come (k := 0) R1 mok_00 r1 z1 rfl (Nat.zero_le _) (fun j hj => absurd hj (Nat.not_lt_zero _)) (Or.inl ⟨rfl, rfl, rfl, rfl⟩)) ?_
  rintro ⟨y1, y2⟩ ⟨g1, g2, g3⟩
  rw [wp_bind]
  have G : RQ Pl S X (up m 0 40 (nI X)) y2 (addM Pl S X Z00 M00 0) y1 := ⟨f1.tr g1, R1.rf g1, g2, si_00, g3⟩
  refine wp_mono (r_srch G) ?_
  rintro ⟨y3, y4⟩ G2
  change RQ Pl S X (up m 0 40 (nI X)) y4 (srch Pl S X) y3 at G2
  have e : y3 = (if zO (srch Pl S X) = 2 then 0 else 1) := G2.2.2.2.2
  rw [wp_bind]
  by_cases o2 : zO (srch Pl S X) = 2
  · rw [if_pos o2] at e
    rw [e] at G2 ⊢
    rw [wp_eq bz_0, wp_some]; exact G2
  · rw [if_neg o2] at e
    rw [e] at G2 ⊢
    rw [wp_eq bz_1, wp_some]; exact G2
end RSE

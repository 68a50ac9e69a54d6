/-! acts of the reference -/
def a0 (g : GS) : Nat := if sA g = 12 then 11 else sA g
def h0 (g : GS) (i : Nat) : LA := if sA g = 12 then sH g (i + 1) else sH g i
def actG (g : GS) (A : LA) : GS := (g.1, g.2.1, sP g, (a0 g + 1, a0 g + 1, sbf (h0 g) (a0 g + 1) A), sX g)
def setA (g : GS) (k : Nat) : GS := (g.1, g.2.1, sP g, (k, sL g, sH g), sX g)
theorem h0_a (g : GS) : h0 g (a0 g) = sH g (sA g) := by
  unfold h0 a0
  by_cases z : sA g = 12
  · rw [if_pos z, if_pos z, z]
  · rw [if_neg z, if_neg z]
theorem a0_le {g : GS} (ok : okG g) : a0 g ≤ 11 ∧ a0 g ≤ sL g := by
  obtain ⟨o1, pw, o2, o3, o4, o5⟩ := ok
  unfold a0
  split <;> omega
theorem actG_ok {g : GS} {A : LA} (ok : okG g) (hA : okA (sP g) A) : okG (actG g A) := by
  have ha := a0_le ok
  obtain ⟨o1, pw, o2, o3, o4, o5⟩ := ok
  refine ⟨o1, pw, Nat.le_refl _, ?_, fun i hi => ?_, o5⟩
  · show a0 g + 1 ≤ 12; omega
  · change i ≤ a0 g + 1 at hi
    show okA (sP g) (sbf (h0 g) (a0 g + 1) A i)
    by_cases z : i = a0 g + 1
    · rw [z, sbf_at]; exact hA
    · rw [sbf_ne z]
      unfold h0
      by_cases z2 : sA g = 12
      · rw [if_pos z2]; exact o4 _ (by unfold a0 at hi z; rw [if_pos z2] at hi z; omega)
      · rw [if_neg z2]; exact o4 _ (by unfold a0 at hi z; rw [if_neg z2] at hi z; omega)
theorem setA_ok {g : GS} {k : Nat} (ok : okG g) (h : k ≤ sL g) : okG (setA g k) := by
  obtain ⟨o1, pw, o2, o3, o4, o5⟩ := ok
  exact ⟨o1, pw, h, o3, o4, o5⟩
section RAC
variable {m m' : Mem} {g : GS}
theorem r_swapAll {k : Nat} (e : m 0 56 = nI k) (hk : k ≤ 12) : wp (gX12_swapAll m) (fun m' => (∀ o, o ≠ 1 → o ≠ 36 → m' o = m o) ∧ (∀ j, j < 9685 → m' 1 j = m 36 (9685 * k + j) ∧ m' 36 (9685 * k + j) = m 1 j) ∧ ∀ q, ¬ (9685 * k ≤ q ∧ q < 9685 * k + 9685) → m' 36 q = m 36 q) := by
  unfold gX12_swapAll
  rw [wp_bind]
  refine wp_for (κ := Mem) (fun i c => (nI i, c)) 9685 (fun i m' => (∀ o, o ≠ 1 → o ≠ 36 → m' o = m o) ∧ (∀ j, j < i → m' 1 j = m 36 (9685 * k + j) ∧ m' 36 (9685 * k + j) = m 1 j) ∧ (∀ j, i ≤ j → m' 1 j = m 1 j ∧ m' 36 (9685 * k + j) = m 36 (9685 * k + j)) ∧ ∀ q, ¬ (9685 * k ≤ q ∧ q < 9685 * k + 9685) → m' 36 q = m 36 q) (fun i c hi HH => ?_) (fun c HH => ?_) 0 m (Nat.zero_le _) ⟨fun _ _ _ => rfl, fun j hj => by omega, fun _ _ => ⟨rfl, rfl⟩, fun _ _ => rfl⟩ (by decide)
  · obtain ⟨H1, H2, H3, H4⟩ := HH
    have e' : c 0 56 = nI k := by rw [H1 0 (by decide) (by decide)]; exact e
    obtain ⟨g1, g2⟩ := H3 i (Nat.le_refl _)
    simp (disch := omega) only [gbX12_swapAll_2, L_9685, i_le, wp_f, wp_bind, e', i_mul, i_add, w_rd, g1, g2, w_wr, wp_some, lq_l, L_1]
    refine ⟨_, rfl, fun o h1 h2 => by rw [up_r h1, up_r h2]; exact H1 o h1 h2, fun j hj => ?_, fun j hj => ?_, fun q hq => ?_⟩
    · rw [up_a, up_r (by decide), up_r (by decide), up_a]
      by_cases z : j = i
      · rw [if_pos z, if_pos (by omega), z]; exact ⟨rfl, rfl⟩
      · rw [if_neg z, if_neg (by omega)]; exact H2 j (by omega)
    · rw [up_a, up_r (by decide), up_r (by decide), up_a, if_neg (by omega), if_neg (by omega)]; exact H3 j (by omega)
    · rw [up_r (by decide), up_a, if_neg (by omega)]; exact H4 q hq
  · simp (disch := omega) only [gbX12_swapAll_2, L_9685, i_le, wp_t, wp_some, lq_r]
    exact ⟨HH.1, HH.2.1, HH.2.2.2⟩
theorem r_undo (J : IR m g) (ok : okG g) : wp (gX12_undo m) (fun r => (sA g = 0 ∧ r.1 = 0 ∧ IR r.2 g) ∨ (0 < sA g ∧ r.1 = 1 ∧ IR r.2 (setA g (sA g - 1)))) := by
  have J' := J
  obtain ⟨⟨j1, j2⟩, ⟨j3, j4⟩, jp, ⟨j5, j6⟩, jl, jw, ju, jb, jx⟩ := J
  obtain ⟨o1, pw, o2, o3, o4, o5⟩ := ok
  unfold gX12_undo
  rw [j5]
  by_cases z : sA g = 0
  · rw [wp_t (by rw [z]; rfl), wp_some]
    exact Or.inl ⟨z, rfl, J'⟩
  · rw [wp_f (nI_ne0 (by omega) (by omega)), wp_bind, wp_some, wp_bind, wp_some, up_a, if_neg (by decide), j6, nI_1, L_1, i_sub (by omega), wp_bind]
    have e : up (up m 0 56 (nI (sA g - 1))) 0 57 (nI (sL g - sA g + 1)) 0 56 = nI (sA g - 1) := by rw [up_a, if_neg (by decide), up_at]
    refine wp_mono (r_swapAll e (by omega)) (fun m1 ⟨f1, s1, k1⟩ => ?_)
    rw [wp_some]
    refine Or.inr ⟨by omega, rfl, ?_⟩
    have u0 : ∀ o, o ≠ 0 → up (up m 0 56 (nI (sA g - 1))) 0 57 (nI (sL g - sA g + 1)) o = m o := fun o ho => by rw [up_r ho, up_r ho]
    rw [u0 36 (by decide), u0 1 (by decide)] at s1
    rw [u0 36 (by decide)] at k1
    have f0 : ∀ j, j ≠ 56 → j ≠ 57 → m1 0 j = m 0 j := fun j h1 h2 => by rw [f1 0 (by decide) (by decide), up_a, if_neg h2, up_a, if_neg h1]
    have fo : ∀ o, o ≠ 0 → o ≠ 1 → o ≠ 36 → m1 o = m o := fun o h0 h1 h2 => by rw [f1 o h1 h2, u0 o h0]
    show IR m1 (setA g (sA g - 1))
    refine ⟨⟨by rw [f0 11 (by decide) (by decide)]; exact j1, by rw [fo 10 (by decide) (by decide) (by decide)]; exact j2⟩, ⟨by rw [f0 19 (by decide) (by decide)]; exact j3, by rw [f0 20 (by decide) (by decide)]; exact j4⟩, jp.congr (f0 9 (by decide) (by decide)) (fo 2 (by decide) (by decide) (by decide)) (fo 3 (by decide) (by decide) (by decide)) (fo 4 (by decide) (by decide) (by decide)) (fo 5 (by decide) (by decide) (by decide)) (fo 6 (by decide) (by decide) (by decide)) (fo 7 (by decide) (by decide) (by decide)), ⟨?_, ?_⟩, ?_, fun i hi => ?_, fun i h1 h2 => ?_, ?_, ?_⟩
    · rw [f1 0 (by decide) (by decide)]; exact e
    · rw [f1 0 (by decide) (by decide), up_at]
      show nI (sL g - sA g + 1) = nI (sL g - (sA g - 1))
      rw [show sL g - sA g + 1 = sL g - (sA g - 1) by omega]
    · exact (jw (sA g - 1) (by omega)).congr (o4 _ (by omega)).1 (fun j hj => pV_lt pw hj) (fun j hj => (s1 j hj).1)
    · change i < sA g - 1 at hi
      exact (jw i (by omega)).congr (o4 _ (by omega)).1 (fun j hj => pV_lt pw hj) (fun j hj => k1 _ (by omega))
    · change sA g - 1 < i at h1
      by_cases zi : i = sA g
      · subst zi
        exact jl.congr (o4 _ (by omega)).1 (fun j hj => pV_lt pw hj) (fun j hj => (s1 j hj).2)
      · exact (ju i (by omega) h2).congr (o4 _ h2).1 (fun j hj => pV_lt pw hj) (fun j hj => k1 _ (by omega))
    · rw [fo 38 (by decide) (by decide) (by decide), fo 37 (by decide) (by decide) (by decide)]; exact jb
    · rw [fo 11 (by decide) (by decide) (by decide)]; exact jx
theorem r_redo (J : IR m g) (ok : okG g) : wp (gX12_redo m) (fun r => (sA g = sL g ∧ r.1 = 0 ∧ IR r.2 g) ∨ (sA g < sL g ∧ r.1 = 1 ∧ IR r.2 (setA g (sA g + 1)))) := by
  have J' := J
  obtain ⟨⟨j1, j2⟩, ⟨j3, j4⟩, jp, ⟨j5, j6⟩, jl, jw, ju, jb, jx⟩ := J
  obtain ⟨o1, pw, o2, o3, o4, o5⟩ := ok
  unfold gX12_redo
  rw [j6]
  by_cases z : sA g = sL g
  · rw [wp_t (by rw [z, Nat.sub_self]; rfl), wp_some]
    exact Or.inl ⟨z, rfl, J'⟩
  · rw [wp_f (nI_ne0 (by omega) (by omega)), wp_bind]
    refine wp_mono (r_swapAll j5 (by omega)) (fun m1 ⟨f1, s1, k1⟩ => ?_)
    rw [wp_bind, wp_some, wp_bind, wp_some, wp_some]
    refine Or.inr ⟨by omega, rfl, ?_⟩
    have e56 : m1 0 56 = nI (sA g) := by rw [f1 0 (by decide) (by decide)]; exact j5
    have e57 : m1 0 57 = nI (sL g - sA g) := by rw [f1 0 (by decide) (by decide)]; exact j6
    have g0 : ∀ o, o ≠ 0 → ∀ v w : Int32, up (up m1 0 56 v) 0 57 w o = m1 o := fun o ho v w => by rw [up_r ho, up_r ho]
    have f0 : ∀ j, j ≠ 56 → j ≠ 57 → ∀ v w : Int32, up (up m1 0 56 v) 0 57 w 0 j = m 0 j := fun j h1 h2 v w => by rw [up_a, if_neg h2, up_a, if_neg h1, f1 0 (by decide) (by decide)]
    have fo : ∀ o, o ≠ 0 → o ≠ 1 → o ≠ 36 → ∀ v w : Int32, up (up m1 0 56 v) 0 57 w o = m o := fun o h0 h1 h2 v w => by rw [g0 o h0, f1 o h1 h2]
    show IR (up (up m1 0 56 (m1 0 56 + 1)) 0 57 ((up m1 0 56 (m1 0 56 + 1)) 0 57 - 1)) (setA g (sA g + 1))
    refine ⟨⟨by rw [f0 11 (by decide) (by decide)]; exact j1, by rw [fo 10 (by decide) (by decide) (by decide)]; exact j2⟩, ⟨by rw [f0 19 (by decide) (by decide)]; exact j3, by rw [f0 20 (by decide) (by decide)]; exact j4⟩, jp.congr (f0 9 (by decide) (by decide) _ _) (fo 2 (by decide) (by decide) (by decide) _ _) (fo 3 (by decide) (by decide) (by decide) _ _) (fo 4 (by decide) (by decide) (by decide) _ _) (fo 5 (by decide) (by decide) (by decide) _ _) (fo 6 (by decide) (by decide) (by decide) _ _) (fo 7 (by decide) (by decide) (by decide) _ _), ⟨?_, ?_⟩, ?_, fun i hi => ?_, fun i h1 h2 => ?_, ?_, ?_⟩
    · rw [up_a, if_neg (by decide), up_at, e56, nI_1]; rfl
    · rw [up_at, up_a, if_neg (by decide), e57, L_1, i_sub (by omega)]
      show nI (sL g - sA g - 1) = nI (sL g - (sA g + 1))
      rw [show sL g - sA g - 1 = sL g - (sA g + 1) by omega]
    · rw [g0 1 (by decide)]
      have := (ju (sA g + 1) (by omega) (by omega))
      rw [Nat.add_sub_cancel] at this
      exact this.congr (o4 _ (by omega)).1 (fun j hj => pV_lt pw hj) (fun j hj => (s1 j hj).1)
    · change i < sA g + 1 at hi
      rw [g0 36 (by decide)]
      by_cases zi : i = sA g
      · subst zi
        exact jl.congr (o4 _ (by omega)).1 (fun j hj => pV_lt pw hj) (fun j hj => (s1 j hj).2)
      · exact (jw i (by omega)).congr (o4 _ (by omega)).1 (fun j hj => pV_lt pw hj) (fun j hj => k1 _ (by omega))
    · change sA g + 1 < i at h1
      rw [g0 36 (by decide)]
      exact (ju i (by omega) h2).congr (o4 _ h2).1 (fun j hj => pV_lt pw hj) (fun j hj => k1 _ (by omega))
    · rw [fo 38 (by decide) (by decide) (by decide), fo 37 (by decide) (by decide) (by decide)]; exact jb
    · rw [fo 11 (by decide) (by decide) (by decide)]; exact jx
/-- an act is kept -/
def KA (m m' : Mem) (g : GS) : Prop := (∀ o, o ≠ 0 → o ≠ 36 → m' o = m o) ∧ (∀ j, j ≠ 56 → j ≠ 57 → m' 0 j = m 0 j) ∧ m' 0 56 = nI (a0 g + 1) ∧ m' 0 57 = 0 ∧ ∀ i, i ≤ a0 g → ∀ j, j < 9685 → m' 36 (9685 * i + j) = if i = a0 g then m 1 j else m 36 (9685 * (if sA g = 12 then i + 1 else i) + j)
theorem r_keepAct (e : m 0 56 = nI (sA g)) (hk : sA g ≤ 12) : wp (gX12_keepAct m) (fun m' => KA m m' g) := by
  have j50 : ∀ (m1 : Mem) (k : Nat), k ≤ 11 → m1 0 56 = nI k → wp (gjX12_keepAct_50 m1) (fun m' => (∀ o, o ≠ 0 → o ≠ 36 → m' o = m1 o) ∧ (∀ j, j ≠ 56 → j ≠ 57 → m' 0 j = m1 0 j) ∧ m' 0 56 = nI (k + 1) ∧ m' 0 57 = 0 ∧ (∀ j, j < 9685 → m' 36 (9685 * k + j) = m1 1 j) ∧ ∀ q, q < 9685 * k → m' 36 q = m1 36 q) := by
    intro m1 k hk e1
    unfold gjX12_keepAct_50
    rw [wp_bind]
    refine wp_mono (Q := fun m' => (∀ o, o ≠ 36 → m' o = m1 o) ∧ (∀ j, j < 9685 → m' 36 (9685 * k + j) = m1 1 j) ∧ ∀ q, q < 9685 * k → m' 36 q = m1 36 q) ?_ ?_
    · refine wp_for (κ := Mem) (fun i c => (nI i, c)) 9685 (fun i m' => (∀ o, o ≠ 36 → m' o = m1 o) ∧ (∀ j, j < i → m' 36 (9685 * k + j) = m1 1 j) ∧ ∀ q, q < 9685 * k → m' 36 q = m1 36 q) (fun i c hi HH => ?_) (fun c HH => ?_) 0 m1 (Nat.zero_le _) ⟨fun _ _ => rfl, fun j hj => by omega, fun _ _ => rfl⟩ (by decide)
      · obtain ⟨H1, H2, H3⟩ := HH
        have e' : c 0 56 = nI k := by rw [H1 0 (by decide)]; exact e1
        simp (disch := omega) only [gbX12_keepAct_52, L_9685, i_le, wp_f, wp_bind, w_rd, e', i_mul, i_add, w_wr, wp_some, lq_l, L_1]
        refine ⟨_, rfl, fun o ho => by rw [up_r ho]; exact H1 o ho, fun j hj => ?_, fun q hq => ?_⟩
        · rw [up_a]
          by_cases z : j = i
          · rw [if_pos (by omega), z, H1 1 (by decide)]
          · rw [if_neg (by omega)]; exact H2 j (by omega)
        · rw [up_a, if_neg (by omega)]; exact H3 q hq
      · simp (disch := omega) only [gbX12_keepAct_52, L_9685, i_le, wp_t, wp_some, lq_r]
        exact HH
    · rintro m2 ⟨H1, H2, H3⟩
      rw [wp_bind, wp_some, wp_bind, wp_some, wp_some]
      refine ⟨fun o h0 h36 => by rw [up_r h0, up_r h0]; exact H1 o h36, fun j h1 h2 => by rw [up_a, if_neg h2, up_a, if_neg h1, H1 0 (by decide)], by rw [up_a, if_neg (by decide), up_at, H1 0 (by decide), e1, nI_1], up_at, fun j hj => by rw [up_r (by decide), up_r (by decide)]; exact H2 j hj, fun q hq => by rw [up_r (by decide), up_r (by decide)]; exact H3 q hq⟩
  unfold gX12_keepAct KA a0
  rw [e]
  by_cases z : sA g = 12
  · rw [wp_t (by rw [z]; rfl), wp_bind]
    simp only [if_pos z]
    refine wp_mono (Q := fun m' => (∀ o, o ≠ 36 → m' o = m o) ∧ ∀ q, q < 116220 → m' 36 q = m 36 (q + 9685)) ?_ ?_
    · refine wp_for (κ := Mem) (fun i c => (nI i, c)) 116220 (fun i m' => (∀ o, o ≠ 36 → m' o = m o) ∧ (∀ q, q < i → m' 36 q = m 36 (q + 9685)) ∧ ∀ q, i ≤ q → m' 36 q = m 36 q) (fun i c hi HH => ?_) (fun c HH => ?_) 0 m (Nat.zero_le _) ⟨fun _ _ => rfl, fun q hq => by omega, fun _ _ => rfl⟩ (by decide)
      · obtain ⟨H1, H2, H3⟩ := HH
        simp (disch := omega) only [gbX12_keepAct_11, L_116220, L_9685, i_le, wp_f, i_add, wp_bind, w_rd, w_wr, wp_some, lq_l, L_1]
        refine ⟨_, rfl, fun o ho => by rw [up_r ho]; exact H1 o ho, fun q hq => ?_, fun q hq => ?_⟩
        · rw [up_a]
          by_cases zz : q = i
          · rw [if_pos zz, zz, H3 _ (by omega)]
          · rw [if_neg zz]; exact H2 q (by omega)
        · rw [up_a, if_neg (by omega)]; exact H3 q (by omega)
      · simp (disch := omega) only [gbX12_keepAct_11, L_116220, i_le, wp_t, wp_some, lq_r]
        exact ⟨HH.1, HH.2.1⟩
    · rintro m1 ⟨H1, H2⟩
      rw [wp_bind, wp_some]
      refine wp_mono (j50 _ 11 (by decide) (by rw [up_at, H1 0 (by decide), e, z]; rfl)) (fun m2 ⟨q1, q2, q3, q4, q5, q6⟩ => ?_)
      refine ⟨fun o h0 h36 => by rw [q1 o h0 h36, up_r h0]; exact H1 o h36, fun j h1 h2 => by rw [q2 j h1 h2, up_a, if_neg h1, H1 0 (by decide)], q3, q4, fun i hi j hj => ?_⟩
      by_cases zi : i = 11
      · rw [if_pos zi, zi, q5 j hj, up_r (by decide), H1 1 (by decide)]
      · rw [if_neg zi, q6 _ (by omega), up_r (by decide), H2 _ (by omega), show 9685 * (i + 1) + j = 9685 * i + j + 9685 by omega]
  · rw [wp_f (by rw [L_12, i_eq (by omega) (by decide)]; exact z)]
    simp only [if_neg z]
    refine wp_mono (j50 m (sA g) (by omega) e) (fun m2 ⟨q1, q2, q3, q4, q5, q6⟩ => ⟨q1, q2, q3, q4, fun i hi j hj => ?_⟩)
    by_cases zi : i = sA g
    · rw [if_pos zi, zi, q5 j hj]
    · rw [if_neg zi, q6 _ (by omega)]
theorem IR.act {m1 : Mem} {A : LA} (J : IR m g) (ok : okG g) (K : KA m m1 g) (L : LF (pV (sP g)) (m' 1) A) (f : ∀ o, o ≠ 0 → o ≠ 1 → o ≠ 16 → o ≠ 17 → o ≠ 18 → o ≠ 19 → m' o = m1 o) (f0 : ∀ j, j ≠ 31 → m' 0 j = m1 0 j) : IR m' (actG g A) := by
  have ha := a0_le ok
  obtain ⟨K1, K2, K3, K4, K5⟩ := K
  obtain ⟨⟨j1, j2⟩, ⟨j3, j4⟩, jp, ⟨j5, j6⟩, jl, jw, ju, jb, jx⟩ := J
  obtain ⟨o1, pw, o2, o3, o4, o5⟩ := ok
  have fo : ∀ o, o ≠ 0 → o ≠ 1 → o ≠ 16 → o ≠ 17 → o ≠ 18 → o ≠ 19 → o ≠ 36 → m' o = m o := fun o h0 h1 h2 h3 h4 h5 h6 => by rw [f o h0 h1 h2 h3 h4 h5, K1 o h0 h6]
  have g0 : ∀ j, j ≠ 31 → j ≠ 56 → j ≠ 57 → m' 0 j = m 0 j := fun j h1 h2 h3 => by rw [f0 j h1, K2 j h2 h3]
  have e36 : m' 36 = m1 36 := f 36 (by decide) (by decide) (by decide) (by decide) (by decide) (by decide)
  refine ⟨⟨by rw [g0 11 (by decide) (by decide) (by decide)]; exact j1, by rw [fo 10 (by decide) (by decide) (by decide) (by decide) (by decide) (by decide) (by decide)]; exact j2⟩, ⟨by rw [g0 19 (by decide) (by decide) (by decide)]; exact j3, by rw [g0 20 (by decide) (by decide) (by decide)]; exact j4⟩, jp.congr (g0 9 (by decide) (by decide) (by decide)) (fo 2 (by decide) (by decide) (by decide) (by decide) (by decide) (by decide) (by decide)) (fo 3 (by decide) (by decide) (by decide) (by decide) (by decide) (by decide) (by decide)) (fo 4 (by decide) (by decide) (by decide) (by decide) (by decide) (by decide) (by decide)) (fo 5 (by decide) (by decide) (by decide) (by decide) (by decide) (by decide) (by decide)) (fo 6 (by decide) (by decide) (by decide) (by decide) (by decide) (by decide) (by decide)) (fo 7 (by decide) (by decide) (by decide) (by decide) (by decide) (by decide) (by decide)), ⟨?_, ?_⟩, ?_, fun i hi => ?_, fun i h1 h2 => ?_, ?_, ?_⟩
  · rw [f0 56 (by decide)]; exact K3
  · rw [f0 57 (by decide), K4]
    show 0 = nI (a0 g + 1 - (a0 g + 1))
    rw [Nat.sub_self]; rfl
  · show LF _ _ (sbf (h0 g) (a0 g + 1) A (a0 g + 1))
    rw [sbf_at]; exact L
  · change i < a0 g + 1 at hi
    show LF _ _ (sbf (h0 g) (a0 g + 1) A i)
    rw [sbf_ne (by omega), e36]
    have hK := K5 i (by omega)
    by_cases zi : i = a0 g
    · simp only [if_pos zi] at hK
      rw [zi, h0_a]
      rw [zi] at hK
      exact jl.congr (o4 _ o2).1 (fun j hj => pV_lt pw hj) hK
    · simp only [if_neg zi] at hK
      unfold h0
      unfold a0 at hi zi
      by_cases z : sA g = 12
      · simp only [if_pos z] at hK hi zi ⊢
        exact (jw (i + 1) (by omega)).congr (o4 _ (by omega)).1 (fun j hj => pV_lt pw hj) hK
      · simp only [if_neg z] at hK hi zi ⊢
        exact (jw i (by omega)).congr (o4 _ (by omega)).1 (fun j hj => pV_lt pw hj) hK
  · change a0 g + 1 < i at h1
    change i ≤ a0 g + 1 at h2
    omega
  · rw [fo 38 (by decide) (by decide) (by decide) (by decide) (by decide) (by decide) (by decide), fo 37 (by decide) (by decide) (by decide) (by decide) (by decide) (by decide) (by decide)]; exact jb
  · rw [fo 11 (by decide) (by decide) (by decide) (by decide) (by decide) (by decide) (by decide)]; exact jx
theorem r_clearAll {V : Nat → Prop} {A : LA} (L : LF V (m 1) A) (hV : ∀ j, V j → j < 72) : wp (gX12_clearAll m) (fun m' => (∀ o, o ≠ 1 → m' o = m o) ∧ LF V (m' 1) (noA (aS A))) := by
  unfold gX12_clearAll
  rw [wp_bind]
  refine wp_mono (Q := fun m' => (∀ o, o ≠ 1 → m' o = m o) ∧ (∀ j, j < 1541 → m' 1 j = 0) ∧ ∀ j, 1541 ≤ j → m' 1 j = m 1 j) ?_ ?_
  · refine wp_for (κ := Mem) (fun i c => (nI i, c)) 1541 (fun i m' => (∀ o, o ≠ 1 → m' o = m o) ∧ (∀ j, j < i → m' 1 j = 0) ∧ ∀ j, 1541 ≤ j → m' 1 j = m 1 j) (fun i c hi HH => ?_) (fun c HH => ?_) 0 m (Nat.zero_le _) ⟨fun _ _ => rfl, fun j hj => by omega, fun _ _ => rfl⟩ (by decide)
    · obtain ⟨H1, H2, H3⟩ := HH
      simp (disch := omega) only [gbX12_clearAll_2, L_1541, i_le, wp_f, wp_bind, w_wr, wp_some, lq_l, L_1, i_add]
      refine ⟨_, rfl, fun o ho => by rw [up_r ho]; exact H1 o ho, fun j hj => ?_, fun j hj => by rw [up_a, if_neg (by omega)]; exact H3 j hj⟩
      rw [up_a]
      by_cases z : j = i
      · rw [if_pos z]
      · rw [if_neg z]; exact H2 j (by omega)
    · simp (disch := omega) only [gbX12_clearAll_2, L_1541, i_le, wp_t, wp_some, lq_r]
      exact HH
  · rintro m1 ⟨H1, H2, H3⟩
    rw [wp_some]
    refine ⟨H1, ⟨H2 272 (by decide), fun r hr => absurd hr (Nat.not_lt_zero _)⟩, fun x y hx hy => H2 _ (by omega), fun x hx => H2 _ (by omega), fun q hq => H2 _ (by omega), ⟨H2 _ (by decide), H2 _ (by decide), fun i hi => absurd hi (Nat.not_lt_zero _)⟩, fun j hj => ?_⟩
    have := hV j hj
    rw [H3 _ (by omega), H3 _ (by omega)]
    exact L.2.2.2.2.2 j hj
end RAC

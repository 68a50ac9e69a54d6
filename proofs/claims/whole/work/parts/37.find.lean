/-! the class's shortest way: Ways.find -/
def nE (r : Nat → Int32) (a b : Nat) : Prop := bt (r a) b = true
section FI
variable {h : Hp} {m : Mem} {w g N : Nat}
theorem c_leadingTo {lv : Int32} (hg : g < hN h) (hs : hS h g = .inr (.int, N)) (hn : N ≤ 16) : wp (fX10_leadingTo (wI h m) g lv) (fun b => ∀ j, j < 32 → (bt b j = true ↔ j < N ∧ ¬ (m g j &&& lv = 0))) := by
  unfold fX10_leadingTo
  rw [wp_bind]
  refine wp_for (κ := Int32) (fun i c => (c, nI i)) N (fun i c => ∀ j, j < 32 → (bt c j = true ↔ j < i ∧ ¬ (m g j &&& lv = 0))) (fun i c hi hI => ?_) (fun c hI => ?_) 0 0 (Nat.zero_le _) (fun j hj => ?_) (by omega)
  · by_cases hc : m g i &&& lv = 0
    · simp (disch := omega) only [bX10_leadingTo_4, jX10_leadingTo_24, wp_bind, wp_some, x_aL hg hs, x_lI hg hs, i_le, wp_f, wp_t hc, lq_l, L_1, i_add]
      refine ⟨c, rfl, fun j hj => ?_⟩
      rw [hI j hj]
      refine ⟨fun z => ⟨by omega, z.2⟩, fun z => ⟨?_, z.2⟩⟩
      rcases Nat.lt_or_ge j i with q | q
      · exact q
      · exact absurd hc (by rw [← show j = i by omega]; exact z.2)
    · simp (disch := omega) only [bX10_leadingTo_4, jX10_leadingTo_24, wp_bind, wp_some, x_aL hg hs, x_lI hg hs, i_le, wp_f, lq_l]
      refine ⟨_, by rw [nI_1], fun j hj => ?_⟩
      rw [b_or, Bool.or_eq_true, hI j hj, b_shl1 (by omega) hj, decide_eq_true_iff]
      constructor
      · rintro (z | z)
        · exact ⟨by omega, z.2⟩
        · subst z; exact ⟨by omega, hc⟩
      · rintro ⟨z1, z2⟩
        rcases Nat.lt_or_ge j i with q | q
        · exact Or.inl ⟨q, z2⟩
        · exact Or.inr (by omega)
  · simp (disch := omega) only [bX10_leadingTo_4, wp_bind, wp_some, x_aL hg hs, i_le, wp_t, lq_r]
    exact hI
  · rw [b_0]; simp
end FI

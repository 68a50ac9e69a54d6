/-! the reference compares two moments -/
section RLK
variable {m : Mem} {K K' : Nat → Nat} {i j : Nat}
theorem r_isLike (hi : i ≤ 4000) (hj : j ≤ 4000) : wp (gX12_isLike m (nI i) (nI j)) (fun y => (y = 1 ∧ ∀ e, e < 5 → m 27 (5 * i + e) = m 27 (5 * j + e)) ∨ (y = 0 ∧ ¬ ∀ e, e < 5 → m 27 (5 * i + e) = m 27 (5 * j + e))) := by
  unfold gX12_isLike
  rw [wp_bind]
  refine wp_mono (Q := fun r => (r = .inl () ∧ ∀ e, e < 5 → m 27 (5 * i + e) = m 27 (5 * j + e)) ∨ (r = .inr () ∧ ¬ ∀ e, e < 5 → m 27 (5 * i + e) = m 27 (5 * j + e))) ?_ ?_
  · refine wp_for (κ := Unit) (fun e _ => nI e) 5 (fun e _ => ∀ e', e' < e → m 27 (5 * i + e') = m 27 (5 * j + e')) (fun e _ he hI => ?_) (fun _ hI => ?_) 0 () (Nat.zero_le _) (fun e' h => absurd h (Nat.not_lt_zero _)) (by decide)
    · simp only [gbX12_isLike_2]
      rw [L_5, wp_f (by rw [i_le (by decide) (by omega)]; omega), wp_bind, i_mul, i_add, w_rd (by omega) (by decide), wp_bind, i_mul, i_add, w_rd (by omega) (by decide)]
      by_cases z : m 27 (5 * i + e) = m 27 (5 * j + e)
      · rw [wp_t z, wp_bind, wp_some, wp_some, lq_l, L_1, i_add]
        refine ⟨(), rfl, fun e' h' => ?_⟩
        by_cases y : e' = e
        · rw [y]; exact z
        · exact hI e' (by omega)
      · rw [wp_f z, wp_some, lq_r]
        exact Or.inr ⟨rfl, fun c => z (c e he)⟩
    · simp only [gbX12_isLike_2]
      rw [L_5, wp_t (by rw [i_le (by decide) (by decide)]; omega), wp_some, lq_r]
      exact Or.inl ⟨rfl, hI⟩
  · rintro r (⟨rfl, h⟩ | ⟨rfl, h⟩)
    · show wp ((bz (1 : Int32)).bind fun x => some x) _
      rw [wp_bind, wp_eq bz_1, wp_some]; exact Or.inl ⟨rfl, h⟩
    · show wp ((bz (0 : Int32)).bind fun x => some x) _
      rw [wp_bind, wp_eq bz_0, wp_some]; exact Or.inr ⟨rfl, h⟩
end RLK

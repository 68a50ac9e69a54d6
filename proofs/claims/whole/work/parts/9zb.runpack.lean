/-! the reference unpacks a moment -/
section RUP
variable {m : Mem} {Pl : PD} {X : Nat} {M : MO} {K : Nat → Nat} {j : Nat}
theorem sh_fd {n k w : Nat} (hn : n < 2 ^ 31) (hk : k < 32) : (nI n >>> (nI k &&& 31)) &&& nI (2 ^ w - 1) = nI (fd k w n) := by
  rw [pk_shrN hn (nI k &&& 31) k (s_l k hk), nx_andn, Nat.and_two_pow_sub_one_eq_mod]; rfl
theorem q5 : ∀ l, l < 10 → (nI l - nI l / (5 : Int32) * (5 : Int32)) = nI (l % 5) := by decide +kernel
theorem r_unpack (hj : j ≤ 4000) (hK : ∀ e, e < 5 → m 27 (5 * j + e) = nI (K e)) (pk : PK Pl X K M) : wp (gX12_unpack m (nI j)) (fun m' => (∀ o, o ≠ 23 → o ≠ 24 → o ≠ 25 → o ≠ 26 → m' o = m o) ∧ RMo Pl X m' M) := by
  obtain ⟨b0, b1, b2, b3, b4, p1, p2⟩ := pk
  unfold gX12_unpack
  rw [wp_bind, wp_some, L_5, i_mul, wp_bind]
  refine wp_mono (Q := fun k => (∀ o, o ≠ 23 → o ≠ 24 → k o = m o) ∧ ∀ p, p < 6 → k 23 p = nI (rdn Pl X M p) - 1 ∧ k 24 p = nI (rwh Pl X M p) - 1) ?_ ?_
  · refine wp_for (κ := Mem) (fun i k => (nI i, k)) 6 (fun i k => (∀ o, o ≠ 23 → o ≠ 24 → k o = m o) ∧ ∀ p, p < i → k 23 p = nI (rdn Pl X M p) - 1 ∧ k 24 p = nI (rwh Pl X M p) - 1) (fun i k hi hI => ?_) (fun k hI => ?_) 0 m (Nat.zero_le _) ⟨fun _ _ _ => rfl, fun p hp => absurd hp (Nat.not_lt_zero _)⟩ (by decide)
    · obtain ⟨k1, k2⟩ := hI
      have e0 := hK 0 (by decide)
      have e1 := hK 1 (by decide)
      rw [Nat.add_zero] at e0
      simp only [gbX12_unpack_6]
      rw [L_6, wp_f (by rw [i_le (by decide) (by omega)]; omega), wp_bind, w_rd (by omega) (by decide), k1 27 (by decide) (by decide), e0, L_4, i_mul, L_15, show nI 15 = nI (2 ^ 4 - 1) from rfl, sh_fd (by omega) (by omega), (p1 i hi).1, wp_bind, w_wr hi (by decide), wp_bind, L_1, i_add, w_rd (by omega) (by decide), up_r (by decide), k1 27 (by decide) (by decide), e1, L_3, i_mul, L_7, show nI 7 = nI (2 ^ 3 - 1) from rfl, sh_fd (by omega) (by omega), (p1 i hi).2, wp_bind, w_wr hi (by decide), wp_bind, wp_some, wp_some, lq_l, i_add]
      refine ⟨_, rfl, fun o h1 h2 => by rw [up_r h2, up_r h1]; exact k1 o h1 h2, fun p hp => ?_⟩
      rw [up_r (show (23 : Nat) ≠ 24 by decide), up_a, up_a, up_r (show (24 : Nat) ≠ 23 by decide)]
      by_cases z : p = i
      · rw [if_pos z, if_pos z, z]; exact ⟨rfl, rfl⟩
      · rw [if_neg z, if_neg z]; exact k2 p (by omega)
    · simp only [gbX12_unpack_6]
      rw [L_6, wp_t (by rw [i_le (by decide) (by decide)]; omega), wp_some, lq_r]
      exact hI
  · rintro k0 ⟨k1, k2⟩
    rw [wp_bind]
    refine wp_mono (Q := fun m' => (∀ o, o ≠ 23 → o ≠ 24 → o ≠ 25 → o ≠ 26 → m' o = m o) ∧ RMo Pl X m' M) ?_ (fun r hr => by rw [wp_some]; exact hr)
    refine wp_for (κ := Mem) (fun i k => (nI i, k)) 10 (fun i k => (∀ o, o ≠ 25 → o ≠ 26 → k o = k0 o) ∧ ∀ l, l < i → k 25 l = nI (rho M l) - 1 ∧ k 26 l = nI (rsr M l)) (fun i k hi hI => ?_) (fun k hI => ?_) 0 k0 (Nat.zero_le _) ⟨fun _ _ _ => rfl, fun p hp => absurd hp (Nat.not_lt_zero _)⟩ (by decide)
    · obtain ⟨n1, n2⟩ := hI
      have k27 : k 27 = m 27 := by rw [n1 27 (by decide) (by decide), k1 27 (by decide) (by decide)]
      have e2 := hK 2 (by decide)
      have tail : ∀ e, e = 3 + i / 5 → wp (gjX12_unpack_113 (nI (5 * j)) (nI i) (nI e) (nI (5 * j)) (nI i) (up k 25 i (nI (rho M i) - 1))) (lq (fun s' => ∃ c', s' = (nI (i + 1), c') ∧ (∀ o, o ≠ 25 → o ≠ 26 → c' o = k0 o) ∧ ∀ l, l < i + 1 → c' 25 l = nI (rho M l) - 1 ∧ c' 26 l = nI (rsr M l)) (fun m' => (∀ o, o ≠ 23 → o ≠ 24 → o ≠ 25 → o ≠ 26 → m' o = m o) ∧ RMo Pl X m' M)) := by
        intro e he
        have ee := hK e (by omega)
        have bK : K e < 2 ^ 30 := by rcases (by omega : e = 3 ∨ e = 4) with y | y <;> rw [y] <;> assumption
        have pe := (p2 i hi).2
        rw [← he] at pe
        unfold gjX12_unpack_113
        rw [wp_bind, i_add, w_rd (by omega) (by decide), up_r (by decide), k27, ee, L_5, ← L_5, q5 i hi, L_6, i_mul, L_63, show nI 63 = nI (2 ^ 6 - 1) from rfl, sh_fd (by omega) (by omega), pe, wp_bind, w_wr hi (by decide), wp_bind, wp_some, wp_some, lq_l, L_1, i_add, ← L_1]
        refine ⟨_, rfl, fun o h1 h2 => by rw [up_r h2, up_r h1]; exact n1 o h1 h2, fun l hl => ?_⟩
        rw [up_r (show (25 : Nat) ≠ 26 by decide), up_a, up_a, up_r (show (26 : Nat) ≠ 25 by decide)]
        by_cases z : l = i
        · rw [if_pos z, if_pos z, z]; exact ⟨rfl, rfl⟩
        · rw [if_neg z, if_neg z]; exact n2 l (by omega)
      simp only [gbX12_unpack_64]
      rw [L_10, wp_f (by rw [i_le (by decide) (by omega)]; omega), wp_bind, L_2, i_add, w_rd (by omega) (by decide), k27, e2, L_3, i_mul, L_7, show nI 7 = nI (2 ^ 3 - 1) from rfl, sh_fd (by omega) (by omega), (p2 i hi).1, wp_bind, w_wr hi (by decide)]
      by_cases z : 5 ≤ i
      · rw [wp_t (by rw [L_5, i_le (by decide) (by omega)]; exact z)]
        exact tail 4 (by omega)
      · rw [wp_f (by rw [L_5, i_le (by decide) (by omega)]; exact z)]
        exact tail 3 (by omega)
    · obtain ⟨n1, n2⟩ := hI
      simp only [gbX12_unpack_64]
      rw [L_10, wp_t (by rw [i_le (by decide) (by decide)]; omega), wp_some, lq_r]
      refine ⟨fun o h1 h2 h3 h4 => by rw [n1 o h3 h4, k1 o h1 h2], fun p hp => ?_, n2⟩
      rw [n1 23 (by decide) (by decide), n1 24 (by decide) (by decide)]
      exact k2 p hp
end RUP

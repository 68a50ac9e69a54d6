/-! the reference packs a moment: a field more -/
section RPK
variable {n k w v : Nat}
theorem pk_or (hn : n < 2 ^ k) (hv : v < 2 ^ w) (hk : k + w < 32) : nI n ||| (nI v <<< (nI k &&& 31)) = nI (n ||| v * 2 ^ k) := by
  have h1 : v * 2 ^ k < 2 ^ 32 := by
    have : v * 2 ^ k < 2 ^ w * 2 ^ k := Nat.mul_lt_mul_of_pos_right hv (Nat.two_pow_pos _)
    rw [← Nat.pow_add] at this
    exact Nat.lt_trans this (Nat.pow_lt_pow_right (by decide) (by omega))
  rw [pk_shlN (nI k &&& 31) k (s_l k (by omega)) h1, nx_or]
theorem pk_ol (hn : n < 2 ^ k) (hv : v < 2 ^ w) : (n ||| v * 2 ^ k) < 2 ^ (k + w) := by
  have : v * 2 ^ k < 2 ^ w * 2 ^ k := Nat.mul_lt_mul_of_pos_right hv (Nat.two_pow_pos _)
  rw [← Nat.pow_add, Nat.add_comm w k] at this
  exact Nat.or_lt_two_pow (Nat.lt_of_lt_of_le hn (Nat.pow_le_pow_right (by decide) (by omega))) this
theorem fd_small (hn : n < 2 ^ k) : fd k w n = 0 := by
  unfold fd
  rw [Nat.div_eq_of_lt hn, Nat.zero_mod]
/-- a field more: the others stay -/
theorem pk_fd (hn : n < 2 ^ k) (hv : v < 2 ^ w) : fd k w (n ||| v * 2 ^ k) = v ∧ ∀ k' w', (k' + w' ≤ k ∨ k + w ≤ k') → fd k' w' (n ||| v * 2 ^ k) = fd k' w' n := or_fd hv (fd_small hn)
end RPK

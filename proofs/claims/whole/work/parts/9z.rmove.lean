/-! the reference does a step -/
section RMV
variable {m m' : Mem} {Pl : PD} {S : Nat → Nat} {X : Nat} {M M' : MO} {q l : Nat}
theorem clr_x {w : Nat} (h : w.testBit q = true) : clr w q = w ^^^ 2 ^ q := by
  apply Nat.eq_of_testBit_eq
  intro i
  rw [clr_tb, Nat.testBit_xor, Nat.testBit_two_pow]
  by_cases z : q = i
  · subst z; simp [h]
  · simp [z]
theorem clr_n {w : Nat} (h : w.testBit q = false) : clr w q = w := by
  apply Nat.eq_of_testBit_eq
  intro i
  rw [clr_tb]
  by_cases z : q = i
  · subst z; simp [h]
  · simp [z]
theorem nI_clr {w : Nat} (hq : q < 32) : nI w &&& (((1 : Int32) <<< (nI q &&& 31)) ^^^ (-1 : Int32)) = nI (clr w q) := b_ext fun i hi => by
  rw [b_andn _ _ hi, bt_nI hi, bt_nI hi, b_shl1 hq hi, clr_tb]
  by_cases z : i = q
  · subst z; simp
  · simp [z, Ne.symm z]
theorem nI_set {w : Nat} (hq : q < 6) : nI w ||| ((1 : Int32) <<< (nI q &&& 31)) = nI (w ||| 2 ^ q) := b_ext fun i hi => by
  rw [b_or, bt_nI hi, bt_nI hi, b_shl1 (by omega) hi, Nat.testBit_or, Nat.testBit_two_pow]
  by_cases z : i = q
  · subst z; simp
  · simp [z, Ne.symm z]
theorem rmo_new (r : RMo Pl X m M) (hD : moD M' = sbf (moD M) q (moD M q + 1)) (hC : moC M' = moC M) (hA : ∀ l', l' ≠ l → moA M' l' = moA M l' ∧ moW M' l' = moW M l') (hh : tk Pl X q ∨ moC M q ≠ 0) (e23 : ∀ p, p < 6 → m' 23 p = if p = q then nI (moD M q + 1) else m 23 p) (e24 : m' 24 = m 24) (e25 : ∀ l', l' ≠ l → m' 25 l' = m 25 l' ∧ m' 26 l' = m 26 l') (el : m' 25 l = nI (rho M' l) - 1 ∧ m' 26 l = nI (rsr M' l)) : RMo Pl X m' M' := by
  refine ⟨fun p hp => ?_, fun l' hl' => ?_⟩
  · rw [e23 p hp, e24]
    unfold rdn rwh
    rw [hD, hC]
    refine ⟨?_, (r.1 p hp).2⟩
    by_cases z : p = q
    · rw [if_pos z, z, ci_t hh, sbf_at]
      exact (i_sub (a := moD M q + 1 + 1) (b := 1) (by omega)).symm
    · rw [if_neg z, sbf_ne z]; exact (r.1 p hp).1
  · by_cases z : l' = l
    · rw [z]; exact el
    · obtain ⟨a1, a2⟩ := hA l' z
      rw [(e25 l' z).1, (e25 l' z).2]
      unfold rho rsr
      rw [a1, a2]
      exact r.2 l' hl'
end RMV

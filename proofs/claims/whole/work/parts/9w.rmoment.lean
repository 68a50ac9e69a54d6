/-! a moment as the reference has it -/
section RMD
variable (Pl : PD) (X : Nat)
/-- 1 more than the steps done, 0: not come -/
noncomputable def rdn (M : MO) (p : Nat) : Nat := ci (tk Pl X p ∨ moC M p ≠ 0) (moD M p + 1) 0
/-- 1 more than the processor, 0: not come -/
noncomputable def rwh (M : MO) (p : Nat) : Nat := ci (tk Pl X p) (p + 1) (moC M p)
/-- 1 more than who has it alone, 0: none -/
def rho (M : MO) (l : Nat) : Nat := if moA M l = 0 then 0 else Nat.log2 (moW M l) + 1
def rsr (M : MO) (l : Nat) : Nat := if moA M l = 0 then moW M l else 0
/-- the reference's rows hold the moment -/
def RMo (m : Mem) (M : MO) : Prop := (∀ p, p < 6 → m 23 p = nI (rdn Pl X M p) - 1 ∧ m 24 p = nI (rwh Pl X M p) - 1) ∧ ∀ l, l < 10 → m 25 l = nI (rho M l) - 1 ∧ m 26 l = nI (rsr M l)
/-- five ints that hold the moment -/
def PK (K : Nat → Nat) (M : MO) : Prop := K 0 < 2 ^ 24 ∧ K 1 < 2 ^ 18 ∧ K 2 < 2 ^ 30 ∧ K 3 < 2 ^ 30 ∧ K 4 < 2 ^ 30 ∧ (∀ p, p < 6 → fd (4 * p) 4 (K 0) = rdn Pl X M p ∧ fd (3 * p) 3 (K 1) = rwh Pl X M p) ∧ ∀ l, l < 10 → fd (3 * l) 3 (K 2) = rho M l ∧ fd (6 * (l % 5)) 6 (K (3 + l / 5)) = rsr M l
end RMD
section RM2
variable {Pl : PD} {X : Nat} {M M' : MO}
theorem rho_1 {l q : Nat} (hA : moA M l = 1) (hW : moW M l = 2 ^ q) : rho M l = q + 1 := by
  unfold rho
  rw [if_neg (by omega), hW, Nat.log2_two_pow]
theorem tk_c0 {p : Nat} (I : MOK Pl X M) (ht : tk Pl X p) : moC M p = 0 := Classical.byContradiction fun c => tk_cr ht (I.2.1 p c).1
theorem key_eq (I : MOK Pl X M) (I' : MOK Pl X M') : ((∀ p, p < 6 → rdn Pl X M p = rdn Pl X M' p ∧ rwh Pl X M p = rwh Pl X M' p) ∧ ∀ l, l < 10 → rho M l = rho M' l ∧ rsr M l = rsr M' l) ↔ mEq M M' := by
  constructor
  · rintro ⟨h1, h2⟩
    refine ⟨fun p hp => ?_, fun l hl => ?_⟩
    · obtain ⟨a1, a2⟩ := h1 p hp
      by_cases ht : tk Pl X p
      · unfold rdn at a1
        rw [ci_t (Or.inl ht), ci_t (Or.inl ht)] at a1
        exact ⟨by omega, by rw [tk_c0 I ht, tk_c0 I' ht]⟩
      · unfold rwh at a2
        rw [ci_f ht, ci_f ht] at a2
        refine ⟨?_, a2⟩
        by_cases c0 : moC M p = 0
        · rw [I.2.2.1 p ht c0, I'.2.2.1 p ht (by rw [← a2]; exact c0)]
        · unfold rdn at a1
          rw [ci_t (Or.inr c0), ci_t (Or.inr (by rw [← a2]; exact c0))] at a1
          omega
    · obtain ⟨a1, a2⟩ := h2 l hl
      obtain ⟨b1, b2, b3⟩ := I.2.2.2.1 l
      obtain ⟨b1', b2', b3'⟩ := I'.2.2.2.1 l
      by_cases z : moA M l = 0
      · have z' : moA M' l = 0 := Classical.byContradiction fun c => by
          unfold rho at a1
          rw [if_pos z, if_neg c] at a1
          omega
        unfold rsr at a2
        rw [if_pos z, if_pos z'] at a2
        exact ⟨by rw [z, z'], a2⟩
      · have z' : moA M' l ≠ 0 := fun c => by
          unfold rho at a1
          rw [if_neg z, if_pos c] at a1
          omega
        obtain ⟨q, _, e⟩ := b3 (by omega)
        obtain ⟨q', _, e'⟩ := b3' (by omega)
        rw [rho_1 (by omega) e, rho_1 (by omega) e'] at a1
        have : q = q' := by omega
        exact ⟨by omega, by rw [e, e', this]⟩
  · rintro ⟨h1, h2⟩
    refine ⟨fun p hp => ?_, fun l hl => ?_⟩
    · obtain ⟨a1, a2⟩ := h1 p hp
      unfold rdn rwh
      rw [a1, a2]
      exact ⟨rfl, rfl⟩
    · obtain ⟨a1, a2⟩ := h2 l hl
      unfold rho rsr
      rw [a1, a2]
      exact ⟨rfl, rfl⟩
end RM2

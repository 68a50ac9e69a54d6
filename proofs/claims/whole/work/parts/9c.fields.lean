/-! fields of a number: w bits from bit k on -/
def fd (k w n : Nat) : Nat := n / 2 ^ k % 2 ^ w
section FDS
variable {k w n i j k' w' x y : Nat}
theorem fd_tb : (fd k w n).testBit i = (decide (i < w) && n.testBit (i + k)) := by
  unfold fd; rw [Nat.testBit_mod_two_pow, Nat.testBit_div_two_pow]
theorem fd_lt : fd k w n < 2 ^ w := Nat.mod_lt _ (Nat.two_pow_pos _)
theorem fd_ext (h : ∀ i, i < w → x.testBit (i + k) = y.testBit (i + k)) : fd k w x = fd k w y := by
  apply Nat.eq_of_testBit_eq
  intro i
  rw [fd_tb, fd_tb]
  by_cases z : i < w
  · rw [h i z]
  · simp [z]
theorem fd_0 : fd k w 0 = 0 := by unfold fd; rw [Nat.zero_div, Nat.zero_mod]
/-- one bit more -/
theorem fd_or_ne (h : j < k ∨ k + w ≤ j) : fd k w (n ||| 2 ^ j) = fd k w n := fd_ext fun i hi => by
  rw [Nat.testBit_or, Nat.testBit_two_pow]
  simp [show ¬ j = i + k by omega]
theorem fd_or_at (h : j < w) : fd k w (n ||| 2 ^ (k + j)) = fd k w n ||| 2 ^ j := by
  apply Nat.eq_of_testBit_eq
  intro i
  rw [fd_tb, Nat.testBit_or, Nat.testBit_or, fd_tb, Nat.testBit_two_pow, Nat.testBit_two_pow]
  by_cases z : j = i
  · subst z; simp [h, Nat.add_comm]
  · simp [z, show ¬ k + j = i + k by omega]
/-- one bit less -/
def clr (n j : Nat) : Nat := n ^^^ (n &&& 2 ^ j)
theorem clr_tb : (clr n j).testBit i = (n.testBit i && !decide (j = i)) := by
  unfold clr
  rw [Nat.testBit_xor, Nat.testBit_and, Nat.testBit_two_pow]
  cases n.testBit i <;> cases decide (j = i) <;> rfl
theorem clr_lt {e : Nat} (h : n < 2 ^ e) : clr n j < 2 ^ e := Nat.xor_lt_two_pow h (Nat.lt_of_le_of_lt Nat.and_le_left h)
theorem fd_clr_ne (h : j < k ∨ k + w ≤ j) : fd k w (clr n j) = fd k w n := fd_ext fun i hi => by
  rw [clr_tb]
  simp [show ¬ j = i + k by omega]
theorem fd_clr_at (h : j < w) (hb : (fd k w n).testBit j = true) : fd k w (clr n (k + j)) = fd k w n ^^^ 2 ^ j := by
  apply Nat.eq_of_testBit_eq
  intro i
  rw [fd_tb] at hb
  rw [fd_tb, clr_tb, Nat.testBit_xor, fd_tb, Nat.testBit_two_pow]
  by_cases z : j = i
  · subst z
    simp [h] at hb
    have hb' : n.testBit (k + j) = true := by rw [Nat.add_comm]; exact hb
    simp [h, hb, hb']
    omega
  · simp [z, show ¬ k + j = i + k by omega]
theorem fd_clr1 : fd k 1 (clr n k) = 0 := by
  apply Nat.eq_of_testBit_eq
  intro i
  rw [fd_tb, clr_tb, Nat.zero_testBit]
  by_cases z : i < 1
  · have : i = 0 := by omega
    subst this
    simp
  · simp [z]
/-- what is far from a change -/
theorem fd_far (h1 : x % 2 ^ k = y % 2 ^ k) (h2 : x / 2 ^ (k + w) = y / 2 ^ (k + w)) (h : k' + w' ≤ k ∨ k + w ≤ k') : fd k' w' x = fd k' w' y := fd_ext fun i hi => by
  rcases h with h | h
  · have a1 := Nat.testBit_mod_two_pow x k (i + k')
    have a2 := Nat.testBit_mod_two_pow y k (i + k')
    rw [h1] at a1
    rw [a1] at a2
    simpa [show i + k' < k by omega] using a2
  · have a1 := Nat.testBit_div_two_pow (n := k + w) x (i + k' - (k + w))
    have a2 := Nat.testBit_div_two_pow (n := k + w) y (i + k' - (k + w))
    rw [h2] at a1
    rw [a1] at a2
    rwa [show i + k' - (k + w) + (k + w) = i + k' by omega] at a2
theorem fd_add (h : fd k w n + 1 < 2 ^ w) : fd k w (n + 2 ^ k) = fd k w n + 1 ∧ (n + 2 ^ k) % 2 ^ k = n % 2 ^ k ∧ (n + 2 ^ k) / 2 ^ (k + w) = n / 2 ^ (k + w) := by
  have e1 : (n + 2 ^ k) / 2 ^ k = n / 2 ^ k + 1 := Nat.add_div_right n (Nat.two_pow_pos k)
  unfold fd at *
  have hp := Nat.two_pow_pos w
  have e3 : (n / 2 ^ k + 1) / 2 ^ w = n / 2 ^ k / 2 ^ w ∧ (n / 2 ^ k + 1) % 2 ^ w = n / 2 ^ k % 2 ^ w + 1 := by
    have d := Nat.div_add_mod (n / 2 ^ k) (2 ^ w)
    generalize n / 2 ^ k = a at *
    generalize 2 ^ w = b at *
    have e : a + 1 = a % b + 1 + b * (a / b) := by omega
    constructor
    · rw [e, Nat.add_mul_div_left _ _ hp, Nat.div_eq_of_lt h, Nat.zero_add]
    · rw [e, Nat.add_mul_mod_self_left, Nat.mod_eq_of_lt h]
  refine ⟨?_, Nat.add_mod_right _ _, ?_⟩
  · rw [e1, e3.2]
  · rw [Nat.pow_add, ← Nat.div_div_eq_div_mul, ← Nat.div_div_eq_div_mul, e1, e3.1]
theorem fd_add_lt {e : Nat} (h : fd k w n + 1 < 2 ^ w) (he : k + w ≤ e) (hn : n < 2 ^ e) : n + 2 ^ k < 2 ^ e := by
  have h3 := (fd_add h).2.2
  have e4 : 2 ^ e = 2 ^ (k + w) * 2 ^ (e - (k + w)) := by rw [← Nat.pow_add]; congr 1; omega
  rw [e4] at hn ⊢
  have := Nat.div_lt_of_lt_mul hn
  rw [← h3] at this
  exact (Nat.div_lt_iff_lt_mul (Nat.two_pow_pos _)).mp this |> fun q => by rwa [Nat.mul_comm] at q
/-- a field that was 0 -/
theorem or_fd {v : Nat} (hv : v < 2 ^ w) (h0 : fd k w n = 0) : fd k w (n ||| v * 2 ^ k) = v ∧ ∀ k' w', (k' + w' ≤ k ∨ k + w ≤ k') → fd k' w' (n ||| v * 2 ^ k) = fd k' w' n := by
  have tb : ∀ i, (v * 2 ^ k).testBit i = (decide (k ≤ i) && v.testBit (i - k)) := fun i => by
    rw [Nat.testBit_mul_two_pow]
  constructor
  · apply Nat.eq_of_testBit_eq
    intro i
    have := congrArg (fun z => z.testBit i) h0
    simp only [fd_tb, Nat.zero_testBit] at this
    rw [fd_tb, Nat.testBit_or, tb]
    by_cases z : i < w
    · simp [z] at this
      simp [z, this]
    · rw [Nat.testBit_lt_two_pow (Nat.lt_of_lt_of_le hv (Nat.pow_le_pow_right (by decide) (by omega) : 2 ^ w ≤ 2 ^ i))]
      simp [z]
  · intro k' w' h
    apply fd_ext
    intro i hi
    rw [Nat.testBit_or, tb]
    by_cases z : k ≤ i + k'
    · have : w ≤ i + k' - k := by omega
      rw [Nat.testBit_lt_two_pow (Nat.lt_of_lt_of_le hv (Nat.pow_le_pow_right (by decide) this))]
      simp
    · simp [z]
end FDS
/-! the class's two longs of a moment -/
def EN (st ow : Nat) (M : MO) : Prop := st < 2 ^ 52 ∧ ow < 2 ^ 60 ∧ (∀ p, p < 6 → fd (4 * p) 4 st = moD M p) ∧ (∀ p, p < 6 → fd (24 + 3 * p) 3 st = moC M p) ∧ (∀ l, l < 10 → fd (42 + l) 1 st = moA M l) ∧ ∀ l, l < 10 → fd (6 * l) 6 ow = moW M l
/-- equal where it counts -/
def mEq (M M' : MO) : Prop := (∀ p, p < 6 → moD M p = moD M' p ∧ moC M p = moC M' p) ∧ ∀ l, l < 10 → moA M l = moA M' l ∧ moW M l = moW M' l
section ENS
variable {st ow st' ow' : Nat} {M M' : MO}
theorem en_inj (h : EN st ow M) (h' : EN st' ow' M') : (st = st' ∧ ow = ow') ↔ mEq M M' := by
  obtain ⟨a1, a2, a3, a4, a5, a6⟩ := h
  obtain ⟨b1, b2, b3, b4, b5, b6⟩ := h'
  constructor
  · rintro ⟨rfl, rfl⟩
    exact ⟨fun p hp => ⟨by rw [← a3 p hp, b3 p hp], by rw [← a4 p hp, b4 p hp]⟩, fun l hl => ⟨by rw [← a5 l hl, b5 l hl], by rw [← a6 l hl, b6 l hl]⟩⟩
  · rintro ⟨e1, e2⟩
    have bit : ∀ {k w x y i : Nat}, fd k w x = fd k w y → i < w → x.testBit (i + k) = y.testBit (i + k) := fun {k w x y i} e hi => by
      have := congrArg (fun z => z.testBit i) e
      simpa only [fd_tb, hi, decide_true, Bool.true_and] using this
    constructor
    · apply Nat.eq_of_testBit_eq
      intro i
      by_cases z1 : i < 24
      · have := bit (i := i % 4) ((a3 (i / 4) (by omega)).trans ((e1 (i / 4) (by omega)).1.trans (b3 (i / 4) (by omega)).symm)) (by omega)
        rwa [show i % 4 + 4 * (i / 4) = i by omega] at this
      · by_cases z2 : i < 42
        · have := bit (i := (i - 24) % 3) ((a4 ((i - 24) / 3) (by omega)).trans ((e1 ((i - 24) / 3) (by omega)).2.trans (b4 ((i - 24) / 3) (by omega)).symm)) (by omega)
          rwa [show (i - 24) % 3 + (24 + 3 * ((i - 24) / 3)) = i by omega] at this
        · by_cases z3 : i < 52
          · have := bit (i := 0) ((a5 (i - 42) (by omega)).trans ((e2 (i - 42) (by omega)).1.trans (b5 (i - 42) (by omega)).symm)) (by omega)
            rwa [show 0 + (42 + (i - 42)) = i by omega] at this
          · have := Nat.pow_le_pow_right (show 0 < 2 by decide) (show 52 ≤ i by omega)
            rw [Nat.testBit_lt_two_pow (by omega), Nat.testBit_lt_two_pow (by omega)]
    · apply Nat.eq_of_testBit_eq
      intro i
      by_cases z1 : i < 60
      · have := bit (i := i % 6) ((a6 (i / 6) (by omega)).trans ((e2 (i / 6) (by omega)).2.trans (b6 (i / 6) (by omega)).symm)) (by omega)
        rwa [show i % 6 + 6 * (i / 6) = i by omega] at this
      · have := Nat.pow_le_pow_right (show 0 < 2 by decide) (show 60 ≤ i by omega)
        rw [Nat.testBit_lt_two_pow (by omega), Nat.testBit_lt_two_pow (by omega)]
end ENS

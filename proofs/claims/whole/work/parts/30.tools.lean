/-! tools for the plain functions -/
section PT
variable {σ ε : Type} {body : σ → Option (σ ⊕ ε)}
theorem lp_l {n : Nat} {s s' : σ} (h : body s = some (.inl s')) : lp body (n + 1) s = lp body n s' := by
  show ((body s).bind _) = _
  rw [h]; rfl
theorem lp_r {n : Nat} {s : σ} {e : ε} (h : body s = some (.inr e)) : lp body (n + 1) s = some e := by
  show ((body s).bind _) = _
  rw [h]; rfl
/-- a counting loop: states st 0, st 1 .. st N, then out -/
theorem lp_for (st : Nat → σ) (N : Nat) (e : ε) (hs : ∀ j, j < N → body (st j) = some (.inl (st (j + 1)))) (he : body (st N) = some (.inr e)) : ∀ (k i fuel : Nat), i + k = N → k < fuel → lp body fuel (st i) = some e := by
  intro k
  induction k with
  | zero =>
    intro i fuel hi hf
    obtain ⟨f, rfl⟩ : ∃ f, fuel = f + 1 := ⟨fuel - 1, by omega⟩
    rw [show i = N by omega]
    exact lp_r he
  | succ k ih =>
    intro i fuel hi hf
    obtain ⟨f, rfl⟩ : ∃ f, fuel = f + 1 := ⟨fuel - 1, by omega⟩
    rw [lp_l (hs i (by omega))]
    exact ih (i + 1) f (by omega) (by omega)
/-- any loop: an invariant, a measure that falls, and what holds outside -/
theorem lp_inv (I : σ → Prop) (μ : σ → Nat) (E : ε → Prop) (hs : ∀ s, I s → (∃ s', body s = some (.inl s') ∧ I s' ∧ μ s' < μ s) ∨ ∃ e, body s = some (.inr e) ∧ E e) : ∀ (fuel : Nat) (s : σ), I s → μ s < fuel → ∃ e, lp body fuel s = some e ∧ E e := by
  intro fuel
  induction fuel with
  | zero => intro s _ h; omega
  | succ f ih =>
    intro s hI hm
    rcases hs s hI with ⟨s', h1, h2, h3⟩ | ⟨e, h1, h2⟩
    · rw [lp_l h1]; exact ih s' h2 (by omega)
    · exact ⟨e, lp_r h1, h2⟩
/-- a loop over a counter that may leave early: position i, what was carried c -/
theorem lp_cnt {κ : Type} (st : Nat → κ → σ) (N : Nat) (I : Nat → κ → Prop) (E : ε → Prop) (hs : ∀ i c, i < N → I i c → (∃ c', body (st i c) = some (.inl (st (i + 1) c')) ∧ I (i + 1) c') ∨ ∃ e, body (st i c) = some (.inr e) ∧ E e) (he : ∀ c, I N c → ∃ e, body (st N c) = some (.inr e) ∧ E e) : ∀ (k i : Nat) (c : κ) (fuel : Nat), i + k = N → k < fuel → I i c → ∃ e, lp body fuel (st i c) = some e ∧ E e := by
  intro k
  induction k with
  | zero =>
    intro i c fuel hi hf hI
    obtain ⟨f, rfl⟩ : ∃ f, fuel = f + 1 := ⟨fuel - 1, by omega⟩
    rw [show i = N by omega] at hI ⊢
    obtain ⟨e, h1, h2⟩ := he c hI
    exact ⟨e, lp_r h1, h2⟩
  | succ k ih =>
    intro i c fuel hi hf hI
    obtain ⟨f, rfl⟩ : ∃ f, fuel = f + 1 := ⟨fuel - 1, by omega⟩
    rcases hs i c (by omega) hI with ⟨c', h1, h2⟩ | ⟨e, h1, h2⟩
    · rw [lp_l h1]; exact ih (i + 1) c' f (by omega) (by omega) h2
    · exact ⟨e, lp_r h1, h2⟩
end PT
theorem FU_lt {n : Nat} (h : n < 1000000) : n < FU := h
theorem lit_nI (n : Nat) : (OfNat.ofNat n : Int32) = nI n := rfl
theorem m1_lt {j : Nat} (h : j < 2 ^ 31) : (-1 : Int32) < nI j := by
  rw [Int32.lt_iff_toInt_lt, nI_toInt h, show (-1 : Int32).toInt = -1 by decide]; omega
theorem ix_nI {j n : Nat} (h : j < n) (hn : n < 2 ^ 31) : ix (nI j) n = some j := by
  unfold ix
  rw [if_neg (nI_in h hn), nI_clamp (by omega)]
theorem rd_nI {m : Mem} {o n j : Nat} (h : j < n) (hn : n < 2 ^ 31) : rd m o n (nI j) = some (m o j) := by
  unfold rd; rw [ix_nI h hn]; rfl
theorem wr_nI {m : Mem} {o n j : Nat} {v : Int32} (h : j < n) (hn : n < 2 ^ 31) : wr m o n (nI j) v = some (up m o j v) := by
  unfold wr; rw [ix_nI h hn]; rfl
theorem up_at {m : Mem} {o j : Nat} {v : Int32} : up m o j v o j = v := by simp [up]
theorem up_ne {m : Mem} {o j o' j' : Nat} {v : Int32} (h : o' ≠ o ∨ j' ≠ j) : up m o j v o' j' = m o' j' := by
  unfold up
  rw [if_neg]
  rintro ⟨h1, h2⟩
  rcases h with h | h
  · exact h h1
  · exact h h2
def b01 (p : Prop) [Decidable p] : Int32 := if p then 1 else 0
theorem bz_0 : bz 0 = some 0 := by decide
theorem bz_1 : bz 1 = some 1 := by decide
theorem bz_b (p : Prop) [Decidable p] : bz (b01 p) = some (b01 p) := by
  unfold b01; split
  · exact bz_1
  · exact bz_0
theorem b01_0 {p : Prop} [Decidable p] : b01 p = 0 ↔ ¬ p := by
  unfold b01; split
  · rename_i h; exact ⟨fun z => absurd z (by decide), fun z => absurd h z⟩
  · rename_i h; exact ⟨fun _ => h, fun _ => rfl⟩
/-! the reference's small helps -/
theorem r_isIn (v a b : Int32) : gX12_isIn v a b = some (b01 (a ≤ v ∧ v ≤ b)) := by
  unfold gX12_isIn gjX12_isIn_14 gjX12_isIn_15
  by_cases h1 : v < a
  · rw [if_pos h1, bz_0]
    have : ¬ (a ≤ v ∧ v ≤ b) := fun z => k2_nle h1 z.1
    simp [b01, this]
  · rw [if_neg h1]
    by_cases h2 : b < v
    · rw [if_pos h2, bz_0]
      have : ¬ (a ≤ v ∧ v ≤ b) := fun z => k2_nle h2 z.2
      simp [b01, this]
    · rw [if_neg h2, bz_1]
      have : a ≤ v ∧ v ≤ b := ⟨k2_le h1, k2_le h2⟩
      simp [b01, this]

/-! the first heap of all: the reference's rows -/
set_option maxRecDepth 100000 in
theorem sA0 : (pA12 (nw hW1 (.inl 12)) 81).isSome = true := by decide +kernel
theorem eA0 : pA12 (nw hW1 (.inl 12)) 81 = some hA0 := by
  have h := sA0
  unfold hA0
  cases hx : pA12 (nw hW1 (.inl 12)) 81 with
  | none => rw [hx] at h; cases h
  | some r => rfl
theorem nA0 : hN hA0 = 120 := by decide +kernel
theorem zA0 : hZ hA0 ≤ 500000 := by decide +kernel
set_option maxRecDepth 100000 in
theorem iA0 : ∀ j, j < 1685 → hI hA0 82 j = 0 := by decide +kernel
set_option maxRecDepth 100000 in
theorem lA0 : ∀ j, j < 71 → hI hA0 92 j = nI (ltr.getD j 0) := by decide +kernel
set_option maxRecDepth 100000 in
theorem fA0 : ∀ j, j < 58 → j ≠ 20 → hI hA0 81 j = 0 := by decide +kernel
theorem gA0 : hI hA0 81 20 = mI := by decide +kernel
set_option maxRecDepth 100000 in
theorem rA0 : RS 81 hA0 := by
  unfold RS
  decide +kernel
theorem tA0 {a : Nat} {s : jSh} (h : hS hA0 a = s) : hS hA0 a = s := h
set_option maxRecDepth 100000 in
theorem cA0 : CS hA0 := by
  refine ⟨by decide +kernel, by decide +kernel, by decide +kernel, ?_, ?_, ?_, by decide +kernel, by decide +kernel, ?_, ?_, ?_, by decide +kernel, by decide +kernel, by decide +kernel, ?_, rA0⟩
  · unfold Sh6; decide +kernel
  · unfold Sh5; decide +kernel
  · unfold Sh2; decide +kernel
  · unfold Sh10; decide +kernel
  · unfold Sh9 Sh10; decide +kernel
  · unfold Sh4 Sh10; decide +kernel
  · unfold Sh0; decide +kernel
set_option maxRecDepth 100000 in
theorem s20 : Sh3 hA0 20 := by
  refine ⟨by decide +kernel, by decide +kernel, by decide +kernel, by decide +kernel, by decide +kernel, ⟨by decide +kernel, ?_⟩, ⟨by decide +kernel, ?_⟩⟩
  · unfold Sh1; decide +kernel
  · unfold Sh7; decide +kernel
set_option maxRecDepth 100000 in
theorem s57 : Sh3 hA0 57 := by
  refine ⟨by decide +kernel, by decide +kernel, by decide +kernel, by decide +kernel, by decide +kernel, ⟨by decide +kernel, ?_⟩, ⟨by decide +kernel, ?_⟩⟩
  · unfold Sh1; decide +kernel
  · unfold Sh7; decide +kernel
set_option maxRecDepth 100000 in
theorem p8A0 : Sh5 hA0 8 := by unfold Sh5; decide +kernel
set_option maxRecDepth 100000 in
theorem r19A0 : ∀ i, i < 13 → hR hA0 19 i = if i = 0 then some 20 else none := by decide +kernel
set_option maxRecDepth 100000 in
theorem r36A0 : ∀ i, i < 2 → hR hA0 36 i = none := by decide +kernel
set_option maxRecDepth 100000 in
theorem r52A0 : ∀ i, i < 4 → hR hA0 52 i = some (53 + i) := by decide +kernel
theorem r3A0 : hR hA0 0 3 = some 8 ∧ hR hA0 0 4 = some 13 ∧ hR hA0 20 7 = some 35 ∧ hS hA0 35 = .inr (.long, 32) ∧ hR hA0 57 7 = some 72 ∧ hS hA0 72 = .inr (.long, 32) ∧ hR hA0 74 8 = none := by decide +kernel
theorem i0A0 : hI hA0 0 1 = 0 ∧ hI hA0 2 0 = 0 ∧ hI hA0 2 1 = mI ∧ hI hA0 8 0 = 0 ∧ hI hA0 8 1 = 0 ∧ hI hA0 8 2 = 0 ∧ hI hA0 18 0 = 0 ∧ hI hA0 18 1 = 0 ∧ hI hA0 37 0 = 0 ∧ hI hA0 37 1 = 0 ∧ hI hA0 74 6 = 0 ∧ hI hA0 20 5 = 0 ∧ hI hA0 20 6 = 0 ∧ hI hA0 24 0 = 0 ∧ hI hA0 28 0 = 0 ∧ hI hA0 83 0 = 0 ∧ hI hA0 84 0 = 0 ∧ hI hA0 85 0 = 0 ∧ hI hA0 119 0 = 0 ∧ hI hA0 119 1 = 0 := by decide +kernel
set_option maxRecDepth 100000 in
theorem i20A0 : (∀ j, j < 72 → hI hA0 21 j = 0) ∧ (∀ j, j < 6 → hI hA0 22 j = 0) ∧ (∀ j, j < 16 → hI hA0 23 j = 0) ∧ (∀ j, j < 16 → hI hA0 25 j = 0) ∧ (∀ j, j < 16 → hI hA0 26 j = 0) ∧ (∀ j, j < 160 → hI hA0 34 j = 0) := by decide +kernel
set_option maxRecDepth 100000 in
theorem i89A0 : (∀ j, j < 144 → hI hA0 89 j = 0) ∧ (∀ j, j < 144 → hI hA0 90 j = 0) := by decide +kernel

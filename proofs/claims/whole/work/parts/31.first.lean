/-! a first call, to try the way: end(n), both sides -/
theorem gI_ok {h : Hp} {ci a k : Nat} (ha : a < hN h) (hs : hS h a = .inl ci) : gI h ci a k = some (hI h a k) := by
  unfold gI gO; rw [if_pos ⟨ha, hs⟩]; rfl
theorem gO_ok {h : Hp} {ci a : Nat} (ha : a < hN h) (hs : hS h a = .inl ci) : gO h ci a = some () := by
  unfold gO; rw [if_pos ⟨ha, hs⟩]
theorem gR_ok {h : Hp} {ci a k : Nat} (ha : a < hN h) (hs : hS h a = .inl ci) : gR h ci a k = hR h a k := by
  unfold gR gO; rw [if_pos ⟨ha, hs⟩]; rfl
theorem pI_ok {h : Hp} {ci a k : Nat} {v : Int32} (ha : a < hN h) (hs : hS h a = .inl ci) : pI h ci a k v = some (sI h a k v) := by
  unfold pI gO; rw [if_pos ⟨ha, hs⟩]; rfl
theorem ga_ok {h : Hp} {ty : FieldType} {a n : Nat} (ha : a < hN h) (hs : hS h a = .inr (ty, n)) : ga h ty a = some n := by
  unfold ga; rw [hs]; simp [ha]
theorem lI_ok {h : Hp} {ty : FieldType} {a n j : Nat} (ha : a < hN h) (hs : hS h a = .inr (ty, n)) (hj : j < n) (hn : n < 2 ^ 31) : lI h ty a (nI j) = some (hI h a j) := by
  unfold lI; rw [ga_ok ha hs]; show (ix (nI j) n).bind _ = _; rw [ix_nI hj hn]; rfl
theorem tI_ok {h : Hp} {a n j : Nat} {v : Int32} (ha : a < hN h) (hs : hS h a = .inr (.int, n)) (hj : j < n) (hn : n < 2 ^ 31) : tI h a (nI j) v = some (sI h a j v) := by
  unfold tI; rw [ga_ok ha hs]; show (ix (nI j) n).bind _ = _; rw [ix_nI hj hn]; rfl
theorem hI_at {h : Hp} {a k : Nat} {v : Int32} : hI (sI h a k v) a k = v := by simp [hI, sI]
theorem hI_ne {h : Hp} {a k b j : Nat} {v : Int32} (hne : b ≠ a ∨ j ≠ k) : hI (sI h a k v) b j = hI h b j := by
  show (if b = a ∧ j = k then v else h.2.1 b j) = h.2.1 b j
  rw [if_neg]
  rintro ⟨h1, h2⟩
  rcases hne with z | z
  · exact z h1
  · exact z h2
/-- the class's end(n) -/
theorem c_end {h : Hp} (ha : 0 < hN h) (hs : hS h 0 = .inl 11) (n : Int32) : fX11_end h 0 n = some (if 0 ≤ n ∧ n ≤ hI h 0 1 then (n, sI h 0 1 n) else (-1, h)) := by
  unfold fX11_end jX11_end_12
  rw [gI_ok ha hs, pI_ok ha hs]
  by_cases h1 : n < 0
  · have : ¬ (0 ≤ n ∧ n ≤ hI h 0 1) := fun z => k2_nle h1 z.1
    rw [if_pos h1, if_neg this]
  · rw [if_neg h1]
    have h0 : 0 ≤ n := k2_le h1
    by_cases h2 : n ≤ hI h 0 1
    · rw [if_pos ⟨h0, h2⟩]; simp [h2]
    · rw [if_neg (fun z => h2 z.2)]; simp [h2]
/-- the reference's end(n) -/
theorem r_end (m : Mem) (n : Int32) : gX12_end m n = some (if 0 ≤ n ∧ n ≤ m 0 11 then (n, up m 0 11 n) else (-1, m)) := by
  unfold gX12_end gjX12_end_12
  by_cases h1 : n < 0
  · have : ¬ (0 ≤ n ∧ n ≤ m 0 11) := fun z => k2_nle h1 z.1
    rw [if_pos h1, if_neg this]
  · rw [if_neg h1]
    have h0 : 0 ≤ n := k2_le h1
    by_cases h2 : n ≤ m 0 11
    · simp [h0, h2]
    · simp [h2]

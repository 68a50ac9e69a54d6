/-! a heap that goes on from another: cells keep their shapes, and references that never change -/
/-- fields that hold other objects in time, by class and number -/
def dynF : Nat → Nat → Bool
  | 3, 7 => true
  | 9, 1 => true
  | 9, 2 => true
  | 11, 3 => true
  | 11, 4 => true
  | 6, 2 => true
  | 6, 4 => true
  | 8, 6 => true
  | 8, 7 => true
  | 0, 8 => true
  | _, _ => false
def XX (h h' : Hp) : Prop := hN h ≤ hN h' ∧ (∀ a, a < hN h → hS h' a = hS h a) ∧ ∀ a k c, a < hN h → hS h a = .inl c → dynF c k = false → hR h' a k = hR h a k
theorem XX.rfl' (h : Hp) : XX h h := ⟨Nat.le_refl _, fun _ _ => rfl, fun _ _ _ _ _ _ => rfl⟩
theorem XX.trans {h1 h2 h3 : Hp} (x : XX h1 h2) (y : XX h2 h3) : XX h1 h3 := ⟨Nat.le_trans x.1 y.1, fun a ha => by rw [y.2.1 a (Nat.lt_of_lt_of_le ha x.1), x.2.1 a ha], fun a k c ha hs hd => by rw [y.2.2 a k c (Nat.lt_of_lt_of_le ha x.1) (by rw [x.2.1 a ha]; exact hs) hd, x.2.2 a k c ha hs hd]⟩
theorem XX.wI (h : Hp) (m : Mem) : XX h (wI h m) := XX.rfl' h
theorem XX.sJ (h : Hp) (a k : Nat) (v : Int64) : XX h (sJ h a k v) := XX.rfl' h
theorem XX.sR {h : Hp} {a k : Nat} {v : Option Nat} (hd : ∀ c, hS h a = .inl c → dynF c k = true) : XX h (sR h a k v) := by
  refine ⟨Nat.le_refl _, fun _ _ => rfl, fun a' k' c ha hs hf => ?_⟩
  show (if a' = a ∧ k' = k then v else h.2.2.2.1 a' k') = h.2.2.2.1 a' k'
  rw [if_neg]
  rintro ⟨rfl, rfl⟩
  rw [hd c hs] at hf
  cases hf
theorem XX.nw (h : Hp) (s : jSh) : XX h (nw h s) := by
  refine ⟨Nat.le_succ _, fun a ha => ?_, fun a k c ha _ _ => ?_⟩
  · show (if a = hN h then s else h.1 a) = h.1 a
    rw [if_neg (by omega)]
  · show (if a = hN h then none else h.2.2.2.1 a k) = h.2.2.2.1 a k
    rw [if_neg (by omega)]
theorem Sh10.x {h h' : Hp} {a : Nat} (s : Sh10 h a) (x : XX h h') : Sh10 h' a := by
  obtain ⟨l, c, ⟨r0, t0⟩, ⟨r1, t1⟩⟩ := s
  exact ⟨Nat.lt_of_lt_of_le l x.1, by rw [x.2.1 _ (by omega)]; exact c, ⟨by rw [x.2.2 _ _ 10 (by omega) c (by decide)]; exact r0, by rw [x.2.1 _ (by omega)]; exact t0⟩, ⟨by rw [x.2.2 _ _ 10 (by omega) c (by decide)]; exact r1, by rw [x.2.1 _ (by omega)]; exact t1⟩⟩
theorem Sh5.x {h h' : Hp} {a : Nat} (s : Sh5 h a) (x : XX h h') : Sh5 h' a := by
  obtain ⟨l, c, ⟨r0, t0⟩, ⟨r1, t1⟩, ⟨r2, t2⟩, ⟨r3, t3⟩⟩ := s
  exact ⟨Nat.lt_of_lt_of_le l x.1, by rw [x.2.1 _ (by omega)]; exact c, ⟨by rw [x.2.2 _ _ 5 (by omega) c (by decide)]; exact r0, by rw [x.2.1 _ (by omega)]; exact t0⟩, ⟨by rw [x.2.2 _ _ 5 (by omega) c (by decide)]; exact r1, by rw [x.2.1 _ (by omega)]; exact t1⟩, ⟨by rw [x.2.2 _ _ 5 (by omega) c (by decide)]; exact r2, by rw [x.2.1 _ (by omega)]; exact t2⟩, ⟨by rw [x.2.2 _ _ 5 (by omega) c (by decide)]; exact r3, by rw [x.2.1 _ (by omega)]; exact t3⟩⟩
theorem Sh1.x {h h' : Hp} {a : Nat} (s : Sh1 h a) (x : XX h h') : Sh1 h' a := by
  obtain ⟨l, c, ⟨r0, t0⟩, ⟨r1, t1⟩, ⟨r2, t2⟩⟩ := s
  exact ⟨Nat.lt_of_lt_of_le l x.1, by rw [x.2.1 _ (by omega)]; exact c, ⟨by rw [x.2.2 _ _ 1 (by omega) c (by decide)]; exact r0, by rw [x.2.1 _ (by omega)]; exact t0⟩, ⟨by rw [x.2.2 _ _ 1 (by omega) c (by decide)]; exact r1, by rw [x.2.1 _ (by omega)]; exact t1⟩, ⟨by rw [x.2.2 _ _ 1 (by omega) c (by decide)]; exact r2, by rw [x.2.1 _ (by omega)]; exact t2⟩⟩
theorem Sh7.x {h h' : Hp} {a : Nat} (s : Sh7 h a) (x : XX h h') : Sh7 h' a := by
  obtain ⟨l, c, ⟨r0, t0⟩, ⟨r1, t1⟩, ⟨r2, t2⟩, ⟨r3, t3⟩, ⟨r4, t4⟩, ⟨r5, t5⟩⟩ := s
  exact ⟨Nat.lt_of_lt_of_le l x.1, by rw [x.2.1 _ (by omega)]; exact c, ⟨by rw [x.2.2 _ _ 7 (by omega) c (by decide)]; exact r0, by rw [x.2.1 _ (by omega)]; exact t0⟩, ⟨by rw [x.2.2 _ _ 7 (by omega) c (by decide)]; exact r1, by rw [x.2.1 _ (by omega)]; exact t1⟩, ⟨by rw [x.2.2 _ _ 7 (by omega) c (by decide)]; exact r2, by rw [x.2.1 _ (by omega)]; exact t2⟩, ⟨by rw [x.2.2 _ _ 7 (by omega) c (by decide)]; exact r3, by rw [x.2.1 _ (by omega)]; exact t3⟩, ⟨by rw [x.2.2 _ _ 7 (by omega) c (by decide)]; exact r4, by rw [x.2.1 _ (by omega)]; exact t4⟩, ⟨by rw [x.2.2 _ _ 7 (by omega) c (by decide)]; exact r5, by rw [x.2.1 _ (by omega)]; exact t5⟩⟩
theorem Sh3.x {h h' : Hp} {a : Nat} (s : Sh3 h a) (x : XX h h') : Sh3 h' a := by
  obtain ⟨l, c, ⟨r0, t0⟩, ⟨r1, t1⟩, ⟨r2, t2⟩, ⟨r3, t3⟩, ⟨r4, t4⟩⟩ := s
  exact ⟨Nat.lt_of_lt_of_le l x.1, by rw [x.2.1 _ (by omega)]; exact c, ⟨by rw [x.2.2 _ _ 3 (by omega) c (by decide)]; exact r0, by rw [x.2.1 _ (by omega)]; exact t0⟩, ⟨by rw [x.2.2 _ _ 3 (by omega) c (by decide)]; exact r1, by rw [x.2.1 _ (by omega)]; exact t1⟩, ⟨by rw [x.2.2 _ _ 3 (by omega) c (by decide)]; exact r2, by rw [x.2.1 _ (by omega)]; exact t2⟩, ⟨by rw [x.2.2 _ _ 3 (by omega) c (by decide)]; exact r3, t3.x x⟩, ⟨by rw [x.2.2 _ _ 3 (by omega) c (by decide)]; exact r4, t4.x x⟩⟩
theorem Sh9.x {h h' : Hp} {a : Nat} (s : Sh9 h a) (x : XX h h') : Sh9 h' a := by
  obtain ⟨l, c, ⟨r0, t0⟩, ⟨r1, t1⟩, ⟨r2, t2⟩⟩ := s
  exact ⟨Nat.lt_of_lt_of_le l x.1, by rw [x.2.1 _ (by omega)]; exact c, ⟨by rw [x.2.2 _ _ 9 (by omega) c (by decide)]; exact r0, by rw [x.2.1 _ (by omega)]; exact t0⟩, ⟨by rw [x.2.2 _ _ 9 (by omega) c (by decide)]; exact r1, by rw [x.2.1 _ (by omega)]; exact t1⟩, ⟨by rw [x.2.2 _ _ 9 (by omega) c (by decide)]; exact r2, t2.x x⟩⟩
theorem Sh4.x {h h' : Hp} {a : Nat} (s : Sh4 h a) (x : XX h h') : Sh4 h' a := by
  obtain ⟨l, c, ⟨r0, t0⟩, ⟨r1, t1⟩⟩ := s
  exact ⟨Nat.lt_of_lt_of_le l x.1, by rw [x.2.1 _ (by omega)]; exact c, ⟨by rw [x.2.2 _ _ 4 (by omega) c (by decide)]; exact r0, by rw [x.2.1 _ (by omega)]; exact t0⟩, ⟨by rw [x.2.2 _ _ 4 (by omega) c (by decide)]; exact r1, t1.x x⟩⟩
theorem Sh6.x {h h' : Hp} {a : Nat} (s : Sh6 h a) (x : XX h h') : Sh6 h' a := by
  obtain ⟨l, c, ⟨r0, t0⟩, ⟨r1, t1⟩, ⟨r2, t2⟩, ⟨r3, t3⟩⟩ := s
  exact ⟨Nat.lt_of_lt_of_le l x.1, by rw [x.2.1 _ (by omega)]; exact c, ⟨by rw [x.2.2 _ _ 6 (by omega) c (by decide)]; exact r0, by rw [x.2.1 _ (by omega)]; exact t0⟩, ⟨by rw [x.2.2 _ _ 6 (by omega) c (by decide)]; exact r1, by rw [x.2.1 _ (by omega)]; exact t1⟩, ⟨by rw [x.2.2 _ _ 6 (by omega) c (by decide)]; exact r2, by rw [x.2.1 _ (by omega)]; exact t2⟩, ⟨by rw [x.2.2 _ _ 6 (by omega) c (by decide)]; exact r3, by rw [x.2.1 _ (by omega)]; exact t3⟩⟩
theorem Sh0.x {h h' : Hp} {a : Nat} (s : Sh0 h a) (x : XX h h') : Sh0 h' a := by
  obtain ⟨l, c, ⟨r0, t0⟩, ⟨r1, t1⟩, ⟨r2, t2⟩, ⟨r3, t3⟩, ⟨r4, t4⟩, ⟨r5, t5⟩⟩ := s
  exact ⟨Nat.lt_of_lt_of_le l x.1, by rw [x.2.1 _ (by omega)]; exact c, ⟨by rw [x.2.2 _ _ 0 (by omega) c (by decide)]; exact r0, by rw [x.2.1 _ (by omega)]; exact t0⟩, ⟨by rw [x.2.2 _ _ 0 (by omega) c (by decide)]; exact r1, by rw [x.2.1 _ (by omega)]; exact t1⟩, ⟨by rw [x.2.2 _ _ 0 (by omega) c (by decide)]; exact r2, by rw [x.2.1 _ (by omega)]; exact t2⟩, ⟨by rw [x.2.2 _ _ 0 (by omega) c (by decide)]; exact r3, by rw [x.2.1 _ (by omega)]; exact t3⟩, ⟨by rw [x.2.2 _ _ 0 (by omega) c (by decide)]; exact r4, by rw [x.2.1 _ (by omega)]; exact t4⟩, ⟨by rw [x.2.2 _ _ 0 (by omega) c (by decide)]; exact r5, by rw [x.2.1 _ (by omega)]; exact t5⟩⟩
theorem Sh2.x {h h' : Hp} {a : Nat} (s : Sh2 h a) (x : XX h h') : Sh2 h' a := by
  obtain ⟨l, c, ⟨r0, t0⟩⟩ := s
  exact ⟨Nat.lt_of_lt_of_le l x.1, by rw [x.2.1 _ (by omega)]; exact c, ⟨by rw [x.2.2 _ _ 2 (by omega) c (by decide)]; exact r0, by rw [x.2.1 _ (by omega)]; exact t0⟩⟩
theorem RS.x {T : Nat} {h h' : Hp} (r : RS T h) (x : XX h h') : RS T h' := by
  obtain ⟨l, c, t⟩ := r
  refine ⟨Nat.le_trans l x.1, by rw [x.2.1 _ (by omega)]; exact c, fun q hq => ?_⟩
  have hl := rTab_lt q hq
  obtain ⟨t1, t2⟩ := t q hq
  exact ⟨by rw [x.2.2 _ _ 12 (by omega) c (by unfold dynF; rfl)]; exact t1, by rw [x.2.1 _ (by omega)]; exact t2⟩

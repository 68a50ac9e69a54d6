def mI : Int32 := -1
theorem mI_e : (-1 : Int32) = mI := rfl
/-! what the class's objects look like, and what reads and writes of them give -/
def Sh10 (h : Hp) (a : Nat) : Prop := a + 2 < hN h ∧ hS h a = .inl 10 ∧ (hR h a 0 = some (a + 1) ∧ hS h (a + 1) = .inr (.int, 17)) ∧ (hR h a 2 = some (a + 2) ∧ hS h (a + 2) = .inr (.int, 16))
section SH10
variable {h : Hp} {m : Mem} {a : Nat} {v : Int32} {j : Nat}
theorem Sh10.w (s : Sh10 h a) (m' : Mem) : Sh10 (wI h m') a := s
theorem Sh10.lt (s : Sh10 h a) : a < hN h := (show a < hN h by have := s.1; omega)
theorem Sh10.o {Q : Unit → Prop} (s : Sh10 h a) : wp (gO (wI h m) 10 a) Q = Q () := w_gO (h := wI h m) s.lt s.2.1
theorem Sh10.g1 {Q : Int32 → Prop} (s : Sh10 h a) : wp (gI (wI h m) 10 a 1) Q = Q (m a 1) := w_gI (h := wI h m) s.lt s.2.1
theorem Sh10.p1 {Q : Hp → Prop} (s : Sh10 h a) : wp (pI (wI h m) 10 a 1 v) Q = Q (wI h (up m a 1 v)) := w_pI (h := wI h m) s.lt s.2.1
theorem Sh10.r0 {Q : Nat → Prop} (s : Sh10 h a) : wp (gR (wI h m) 10 a 0) Q = Q (a + 1) := w_gR (h := wI h m) s.lt s.2.1 (s.2.2.1).1
theorem Sh10.l0 {Q : Int32 → Prop} (s : Sh10 h a) (hj : j < 17) : wp (lI (wI h m) .int (a + 1) (nI j)) Q = Q (m (a + 1) j) := w_lI (h := wI h m) (show a + 1 < hN h by have := s.1; omega) (s.2.2.1).2 hj (by decide)
theorem Sh10.n0 {Q : Int32 → Prop} (s : Sh10 h a) : wp (aL (wI h m) .int (a + 1)) Q = Q (nI 17) := w_aL (h := wI h m) (show a + 1 < hN h by have := s.1; omega) (s.2.2.1).2
theorem Sh10.t0 {Q : Hp → Prop} (s : Sh10 h a) (hj : j < 17) : wp (tI (wI h m) (a + 1) (nI j) v) Q = Q (wI h (up m (a + 1) j v)) := w_tI (h := wI h m) (show a + 1 < hN h by have := s.1; omega) (s.2.2.1).2 hj (by decide)
theorem Sh10.r2 {Q : Nat → Prop} (s : Sh10 h a) : wp (gR (wI h m) 10 a 2) Q = Q (a + 2) := w_gR (h := wI h m) s.lt s.2.1 (s.2.2.2).1
theorem Sh10.l2 {Q : Int32 → Prop} (s : Sh10 h a) (hj : j < 16) : wp (lI (wI h m) .int (a + 2) (nI j)) Q = Q (m (a + 2) j) := w_lI (h := wI h m) (show a + 2 < hN h by have := s.1; omega) (s.2.2.2).2 hj (by decide)
theorem Sh10.n2 {Q : Int32 → Prop} (s : Sh10 h a) : wp (aL (wI h m) .int (a + 2)) Q = Q (nI 16) := w_aL (h := wI h m) (show a + 2 < hN h by have := s.1; omega) (s.2.2.2).2
theorem Sh10.t2 {Q : Hp → Prop} (s : Sh10 h a) (hj : j < 16) : wp (tI (wI h m) (a + 2) (nI j) v) Q = Q (wI h (up m (a + 2) j v)) := w_tI (h := wI h m) (show a + 2 < hN h by have := s.1; omega) (s.2.2.2).2 hj (by decide)
end SH10
def Sh5 (h : Hp) (a : Nat) : Prop := a + 4 < hN h ∧ hS h a = .inl 5 ∧ (hR h a 3 = some (a + 1) ∧ hS h (a + 1) = .inr (.int, 10)) ∧ (hR h a 4 = some (a + 2) ∧ hS h (a + 2) = .inr (.int, 6)) ∧ (hR h a 5 = some (a + 3) ∧ hS h (a + 3) = .inr (.int, 6)) ∧ (hR h a 6 = some (a + 4) ∧ hS h (a + 4) = .inr (.int, 72))
section SH5
variable {h : Hp} {m : Mem} {a : Nat} {v : Int32} {j : Nat}
theorem Sh5.w (s : Sh5 h a) (m' : Mem) : Sh5 (wI h m') a := s
theorem Sh5.lt (s : Sh5 h a) : a < hN h := (show a < hN h by have := s.1; omega)
theorem Sh5.o {Q : Unit → Prop} (s : Sh5 h a) : wp (gO (wI h m) 5 a) Q = Q () := w_gO (h := wI h m) s.lt s.2.1
theorem Sh5.g0 {Q : Int32 → Prop} (s : Sh5 h a) : wp (gI (wI h m) 5 a 0) Q = Q (m a 0) := w_gI (h := wI h m) s.lt s.2.1
theorem Sh5.p0 {Q : Hp → Prop} (s : Sh5 h a) : wp (pI (wI h m) 5 a 0 v) Q = Q (wI h (up m a 0 v)) := w_pI (h := wI h m) s.lt s.2.1
theorem Sh5.g1 {Q : Int32 → Prop} (s : Sh5 h a) : wp (gI (wI h m) 5 a 1) Q = Q (m a 1) := w_gI (h := wI h m) s.lt s.2.1
theorem Sh5.p1 {Q : Hp → Prop} (s : Sh5 h a) : wp (pI (wI h m) 5 a 1 v) Q = Q (wI h (up m a 1 v)) := w_pI (h := wI h m) s.lt s.2.1
theorem Sh5.g2 {Q : Int32 → Prop} (s : Sh5 h a) : wp (gI (wI h m) 5 a 2) Q = Q (m a 2) := w_gI (h := wI h m) s.lt s.2.1
theorem Sh5.p2 {Q : Hp → Prop} (s : Sh5 h a) : wp (pI (wI h m) 5 a 2 v) Q = Q (wI h (up m a 2 v)) := w_pI (h := wI h m) s.lt s.2.1
theorem Sh5.r3 {Q : Nat → Prop} (s : Sh5 h a) : wp (gR (wI h m) 5 a 3) Q = Q (a + 1) := w_gR (h := wI h m) s.lt s.2.1 (s.2.2.1).1
theorem Sh5.l3 {Q : Int32 → Prop} (s : Sh5 h a) (hj : j < 10) : wp (lI (wI h m) .int (a + 1) (nI j)) Q = Q (m (a + 1) j) := w_lI (h := wI h m) (show a + 1 < hN h by have := s.1; omega) (s.2.2.1).2 hj (by decide)
theorem Sh5.n3 {Q : Int32 → Prop} (s : Sh5 h a) : wp (aL (wI h m) .int (a + 1)) Q = Q (nI 10) := w_aL (h := wI h m) (show a + 1 < hN h by have := s.1; omega) (s.2.2.1).2
theorem Sh5.t3 {Q : Hp → Prop} (s : Sh5 h a) (hj : j < 10) : wp (tI (wI h m) (a + 1) (nI j) v) Q = Q (wI h (up m (a + 1) j v)) := w_tI (h := wI h m) (show a + 1 < hN h by have := s.1; omega) (s.2.2.1).2 hj (by decide)
theorem Sh5.r4 {Q : Nat → Prop} (s : Sh5 h a) : wp (gR (wI h m) 5 a 4) Q = Q (a + 2) := w_gR (h := wI h m) s.lt s.2.1 (s.2.2.2.1).1
theorem Sh5.l4 {Q : Int32 → Prop} (s : Sh5 h a) (hj : j < 6) : wp (lI (wI h m) .int (a + 2) (nI j)) Q = Q (m (a + 2) j) := w_lI (h := wI h m) (show a + 2 < hN h by have := s.1; omega) (s.2.2.2.1).2 hj (by decide)
theorem Sh5.n4 {Q : Int32 → Prop} (s : Sh5 h a) : wp (aL (wI h m) .int (a + 2)) Q = Q (nI 6) := w_aL (h := wI h m) (show a + 2 < hN h by have := s.1; omega) (s.2.2.2.1).2
theorem Sh5.t4 {Q : Hp → Prop} (s : Sh5 h a) (hj : j < 6) : wp (tI (wI h m) (a + 2) (nI j) v) Q = Q (wI h (up m (a + 2) j v)) := w_tI (h := wI h m) (show a + 2 < hN h by have := s.1; omega) (s.2.2.2.1).2 hj (by decide)
theorem Sh5.r5 {Q : Nat → Prop} (s : Sh5 h a) : wp (gR (wI h m) 5 a 5) Q = Q (a + 3) := w_gR (h := wI h m) s.lt s.2.1 (s.2.2.2.2.1).1
theorem Sh5.l5 {Q : Int32 → Prop} (s : Sh5 h a) (hj : j < 6) : wp (lI (wI h m) .int (a + 3) (nI j)) Q = Q (m (a + 3) j) := w_lI (h := wI h m) (show a + 3 < hN h by have := s.1; omega) (s.2.2.2.2.1).2 hj (by decide)
theorem Sh5.n5 {Q : Int32 → Prop} (s : Sh5 h a) : wp (aL (wI h m) .int (a + 3)) Q = Q (nI 6) := w_aL (h := wI h m) (show a + 3 < hN h by have := s.1; omega) (s.2.2.2.2.1).2
theorem Sh5.t5 {Q : Hp → Prop} (s : Sh5 h a) (hj : j < 6) : wp (tI (wI h m) (a + 3) (nI j) v) Q = Q (wI h (up m (a + 3) j v)) := w_tI (h := wI h m) (show a + 3 < hN h by have := s.1; omega) (s.2.2.2.2.1).2 hj (by decide)
theorem Sh5.r6 {Q : Nat → Prop} (s : Sh5 h a) : wp (gR (wI h m) 5 a 6) Q = Q (a + 4) := w_gR (h := wI h m) s.lt s.2.1 (s.2.2.2.2.2).1
theorem Sh5.l6 {Q : Int32 → Prop} (s : Sh5 h a) (hj : j < 72) : wp (lI (wI h m) .int (a + 4) (nI j)) Q = Q (m (a + 4) j) := w_lI (h := wI h m) (show a + 4 < hN h by have := s.1; omega) (s.2.2.2.2.2).2 hj (by decide)
theorem Sh5.n6 {Q : Int32 → Prop} (s : Sh5 h a) : wp (aL (wI h m) .int (a + 4)) Q = Q (nI 72) := w_aL (h := wI h m) (show a + 4 < hN h by have := s.1; omega) (s.2.2.2.2.2).2
theorem Sh5.t6 {Q : Hp → Prop} (s : Sh5 h a) (hj : j < 72) : wp (tI (wI h m) (a + 4) (nI j) v) Q = Q (wI h (up m (a + 4) j v)) := w_tI (h := wI h m) (show a + 4 < hN h by have := s.1; omega) (s.2.2.2.2.2).2 hj (by decide)
end SH5
def Sh1 (h : Hp) (a : Nat) : Prop := a + 3 < hN h ∧ hS h a = .inl 1 ∧ (hR h a 1 = some (a + 1) ∧ hS h (a + 1) = .inr (.int, 16)) ∧ (hR h a 2 = some (a + 2) ∧ hS h (a + 2) = .inr (.int, 16)) ∧ (hR h a 3 = some (a + 3) ∧ hS h (a + 3) = .inr (.int, 256))
section SH1
variable {h : Hp} {m : Mem} {a : Nat} {v : Int32} {j : Nat}
theorem Sh1.w (s : Sh1 h a) (m' : Mem) : Sh1 (wI h m') a := s
theorem Sh1.lt (s : Sh1 h a) : a < hN h := (show a < hN h by have := s.1; omega)
theorem Sh1.o {Q : Unit → Prop} (s : Sh1 h a) : wp (gO (wI h m) 1 a) Q = Q () := w_gO (h := wI h m) s.lt s.2.1
theorem Sh1.g0 {Q : Int32 → Prop} (s : Sh1 h a) : wp (gI (wI h m) 1 a 0) Q = Q (m a 0) := w_gI (h := wI h m) s.lt s.2.1
theorem Sh1.p0 {Q : Hp → Prop} (s : Sh1 h a) : wp (pI (wI h m) 1 a 0 v) Q = Q (wI h (up m a 0 v)) := w_pI (h := wI h m) s.lt s.2.1
theorem Sh1.r1 {Q : Nat → Prop} (s : Sh1 h a) : wp (gR (wI h m) 1 a 1) Q = Q (a + 1) := w_gR (h := wI h m) s.lt s.2.1 (s.2.2.1).1
theorem Sh1.l1 {Q : Int32 → Prop} (s : Sh1 h a) (hj : j < 16) : wp (lI (wI h m) .int (a + 1) (nI j)) Q = Q (m (a + 1) j) := w_lI (h := wI h m) (show a + 1 < hN h by have := s.1; omega) (s.2.2.1).2 hj (by decide)
theorem Sh1.n1 {Q : Int32 → Prop} (s : Sh1 h a) : wp (aL (wI h m) .int (a + 1)) Q = Q (nI 16) := w_aL (h := wI h m) (show a + 1 < hN h by have := s.1; omega) (s.2.2.1).2
theorem Sh1.t1 {Q : Hp → Prop} (s : Sh1 h a) (hj : j < 16) : wp (tI (wI h m) (a + 1) (nI j) v) Q = Q (wI h (up m (a + 1) j v)) := w_tI (h := wI h m) (show a + 1 < hN h by have := s.1; omega) (s.2.2.1).2 hj (by decide)
theorem Sh1.r2 {Q : Nat → Prop} (s : Sh1 h a) : wp (gR (wI h m) 1 a 2) Q = Q (a + 2) := w_gR (h := wI h m) s.lt s.2.1 (s.2.2.2.1).1
theorem Sh1.l2 {Q : Int32 → Prop} (s : Sh1 h a) (hj : j < 16) : wp (lI (wI h m) .int (a + 2) (nI j)) Q = Q (m (a + 2) j) := w_lI (h := wI h m) (show a + 2 < hN h by have := s.1; omega) (s.2.2.2.1).2 hj (by decide)
theorem Sh1.n2 {Q : Int32 → Prop} (s : Sh1 h a) : wp (aL (wI h m) .int (a + 2)) Q = Q (nI 16) := w_aL (h := wI h m) (show a + 2 < hN h by have := s.1; omega) (s.2.2.2.1).2
theorem Sh1.t2 {Q : Hp → Prop} (s : Sh1 h a) (hj : j < 16) : wp (tI (wI h m) (a + 2) (nI j) v) Q = Q (wI h (up m (a + 2) j v)) := w_tI (h := wI h m) (show a + 2 < hN h by have := s.1; omega) (s.2.2.2.1).2 hj (by decide)
theorem Sh1.r3 {Q : Nat → Prop} (s : Sh1 h a) : wp (gR (wI h m) 1 a 3) Q = Q (a + 3) := w_gR (h := wI h m) s.lt s.2.1 (s.2.2.2.2).1
theorem Sh1.l3 {Q : Int32 → Prop} (s : Sh1 h a) (hj : j < 256) : wp (lI (wI h m) .int (a + 3) (nI j)) Q = Q (m (a + 3) j) := w_lI (h := wI h m) (show a + 3 < hN h by have := s.1; omega) (s.2.2.2.2).2 hj (by decide)
theorem Sh1.n3 {Q : Int32 → Prop} (s : Sh1 h a) : wp (aL (wI h m) .int (a + 3)) Q = Q (nI 256) := w_aL (h := wI h m) (show a + 3 < hN h by have := s.1; omega) (s.2.2.2.2).2
theorem Sh1.t3 {Q : Hp → Prop} (s : Sh1 h a) (hj : j < 256) : wp (tI (wI h m) (a + 3) (nI j) v) Q = Q (wI h (up m (a + 3) j v)) := w_tI (h := wI h m) (show a + 3 < hN h by have := s.1; omega) (s.2.2.2.2).2 hj (by decide)
end SH1
def Sh7 (h : Hp) (a : Nat) : Prop := a + 6 < hN h ∧ hS h a = .inl 7 ∧ (hR h a 1 = some (a + 1) ∧ hS h (a + 1) = .inr (.int, 60)) ∧ (hR h a 2 = some (a + 2) ∧ hS h (a + 2) = .inr (.int, 60)) ∧ (hR h a 3 = some (a + 3) ∧ hS h (a + 3) = .inr (.int, 60)) ∧ (hR h a 4 = some (a + 4) ∧ hS h (a + 4) = .inr (.int, 60)) ∧ (hR h a 5 = some (a + 5) ∧ hS h (a + 5) = .inr (.byte, 1020)) ∧ (hR h a 6 = some (a + 6) ∧ hS h (a + 6) = .inr (.int, 160))
section SH7
variable {h : Hp} {m : Mem} {a : Nat} {v : Int32} {j : Nat}
theorem Sh7.w (s : Sh7 h a) (m' : Mem) : Sh7 (wI h m') a := s
theorem Sh7.lt (s : Sh7 h a) : a < hN h := (show a < hN h by have := s.1; omega)
theorem Sh7.o {Q : Unit → Prop} (s : Sh7 h a) : wp (gO (wI h m) 7 a) Q = Q () := w_gO (h := wI h m) s.lt s.2.1
theorem Sh7.g0 {Q : Int32 → Prop} (s : Sh7 h a) : wp (gI (wI h m) 7 a 0) Q = Q (m a 0) := w_gI (h := wI h m) s.lt s.2.1
theorem Sh7.p0 {Q : Hp → Prop} (s : Sh7 h a) : wp (pI (wI h m) 7 a 0 v) Q = Q (wI h (up m a 0 v)) := w_pI (h := wI h m) s.lt s.2.1
theorem Sh7.r1 {Q : Nat → Prop} (s : Sh7 h a) : wp (gR (wI h m) 7 a 1) Q = Q (a + 1) := w_gR (h := wI h m) s.lt s.2.1 (s.2.2.1).1
theorem Sh7.l1 {Q : Int32 → Prop} (s : Sh7 h a) (hj : j < 60) : wp (lI (wI h m) .int (a + 1) (nI j)) Q = Q (m (a + 1) j) := w_lI (h := wI h m) (show a + 1 < hN h by have := s.1; omega) (s.2.2.1).2 hj (by decide)
theorem Sh7.n1 {Q : Int32 → Prop} (s : Sh7 h a) : wp (aL (wI h m) .int (a + 1)) Q = Q (nI 60) := w_aL (h := wI h m) (show a + 1 < hN h by have := s.1; omega) (s.2.2.1).2
theorem Sh7.t1 {Q : Hp → Prop} (s : Sh7 h a) (hj : j < 60) : wp (tI (wI h m) (a + 1) (nI j) v) Q = Q (wI h (up m (a + 1) j v)) := w_tI (h := wI h m) (show a + 1 < hN h by have := s.1; omega) (s.2.2.1).2 hj (by decide)
theorem Sh7.r2 {Q : Nat → Prop} (s : Sh7 h a) : wp (gR (wI h m) 7 a 2) Q = Q (a + 2) := w_gR (h := wI h m) s.lt s.2.1 (s.2.2.2.1).1
theorem Sh7.l2 {Q : Int32 → Prop} (s : Sh7 h a) (hj : j < 60) : wp (lI (wI h m) .int (a + 2) (nI j)) Q = Q (m (a + 2) j) := w_lI (h := wI h m) (show a + 2 < hN h by have := s.1; omega) (s.2.2.2.1).2 hj (by decide)
theorem Sh7.n2 {Q : Int32 → Prop} (s : Sh7 h a) : wp (aL (wI h m) .int (a + 2)) Q = Q (nI 60) := w_aL (h := wI h m) (show a + 2 < hN h by have := s.1; omega) (s.2.2.2.1).2
theorem Sh7.t2 {Q : Hp → Prop} (s : Sh7 h a) (hj : j < 60) : wp (tI (wI h m) (a + 2) (nI j) v) Q = Q (wI h (up m (a + 2) j v)) := w_tI (h := wI h m) (show a + 2 < hN h by have := s.1; omega) (s.2.2.2.1).2 hj (by decide)
theorem Sh7.r3 {Q : Nat → Prop} (s : Sh7 h a) : wp (gR (wI h m) 7 a 3) Q = Q (a + 3) := w_gR (h := wI h m) s.lt s.2.1 (s.2.2.2.2.1).1
theorem Sh7.l3 {Q : Int32 → Prop} (s : Sh7 h a) (hj : j < 60) : wp (lI (wI h m) .int (a + 3) (nI j)) Q = Q (m (a + 3) j) := w_lI (h := wI h m) (show a + 3 < hN h by have := s.1; omega) (s.2.2.2.2.1).2 hj (by decide)
theorem Sh7.n3 {Q : Int32 → Prop} (s : Sh7 h a) : wp (aL (wI h m) .int (a + 3)) Q = Q (nI 60) := w_aL (h := wI h m) (show a + 3 < hN h by have := s.1; omega) (s.2.2.2.2.1).2
theorem Sh7.t3 {Q : Hp → Prop} (s : Sh7 h a) (hj : j < 60) : wp (tI (wI h m) (a + 3) (nI j) v) Q = Q (wI h (up m (a + 3) j v)) := w_tI (h := wI h m) (show a + 3 < hN h by have := s.1; omega) (s.2.2.2.2.1).2 hj (by decide)
theorem Sh7.r4 {Q : Nat → Prop} (s : Sh7 h a) : wp (gR (wI h m) 7 a 4) Q = Q (a + 4) := w_gR (h := wI h m) s.lt s.2.1 (s.2.2.2.2.2.1).1
theorem Sh7.l4 {Q : Int32 → Prop} (s : Sh7 h a) (hj : j < 60) : wp (lI (wI h m) .int (a + 4) (nI j)) Q = Q (m (a + 4) j) := w_lI (h := wI h m) (show a + 4 < hN h by have := s.1; omega) (s.2.2.2.2.2.1).2 hj (by decide)
theorem Sh7.n4 {Q : Int32 → Prop} (s : Sh7 h a) : wp (aL (wI h m) .int (a + 4)) Q = Q (nI 60) := w_aL (h := wI h m) (show a + 4 < hN h by have := s.1; omega) (s.2.2.2.2.2.1).2
theorem Sh7.t4 {Q : Hp → Prop} (s : Sh7 h a) (hj : j < 60) : wp (tI (wI h m) (a + 4) (nI j) v) Q = Q (wI h (up m (a + 4) j v)) := w_tI (h := wI h m) (show a + 4 < hN h by have := s.1; omega) (s.2.2.2.2.2.1).2 hj (by decide)
theorem Sh7.r5 {Q : Nat → Prop} (s : Sh7 h a) : wp (gR (wI h m) 7 a 5) Q = Q (a + 5) := w_gR (h := wI h m) s.lt s.2.1 (s.2.2.2.2.2.2.1).1
theorem Sh7.l5 {Q : Int32 → Prop} (s : Sh7 h a) (hj : j < 1020) : wp (lI (wI h m) .byte (a + 5) (nI j)) Q = Q (m (a + 5) j) := w_lI (h := wI h m) (show a + 5 < hN h by have := s.1; omega) (s.2.2.2.2.2.2.1).2 hj (by decide)
theorem Sh7.n5 {Q : Int32 → Prop} (s : Sh7 h a) : wp (aL (wI h m) .byte (a + 5)) Q = Q (nI 1020) := w_aL (h := wI h m) (show a + 5 < hN h by have := s.1; omega) (s.2.2.2.2.2.2.1).2
theorem Sh7.t5 {Q : Hp → Prop} (s : Sh7 h a) (hj : j < 1020) : wp (tB (wI h m) (a + 5) (nI j) v) Q = Q (wI h (up m (a + 5) j v.toInt8.toInt32)) := wp_eq (tB_ok (h := wI h m) (show a + 5 < hN h by have := s.1; omega) (s.2.2.2.2.2.2.1).2 hj (by decide))
theorem Sh7.r6 {Q : Nat → Prop} (s : Sh7 h a) : wp (gR (wI h m) 7 a 6) Q = Q (a + 6) := w_gR (h := wI h m) s.lt s.2.1 (s.2.2.2.2.2.2.2).1
theorem Sh7.l6 {Q : Int32 → Prop} (s : Sh7 h a) (hj : j < 160) : wp (lI (wI h m) .int (a + 6) (nI j)) Q = Q (m (a + 6) j) := w_lI (h := wI h m) (show a + 6 < hN h by have := s.1; omega) (s.2.2.2.2.2.2.2).2 hj (by decide)
theorem Sh7.n6 {Q : Int32 → Prop} (s : Sh7 h a) : wp (aL (wI h m) .int (a + 6)) Q = Q (nI 160) := w_aL (h := wI h m) (show a + 6 < hN h by have := s.1; omega) (s.2.2.2.2.2.2.2).2
theorem Sh7.t6 {Q : Hp → Prop} (s : Sh7 h a) (hj : j < 160) : wp (tI (wI h m) (a + 6) (nI j) v) Q = Q (wI h (up m (a + 6) j v)) := w_tI (h := wI h m) (show a + 6 < hN h by have := s.1; omega) (s.2.2.2.2.2.2.2).2 hj (by decide)
end SH7
def Sh3 (h : Hp) (a : Nat) : Prop := a + 14 < hN h ∧ hS h a = .inl 3 ∧ (hR h a 0 = some (a + 1) ∧ hS h (a + 1) = .inr (.int, 72)) ∧ (hR h a 1 = some (a + 2) ∧ hS h (a + 2) = .inr (.int, 6)) ∧ (hR h a 2 = some (a + 3) ∧ hS h (a + 3) = .inr (.int, 16)) ∧ (hR h a 3 = some (a + 4) ∧ Sh1 h (a + 4)) ∧ (hR h a 4 = some (a + 8) ∧ Sh7 h (a + 8))
section SH3
variable {h : Hp} {m : Mem} {a : Nat} {v : Int32} {j : Nat}
theorem Sh3.w (s : Sh3 h a) (m' : Mem) : Sh3 (wI h m') a := s
theorem Sh3.lt (s : Sh3 h a) : a < hN h := (show a < hN h by have := s.1; omega)
theorem Sh3.o {Q : Unit → Prop} (s : Sh3 h a) : wp (gO (wI h m) 3 a) Q = Q () := w_gO (h := wI h m) s.lt s.2.1
theorem Sh3.g5 {Q : Int32 → Prop} (s : Sh3 h a) : wp (gI (wI h m) 3 a 5) Q = Q (m a 5) := w_gI (h := wI h m) s.lt s.2.1
theorem Sh3.p5 {Q : Hp → Prop} (s : Sh3 h a) : wp (pI (wI h m) 3 a 5 v) Q = Q (wI h (up m a 5 v)) := w_pI (h := wI h m) s.lt s.2.1
theorem Sh3.g6 {Q : Int32 → Prop} (s : Sh3 h a) : wp (gI (wI h m) 3 a 6) Q = Q (m a 6) := w_gI (h := wI h m) s.lt s.2.1
theorem Sh3.p6 {Q : Hp → Prop} (s : Sh3 h a) : wp (pI (wI h m) 3 a 6 v) Q = Q (wI h (up m a 6 v)) := w_pI (h := wI h m) s.lt s.2.1
theorem Sh3.q7 {Q : Nat → Prop} (s : Sh3 h a) : wp (gR (wI h m) 3 a 7) Q = wp (hR h a 7) Q := congrArg (fun o => wp o Q) (gR_ok (h := wI h m) s.lt s.2.1)
theorem Sh3.d7 {Q : Hp → Prop} {x : Nat} (s : Sh3 h a) : wp (pR (wI h m) 3 a 7 x) Q = Q (wI (sR h a 7 (some x)) m) := wp_eq (by unfold pR; rw [gO_ok (h := wI h m) s.lt s.2.1]; rfl)
theorem Sh3.r0 {Q : Nat → Prop} (s : Sh3 h a) : wp (gR (wI h m) 3 a 0) Q = Q (a + 1) := w_gR (h := wI h m) s.lt s.2.1 (s.2.2.1).1
theorem Sh3.l0 {Q : Int32 → Prop} (s : Sh3 h a) (hj : j < 72) : wp (lI (wI h m) .int (a + 1) (nI j)) Q = Q (m (a + 1) j) := w_lI (h := wI h m) (show a + 1 < hN h by have := s.1; omega) (s.2.2.1).2 hj (by decide)
theorem Sh3.n0 {Q : Int32 → Prop} (s : Sh3 h a) : wp (aL (wI h m) .int (a + 1)) Q = Q (nI 72) := w_aL (h := wI h m) (show a + 1 < hN h by have := s.1; omega) (s.2.2.1).2
theorem Sh3.t0 {Q : Hp → Prop} (s : Sh3 h a) (hj : j < 72) : wp (tI (wI h m) (a + 1) (nI j) v) Q = Q (wI h (up m (a + 1) j v)) := w_tI (h := wI h m) (show a + 1 < hN h by have := s.1; omega) (s.2.2.1).2 hj (by decide)
theorem Sh3.r1 {Q : Nat → Prop} (s : Sh3 h a) : wp (gR (wI h m) 3 a 1) Q = Q (a + 2) := w_gR (h := wI h m) s.lt s.2.1 (s.2.2.2.1).1
theorem Sh3.l1 {Q : Int32 → Prop} (s : Sh3 h a) (hj : j < 6) : wp (lI (wI h m) .int (a + 2) (nI j)) Q = Q (m (a + 2) j) := w_lI (h := wI h m) (show a + 2 < hN h by have := s.1; omega) (s.2.2.2.1).2 hj (by decide)
theorem Sh3.n1 {Q : Int32 → Prop} (s : Sh3 h a) : wp (aL (wI h m) .int (a + 2)) Q = Q (nI 6) := w_aL (h := wI h m) (show a + 2 < hN h by have := s.1; omega) (s.2.2.2.1).2
theorem Sh3.t1 {Q : Hp → Prop} (s : Sh3 h a) (hj : j < 6) : wp (tI (wI h m) (a + 2) (nI j) v) Q = Q (wI h (up m (a + 2) j v)) := w_tI (h := wI h m) (show a + 2 < hN h by have := s.1; omega) (s.2.2.2.1).2 hj (by decide)
theorem Sh3.r2 {Q : Nat → Prop} (s : Sh3 h a) : wp (gR (wI h m) 3 a 2) Q = Q (a + 3) := w_gR (h := wI h m) s.lt s.2.1 (s.2.2.2.2.1).1
theorem Sh3.l2 {Q : Int32 → Prop} (s : Sh3 h a) (hj : j < 16) : wp (lI (wI h m) .int (a + 3) (nI j)) Q = Q (m (a + 3) j) := w_lI (h := wI h m) (show a + 3 < hN h by have := s.1; omega) (s.2.2.2.2.1).2 hj (by decide)
theorem Sh3.n2 {Q : Int32 → Prop} (s : Sh3 h a) : wp (aL (wI h m) .int (a + 3)) Q = Q (nI 16) := w_aL (h := wI h m) (show a + 3 < hN h by have := s.1; omega) (s.2.2.2.2.1).2
theorem Sh3.t2 {Q : Hp → Prop} (s : Sh3 h a) (hj : j < 16) : wp (tI (wI h m) (a + 3) (nI j) v) Q = Q (wI h (up m (a + 3) j v)) := w_tI (h := wI h m) (show a + 3 < hN h by have := s.1; omega) (s.2.2.2.2.1).2 hj (by decide)
theorem Sh3.r3 {Q : Nat → Prop} (s : Sh3 h a) : wp (gR (wI h m) 3 a 3) Q = Q (a + 4) := w_gR (h := wI h m) s.lt s.2.1 (s.2.2.2.2.2.1).1
theorem Sh3.s3 (s : Sh3 h a) : Sh1 h (a + 4) := (s.2.2.2.2.2.1).2
theorem Sh3.r4 {Q : Nat → Prop} (s : Sh3 h a) : wp (gR (wI h m) 3 a 4) Q = Q (a + 8) := w_gR (h := wI h m) s.lt s.2.1 (s.2.2.2.2.2.2).1
theorem Sh3.s4 (s : Sh3 h a) : Sh7 h (a + 8) := (s.2.2.2.2.2.2).2
end SH3
def Sh9 (h : Hp) (a : Nat) : Prop := a + 5 < hN h ∧ hS h a = .inl 9 ∧ (hR h a 8 = some (a + 4) ∧ hS h (a + 4) = .inr (.int, 10)) ∧ (hR h a 9 = some (a + 5) ∧ hS h (a + 5) = .inr (.int, 10)) ∧ (hR h a 0 = some (a + 1) ∧ Sh10 h (a + 1))
section SH9
variable {h : Hp} {m : Mem} {a : Nat} {v : Int32} {j : Nat}
theorem Sh9.w (s : Sh9 h a) (m' : Mem) : Sh9 (wI h m') a := s
theorem Sh9.lt (s : Sh9 h a) : a < hN h := (show a < hN h by have := s.1; omega)
theorem Sh9.o {Q : Unit → Prop} (s : Sh9 h a) : wp (gO (wI h m) 9 a) Q = Q () := w_gO (h := wI h m) s.lt s.2.1
theorem Sh9.g3 {Q : Int32 → Prop} (s : Sh9 h a) : wp (gI (wI h m) 9 a 3) Q = Q (m a 3) := w_gI (h := wI h m) s.lt s.2.1
theorem Sh9.p3 {Q : Hp → Prop} (s : Sh9 h a) : wp (pI (wI h m) 9 a 3 v) Q = Q (wI h (up m a 3 v)) := w_pI (h := wI h m) s.lt s.2.1
theorem Sh9.g4 {Q : Int32 → Prop} (s : Sh9 h a) : wp (gI (wI h m) 9 a 4) Q = Q (m a 4) := w_gI (h := wI h m) s.lt s.2.1
theorem Sh9.p4 {Q : Hp → Prop} (s : Sh9 h a) : wp (pI (wI h m) 9 a 4 v) Q = Q (wI h (up m a 4 v)) := w_pI (h := wI h m) s.lt s.2.1
theorem Sh9.g5 {Q : Int32 → Prop} (s : Sh9 h a) : wp (gI (wI h m) 9 a 5) Q = Q (m a 5) := w_gI (h := wI h m) s.lt s.2.1
theorem Sh9.p5 {Q : Hp → Prop} (s : Sh9 h a) : wp (pI (wI h m) 9 a 5 v) Q = Q (wI h (up m a 5 v)) := w_pI (h := wI h m) s.lt s.2.1
theorem Sh9.g6 {Q : Int32 → Prop} (s : Sh9 h a) : wp (gI (wI h m) 9 a 6) Q = Q (m a 6) := w_gI (h := wI h m) s.lt s.2.1
theorem Sh9.p6 {Q : Hp → Prop} (s : Sh9 h a) : wp (pI (wI h m) 9 a 6 v) Q = Q (wI h (up m a 6 v)) := w_pI (h := wI h m) s.lt s.2.1
theorem Sh9.g7 {Q : Int32 → Prop} (s : Sh9 h a) : wp (gI (wI h m) 9 a 7) Q = Q (m a 7) := w_gI (h := wI h m) s.lt s.2.1
theorem Sh9.p7 {Q : Hp → Prop} (s : Sh9 h a) : wp (pI (wI h m) 9 a 7 v) Q = Q (wI h (up m a 7 v)) := w_pI (h := wI h m) s.lt s.2.1
theorem Sh9.q1 {Q : Nat → Prop} (s : Sh9 h a) : wp (gR (wI h m) 9 a 1) Q = wp (hR h a 1) Q := congrArg (fun o => wp o Q) (gR_ok (h := wI h m) s.lt s.2.1)
theorem Sh9.d1 {Q : Hp → Prop} {x : Nat} (s : Sh9 h a) : wp (pR (wI h m) 9 a 1 x) Q = Q (wI (sR h a 1 (some x)) m) := wp_eq (by unfold pR; rw [gO_ok (h := wI h m) s.lt s.2.1]; rfl)
theorem Sh9.q2 {Q : Nat → Prop} (s : Sh9 h a) : wp (gR (wI h m) 9 a 2) Q = wp (hR h a 2) Q := congrArg (fun o => wp o Q) (gR_ok (h := wI h m) s.lt s.2.1)
theorem Sh9.d2 {Q : Hp → Prop} {x : Nat} (s : Sh9 h a) : wp (pR (wI h m) 9 a 2 x) Q = Q (wI (sR h a 2 (some x)) m) := wp_eq (by unfold pR; rw [gO_ok (h := wI h m) s.lt s.2.1]; rfl)
theorem Sh9.r8 {Q : Nat → Prop} (s : Sh9 h a) : wp (gR (wI h m) 9 a 8) Q = Q (a + 4) := w_gR (h := wI h m) s.lt s.2.1 (s.2.2.1).1
theorem Sh9.l8 {Q : Int32 → Prop} (s : Sh9 h a) (hj : j < 10) : wp (lI (wI h m) .int (a + 4) (nI j)) Q = Q (m (a + 4) j) := w_lI (h := wI h m) (show a + 4 < hN h by have := s.1; omega) (s.2.2.1).2 hj (by decide)
theorem Sh9.n8 {Q : Int32 → Prop} (s : Sh9 h a) : wp (aL (wI h m) .int (a + 4)) Q = Q (nI 10) := w_aL (h := wI h m) (show a + 4 < hN h by have := s.1; omega) (s.2.2.1).2
theorem Sh9.t8 {Q : Hp → Prop} (s : Sh9 h a) (hj : j < 10) : wp (tI (wI h m) (a + 4) (nI j) v) Q = Q (wI h (up m (a + 4) j v)) := w_tI (h := wI h m) (show a + 4 < hN h by have := s.1; omega) (s.2.2.1).2 hj (by decide)
theorem Sh9.r9 {Q : Nat → Prop} (s : Sh9 h a) : wp (gR (wI h m) 9 a 9) Q = Q (a + 5) := w_gR (h := wI h m) s.lt s.2.1 (s.2.2.2.1).1
theorem Sh9.l9 {Q : Int32 → Prop} (s : Sh9 h a) (hj : j < 10) : wp (lI (wI h m) .int (a + 5) (nI j)) Q = Q (m (a + 5) j) := w_lI (h := wI h m) (show a + 5 < hN h by have := s.1; omega) (s.2.2.2.1).2 hj (by decide)
theorem Sh9.n9 {Q : Int32 → Prop} (s : Sh9 h a) : wp (aL (wI h m) .int (a + 5)) Q = Q (nI 10) := w_aL (h := wI h m) (show a + 5 < hN h by have := s.1; omega) (s.2.2.2.1).2
theorem Sh9.t9 {Q : Hp → Prop} (s : Sh9 h a) (hj : j < 10) : wp (tI (wI h m) (a + 5) (nI j) v) Q = Q (wI h (up m (a + 5) j v)) := w_tI (h := wI h m) (show a + 5 < hN h by have := s.1; omega) (s.2.2.2.1).2 hj (by decide)
theorem Sh9.r0 {Q : Nat → Prop} (s : Sh9 h a) : wp (gR (wI h m) 9 a 0) Q = Q (a + 1) := w_gR (h := wI h m) s.lt s.2.1 (s.2.2.2.2).1
theorem Sh9.s0 (s : Sh9 h a) : Sh10 h (a + 1) := (s.2.2.2.2).2
end SH9
def Sh4 (h : Hp) (a : Nat) : Prop := a + 9 < hN h ∧ hS h a = .inl 4 ∧ (hR h a 3 = some (a + 4) ∧ hS h (a + 4) = .inr (.int, 16)) ∧ (hR h a 2 = some (a + 1) ∧ Sh10 h (a + 1))
section SH4
variable {h : Hp} {m : Mem} {a : Nat} {v : Int32} {j : Nat}
theorem Sh4.w (s : Sh4 h a) (m' : Mem) : Sh4 (wI h m') a := s
theorem Sh4.lt (s : Sh4 h a) : a < hN h := (show a < hN h by have := s.1; omega)
theorem Sh4.o {Q : Unit → Prop} (s : Sh4 h a) : wp (gO (wI h m) 4 a) Q = Q () := w_gO (h := wI h m) s.lt s.2.1
theorem Sh4.g0 {Q : Int32 → Prop} (s : Sh4 h a) : wp (gI (wI h m) 4 a 0) Q = Q (m a 0) := w_gI (h := wI h m) s.lt s.2.1
theorem Sh4.p0 {Q : Hp → Prop} (s : Sh4 h a) : wp (pI (wI h m) 4 a 0 v) Q = Q (wI h (up m a 0 v)) := w_pI (h := wI h m) s.lt s.2.1
theorem Sh4.g1 {Q : Int32 → Prop} (s : Sh4 h a) : wp (gI (wI h m) 4 a 1) Q = Q (m a 1) := w_gI (h := wI h m) s.lt s.2.1
theorem Sh4.p1 {Q : Hp → Prop} (s : Sh4 h a) : wp (pI (wI h m) 4 a 1 v) Q = Q (wI h (up m a 1 v)) := w_pI (h := wI h m) s.lt s.2.1
theorem Sh4.r3 {Q : Nat → Prop} (s : Sh4 h a) : wp (gR (wI h m) 4 a 3) Q = Q (a + 4) := w_gR (h := wI h m) s.lt s.2.1 (s.2.2.1).1
theorem Sh4.l3 {Q : Int32 → Prop} (s : Sh4 h a) (hj : j < 16) : wp (lI (wI h m) .int (a + 4) (nI j)) Q = Q (m (a + 4) j) := w_lI (h := wI h m) (show a + 4 < hN h by have := s.1; omega) (s.2.2.1).2 hj (by decide)
theorem Sh4.n3 {Q : Int32 → Prop} (s : Sh4 h a) : wp (aL (wI h m) .int (a + 4)) Q = Q (nI 16) := w_aL (h := wI h m) (show a + 4 < hN h by have := s.1; omega) (s.2.2.1).2
theorem Sh4.t3 {Q : Hp → Prop} (s : Sh4 h a) (hj : j < 16) : wp (tI (wI h m) (a + 4) (nI j) v) Q = Q (wI h (up m (a + 4) j v)) := w_tI (h := wI h m) (show a + 4 < hN h by have := s.1; omega) (s.2.2.1).2 hj (by decide)
theorem Sh4.r2 {Q : Nat → Prop} (s : Sh4 h a) : wp (gR (wI h m) 4 a 2) Q = Q (a + 1) := w_gR (h := wI h m) s.lt s.2.1 (s.2.2.2).1
theorem Sh4.s2 (s : Sh4 h a) : Sh10 h (a + 1) := (s.2.2.2).2
end SH4
def Sh6 (h : Hp) (a : Nat) : Prop := a + 5 < hN h ∧ hS h a = .inl 6 ∧ (hR h a 9 = some (a + 2) ∧ hS h (a + 2) = .inr (.int, 24)) ∧ (hR h a 10 = some (a + 3) ∧ hS h (a + 3) = .inr (.int, 24)) ∧ (hR h a 11 = some (a + 4) ∧ hS h (a + 4) = .inr (.int, 24)) ∧ (hR h a 12 = some (a + 5) ∧ hS h (a + 5) = .inr (.int, 24))
section SH6
variable {h : Hp} {m : Mem} {a : Nat} {v : Int32} {j : Nat}
theorem Sh6.w (s : Sh6 h a) (m' : Mem) : Sh6 (wI h m') a := s
theorem Sh6.lt (s : Sh6 h a) : a < hN h := (show a < hN h by have := s.1; omega)
theorem Sh6.o {Q : Unit → Prop} (s : Sh6 h a) : wp (gO (wI h m) 6 a) Q = Q () := w_gO (h := wI h m) s.lt s.2.1
theorem Sh6.g0 {Q : Int32 → Prop} (s : Sh6 h a) : wp (gI (wI h m) 6 a 0) Q = Q (m a 0) := w_gI (h := wI h m) s.lt s.2.1
theorem Sh6.p0 {Q : Hp → Prop} (s : Sh6 h a) : wp (pI (wI h m) 6 a 0 v) Q = Q (wI h (up m a 0 v)) := w_pI (h := wI h m) s.lt s.2.1
theorem Sh6.g1 {Q : Int32 → Prop} (s : Sh6 h a) : wp (gI (wI h m) 6 a 1) Q = Q (m a 1) := w_gI (h := wI h m) s.lt s.2.1
theorem Sh6.p1 {Q : Hp → Prop} (s : Sh6 h a) : wp (pI (wI h m) 6 a 1 v) Q = Q (wI h (up m a 1 v)) := w_pI (h := wI h m) s.lt s.2.1
theorem Sh6.g3 {Q : Int32 → Prop} (s : Sh6 h a) : wp (gI (wI h m) 6 a 3) Q = Q (m a 3) := w_gI (h := wI h m) s.lt s.2.1
theorem Sh6.p3 {Q : Hp → Prop} (s : Sh6 h a) : wp (pI (wI h m) 6 a 3 v) Q = Q (wI h (up m a 3 v)) := w_pI (h := wI h m) s.lt s.2.1
theorem Sh6.g5 {Q : Int32 → Prop} (s : Sh6 h a) : wp (gI (wI h m) 6 a 5) Q = Q (m a 5) := w_gI (h := wI h m) s.lt s.2.1
theorem Sh6.p5 {Q : Hp → Prop} (s : Sh6 h a) : wp (pI (wI h m) 6 a 5 v) Q = Q (wI h (up m a 5 v)) := w_pI (h := wI h m) s.lt s.2.1
theorem Sh6.g6 {Q : Int32 → Prop} (s : Sh6 h a) : wp (gI (wI h m) 6 a 6) Q = Q (m a 6) := w_gI (h := wI h m) s.lt s.2.1
theorem Sh6.p6 {Q : Hp → Prop} (s : Sh6 h a) : wp (pI (wI h m) 6 a 6 v) Q = Q (wI h (up m a 6 v)) := w_pI (h := wI h m) s.lt s.2.1
theorem Sh6.g7 {Q : Int32 → Prop} (s : Sh6 h a) : wp (gI (wI h m) 6 a 7) Q = Q (m a 7) := w_gI (h := wI h m) s.lt s.2.1
theorem Sh6.p7 {Q : Hp → Prop} (s : Sh6 h a) : wp (pI (wI h m) 6 a 7 v) Q = Q (wI h (up m a 7 v)) := w_pI (h := wI h m) s.lt s.2.1
theorem Sh6.g8 {Q : Int32 → Prop} (s : Sh6 h a) : wp (gI (wI h m) 6 a 8) Q = Q (m a 8) := w_gI (h := wI h m) s.lt s.2.1
theorem Sh6.p8 {Q : Hp → Prop} (s : Sh6 h a) : wp (pI (wI h m) 6 a 8 v) Q = Q (wI h (up m a 8 v)) := w_pI (h := wI h m) s.lt s.2.1
theorem Sh6.q2 {Q : Nat → Prop} (s : Sh6 h a) : wp (gR (wI h m) 6 a 2) Q = wp (hR h a 2) Q := congrArg (fun o => wp o Q) (gR_ok (h := wI h m) s.lt s.2.1)
theorem Sh6.d2 {Q : Hp → Prop} {x : Nat} (s : Sh6 h a) : wp (pR (wI h m) 6 a 2 x) Q = Q (wI (sR h a 2 (some x)) m) := wp_eq (by unfold pR; rw [gO_ok (h := wI h m) s.lt s.2.1]; rfl)
theorem Sh6.q4 {Q : Nat → Prop} (s : Sh6 h a) : wp (gR (wI h m) 6 a 4) Q = wp (hR h a 4) Q := congrArg (fun o => wp o Q) (gR_ok (h := wI h m) s.lt s.2.1)
theorem Sh6.d4 {Q : Hp → Prop} {x : Nat} (s : Sh6 h a) : wp (pR (wI h m) 6 a 4 x) Q = Q (wI (sR h a 4 (some x)) m) := wp_eq (by unfold pR; rw [gO_ok (h := wI h m) s.lt s.2.1]; rfl)
theorem Sh6.r9 {Q : Nat → Prop} (s : Sh6 h a) : wp (gR (wI h m) 6 a 9) Q = Q (a + 2) := w_gR (h := wI h m) s.lt s.2.1 (s.2.2.1).1
theorem Sh6.l9 {Q : Int32 → Prop} (s : Sh6 h a) (hj : j < 24) : wp (lI (wI h m) .int (a + 2) (nI j)) Q = Q (m (a + 2) j) := w_lI (h := wI h m) (show a + 2 < hN h by have := s.1; omega) (s.2.2.1).2 hj (by decide)
theorem Sh6.n9 {Q : Int32 → Prop} (s : Sh6 h a) : wp (aL (wI h m) .int (a + 2)) Q = Q (nI 24) := w_aL (h := wI h m) (show a + 2 < hN h by have := s.1; omega) (s.2.2.1).2
theorem Sh6.t9 {Q : Hp → Prop} (s : Sh6 h a) (hj : j < 24) : wp (tI (wI h m) (a + 2) (nI j) v) Q = Q (wI h (up m (a + 2) j v)) := w_tI (h := wI h m) (show a + 2 < hN h by have := s.1; omega) (s.2.2.1).2 hj (by decide)
theorem Sh6.r10 {Q : Nat → Prop} (s : Sh6 h a) : wp (gR (wI h m) 6 a 10) Q = Q (a + 3) := w_gR (h := wI h m) s.lt s.2.1 (s.2.2.2.1).1
theorem Sh6.l10 {Q : Int32 → Prop} (s : Sh6 h a) (hj : j < 24) : wp (lI (wI h m) .int (a + 3) (nI j)) Q = Q (m (a + 3) j) := w_lI (h := wI h m) (show a + 3 < hN h by have := s.1; omega) (s.2.2.2.1).2 hj (by decide)
theorem Sh6.n10 {Q : Int32 → Prop} (s : Sh6 h a) : wp (aL (wI h m) .int (a + 3)) Q = Q (nI 24) := w_aL (h := wI h m) (show a + 3 < hN h by have := s.1; omega) (s.2.2.2.1).2
theorem Sh6.t10 {Q : Hp → Prop} (s : Sh6 h a) (hj : j < 24) : wp (tI (wI h m) (a + 3) (nI j) v) Q = Q (wI h (up m (a + 3) j v)) := w_tI (h := wI h m) (show a + 3 < hN h by have := s.1; omega) (s.2.2.2.1).2 hj (by decide)
theorem Sh6.r11 {Q : Nat → Prop} (s : Sh6 h a) : wp (gR (wI h m) 6 a 11) Q = Q (a + 4) := w_gR (h := wI h m) s.lt s.2.1 (s.2.2.2.2.1).1
theorem Sh6.l11 {Q : Int32 → Prop} (s : Sh6 h a) (hj : j < 24) : wp (lI (wI h m) .int (a + 4) (nI j)) Q = Q (m (a + 4) j) := w_lI (h := wI h m) (show a + 4 < hN h by have := s.1; omega) (s.2.2.2.2.1).2 hj (by decide)
theorem Sh6.n11 {Q : Int32 → Prop} (s : Sh6 h a) : wp (aL (wI h m) .int (a + 4)) Q = Q (nI 24) := w_aL (h := wI h m) (show a + 4 < hN h by have := s.1; omega) (s.2.2.2.2.1).2
theorem Sh6.t11 {Q : Hp → Prop} (s : Sh6 h a) (hj : j < 24) : wp (tI (wI h m) (a + 4) (nI j) v) Q = Q (wI h (up m (a + 4) j v)) := w_tI (h := wI h m) (show a + 4 < hN h by have := s.1; omega) (s.2.2.2.2.1).2 hj (by decide)
theorem Sh6.r12 {Q : Nat → Prop} (s : Sh6 h a) : wp (gR (wI h m) 6 a 12) Q = Q (a + 5) := w_gR (h := wI h m) s.lt s.2.1 (s.2.2.2.2.2).1
theorem Sh6.l12 {Q : Int32 → Prop} (s : Sh6 h a) (hj : j < 24) : wp (lI (wI h m) .int (a + 5) (nI j)) Q = Q (m (a + 5) j) := w_lI (h := wI h m) (show a + 5 < hN h by have := s.1; omega) (s.2.2.2.2.2).2 hj (by decide)
theorem Sh6.n12 {Q : Int32 → Prop} (s : Sh6 h a) : wp (aL (wI h m) .int (a + 5)) Q = Q (nI 24) := w_aL (h := wI h m) (show a + 5 < hN h by have := s.1; omega) (s.2.2.2.2.2).2
theorem Sh6.t12 {Q : Hp → Prop} (s : Sh6 h a) (hj : j < 24) : wp (tI (wI h m) (a + 5) (nI j) v) Q = Q (wI h (up m (a + 5) j v)) := w_tI (h := wI h m) (show a + 5 < hN h by have := s.1; omega) (s.2.2.2.2.2).2 hj (by decide)
end SH6
def Sh0 (h : Hp) (a : Nat) : Prop := a + 6 < hN h ∧ hS h a = .inl 0 ∧ (hR h a 0 = some (a + 1) ∧ hS h (a + 1) = .inr (.int, 64)) ∧ (hR h a 1 = some (a + 2) ∧ hS h (a + 2) = .inr (.int, 64)) ∧ (hR h a 2 = some (a + 3) ∧ hS h (a + 3) = .inr (.int, 64)) ∧ (hR h a 3 = some (a + 4) ∧ hS h (a + 4) = .inr (.int, 64)) ∧ (hR h a 4 = some (a + 5) ∧ hS h (a + 5) = .inr (.int, 64)) ∧ (hR h a 5 = some (a + 6) ∧ hS h (a + 6) = .inr (.int, 72))
section SH0
variable {h : Hp} {m : Mem} {a : Nat} {v : Int32} {j : Nat}
theorem Sh0.w (s : Sh0 h a) (m' : Mem) : Sh0 (wI h m') a := s
theorem Sh0.lt (s : Sh0 h a) : a < hN h := (show a < hN h by have := s.1; omega)
theorem Sh0.o {Q : Unit → Prop} (s : Sh0 h a) : wp (gO (wI h m) 0 a) Q = Q () := w_gO (h := wI h m) s.lt s.2.1
theorem Sh0.g7 {Q : Int32 → Prop} (s : Sh0 h a) : wp (gI (wI h m) 0 a 7) Q = Q (m a 7) := w_gI (h := wI h m) s.lt s.2.1
theorem Sh0.p7 {Q : Hp → Prop} (s : Sh0 h a) : wp (pI (wI h m) 0 a 7 v) Q = Q (wI h (up m a 7 v)) := w_pI (h := wI h m) s.lt s.2.1
theorem Sh0.g6 {Q : Int32 → Prop} (s : Sh0 h a) : wp (gI (wI h m) 0 a 6) Q = Q (m a 6) := w_gI (h := wI h m) s.lt s.2.1
theorem Sh0.z6 {Q : Hp → Prop} (s : Sh0 h a) (hv : v = 0 ∨ v = 1) : wp (pZ (wI h m) 0 a 6 v) Q = Q (wI h (up m a 6 v)) := wp_eq (by unfold pZ; rw [gO_ok (h := wI h m) s.lt s.2.1, Option.bind_some, if_pos hv]; rfl)
theorem Sh0.q8 {Q : Nat → Prop} (s : Sh0 h a) : wp (gR (wI h m) 0 a 8) Q = wp (hR h a 8) Q := congrArg (fun o => wp o Q) (gR_ok (h := wI h m) s.lt s.2.1)
theorem Sh0.d8 {Q : Hp → Prop} {x : Nat} (s : Sh0 h a) : wp (pR (wI h m) 0 a 8 x) Q = Q (wI (sR h a 8 (some x)) m) := wp_eq (by unfold pR; rw [gO_ok (h := wI h m) s.lt s.2.1]; rfl)
theorem Sh0.r0 {Q : Nat → Prop} (s : Sh0 h a) : wp (gR (wI h m) 0 a 0) Q = Q (a + 1) := w_gR (h := wI h m) s.lt s.2.1 (s.2.2.1).1
theorem Sh0.l0 {Q : Int32 → Prop} (s : Sh0 h a) (hj : j < 64) : wp (lI (wI h m) .int (a + 1) (nI j)) Q = Q (m (a + 1) j) := w_lI (h := wI h m) (show a + 1 < hN h by have := s.1; omega) (s.2.2.1).2 hj (by decide)
theorem Sh0.n0 {Q : Int32 → Prop} (s : Sh0 h a) : wp (aL (wI h m) .int (a + 1)) Q = Q (nI 64) := w_aL (h := wI h m) (show a + 1 < hN h by have := s.1; omega) (s.2.2.1).2
theorem Sh0.t0 {Q : Hp → Prop} (s : Sh0 h a) (hj : j < 64) : wp (tI (wI h m) (a + 1) (nI j) v) Q = Q (wI h (up m (a + 1) j v)) := w_tI (h := wI h m) (show a + 1 < hN h by have := s.1; omega) (s.2.2.1).2 hj (by decide)
theorem Sh0.r1 {Q : Nat → Prop} (s : Sh0 h a) : wp (gR (wI h m) 0 a 1) Q = Q (a + 2) := w_gR (h := wI h m) s.lt s.2.1 (s.2.2.2.1).1
theorem Sh0.l1 {Q : Int32 → Prop} (s : Sh0 h a) (hj : j < 64) : wp (lI (wI h m) .int (a + 2) (nI j)) Q = Q (m (a + 2) j) := w_lI (h := wI h m) (show a + 2 < hN h by have := s.1; omega) (s.2.2.2.1).2 hj (by decide)
theorem Sh0.n1 {Q : Int32 → Prop} (s : Sh0 h a) : wp (aL (wI h m) .int (a + 2)) Q = Q (nI 64) := w_aL (h := wI h m) (show a + 2 < hN h by have := s.1; omega) (s.2.2.2.1).2
theorem Sh0.t1 {Q : Hp → Prop} (s : Sh0 h a) (hj : j < 64) : wp (tI (wI h m) (a + 2) (nI j) v) Q = Q (wI h (up m (a + 2) j v)) := w_tI (h := wI h m) (show a + 2 < hN h by have := s.1; omega) (s.2.2.2.1).2 hj (by decide)
theorem Sh0.r2 {Q : Nat → Prop} (s : Sh0 h a) : wp (gR (wI h m) 0 a 2) Q = Q (a + 3) := w_gR (h := wI h m) s.lt s.2.1 (s.2.2.2.2.1).1
theorem Sh0.l2 {Q : Int32 → Prop} (s : Sh0 h a) (hj : j < 64) : wp (lI (wI h m) .int (a + 3) (nI j)) Q = Q (m (a + 3) j) := w_lI (h := wI h m) (show a + 3 < hN h by have := s.1; omega) (s.2.2.2.2.1).2 hj (by decide)
theorem Sh0.n2 {Q : Int32 → Prop} (s : Sh0 h a) : wp (aL (wI h m) .int (a + 3)) Q = Q (nI 64) := w_aL (h := wI h m) (show a + 3 < hN h by have := s.1; omega) (s.2.2.2.2.1).2
theorem Sh0.t2 {Q : Hp → Prop} (s : Sh0 h a) (hj : j < 64) : wp (tI (wI h m) (a + 3) (nI j) v) Q = Q (wI h (up m (a + 3) j v)) := w_tI (h := wI h m) (show a + 3 < hN h by have := s.1; omega) (s.2.2.2.2.1).2 hj (by decide)
theorem Sh0.r3 {Q : Nat → Prop} (s : Sh0 h a) : wp (gR (wI h m) 0 a 3) Q = Q (a + 4) := w_gR (h := wI h m) s.lt s.2.1 (s.2.2.2.2.2.1).1
theorem Sh0.l3 {Q : Int32 → Prop} (s : Sh0 h a) (hj : j < 64) : wp (lI (wI h m) .int (a + 4) (nI j)) Q = Q (m (a + 4) j) := w_lI (h := wI h m) (show a + 4 < hN h by have := s.1; omega) (s.2.2.2.2.2.1).2 hj (by decide)
theorem Sh0.n3 {Q : Int32 → Prop} (s : Sh0 h a) : wp (aL (wI h m) .int (a + 4)) Q = Q (nI 64) := w_aL (h := wI h m) (show a + 4 < hN h by have := s.1; omega) (s.2.2.2.2.2.1).2
theorem Sh0.t3 {Q : Hp → Prop} (s : Sh0 h a) (hj : j < 64) : wp (tI (wI h m) (a + 4) (nI j) v) Q = Q (wI h (up m (a + 4) j v)) := w_tI (h := wI h m) (show a + 4 < hN h by have := s.1; omega) (s.2.2.2.2.2.1).2 hj (by decide)
theorem Sh0.r4 {Q : Nat → Prop} (s : Sh0 h a) : wp (gR (wI h m) 0 a 4) Q = Q (a + 5) := w_gR (h := wI h m) s.lt s.2.1 (s.2.2.2.2.2.2.1).1
theorem Sh0.l4 {Q : Int32 → Prop} (s : Sh0 h a) (hj : j < 64) : wp (lI (wI h m) .int (a + 5) (nI j)) Q = Q (m (a + 5) j) := w_lI (h := wI h m) (show a + 5 < hN h by have := s.1; omega) (s.2.2.2.2.2.2.1).2 hj (by decide)
theorem Sh0.n4 {Q : Int32 → Prop} (s : Sh0 h a) : wp (aL (wI h m) .int (a + 5)) Q = Q (nI 64) := w_aL (h := wI h m) (show a + 5 < hN h by have := s.1; omega) (s.2.2.2.2.2.2.1).2
theorem Sh0.t4 {Q : Hp → Prop} (s : Sh0 h a) (hj : j < 64) : wp (tI (wI h m) (a + 5) (nI j) v) Q = Q (wI h (up m (a + 5) j v)) := w_tI (h := wI h m) (show a + 5 < hN h by have := s.1; omega) (s.2.2.2.2.2.2.1).2 hj (by decide)
theorem Sh0.r5 {Q : Nat → Prop} (s : Sh0 h a) : wp (gR (wI h m) 0 a 5) Q = Q (a + 6) := w_gR (h := wI h m) s.lt s.2.1 (s.2.2.2.2.2.2.2).1
theorem Sh0.l5 {Q : Int32 → Prop} (s : Sh0 h a) (hj : j < 72) : wp (lI (wI h m) .int (a + 6) (nI j)) Q = Q (m (a + 6) j) := w_lI (h := wI h m) (show a + 6 < hN h by have := s.1; omega) (s.2.2.2.2.2.2.2).2 hj (by decide)
theorem Sh0.n5 {Q : Int32 → Prop} (s : Sh0 h a) : wp (aL (wI h m) .int (a + 6)) Q = Q (nI 72) := w_aL (h := wI h m) (show a + 6 < hN h by have := s.1; omega) (s.2.2.2.2.2.2.2).2
theorem Sh0.t5 {Q : Hp → Prop} (s : Sh0 h a) (hj : j < 72) : wp (tI (wI h m) (a + 6) (nI j) v) Q = Q (wI h (up m (a + 6) j v)) := w_tI (h := wI h m) (show a + 6 < hN h by have := s.1; omega) (s.2.2.2.2.2.2.2).2 hj (by decide)
end SH0
def Sh2 (h : Hp) (a : Nat) : Prop := a + 1 < hN h ∧ hS h a = .inl 2 ∧ (hR h a 2 = some (a + 1) ∧ hS h (a + 1) = .inr ((.object RX3), 13))
section SH2
variable {h : Hp} {m : Mem} {a : Nat} {v : Int32} {j : Nat}
theorem Sh2.w (s : Sh2 h a) (m' : Mem) : Sh2 (wI h m') a := s
theorem Sh2.lt (s : Sh2 h a) : a < hN h := (show a < hN h by have := s.1; omega)
theorem Sh2.o {Q : Unit → Prop} (s : Sh2 h a) : wp (gO (wI h m) 2 a) Q = Q () := w_gO (h := wI h m) s.lt s.2.1
theorem Sh2.g0 {Q : Int32 → Prop} (s : Sh2 h a) : wp (gI (wI h m) 2 a 0) Q = Q (m a 0) := w_gI (h := wI h m) s.lt s.2.1
theorem Sh2.p0 {Q : Hp → Prop} (s : Sh2 h a) : wp (pI (wI h m) 2 a 0 v) Q = Q (wI h (up m a 0 v)) := w_pI (h := wI h m) s.lt s.2.1
theorem Sh2.g1 {Q : Int32 → Prop} (s : Sh2 h a) : wp (gI (wI h m) 2 a 1) Q = Q (m a 1) := w_gI (h := wI h m) s.lt s.2.1
theorem Sh2.p1 {Q : Hp → Prop} (s : Sh2 h a) : wp (pI (wI h m) 2 a 1 v) Q = Q (wI h (up m a 1 v)) := w_pI (h := wI h m) s.lt s.2.1
theorem Sh2.r2 {Q : Nat → Prop} (s : Sh2 h a) : wp (gR (wI h m) 2 a 2) Q = Q (a + 1) := w_gR (h := wI h m) s.lt s.2.1 (s.2.2).1
end SH2

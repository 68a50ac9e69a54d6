/-! the search of the class: its cells (written by mk_shape.py sides) -/
def Sh8 (h : Hp) (a : Nat) : Prop := a + 11 < hN h ∧ hS h a = .inl 8 ∧ (hR h a 5 = some (a + 1) ∧ hS h (a + 1) = .inr (.int, 78)) ∧ (hR h a 10 = some (a + 2) ∧ hS h (a + 2) = .inr (.long, 4000)) ∧ (hR h a 11 = some (a + 3) ∧ hS h (a + 3) = .inr (.long, 4000)) ∧ (hR h a 12 = some (a + 4) ∧ hS h (a + 4) = .inr (.int, 4000)) ∧ (hR h a 13 = some (a + 5) ∧ hS h (a + 5) = .inr (.int, 8192)) ∧ (hR h a 15 = some (a + 6) ∧ hS h (a + 6) = .inr (.int, 72)) ∧ (hR h a 16 = some (a + 7) ∧ hS h (a + 7) = .inr (.int, 6)) ∧ (hR h a 17 = some (a + 8) ∧ hS h (a + 8) = .inr (.int, 6)) ∧ (hR h a 18 = some (a + 9) ∧ Sh10 h (a + 9))
section SH8
variable {h : Hp} {m : Mem} {a : Nat} {v : Int32} {j : Nat}
theorem Sh8.w (s : Sh8 h a) (m' : Mem) : Sh8 (wI h m') a := s
theorem Sh8.lt (s : Sh8 h a) : a < hN h := (show a < hN h by have := s.1; omega)
theorem Sh8.o {Q : Unit → Prop} (s : Sh8 h a) : wp (gO (wI h m) 8 a) Q = Q () := w_gO (h := wI h m) s.lt s.2.1
theorem Sh8.g0 {Q : Int32 → Prop} (s : Sh8 h a) : wp (gI (wI h m) 8 a 0) Q = Q (m a 0) := w_gI (h := wI h m) s.lt s.2.1
theorem Sh8.p0 {Q : Hp → Prop} (s : Sh8 h a) : wp (pI (wI h m) 8 a 0 v) Q = Q (wI h (up m a 0 v)) := w_pI (h := wI h m) s.lt s.2.1
theorem Sh8.g1 {Q : Int32 → Prop} (s : Sh8 h a) : wp (gI (wI h m) 8 a 1) Q = Q (m a 1) := w_gI (h := wI h m) s.lt s.2.1
theorem Sh8.p1 {Q : Hp → Prop} (s : Sh8 h a) : wp (pI (wI h m) 8 a 1 v) Q = Q (wI h (up m a 1 v)) := w_pI (h := wI h m) s.lt s.2.1
theorem Sh8.g2 {Q : Int32 → Prop} (s : Sh8 h a) : wp (gI (wI h m) 8 a 2) Q = Q (m a 2) := w_gI (h := wI h m) s.lt s.2.1
theorem Sh8.p2 {Q : Hp → Prop} (s : Sh8 h a) : wp (pI (wI h m) 8 a 2 v) Q = Q (wI h (up m a 2 v)) := w_pI (h := wI h m) s.lt s.2.1
theorem Sh8.g3 {Q : Int32 → Prop} (s : Sh8 h a) : wp (gI (wI h m) 8 a 3) Q = Q (m a 3) := w_gI (h := wI h m) s.lt s.2.1
theorem Sh8.p3 {Q : Hp → Prop} (s : Sh8 h a) : wp (pI (wI h m) 8 a 3 v) Q = Q (wI h (up m a 3 v)) := w_pI (h := wI h m) s.lt s.2.1
theorem Sh8.g4 {Q : Int32 → Prop} (s : Sh8 h a) : wp (gI (wI h m) 8 a 4) Q = Q (m a 4) := w_gI (h := wI h m) s.lt s.2.1
theorem Sh8.p4 {Q : Hp → Prop} (s : Sh8 h a) : wp (pI (wI h m) 8 a 4 v) Q = Q (wI h (up m a 4 v)) := w_pI (h := wI h m) s.lt s.2.1
theorem Sh8.g8 {Q : Int32 → Prop} (s : Sh8 h a) : wp (gI (wI h m) 8 a 8) Q = Q (m a 8) := w_gI (h := wI h m) s.lt s.2.1
theorem Sh8.p8 {Q : Hp → Prop} (s : Sh8 h a) : wp (pI (wI h m) 8 a 8 v) Q = Q (wI h (up m a 8 v)) := w_pI (h := wI h m) s.lt s.2.1
theorem Sh8.g9 {Q : Int32 → Prop} (s : Sh8 h a) : wp (gI (wI h m) 8 a 9) Q = Q (m a 9) := w_gI (h := wI h m) s.lt s.2.1
theorem Sh8.p9 {Q : Hp → Prop} (s : Sh8 h a) : wp (pI (wI h m) 8 a 9 v) Q = Q (wI h (up m a 9 v)) := w_pI (h := wI h m) s.lt s.2.1
theorem Sh8.g14 {Q : Int32 → Prop} (s : Sh8 h a) : wp (gI (wI h m) 8 a 14) Q = Q (m a 14) := w_gI (h := wI h m) s.lt s.2.1
theorem Sh8.p14 {Q : Hp → Prop} (s : Sh8 h a) : wp (pI (wI h m) 8 a 14 v) Q = Q (wI h (up m a 14 v)) := w_pI (h := wI h m) s.lt s.2.1
theorem Sh8.q6 {Q : Nat → Prop} (s : Sh8 h a) : wp (gR (wI h m) 8 a 6) Q = wp (hR h a 6) Q := congrArg (fun o => wp o Q) (gR_ok (h := wI h m) s.lt s.2.1)
theorem Sh8.d6 {Q : Hp → Prop} {x : Nat} (s : Sh8 h a) : wp (pR (wI h m) 8 a 6 x) Q = Q (wI (sR h a 6 (some x)) m) := wp_eq (by unfold pR; rw [gO_ok (h := wI h m) s.lt s.2.1]; rfl)
theorem Sh8.q7 {Q : Nat → Prop} (s : Sh8 h a) : wp (gR (wI h m) 8 a 7) Q = wp (hR h a 7) Q := congrArg (fun o => wp o Q) (gR_ok (h := wI h m) s.lt s.2.1)
theorem Sh8.d7 {Q : Hp → Prop} {x : Nat} (s : Sh8 h a) : wp (pR (wI h m) 8 a 7 x) Q = Q (wI (sR h a 7 (some x)) m) := wp_eq (by unfold pR; rw [gO_ok (h := wI h m) s.lt s.2.1]; rfl)
theorem Sh8.r5 {Q : Nat → Prop} (s : Sh8 h a) : wp (gR (wI h m) 8 a 5) Q = Q (a + 1) := w_gR (h := wI h m) s.lt s.2.1 (s.2.2.1).1
theorem Sh8.l5 {Q : Int32 → Prop} (s : Sh8 h a) (hj : j < 78) : wp (lI (wI h m) .int (a + 1) (nI j)) Q = Q (m (a + 1) j) := w_lI (h := wI h m) (show a + 1 < hN h by have := s.1; omega) (s.2.2.1).2 hj (by decide)
theorem Sh8.n5 {Q : Int32 → Prop} (s : Sh8 h a) : wp (aL (wI h m) .int (a + 1)) Q = Q (nI 78) := w_aL (h := wI h m) (show a + 1 < hN h by have := s.1; omega) (s.2.2.1).2
theorem Sh8.t5 {Q : Hp → Prop} (s : Sh8 h a) (hj : j < 78) : wp (tI (wI h m) (a + 1) (nI j) v) Q = Q (wI h (up m (a + 1) j v)) := w_tI (h := wI h m) (show a + 1 < hN h by have := s.1; omega) (s.2.2.1).2 hj (by decide)
theorem Sh8.r10 {Q : Nat → Prop} (s : Sh8 h a) : wp (gR (wI h m) 8 a 10) Q = Q (a + 2) := w_gR (h := wI h m) s.lt s.2.1 (s.2.2.2.1).1
theorem Sh8.l10 {Q : Int64 → Prop} (s : Sh8 h a) (hj : j < 4000) : wp (lJ (wI h m) (a + 2) (nI j)) Q = Q (hJ h (a + 2) j) := wp_eq (lJ_ok (h := wI h m) (show a + 2 < hN h by have := s.1; omega) (s.2.2.2.1).2 hj (by decide))
theorem Sh8.t10 {Q : Hp → Prop} {w : Int64} (s : Sh8 h a) (hj : j < 4000) : wp (tJ (wI h m) (a + 2) (nI j) w) Q = Q (wI (sJ h (a + 2) j w) m) := wp_eq (tJ_ok (h := wI h m) (show a + 2 < hN h by have := s.1; omega) (s.2.2.2.1).2 hj (by decide))
theorem Sh8.r11 {Q : Nat → Prop} (s : Sh8 h a) : wp (gR (wI h m) 8 a 11) Q = Q (a + 3) := w_gR (h := wI h m) s.lt s.2.1 (s.2.2.2.2.1).1
theorem Sh8.l11 {Q : Int64 → Prop} (s : Sh8 h a) (hj : j < 4000) : wp (lJ (wI h m) (a + 3) (nI j)) Q = Q (hJ h (a + 3) j) := wp_eq (lJ_ok (h := wI h m) (show a + 3 < hN h by have := s.1; omega) (s.2.2.2.2.1).2 hj (by decide))
theorem Sh8.t11 {Q : Hp → Prop} {w : Int64} (s : Sh8 h a) (hj : j < 4000) : wp (tJ (wI h m) (a + 3) (nI j) w) Q = Q (wI (sJ h (a + 3) j w) m) := wp_eq (tJ_ok (h := wI h m) (show a + 3 < hN h by have := s.1; omega) (s.2.2.2.2.1).2 hj (by decide))
theorem Sh8.r12 {Q : Nat → Prop} (s : Sh8 h a) : wp (gR (wI h m) 8 a 12) Q = Q (a + 4) := w_gR (h := wI h m) s.lt s.2.1 (s.2.2.2.2.2.1).1
theorem Sh8.l12 {Q : Int32 → Prop} (s : Sh8 h a) (hj : j < 4000) : wp (lI (wI h m) .int (a + 4) (nI j)) Q = Q (m (a + 4) j) := w_lI (h := wI h m) (show a + 4 < hN h by have := s.1; omega) (s.2.2.2.2.2.1).2 hj (by decide)
theorem Sh8.n12 {Q : Int32 → Prop} (s : Sh8 h a) : wp (aL (wI h m) .int (a + 4)) Q = Q (nI 4000) := w_aL (h := wI h m) (show a + 4 < hN h by have := s.1; omega) (s.2.2.2.2.2.1).2
theorem Sh8.t12 {Q : Hp → Prop} (s : Sh8 h a) (hj : j < 4000) : wp (tI (wI h m) (a + 4) (nI j) v) Q = Q (wI h (up m (a + 4) j v)) := w_tI (h := wI h m) (show a + 4 < hN h by have := s.1; omega) (s.2.2.2.2.2.1).2 hj (by decide)
theorem Sh8.r13 {Q : Nat → Prop} (s : Sh8 h a) : wp (gR (wI h m) 8 a 13) Q = Q (a + 5) := w_gR (h := wI h m) s.lt s.2.1 (s.2.2.2.2.2.2.1).1
theorem Sh8.l13 {Q : Int32 → Prop} (s : Sh8 h a) (hj : j < 8192) : wp (lI (wI h m) .int (a + 5) (nI j)) Q = Q (m (a + 5) j) := w_lI (h := wI h m) (show a + 5 < hN h by have := s.1; omega) (s.2.2.2.2.2.2.1).2 hj (by decide)
theorem Sh8.n13 {Q : Int32 → Prop} (s : Sh8 h a) : wp (aL (wI h m) .int (a + 5)) Q = Q (nI 8192) := w_aL (h := wI h m) (show a + 5 < hN h by have := s.1; omega) (s.2.2.2.2.2.2.1).2
theorem Sh8.t13 {Q : Hp → Prop} (s : Sh8 h a) (hj : j < 8192) : wp (tI (wI h m) (a + 5) (nI j) v) Q = Q (wI h (up m (a + 5) j v)) := w_tI (h := wI h m) (show a + 5 < hN h by have := s.1; omega) (s.2.2.2.2.2.2.1).2 hj (by decide)
theorem Sh8.r15 {Q : Nat → Prop} (s : Sh8 h a) : wp (gR (wI h m) 8 a 15) Q = Q (a + 6) := w_gR (h := wI h m) s.lt s.2.1 (s.2.2.2.2.2.2.2.1).1
theorem Sh8.l15 {Q : Int32 → Prop} (s : Sh8 h a) (hj : j < 72) : wp (lI (wI h m) .int (a + 6) (nI j)) Q = Q (m (a + 6) j) := w_lI (h := wI h m) (show a + 6 < hN h by have := s.1; omega) (s.2.2.2.2.2.2.2.1).2 hj (by decide)
theorem Sh8.n15 {Q : Int32 → Prop} (s : Sh8 h a) : wp (aL (wI h m) .int (a + 6)) Q = Q (nI 72) := w_aL (h := wI h m) (show a + 6 < hN h by have := s.1; omega) (s.2.2.2.2.2.2.2.1).2
theorem Sh8.t15 {Q : Hp → Prop} (s : Sh8 h a) (hj : j < 72) : wp (tI (wI h m) (a + 6) (nI j) v) Q = Q (wI h (up m (a + 6) j v)) := w_tI (h := wI h m) (show a + 6 < hN h by have := s.1; omega) (s.2.2.2.2.2.2.2.1).2 hj (by decide)
theorem Sh8.r16 {Q : Nat → Prop} (s : Sh8 h a) : wp (gR (wI h m) 8 a 16) Q = Q (a + 7) := w_gR (h := wI h m) s.lt s.2.1 (s.2.2.2.2.2.2.2.2.1).1
theorem Sh8.l16 {Q : Int32 → Prop} (s : Sh8 h a) (hj : j < 6) : wp (lI (wI h m) .int (a + 7) (nI j)) Q = Q (m (a + 7) j) := w_lI (h := wI h m) (show a + 7 < hN h by have := s.1; omega) (s.2.2.2.2.2.2.2.2.1).2 hj (by decide)
theorem Sh8.n16 {Q : Int32 → Prop} (s : Sh8 h a) : wp (aL (wI h m) .int (a + 7)) Q = Q (nI 6) := w_aL (h := wI h m) (show a + 7 < hN h by have := s.1; omega) (s.2.2.2.2.2.2.2.2.1).2
theorem Sh8.t16 {Q : Hp → Prop} (s : Sh8 h a) (hj : j < 6) : wp (tI (wI h m) (a + 7) (nI j) v) Q = Q (wI h (up m (a + 7) j v)) := w_tI (h := wI h m) (show a + 7 < hN h by have := s.1; omega) (s.2.2.2.2.2.2.2.2.1).2 hj (by decide)
theorem Sh8.r17 {Q : Nat → Prop} (s : Sh8 h a) : wp (gR (wI h m) 8 a 17) Q = Q (a + 8) := w_gR (h := wI h m) s.lt s.2.1 (s.2.2.2.2.2.2.2.2.2.1).1
theorem Sh8.l17 {Q : Int32 → Prop} (s : Sh8 h a) (hj : j < 6) : wp (lI (wI h m) .int (a + 8) (nI j)) Q = Q (m (a + 8) j) := w_lI (h := wI h m) (show a + 8 < hN h by have := s.1; omega) (s.2.2.2.2.2.2.2.2.2.1).2 hj (by decide)
theorem Sh8.n17 {Q : Int32 → Prop} (s : Sh8 h a) : wp (aL (wI h m) .int (a + 8)) Q = Q (nI 6) := w_aL (h := wI h m) (show a + 8 < hN h by have := s.1; omega) (s.2.2.2.2.2.2.2.2.2.1).2
theorem Sh8.t17 {Q : Hp → Prop} (s : Sh8 h a) (hj : j < 6) : wp (tI (wI h m) (a + 8) (nI j) v) Q = Q (wI h (up m (a + 8) j v)) := w_tI (h := wI h m) (show a + 8 < hN h by have := s.1; omega) (s.2.2.2.2.2.2.2.2.2.1).2 hj (by decide)
theorem Sh8.r18 {Q : Nat → Prop} (s : Sh8 h a) : wp (gR (wI h m) 8 a 18) Q = Q (a + 9) := w_gR (h := wI h m) s.lt s.2.1 (s.2.2.2.2.2.2.2.2.2.2).1
theorem Sh8.s18 (s : Sh8 h a) : Sh10 h (a + 9) := (s.2.2.2.2.2.2.2.2.2.2).2
end SH8

/-! the tape -/
def pb (h : Hp) (n : Nat) (x : Int32) : Hp := sI (sI h 1 n x) 0 1 (nI (n + 1))
/-- what the class's tape needs of the heap -/
def TS (h : Hp) : Prop := 1 < hN h ∧ hS h 0 = .inl 11 ∧ hR h 0 0 = some 1 ∧ hS h 1 = .inr (.byte, 900)
theorem TS.pb {h : Hp} (t : TS h) (n : Nat) (x : Int32) : TS (pb h n x) := t
theorem pb_n {h : Hp} {n : Nat} {x : Int32} : hI (pb h n x) 0 1 = nI (n + 1) := hI_at
theorem tB_ok {h : Hp} {a n j : Nat} {v : Int32} (ha : a < hN h) (hs : hS h a = .inr (.byte, n)) (hj : j < n) (hn : n < 2 ^ 31) : tB h a (nI j) v = some (sI h a j v.toInt8.toInt32) := by
  unfold tB; rw [ga_ok ha hs]; show (ix (nI j) n).bind _ = _; rw [ix_nI hj hn]; rfl
theorem put_step {h : Hp} {n : Nat} {v i : Int32} (t : TS h) (hn : hI h 0 1 = nI n) (h9 : n < 900) (hi : ¬ i < 0) : bX11_putNumber_3 0 v (i, h) = some (.inl (i + (-8 : Int32), pb h n (((v.toUInt32 >>> (i.toUInt32 &&& Int32.toUInt32 31)).toInt32).toInt8.toInt32).toInt8.toInt32)) := by
  obtain ⟨t1, t2, t3, t4⟩ := t
  unfold bX11_putNumber_3
  rw [if_neg hi]
  show ((gR h 11 0 0).bind _) = _
  rw [gR_ok (by omega) t2, t3]
  show ((gI h 11 0 1).bind _) = _
  rw [gI_ok (by omega) t2, hn]
  show ((tB h 1 (nI n) _).bind _) = _
  rw [tB_ok t1 t4 h9 (by decide)]
  show ((gI (sI h 1 n _) 11 0 1).bind _) = _
  rw [gI_ok (h := sI h 1 n _) (show 0 < hN h by omega) t2, hI_ne (Or.inl (by decide)), hn]
  show ((pI (sI h 1 n _) 11 0 1 (nI n + 1)).bind _) = _
  rw [pI_ok (h := sI h 1 n _) (show 0 < hN h by omega) t2, nI_1]
  rfl
def by4 (v i : Int32) : Int32 := (((v.toUInt32 >>> (i.toUInt32 &&& Int32.toUInt32 31)).toInt32).toInt8.toInt32).toInt8.toInt32
def put4 (h : Hp) (n : Nat) (v : Int32) : Hp := pb (pb (pb (pb h n (by4 v 24)) (n + 1) (by4 v 16)) (n + 2) (by4 v 8)) (n + 3) (by4 v 0)
theorem c_put {h : Hp} {n : Nat} {v : Int32} (t : TS h) (hn : hI h 0 1 = nI n) (h9 : n + 4 ≤ 900) : fX11_putNumber h 0 v = some (put4 h n v) := by
  unfold fX11_putNumber
  have e : lp (bX11_putNumber_3 0 v) FU ((24 : Int32), h) = some (put4 h n v) := by
    show lp (bX11_putNumber_3 0 v) (999995 + 1 + 1 + 1 + 1 + 1) ((24 : Int32), h) = _
    rw [lp_l (put_step t hn (by omega) (by decide)), show (24 : Int32) + (-8 : Int32) = 16 by decide,
      lp_l (put_step (t.pb _ _) pb_n (by omega) (by decide)), show (16 : Int32) + (-8 : Int32) = 8 by decide,
      lp_l (put_step ((t.pb _ _).pb _ _) pb_n (by omega) (by decide)), show (8 : Int32) + (-8 : Int32) = 0 by decide,
      lp_l (put_step (((t.pb _ _).pb _ _).pb _ _) pb_n (by omega) (by decide)), show (0 : Int32) + (-8 : Int32) = -8 by decide]
    exact lp_r (if_pos (show (-8 : Int32) < 0 by decide))
  rw [e]; rfl
theorem put4_n {h : Hp} {n : Nat} {v : Int32} : hI (put4 h n v) 0 1 = nI (n + 4) := pb_n
theorem TS.put4 {h : Hp} (t : TS h) (n : Nat) (v : Int32) : TS (put4 h n v) := (((t.pb _ _).pb _ _).pb _ _).pb _ _
theorem TS.lt {h : Hp} (t : TS h) : 0 < hN h := Nat.lt_trans (by decide) t.1
/-- the class's feed -/
theorem c_feed {h : Hp} {n : Nat} {a b c d e : Int32} (t : TS h) (hn : hI h 0 1 = nI n) (h9 : n ≤ 900) : fX11_feed h 0 a b c d e = some (if n + 20 ≤ 900 then (nI (n + 20), put4 (put4 (put4 (put4 (put4 h n a) (n + 4) b) (n + 8) c) (n + 12) d) (n + 16) e) else (-1, h)) := by
  have hcmp : nI n + (20 : Int32) ≤ (900 : Int32) ↔ n + 20 ≤ 900 := by
    rw [show (20 : Int32) = nI 20 from rfl, nI_add, show (900 : Int32) = nI 900 from rfl]
    exact nI_leI (by omega) (by decide)
  unfold fX11_feed
  rw [gI_ok t.lt t.2.1, hn, Option.bind_some]
  by_cases h2 : n + 20 ≤ 900
  · rw [if_pos h2, if_pos (hcmp.mpr h2)]
    have t1 := t.put4 n a
    have e1 : hI (put4 h n a) 0 1 = nI (n + 4) := put4_n
    rw [gO_ok t.lt t.2.1, Option.bind_some, c_put t hn (by omega), Option.bind_some]
    generalize put4 h n a = h1 at t1 e1 ⊢
    have t2 := t1.put4 (n + 4) b
    have e2 : hI (put4 h1 (n + 4) b) 0 1 = nI (n + 8) := put4_n
    rw [gO_ok t1.lt t1.2.1, Option.bind_some, c_put t1 e1 (by omega), Option.bind_some]
    generalize put4 h1 (n + 4) b = h2 at t2 e2 ⊢
    have t3 := t2.put4 (n + 8) c
    have e3 : hI (put4 h2 (n + 8) c) 0 1 = nI (n + 12) := put4_n
    rw [gO_ok t2.lt t2.2.1, Option.bind_some, c_put t2 e2 (by omega), Option.bind_some]
    generalize put4 h2 (n + 8) c = h3 at t3 e3 ⊢
    have t4 := t3.put4 (n + 12) d
    have e4 : hI (put4 h3 (n + 12) d) 0 1 = nI (n + 16) := put4_n
    rw [gO_ok t3.lt t3.2.1, Option.bind_some, c_put t3 e3 (by omega), Option.bind_some]
    generalize put4 h3 (n + 12) d = h4 at t4 e4 ⊢
    have t5 := t4.put4 (n + 16) e
    have e5 : hI (put4 h4 (n + 16) e) 0 1 = nI (n + 20) := put4_n
    rw [gO_ok t4.lt t4.2.1, Option.bind_some, c_put t4 e4 (by omega), Option.bind_some]
    rw [gI_ok t5.lt t5.2.1, Option.bind_some, e5]
  · rw [if_neg h2, if_neg (fun z => h2 (hcmp.mp z))]
/-! the reference's feed -/
def rsh (y : Int32) (k : Nat) : Int32 := ((y >>> (((24 : Int32) - ((8 : Int32) * (nI k &&& (3 : Int32)))) &&& 31)).toInt8.toInt32).toInt8.toInt32
def rpk (a b c d e : Int32) (k : Nat) : Int32 := if k < 4 then a else if k < 8 then b else if k < 12 then c else if k < 16 then d else e
def rfM (m : Mem) (n : Nat) (a b c d e : Int32) : Nat → Mem
  | 0 => m
  | k + 1 => up (rfM m n a b c d e k) 10 (n + k) (rsh (rpk a b c d e k) k)
theorem rfM_f {m : Mem} {n : Nat} {a b c d e : Int32} {o j : Nat} (ho : o ≠ 10) : ∀ k, rfM m n a b c d e k o j = m o j
  | 0 => rfl
  | k + 1 => (up_ne (Or.inl ho)).trans (rfM_f ho k)
theorem r_feed_step {m : Mem} {n : Nat} {a b c d e : Int32} (hn : m 0 11 = nI n) (h9 : n + 20 ≤ 900) {k : Nat} (hk : k < 20) : gbX12_feed_18 a b c d e (nI k, rfM m n a b c d e k) = some (.inl (nI (k + 1), rfM m n a b c d e (k + 1))) := by
  have h0 : (rfM m n a b c d e k) 0 11 = nI n := (rfM_f (by decide) k).trans hn
  have core : ∀ y, gjX12_feed_71 a b c d e (nI k) y (rfM m n a b c d e k) = some (.inl (nI (k + 1), up (rfM m n a b c d e k) 10 (n + k) (rsh y k))) := by
    intro y
    unfold gjX12_feed_71 wrB
    rw [h0, nI_add, ix_nI (by omega) (by decide), Option.bind_some, Option.bind_some, nI_1, Option.bind_some]
    rfl
  have le : ∀ j : Nat, j < 100 → (nI j ≤ nI k ↔ j ≤ k) := fun j hj => nI_leI (by omega) (by omega)
  show (if nI 20 ≤ nI k then _ else if nI 4 ≤ nI k then (if nI 8 ≤ nI k then (if nI 12 ≤ nI k then (if nI 16 ≤ nI k then gjX12_feed_71 a b c d e (nI k) e (rfM m n a b c d e k) else gjX12_feed_71 a b c d e (nI k) d (rfM m n a b c d e k)) else gjX12_feed_71 a b c d e (nI k) c (rfM m n a b c d e k)) else gjX12_feed_71 a b c d e (nI k) b (rfM m n a b c d e k)) else gjX12_feed_71 a b c d e (nI k) a (rfM m n a b c d e k)) = some (.inl (nI (k + 1), up (rfM m n a b c d e k) 10 (n + k) (rsh (rpk a b c d e k) k)))
  simp only [core, le 20 (by decide), le 4 (by decide), le 8 (by decide), le 12 (by decide), le 16 (by decide)]
  rw [if_neg (by omega)]
  unfold rpk
  by_cases h4 : k < 4
  · rw [if_neg (by omega), if_pos h4]
  · rw [if_pos (by omega), if_neg h4]
    by_cases h8 : k < 8
    · rw [if_neg (by omega), if_pos h8]
    · rw [if_pos (by omega), if_neg h8]
      by_cases h12 : k < 12
      · rw [if_neg (by omega), if_pos h12]
      · rw [if_pos (by omega), if_neg h12]
        by_cases h16 : k < 16
        · rw [if_neg (by omega), if_pos h16]
        · rw [if_pos (by omega), if_neg h16]
theorem r_feed {m : Mem} {n : Nat} {a b c d e : Int32} (hn : m 0 11 = nI n) (h9 : n ≤ 900) : gX12_feed m a b c d e = some (if n + 20 ≤ 900 then (nI (n + 20), up (rfM m n a b c d e 20) 0 11 (nI (n + 20))) else (-1, m)) := by
  have hcmp : nI n + (20 : Int32) ≤ (900 : Int32) ↔ n + 20 ≤ 900 := by
    rw [show (20 : Int32) = nI 20 from rfl, nI_add, show (900 : Int32) = nI 900 from rfl]
    exact nI_leI (by omega) (by decide)
  unfold gX12_feed
  rw [hn]
  by_cases h2 : n + 20 ≤ 900
  · rw [if_pos h2, if_pos (hcmp.mpr h2)]
    have e1 : lp (gbX12_feed_18 a b c d e) FU ((0 : Int32), m) = some (rfM m n a b c d e 20) := by
      refine lp_for (fun k => (nI k, rfM m n a b c d e k)) 20 _ (fun j hj => r_feed_step hn h2 hj) ?_ 20 0 FU (by omega) (FU_lt (by decide))
      unfold gbX12_feed_18
      exact if_pos (show (20 : Int32) ≤ nI 20 by decide)
    rw [e1, Option.bind_some, Option.bind_some, rfM_f (by decide), hn, show (20 : Int32) = nI 20 from rfl, nI_add, up_at]
  · rw [if_neg h2, if_neg (fun z => h2 (hcmp.mp z))]

/-! numbers, as the functions have them, in one form: nI k, 0 and mI -/
theorem L_1 : (1 : Int32) = nI 1 := rfl
theorem L_2 : (2 : Int32) = nI 2 := rfl
theorem L_3 : (3 : Int32) = nI 3 := rfl
theorem L_4 : (4 : Int32) = nI 4 := rfl
theorem L_5 : (5 : Int32) = nI 5 := rfl
theorem L_6 : (6 : Int32) = nI 6 := rfl
theorem L_7 : (7 : Int32) = nI 7 := rfl
theorem L_8 : (8 : Int32) = nI 8 := rfl
theorem L_9 : (9 : Int32) = nI 9 := rfl
theorem L_10 : (10 : Int32) = nI 10 := rfl
theorem L_11 : (11 : Int32) = nI 11 := rfl
theorem L_12 : (12 : Int32) = nI 12 := rfl
theorem L_13 : (13 : Int32) = nI 13 := rfl
theorem L_14 : (14 : Int32) = nI 14 := rfl
theorem L_15 : (15 : Int32) = nI 15 := rfl
theorem L_16 : (16 : Int32) = nI 16 := rfl
theorem L_17 : (17 : Int32) = nI 17 := rfl
theorem L_18 : (18 : Int32) = nI 18 := rfl
theorem L_20 : (20 : Int32) = nI 20 := rfl
theorem L_21 : (21 : Int32) = nI 21 := rfl
theorem L_24 : (24 : Int32) = nI 24 := rfl
theorem L_31 : (31 : Int32) = nI 31 := rfl
theorem L_32 : (32 : Int32) = nI 32 := rfl
theorem L_42 : (42 : Int32) = nI 42 := rfl
theorem L_51 : (51 : Int32) = nI 51 := rfl
theorem L_59 : (59 : Int32) = nI 59 := rfl
theorem L_60 : (60 : Int32) = nI 60 := rfl
theorem L_63 : (63 : Int32) = nI 63 := rfl
theorem L_64 : (64 : Int32) = nI 64 := rfl
theorem L_71 : (71 : Int32) = nI 71 := rfl
theorem L_72 : (72 : Int32) = nI 72 := rfl
theorem L_78 : (78 : Int32) = nI 78 := rfl
theorem L_97 : (97 : Int32) = nI 97 := rfl
theorem L_122 : (122 : Int32) = nI 122 := rfl
theorem L_160 : (160 : Int32) = nI 160 := rfl
theorem L_255 : (255 : Int32) = nI 255 := rfl
theorem L_256 : (256 : Int32) = nI 256 := rfl
theorem L_272 : (272 : Int32) = nI 272 := rfl
theorem L_273 : (273 : Int32) = nI 273 := rfl
theorem L_900 : (900 : Int32) = nI 900 := rfl
theorem L_1020 : (1020 : Int32) = nI 1020 := rfl
theorem L_1533 : (1533 : Int32) = nI 1533 := rfl
theorem L_1539 : (1539 : Int32) = nI 1539 := rfl
theorem L_1540 : (1540 : Int32) = nI 1540 := rfl
theorem L_1541 : (1541 : Int32) = nI 1541 := rfl
theorem L_1613 : (1613 : Int32) = nI 1613 := rfl
theorem L_1685 : (1685 : Int32) = nI 1685 := rfl
theorem L_4000 : (4000 : Int32) = nI 4000 := rfl
theorem L_8191 : (8191 : Int32) = nI 8191 := rfl
theorem L_8192 : (8192 : Int32) = nI 8192 := rfl
theorem L_9685 : (9685 : Int32) = nI 9685 := rfl
theorem L_16383 : (16383 : Int32) = nI 16383 := rfl
theorem L_16384 : (16384 : Int32) = nI 16384 := rfl
theorem L_65535 : (65535 : Int32) = nI 65535 := rfl
theorem L_116220 : (116220 : Int32) = nI 116220 := rfl
theorem L_262144 : (262144 : Int32) = nI 262144 := rfl
theorem L_268435456 : (268435456 : Int32) = nI 268435456 := rfl
theorem i_le {a b : Nat} (ha : a < 2 ^ 31) (hb : b < 2 ^ 31) : (nI a ≤ nI b) = (a ≤ b) := propext (nI_leI ha hb)
theorem i_lt {a b : Nat} (ha : a < 2 ^ 31) (hb : b < 2 ^ 31) : (nI a < nI b) = (a < b) := propext (nI_ltI ha hb)
theorem i_eq {a b : Nat} (ha : a < 2 ^ 31) (hb : b < 2 ^ 31) : (nI a = nI b) = (a = b) := propext (nI_eq ha hb)
theorem z_le {j : Nat} (h : j < 2 ^ 31) : (nI j ≤ 0) = (j = 0) := by
  rw [← nI_0, i_le h (by decide)]; exact propext (by omega)
theorem z_lt {j : Nat} (h : j < 2 ^ 31) : (0 < nI j) = (0 < j) := by rw [← nI_0, i_lt (by decide) h]
theorem z_ge {j : Nat} (h : j < 2 ^ 31) : (0 ≤ nI j) = True := eq_true (nI_pos' h)
theorem z_eq {j : Nat} (h : j < 2 ^ 31) : (nI j = 0) = (j = 0) := propext (nI_z h)
theorem z_add (x : Int32) : 0 + x = x := Int32.zero_add x
theorem m_eq {j : Nat} (h : j < 2 ^ 31) : (nI j = mI) = False := eq_false (nI_m1 h)
theorem m_eq' {j : Nat} (h : j < 2 ^ 31) : (mI = nI j) = False := eq_false (fun e => nI_m1 h e.symm)
theorem m_le {j : Nat} (h : j < 2 ^ 31) : (mI ≤ nI j) = True := eq_true (by
  have := m1_lt h
  rw [Int32.lt_iff_toInt_lt] at this
  rw [Int32.le_iff_toInt_le]
  show (-1 : Int32).toInt ≤ _
  omega)
theorem m_lt {j : Nat} (h : j < 2 ^ 31) : (mI < nI j) = True := eq_true (m1_lt h)
theorem m_nlt {j : Nat} (h : j < 2 ^ 31) : (nI j < mI) = False := eq_false (fun e => by
  have := m1_lt h
  rw [Int32.lt_iff_toInt_lt] at this e
  change _ < (-1 : Int32).toInt at e
  omega)
theorem m_nle {j : Nat} (h : j < 2 ^ 31) : (nI j ≤ mI) = False := eq_false (fun e => by
  have := m1_lt h
  rw [Int32.lt_iff_toInt_lt] at this
  rw [Int32.le_iff_toInt_le] at e
  change _ ≤ (-1 : Int32).toInt at e
  omega)
theorem m_lt0 : (mI < 0) = True := eq_true (by decide)
theorem m_le0 : (mI ≤ 0) = True := eq_true (by decide)
theorem m_nge0 : (0 ≤ mI) = False := eq_false (by decide)
theorem m_ngt0 : (0 < mI) = False := eq_false (by decide)
theorem m_ne0 : (mI = 0) = False := eq_false (by decide)
theorem m_ne0' : (0 = mI) = False := eq_false (by decide)
theorem m_mm : (mI = mI) = True := eq_true rfl
theorem m_1 : mI + nI 1 = 0 := by decide
theorem i_sub {a b : Nat} (h : b ≤ a) : nI a - nI b = nI (a - b) := pk_sub h
theorem i_mul (a b : Nat) : nI a * nI b = nI (a * b) := pk_mul a b
theorem i_add (a b : Nat) : nI a + nI b = nI (a + b) := nI_add a b
theorem i_dec {p : Nat} (h : 0 < p) : nI p + mI = nI (p - 1) := sb_m1 h
theorem zz_le : ((0 : Int32) ≤ 0) = True := eq_true (by decide)
theorem zz_lt : ((0 : Int32) < 0) = False := eq_false (by decide)
theorem z_sub0 (x : Int32) : x - 0 = x := Int32.sub_zero x
theorem z_add0 (x : Int32) : x + 0 = x := Int32.add_zero x
theorem z_mul0 (x : Int32) : x * 0 = 0 := Int32.mul_zero
theorem z_0mul (x : Int32) : 0 * x = 0 := Int32.zero_mul
theorem up_a {m : Mem} {o j : Nat} {v : Int32} {j' : Nat} : up m o j v o j' = if j' = j then v else m o j' := by
  unfold up
  by_cases h : j' = j <;> simp [h]
theorem up_r {m : Mem} {o j : Nat} {v : Int32} {o' : Nat} (h : o' ≠ o) : up m o j v o' = m o' := by
  funext k; exact up_ne (Or.inl h)
section XA
variable {h : Hp} {m : Mem} {ty : FieldType} {a n j : Nat} {v : Int32}
theorem x_aL {Q : Int32 → Prop} (ha : a < hN h) (hs : hS h a = .inr (ty, n)) : wp (aL (wI h m) ty a) Q = Q (nI n) := w_aL (h := wI h m) ha hs
theorem x_lI {Q : Int32 → Prop} (ha : a < hN h) (hs : hS h a = .inr (ty, n)) (hj : j < n) (hn : n < 2 ^ 31) : wp (lI (wI h m) ty a (nI j)) Q = Q (m a j) := w_lI (h := wI h m) ha hs hj hn
theorem x_tI {Q : Hp → Prop} (ha : a < hN h) (hs : hS h a = .inr (.int, n)) (hj : j < n) (hn : n < 2 ^ 31) : wp (tI (wI h m) a (nI j) v) Q = Q (wI h (up m a j v)) := w_tI (h := wI h m) ha hs hj hn
end XA

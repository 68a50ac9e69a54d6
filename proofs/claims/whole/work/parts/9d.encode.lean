/-! a moment's numbers under steps and comers -/
section ENM
variable {st ow : Nat} {M : MO} {q l v t : Nat}
theorem en_adv (h : EN st ow M) (hq : q < 6) (hd : moD M q + 1 < 16) : EN (st + 2 ^ (4 * q)) ow (sbf (moD M) q (moD M q + 1), moC M, moA M, moW M) := by
  obtain ⟨a1, a2, a3, a4, a5, a6⟩ := h
  have f1 : fd (4 * q) 4 st + 1 < 2 ^ 4 := by rw [a3 q hq]; exact hd
  obtain ⟨b1, b2, b3⟩ := fd_add f1
  refine ⟨fd_add_lt f1 (by omega) a1, a2, fun p hp => ?_, fun p hp => ?_, fun l hl => ?_, a6⟩
  · show _ = sbf (moD M) q (moD M q + 1) p
    by_cases z : p = q
    · rw [z, sbf_at, b1, a3 q hq]
    · rw [sbf_ne z, fd_far b2 b3 (by omega)]; exact a3 p hp
  · rw [fd_far b2 b3 (by omega)]; exact a4 p hp
  · rw [fd_far b2 b3 (by omega)]; exact a5 l hl
theorem en_alone (h : EN st ow M) (hl : l < 10) : EN (st ||| 2 ^ (42 + l)) ow (moD M, moC M, sbf (moA M) l 1, moW M) := by
  obtain ⟨a1, a2, a3, a4, a5, a6⟩ := h
  refine ⟨Nat.or_lt_two_pow a1 (Nat.pow_lt_pow_right (by decide) (by omega)), a2, fun p hp => ?_, fun p hp => ?_, fun l' hl' => ?_, a6⟩
  · rw [fd_or_ne (by omega)]; exact a3 p hp
  · rw [fd_or_ne (by omega)]; exact a4 p hp
  · show _ = sbf (moA M) l 1 l'
    by_cases z : l' = l
    · have := fd_or_at (k := 42 + l) (n := st) (show 0 < 1 by decide)
      rw [Nat.add_zero] at this
      rw [z, sbf_at, this]
      have h2 := fd_lt (k := 42 + l) (w := 1) (n := st)
      rcases (by omega : fd (42 + l) 1 st = 0 ∨ fd (42 + l) 1 st = 1) with e | e <;> rw [e] <;> rfl
    · rw [sbf_ne z, fd_or_ne (by omega)]; exact a5 l' hl'
theorem en_free (h : EN st ow M) (hl : l < 10) : EN (clr st (42 + l)) ow (moD M, moC M, sbf (moA M) l 0, moW M) := by
  obtain ⟨a1, a2, a3, a4, a5, a6⟩ := h
  refine ⟨clr_lt a1, a2, fun p hp => ?_, fun p hp => ?_, fun l' hl' => ?_, a6⟩
  · rw [fd_clr_ne (by omega)]; exact a3 p hp
  · rw [fd_clr_ne (by omega)]; exact a4 p hp
  · show _ = sbf (moA M) l 0 l'
    by_cases z : l' = l
    · rw [z, sbf_at, fd_clr1]
    · rw [sbf_ne z, fd_clr_ne (by omega)]; exact a5 l' hl'
theorem en_own (h : EN st ow M) (hl : l < 10) (hq : q < 6) : EN st (ow ||| 2 ^ (6 * l + q)) (moD M, moC M, moA M, sbf (moW M) l (moW M l ||| 2 ^ q)) := by
  obtain ⟨a1, a2, a3, a4, a5, a6⟩ := h
  refine ⟨a1, Nat.or_lt_two_pow a2 (Nat.pow_lt_pow_right (by decide) (by omega)), a3, a4, a5, fun l' hl' => ?_⟩
  show _ = sbf (moW M) l (moW M l ||| 2 ^ q) l'
  by_cases z : l' = l
  · rw [z, sbf_at, fd_or_at hq, a6 l hl]
  · rw [sbf_ne z, fd_or_ne (by omega)]; exact a6 l' hl'
theorem en_disown (h : EN st ow M) (hl : l < 10) (hq : q < 6) (hb : (moW M l).testBit q = true) : EN st (clr ow (6 * l + q)) (moD M, moC M, moA M, sbf (moW M) l (moW M l ^^^ 2 ^ q)) := by
  obtain ⟨a1, a2, a3, a4, a5, a6⟩ := h
  refine ⟨a1, clr_lt a2, a3, a4, a5, fun l' hl' => ?_⟩
  show _ = sbf (moW M) l (moW M l ^^^ 2 ^ q) l'
  by_cases z : l' = l
  · rw [z, sbf_at, fd_clr_at hq (by rw [a6 l hl]; exact hb), a6 l hl]
  · rw [sbf_ne z, fd_clr_ne (by omega)]; exact a6 l' hl'
theorem en_come (h : EN st ow M) (hv : v < 6) (ht : t < 6) (h0 : moC M v = 0) : EN (st ||| (t + 1) * 2 ^ (24 + 3 * v)) ow (comeM M t v) := by
  obtain ⟨a1, a2, a3, a4, a5, a6⟩ := h
  obtain ⟨b1, b2⟩ := or_fd (k := 24 + 3 * v) (w := 3) (n := st) (v := t + 1) (by show t + 1 < 8; omega) (by rw [a4 v hv]; exact h0)
  refine ⟨Nat.or_lt_two_pow a1 ?_, a2, fun p hp => ?_, fun p hp => ?_, fun l hl => ?_, a6⟩
  · have e : 2 ^ 52 = 2 ^ (52 - (24 + 3 * v)) * 2 ^ (24 + 3 * v) := by rw [← Nat.pow_add]; congr 1; omega
    rw [e]
    refine Nat.mul_lt_mul_of_pos_right (Nat.lt_of_lt_of_le (show t + 1 < 2 ^ 3 by omega) (Nat.pow_le_pow_right (by decide) (by omega))) (Nat.two_pow_pos _)
  · rw [b2 _ _ (by omega)]; exact a3 p hp
  · show _ = sbf (moC M) v (t + 1) p
    by_cases z : p = v
    · rw [z, sbf_at, b1]
    · rw [sbf_ne z, b2 _ _ (by omega)]; exact a4 p hp
  · rw [b2 _ _ (by omega)]; exact a5 l hl
theorem en_0 : EN 0 0 (fun _ => 0, fun _ => 0, fun _ => 0, fun _ => 0) := ⟨by decide, by decide, fun _ _ => fd_0, fun _ _ => fd_0, fun _ _ => fd_0, fun _ _ => fd_0⟩
end ENM
/-! longs and ints -/
theorem lN_i32 (n : Nat) : (lN n).toInt32 = nI n := by
  apply Int32.toBitVec_inj.1
  show (BitVec.ofNat 64 n).signExtend 32 = BitVec.ofNat 32 n
  rw [BitVec.signExtend_eq_setWidth_of_le _ (by decide), BitVec.setWidth_ofNat_of_le (by decide)]
theorem i64_s : ∀ t, t < 64 → (nI t).toInt64 = lN t := by decide +kernel
theorem lN_inj {a b : Nat} (ha : a < 2 ^ 64) (hb : b < 2 ^ 64) : lN a = lN b ↔ a = b := by
  constructor
  · intro e
    have := congrArg (fun z => z.toBitVec.toNat) e
    simpa only [wb_tn ha, wb_tn hb] using this
  · rintro rfl; rfl
theorem wb_fd {n k w : Nat} (hn : n < 2 ^ 64) (hk : k < 64) (hw : w < 64) : ((lN n).toUInt64 >>> ((nI k).toInt64.toUInt64 &&& Int64.toUInt64 63)).toInt64 &&& lN (2 ^ w - 1) = lN (fd k w n) := by
  rw [wb_shr hn hk, wb_mask (Nat.lt_of_le_of_lt (Nat.div_le_self _ _) hn) hw]; rfl
theorem wb_clr {n j : Nat} (hn : n < 2 ^ 64) (hj : j < 64) : lN n &&& (lN (2 ^ j) ^^^ (-1 : Int64)) = lN (clr n j) := by
  apply wb_inj
  have e : (lN n &&& (lN (2 ^ j) ^^^ (-1 : Int64))).toBitVec = BitVec.ofNat 64 n &&& (BitVec.ofNat 64 (2 ^ j) ^^^ BitVec.allOnes 64) := by
    rw [Int64.toBitVec_and, Int64.toBitVec_xor, wb_tb, wb_tb]; rfl
  rw [e, wb_tb]
  apply BitVec.eq_of_getLsbD_eq
  intro i hi
  simp only [BitVec.getLsbD_and, BitVec.getLsbD_xor, BitVec.getLsbD_ofNat, BitVec.getLsbD_allOnes, hi, decide_true, Bool.true_and, clr_tb, Nat.testBit_two_pow]
  cases n.testBit i <;> cases decide (j = i) <;> rfl
theorem wb_1l {k : Nat} (hk : k < 64) : (1 : Int64) <<< ((nI k).toInt64 &&& 63) = lN (2 ^ k) := by
  have := wb_shl 1 hk
  rw [Nat.one_mul] at this
  exact this
theorem wb_add (a b : Nat) : lN a + lN b = lN (a + b) := by
  apply wb_inj
  rw [Int64.toBitVec_add, wb_tb, wb_tb, wb_tb, BitVec.ofNat_add]

/-! the class keeps a moment -/
theorem or_add {a b k : Nat} (hb : b < 2 ^ k) : a * 2 ^ k ||| b = a * 2 ^ k + b := by rw [← Nat.shiftLeft_eq, Nat.shiftLeft_add_eq_or_of_lt hb]
/-- where the class begins to look -/
def cH (x : Nat × Nat) : Nat := (((lN x.1 * (-7046029254386353131 : Int64)) ^^^ lN x.2) * (-4417276706812531889 : Int64)).toBitVec.toNat / 2 ^ 51
theorem cH_lt (x : Nat × Nat) : cH x < 8192 := by
  unfold cH
  have := (((lN x.1 * (-7046029254386353131 : Int64)) ^^^ lN x.2) * (-4417276706812531889 : Int64)).toBitVec.isLt
  omega
theorem cH_is (x : Int64) : ((x.toUInt64 >>> ((51 : Int32).toInt64.toUInt64 &&& Int64.toUInt64 63)).toInt64).toInt32 = nI (x.toBitVec.toNat / 2 ^ 51) := by
  have e : x = lN x.toBitVec.toNat := wb_inj (by rw [wb_tb]; simp)
  conv => lhs; rw [e]
  rw [L_51, wb_shr x.toBitVec.isLt (by decide), lN_i32]
/-- the class's table: what a slot holds of this turn -/
def CT (m : Mem) (a turn : Nat) (T : Nat → Option Nat) : Prop := m a 14 = nI turn ∧ turn < 2 ^ 18 ∧ ∀ s, s < 8192 → ∃ v, m (a + 5) s = nI v ∧ v < 2 ^ 31 ∧ v / 8192 ≤ turn ∧ T s = if v / 8192 = turn then some (v % 8192) else none
/-- the class's longs -/
def CJ (h : Hp) (a n : Nat) (ks : Nat → Nat × Nat) : Prop := ∀ j, j < n → hJ h (a + 2) j = lN (ks j).1 ∧ hJ h (a + 3) j = lN (ks j).2 ∧ (ks j).1 < 2 ^ 64 ∧ (ks j).2 < 2 ^ 64
section CKP
variable {h : Hp} {m : Mem} {a n turn : Nat} {ks : Nat → Nat × Nat} {T : Nat → Option Nat} {st ow : Nat}
theorem c_slotOf (s : Sh8 h a) (ct : CT m a turn T) (tb : TB 8192 cH n ks T) (hn : n ≤ 4000) (cj : CJ h a n ks) (h1 : st < 2 ^ 64) (h2 : ow < 2 ^ 64) : wp (fX8_slotOf (wI h m) a (lN st) (lN ow)) (fun r => (r = mI ∧ ∃ j, j < n ∧ ks j = (st, ow)) ∨ ((∀ j, j < n → ks j ≠ (st, ow)) ∧ ∃ d, d < 8192 ∧ r = nI ((cH (st, ow) + d) % 8192) ∧ T ((cH (st, ow) + d) % 8192) = none ∧ PB 8192 cH ks T (st, ow) d)) := by
  unfold fX8_slotOf
  rw [wp_bind, wp_some, wp_bind, wp_some, cH_is, wp_bind]
  refine wp_mono (Q := fun e => (e = .inr (.inr ()) ∧ ∃ j, j < n ∧ ks j = (st, ow)) ∨ ((∀ j, j < n → ks j ≠ (st, ow)) ∧ ∃ d, d < 8192 ∧ e = .inr (.inl (nI ((cH (st, ow) + d) % 8192))) ∧ T ((cH (st, ow) + d) % 8192) = none ∧ PB 8192 cH ks T (st, ow) d)) ?_ ?_
  · have lt := cH_lt (st, ow)
    have e0 : (nI ((((lN st * (-7046029254386353131 : Int64)) ^^^ lN ow) * (-4417276706812531889 : Int64)).toBitVec.toNat / 2 ^ 51), (0 : Int32)) = (fun (i : Nat) (_ : Unit) => (nI ((cH (st, ow) + i) % 8192), nI i)) 0 () := by
      show (nI (cH (st, ow)), (0 : Int32)) = (nI ((cH (st, ow) + 0) % 8192), nI 0)
      rw [Nat.add_zero, Nat.mod_eq_of_lt lt, nI_0]
    rw [e0]
    refine wp_for (κ := Unit) (fun i _ => (nI ((cH (st, ow) + i) % 8192), nI i)) 8192 (fun i _ => PB 8192 cH ks T (st, ow) i) (fun i _ hi hI => ?_) (fun _ hI => (tb.room (by omega) hI).elim) 0 () (Nat.zero_le _) (fun d' hd' => absurd hd' (Nat.not_lt_zero _)) (by decide)
    have sl : (cH (st, ow) + i) % 8192 < 8192 := Nat.mod_lt _ (by decide)
    obtain ⟨v, v1, v2, v3, v4⟩ := ct.2.2 _ sl
    have t18 := ct.2.1
    simp only [bX8_slotOf_24]
    rw [L_8192, wp_f (by rw [i_le (by decide) (by omega)]; omega), wp_bind, s.r13, wp_bind, s.l13 sl, v1, wp_bind, s.g14, ct.1, pk_ushrN (by omega) (13 : Int32) 13 (by decide)]
    by_cases z : v / 8192 = turn
    · rw [if_pos z] at v4
      have vn : v % 8192 < n := tb.1 _ _ sl v4
      rw [wp_t (by rw [← z]), wp_bind, s.r13, wp_bind, s.l13 sl, v1, wp_bind, wp_some, L_8191, nx_andn, show v &&& 8191 = v % 8192 from Nat.and_two_pow_sub_one_eq_mod v 13, wp_bind, s.r10, wp_bind, s.l10 (by omega), (cj _ vn).1]
      have next : ks (v % 8192) ≠ (st, ow) → wp (jX8_slotOf_91 a (lN st) (lN ow) (nI ((cH (st, ow) + i) % 8192)) (nI i) (wI h m)) (lq (fun s' => ∃ c' : Unit, s' = (nI ((cH (st, ow) + (i + 1)) % 8192), nI (i + 1)) ∧ PB 8192 cH ks T (st, ow) (i + 1)) (fun e => (e = .inr (.inr ()) ∧ ∃ j, j < n ∧ ks j = (st, ow)) ∨ ((∀ j, j < n → ks j ≠ (st, ow)) ∧ ∃ d, d < 8192 ∧ e = .inr (.inl (nI ((cH (st, ow) + d) % 8192))) ∧ T ((cH (st, ow) + d) % 8192) = none ∧ PB 8192 cH ks T (st, ow) d))) := by
        intro hk
        unfold jX8_slotOf_91
        rw [wp_bind, wp_some, wp_bind, wp_some, wp_some, lq_l, L_1, i_add, i_add, L_8191, nx_andn, show ((cH (st, ow) + i) % 8192 + 1) &&& 8191 = ((cH (st, ow) + i) % 8192 + 1) % 8192 from Nat.and_two_pow_sub_one_eq_mod _ 13, mod_next (by decide)]
        exact ⟨(), rfl, hI.next v4 hk⟩
      by_cases c1 : (ks (v % 8192)).1 = st
      · rw [wp_t (by rw [c1]; exact (lg_cmp_eq _ _).mpr rfl), wp_bind, s.r11, wp_bind, s.l11 (by omega), (cj _ vn).2.1]
        by_cases c2 : (ks (v % 8192)).2 = ow
        · rw [wp_t (by rw [c2]; exact (lg_cmp_eq _ _).mpr rfl), wp_some, lq_r]
          exact Or.inl ⟨rfl, _, vn, Prod.ext c1 c2⟩
        · rw [wp_f (fun e => c2 ((lN_inj (cj _ vn).2.2.2 h2).mp ((lg_cmp_eq _ _).mp e)))]
          exact next (fun e => c2 (by rw [e]))
      · rw [wp_f (fun e => c1 ((lN_inj (cj _ vn).2.2.1 h1).mp ((lg_cmp_eq _ _).mp e)))]
        exact next (fun e => c1 (by rw [e]))
    · rw [if_neg z] at v4
      rw [wp_f (by rw [i_eq (by omega) (by omega)]; exact z), wp_some, lq_r]
      exact Or.inr ⟨tb.miss hI v4, i, hi, rfl, v4, hI⟩
  · rintro e (⟨rfl, hj⟩ | ⟨hj, d, d1, rfl, d2, d3⟩)
    · show wp (some (-1 : Int32)) _
      rw [wp_some]; exact Or.inl ⟨rfl, hj⟩
    · show wp (some _) _
      rw [wp_some]; exact Or.inr ⟨hj, d, d1, rfl, d2, d3⟩
/-- what keeping gives -/
def KP (h : Hp) (m : Mem) (a n turn : Nat) (ks : Nat → Nat × Nat) (T : Nat → Option Nat) (st ow k : Nat) (r : Int32 × Hp) : Prop := (r = (0, wI h m) ∧ ∃ j, j < n ∧ ks j = (st, ow)) ∨ (r = (0, wI h (up m a 0 (nI 2))) ∧ n = 4000 ∧ ∀ j, j < n → ks j ≠ (st, ow)) ∨ (n ≠ 4000 ∧ (∀ j, j < n → ks j ≠ (st, ow)) ∧ ∃ d, d < 8192 ∧ T ((cH (st, ow) + d) % 8192) = none ∧ PB 8192 cH ks T (st, ow) d ∧ r = (1, wI (sJ (sJ h (a + 2) n (lN st)) (a + 3) n (lN ow)) (up (up (up m (a + 4) n (nI k)) (a + 5) ((cH (st, ow) + d) % 8192) (nI (turn * 8192 + n))) a 1 (nI (n + 1)))))
theorem c_keep {k : Nat} (s : Sh8 h a) (ct : CT m a turn T) (tb : TB 8192 cH n ks T) (hn : n ≤ 4000) (e1 : m a 1 = nI n) (cj : CJ h a n ks) (h1 : st < 2 ^ 64) (h2 : ow < 2 ^ 64) : wp (fX8_keep (wI h m) a (lN st) (lN ow) (nI k)) (KP h m a n turn ks T st ow k) := by
  unfold fX8_keep
  rw [wp_bind, s.o, wp_bind]
  refine wp_mono (c_slotOf s ct tb hn cj h1 h2) (fun r hr => ?_)
  rcases hr with ⟨rfl, hj⟩ | ⟨hj, d, d1, rfl, d2, d3⟩
  · rw [wp_t (show mI = -1 from rfl), wp_some]
    exact Or.inl ⟨rfl, hj⟩
  · have sl : (cH (st, ow) + d) % 8192 < 8192 := Nat.mod_lt _ (by decide)
    rw [mI_e, wp_f (fun e => by rw [m_eq (by omega)] at e; exact e), wp_bind, s.g1, e1, L_4000]
    by_cases z : n = 4000
    · rw [wp_t (by rw [z]), wp_bind, s.p0, wp_some]
      exact Or.inr (Or.inl ⟨rfl, z, hj⟩)
    · have t18 := ct.2.1
      have s1 : Sh8 (sJ h (a + 2) n (lN st)) a := s
      have s2 : Sh8 (sJ (sJ h (a + 2) n (lN st)) (a + 3) n (lN ow)) a := s
      rw [wp_f (by rw [i_eq (by omega) (by decide)]; exact z), wp_bind, s.r10, wp_bind, s.g1, e1, wp_bind, s.t10 (by omega)]
      rw [wp_bind, s1.r11, wp_bind, s1.g1, e1, wp_bind, s1.t11 (by omega)]
      rw [wp_bind, s2.r12, wp_bind, s2.g1, e1, wp_bind, s2.t12 (by omega)]
      rw [wp_bind, s2.r13, wp_bind, s2.g14, wp_bind, s2.g1, up_r (by omega), e1, ct.1, pk_shlN ((13 : Int32) &&& 31) 13 (by decide) (by omega), nx_or, or_add (show n < 2 ^ 13 by omega), wp_bind, s2.t13 sl]
      rw [wp_bind, s2.g1, up_r (by omega), up_r (by omega), e1, wp_bind, s2.p1, wp_some, L_1, i_add]
      exact Or.inr (Or.inr ⟨z, hj, d, d1, d2, d3, rfl⟩)
end CKP

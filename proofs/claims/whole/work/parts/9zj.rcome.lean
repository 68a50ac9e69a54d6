/-! the reference keeps a moment -/
theorem PQ_un {f : Nat → Nat} {w i n n' : Nat} (hw : 0 < w) (h : PQ f w i n) (h' : PQ f w i n') : n = n' := by
  apply Nat.eq_of_testBit_eq
  intro b
  by_cases z : b < w * i
  · have q : b / w < i := (Nat.div_lt_iff_lt_mul hw).mpr (by rw [Nat.mul_comm]; exact z)
    have r : b % w < w := Nat.mod_lt _ hw
    have e : b % w + w * (b / w) = b := Nat.mod_add_div b w
    have e1 := fd_tb (k := w * (b / w)) (w := w) (n := n) (i := b % w)
    have e2 := fd_tb (k := w * (b / w)) (w := w) (n := n') (i := b % w)
    rw [h.2 _ q, decide_eq_true r, Bool.true_and, e] at e1
    rw [h'.2 _ q, decide_eq_true r, Bool.true_and, e] at e2
    rw [← e1, e2]
  · have l := Nat.pow_le_pow_right (show 0 < 2 by decide) (show w * i ≤ b by omega)
    rw [Nat.testBit_lt_two_pow (Nat.lt_of_lt_of_le h.1 l), Nat.testBit_lt_two_pow (Nat.lt_of_lt_of_le h'.1 l)]
section RKY
variable {Pl : PD} {X : Nat} {M M' : MO} {K K' : Nat → Nat} {m m' : Mem} {n i j : Nat}
theorem PK.q (h : PK Pl X K M) : PQ (rdn Pl X M) 4 6 (K 0) ∧ PQ (rwh Pl X M) 3 6 (K 1) ∧ PQ (rho M) 3 10 (K 2) ∧ PQ (rsr M) 6 5 (K 3) ∧ PQ (fun l => rsr M (5 + l)) 6 5 (K 4) := by
  obtain ⟨b0, b1, b2, b3, b4, p1, p2⟩ := h
  refine ⟨⟨b0, fun p hp => (p1 p hp).1⟩, ⟨b1, fun p hp => (p1 p hp).2⟩, ⟨b2, fun l hl => (p2 l hl).1⟩, ⟨b3, fun l hl => ?_⟩, ⟨b4, fun l hl => ?_⟩⟩
  · have := (p2 l (by omega)).2
    rw [show l / 5 = 0 by omega, show l % 5 = l by omega] at this
    exact this
  · have := (p2 (5 + l) (by omega)).2
    rw [show (5 + l) / 5 = 1 by omega, show (5 + l) % 5 = l by omega] at this
    exact this
theorem pk_key (I : MOK Pl X M) (I' : MOK Pl X M') (h : PK Pl X K M) (h' : PK Pl X K' M') : (∀ e, e < 5 → K e = K' e) ↔ mEq M M' := by
  rw [← key_eq I I']
  constructor
  · intro hk
    refine ⟨fun p hp => ?_, fun l hl => ?_⟩
    · obtain ⟨a1, a2⟩ := h.2.2.2.2.2.1 p hp
      obtain ⟨b1, b2⟩ := h'.2.2.2.2.2.1 p hp
      rw [hk 0 (by decide)] at a1
      rw [hk 1 (by decide)] at a2
      rw [← a1, ← a2, b1, b2]; exact ⟨rfl, rfl⟩
    · obtain ⟨a1, a2⟩ := h.2.2.2.2.2.2 l hl
      obtain ⟨b1, b2⟩ := h'.2.2.2.2.2.2 l hl
      rw [hk 2 (by decide)] at a1
      rw [hk (3 + l / 5) (by omega)] at a2
      rw [← a1, ← a2, b1, b2]; exact ⟨rfl, rfl⟩
  · rintro ⟨e1, e2⟩
    obtain ⟨q0, q1, q2, q3, q4⟩ := h.q
    obtain ⟨s0, s1, s2, s3, s4⟩ := h'.q
    have cg : ∀ {f g : Nat → Nat} {w i n : Nat}, (∀ p, p < i → f p = g p) → PQ f w i n → PQ g w i n := fun hf hq => ⟨hq.1, fun p hp => by rw [← hf p hp]; exact hq.2 p hp⟩
    intro e he
    rcases (by omega : e = 0 ∨ e = 1 ∨ e = 2 ∨ e = 3 ∨ e = 4) with z | z | z | z | z <;> subst z
    · exact PQ_un (by decide) (cg (fun p hp => (e1 p hp).1) q0) s0
    · exact PQ_un (by decide) (cg (fun p hp => (e1 p hp).2) q1) s1
    · exact PQ_un (by decide) (cg (fun p hp => (e2 p hp).1) q2) s2
    · exact PQ_un (by decide) (cg (fun p hp => (e2 p (by omega)).2) q3) s3
    · exact PQ_un (by decide) (cg (fun p hp => (e2 (5 + p) (by omega)).2) q4) s4
theorem PK.lt (h : PK Pl X K M) {e : Nat} (he : e < 5) : K e < 2 ^ 31 := by
  obtain ⟨b0, b1, b2, b3, b4, _⟩ := h
  rcases (by omega : e = 0 ∨ e = 1 ∨ e = 2 ∨ e = 3 ∨ e = 4) with z | z | z | z | z <;> subst z <;> omega
/-- the key of a moment -/
def ky (m : Mem) (j : Nat) : Nat → Int32 := fun e => if e < 5 then m 27 (5 * j + e) else 0
theorem ky_eq : ky m i = ky m' j ↔ ∀ e, e < 5 → m 27 (5 * i + e) = m' 27 (5 * j + e) := by
  constructor
  · intro h e he
    have := congrFun h e
    unfold ky at this
    rw [if_pos he, if_pos he] at this
    exact this
  · intro h
    funext e
    unfold ky
    by_cases he : e < 5
    · rw [if_pos he, if_pos he]; exact h e he
    · rw [if_neg he, if_neg he]
def h5 (k : Nat → Int32) : Nat → Int32
  | 0 => 0
  | e + 1 => 31 * h5 k e + k e
def rH (k : Nat → Int32) : Nat := ((h5 k 5 ^^^ (((h5 k 5).toUInt32 >>> ((15 : Int32).toUInt32 &&& Int32.toUInt32 31)).toInt32)) &&& (16383 : Int32)).toBitVec.toNat
theorem nI_tob (x : Int32) : x = nI x.toBitVec.toNat := by
  apply Int32.toBitVec_inj.1
  show _ = BitVec.ofNat 32 _
  rw [BitVec.ofNat_toNat, BitVec.setWidth_eq]
theorem rH_is (k : Nat → Int32) : ((h5 k 5 ^^^ (((h5 k 5).toUInt32 >>> ((15 : Int32).toUInt32 &&& Int32.toUInt32 31)).toInt32)) &&& (16383 : Int32)) = nI (rH k) := nI_tob _
theorem rH_lt (k : Nat → Int32) : rH k < 16384 := by
  unfold rH
  rw [Int32.toBitVec_and, BitVec.toNat_and]
  have : ((16383 : Int32).toBitVec.toNat) = 16383 := by decide
  rw [this]
  exact Nat.lt_succ_of_le Nat.and_le_right
theorem TB.cg {κ : Type} {N : Nat} {H : κ → Nat} {n : Nat} {K K' : Nat → κ} {T : Nat → Option Nat} (t : TB N H n K T) (h : ∀ i, i < n → K i = K' i) : TB N H n K' T := ⟨t.1, fun i hi => by rw [← h i hi]; exact t.2.1 i hi, t.2.2⟩
/-- the reference's table -/
def RT (m : Mem) (n : Nat) (T : Nat → Option Nat) : Prop := (∀ s, s < 16384 → (T s = none ∧ m 31 s = mI) ∨ ∃ i, T s = some i ∧ m 31 s = nI i) ∧ TB 16384 rH n (ky m) T
theorem r_hash {v1 v2 v3 : Int32} (e46 : m 0 46 = nI n) (hn : n ≤ 4000) : wp (lp (gbX12_come_14 v1 v2 v3 m) FU ((0 : Int32), (0 : Int32))) (fun r => r = h5 (ky m n) 5) := by
  refine wp_for (κ := Unit) (fun i _ => (h5 (ky m n) i, nI i)) 5 (fun _ _ => True) (fun i _ hi _ => ?_) (fun _ _ => ?_) 0 () (Nat.zero_le _) trivial (by decide)
  · simp only [gbX12_come_14]
    rw [L_5, wp_f (by rw [i_le (by decide) (by omega)]; omega), wp_bind, e46, i_mul, i_add, w_rd (by omega) (by decide), wp_bind, wp_some, wp_bind, wp_some, wp_some, lq_l, nI_1]
    refine ⟨(), ?_, trivial⟩
    show _ = (31 * h5 (ky m n) i + ky m n i, nI (i + 1))
    unfold ky
    rw [if_pos hi]
  · simp only [gbX12_come_14]
    rw [L_5, wp_t (by rw [i_le (by decide) (by omega)]; omega), wp_some, lq_r]
theorem r_probe {v1 v2 v3 : Int32} {T : Nat → Option Nat} (e46 : m 0 46 = nI n) (hn : n ≤ 4000) (rt : RT m n T) : wp (lp (gbX12_come_62 v1 v2 v3 m) FU (nI (rH (ky m n)))) (fun r => ∃ s, s < 16384 ∧ r = nI s ∧ ((∃ i, i < n ∧ m 31 s = nI i ∧ ky m i = ky m n) ∨ ((∀ i, i < n → ky m i ≠ ky m n) ∧ m 31 s = mI ∧ T s = none ∧ ∃ d, d < 16384 ∧ s = (rH (ky m n) + d) % 16384 ∧ PB 16384 rH (ky m) T (ky m n) d))) := by
  obtain ⟨t1, t2⟩ := rt
  have e0 : nI (rH (ky m n)) = (fun (i : Nat) (_ : Unit) => nI ((rH (ky m n) + i) % 16384)) 0 () := by
    show _ = nI ((rH (ky m n) + 0) % 16384)
    rw [Nat.add_zero, Nat.mod_eq_of_lt (rH_lt _)]
  rw [e0]
  refine wp_for (κ := Unit) (fun i _ => nI ((rH (ky m n) + i) % 16384)) 16384 (fun i _ => PB 16384 rH (ky m) T (ky m n) i) (fun i _ hi hI => ?_) (fun _ hI => (t2.room (by omega) hI).elim) 0 () (Nat.zero_le _) (fun d' hd' => absurd hd' (Nat.not_lt_zero _)) (by decide)
  have sl : (rH (ky m n) + i) % 16384 < 16384 := Nat.mod_lt _ (by decide)
  simp only [gbX12_come_62]
  rw [wp_bind, w_rd sl (by decide)]
  rcases t1 _ sl with ⟨c1, c2⟩ | ⟨y, c1, c2⟩
  · rw [c2, wp_t (by rw [m_lt0]; trivial), wp_some, lq_r]
    exact ⟨_, sl, rfl, Or.inr ⟨t2.miss hI c1, c2, c1, i, hi, rfl, hI⟩⟩
  · have yn : y < n := t2.1 _ _ sl c1
    rw [c2, wp_f (by rw [nI_lt0 (by omega)]; exact id), wp_bind, w_rd sl (by decide), c2, wp_bind, e46]
    refine wp_mono (r_isLike (i := y) (j := n) (by omega) hn) ?_
    rintro r (⟨rfl, hl⟩ | ⟨rfl, hl⟩)
    · rw [wp_f (by decide), wp_some, lq_r]
      exact ⟨_, sl, rfl, Or.inl ⟨y, yn, c2, ky_eq.mpr hl⟩⟩
    · rw [wp_t rfl, wp_bind, wp_some, wp_some, lq_l, L_1, i_add, L_16383, nx_andn, show ((rH (ky m n) + i) % 16384 + 1) &&& 16383 = ((rH (ky m n) + i) % 16384 + 1) % 16384 from Nat.and_two_pow_sub_one_eq_mod _ 14, mod_next (by decide)]
      exact ⟨(), rfl, hI.next c1 (fun e => hl (ky_eq.mp e))⟩
end RKY

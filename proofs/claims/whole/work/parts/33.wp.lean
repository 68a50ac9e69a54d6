/-! a small logic for the plain functions: wp o Q: o gives a value, and Q holds of it -/
def wp {α : Type} (o : Option α) (Q : α → Prop) : Prop := ∃ a, o = some a ∧ Q a
def lq {σ ε : Type} (A : σ → Prop) (B : ε → Prop) : σ ⊕ ε → Prop
  | .inl s => A s
  | .inr e => B e
section WP
variable {α β σ ε : Type}
theorem wp_some {a : α} {Q : α → Prop} : wp (some a) Q = Q a := propext ⟨fun ⟨_, e, q⟩ => by cases e; exact q, fun q => ⟨a, rfl, q⟩⟩
theorem wp_bind {o : Option α} {f : α → Option β} {Q : β → Prop} : wp (o.bind f) Q = wp o (fun a => wp (f a) Q) := by
  refine propext ⟨fun ⟨b, e, q⟩ => ?_, fun ⟨a, e, b, e2, q⟩ => ⟨b, by rw [e]; exact e2, q⟩⟩
  obtain ⟨a, e1, e2⟩ := Option.bind_eq_some_iff.mp e
  exact ⟨a, e1, b, e2, q⟩
theorem wp_ite {c : Prop} [Decidable c] {a b : Option α} {Q : α → Prop} : wp (if c then a else b) Q = ((c → wp a Q) ∧ (¬ c → wp b Q)) := by
  by_cases hc : c
  · rw [if_pos hc]; simp [hc]
  · rw [if_neg hc]; simp [hc]
theorem wp_t {c : Prop} [Decidable c] {a b : Option α} {Q : α → Prop} (hc : c) : wp (if c then a else b) Q = wp a Q := by rw [if_pos hc]
theorem wp_f {c : Prop} [Decidable c] {a b : Option α} {Q : α → Prop} (hc : ¬ c) : wp (if c then a else b) Q = wp b Q := by rw [if_neg hc]
theorem wp_mono {o : Option α} {Q Q' : α → Prop} (h : wp o Q) (k : ∀ a, Q a → Q' a) : wp o Q' := by
  obtain ⟨a, e, q⟩ := h; exact ⟨a, e, k a q⟩
theorem wp_of {o : Option α} {a : α} {Q : α → Prop} (e : o = some a) (q : Q a) : wp o Q := ⟨a, e, q⟩
theorem wp_eq {o : Option α} {a : α} {Q : α → Prop} (e : o = some a) : wp o Q = Q a := by rw [e, wp_some]
theorem wp_and {o : Option α} {Q Q' : α → Prop} (h : wp o Q) (k : wp o Q') : wp o (fun a => Q a ∧ Q' a) := by
  obtain ⟨a, e, q⟩ := h
  obtain ⟨b, e2, q2⟩ := k
  cases e.symm.trans e2
  exact ⟨a, e, q, q2⟩
theorem lq_l {A : σ → Prop} {B : ε → Prop} {s : σ} : lq A B (.inl s) = A s := rfl
theorem lq_r {A : σ → Prop} {B : ε → Prop} {e : ε} : lq A B (.inr e) = B e := rfl
variable {body : σ → Option (σ ⊕ ε)}
theorem wp_lp {Q : ε → Prop} (I : Nat → σ → Prop) (hs : ∀ n s, I n s → wp (body s) (lq (fun s' => ∃ n', n' < n ∧ I n' s') Q)) {n : Nat} {s : σ} (h0 : I n s) (hn : n < 1000000) : wp (lp body FU s) Q := by
  have key : ∀ fuel n s, n < fuel → I n s → wp (lp body fuel s) Q := by
    intro fuel
    induction fuel with
    | zero => intro n s h; omega
    | succ f ih =>
      intro n s hf hI
      obtain ⟨r, e, q⟩ := hs n s hI
      cases r with
      | inl s' =>
        obtain ⟨n', h1, h2⟩ := q
        rw [lp_l e]
        exact ih n' s' (by omega) h2
      | inr e' => rw [lp_r e, wp_some]; exact q
  exact key FU n s hn h0
theorem wp_for {κ : Type} {Q : ε → Prop} (st : Nat → κ → σ) (N : Nat) (I : Nat → κ → Prop) (hs : ∀ i c, i < N → I i c → wp (body (st i c)) (lq (fun s' => ∃ c', s' = st (i + 1) c' ∧ I (i + 1) c') Q)) (he : ∀ c, I N c → wp (body (st N c)) (lq (fun _ => False) Q)) (i0 : Nat) (c0 : κ) (hi : i0 ≤ N) (h0 : I i0 c0) (hN : N < 1000000) : wp (lp body FU (st i0 c0)) Q := by
  refine wp_lp (fun n s => ∃ i c, n + i = N ∧ s = st i c ∧ I i c) (fun n s ⟨i, c, h1, h2, h3⟩ => ?_) (n := N - i0) ⟨i0, c0, by omega, rfl, h0⟩ (by omega)
  subst h2
  by_cases hN : i = N
  · subst hN
    refine wp_mono (he c h3) (fun r hr => ?_)
    cases r with
    | inl s' => exact hr.elim
    | inr e => exact hr
  · refine wp_mono (hs i c (by omega) h3) (fun r hr => ?_)
    cases r with
    | inl s' =>
      obtain ⟨c', h4, h5⟩ := hr
      exact ⟨n - 1, by omega, i + 1, c', by omega, h4, h5⟩
    | inr e => exact hr
end WP
/-! small numbers -/
theorem nx_or (a b : Nat) : nI a ||| nI b = nI (a ||| b) := by
  apply Int32.toBitVec_inj.1
  show BitVec.ofNat 32 a ||| BitVec.ofNat 32 b = BitVec.ofNat 32 (a ||| b)
  apply BitVec.eq_of_getLsbD_eq
  intro i hi
  simp [hi]
theorem nI_m1 {j : Nat} (h : j < 2 ^ 31) : ¬ nI j = -1 := by
  intro e
  have := m1_lt h
  rw [e] at this
  exact absurd this (by decide)
theorem nI_z {j : Nat} (h : j < 2 ^ 31) : nI j = 0 ↔ j = 0 := by rw [← nI_0, nI_eq h (by decide)]
theorem nI_z0 {j : Nat} (h : j < 2 ^ 31) : (0 : Int32) = nI j ↔ j = 0 := by rw [eq_comm]; exact nI_z h
theorem nI_lt0 {j : Nat} (h : j < 2 ^ 31) : (nI j < 0) = False := eq_false (nI_pos h)
def bt (x : Int32) (i : Nat) : Bool := x.toBitVec.getLsbD i
theorem b_ext {x y : Int32} (h : ∀ i, i < 32 → bt x i = bt y i) : x = y := Int32.toBitVec_inj.mp (BitVec.eq_of_getLsbD_eq (fun i hi => h i hi))
theorem b_or (x y : Int32) (i : Nat) : bt (x ||| y) i = (bt x i || bt y i) := by unfold bt; rw [Int32.toBitVec_or, BitVec.getLsbD_or]
theorem b_and (x y : Int32) (i : Nat) : bt (x &&& y) i = (bt x i && bt y i) := by unfold bt; rw [Int32.toBitVec_and, BitVec.getLsbD_and]
theorem b_xor (x y : Int32) (i : Nat) : bt (x ^^^ y) i = (bt x i ^^ bt y i) := by unfold bt; rw [Int32.toBitVec_xor, BitVec.getLsbD_xor]
theorem b_big {x : Int32} {i : Nat} (h : 32 ≤ i) : bt x i = false := BitVec.getLsbD_of_ge _ _ h
theorem b_255 (i : Nat) : bt 255 i = decide (i < 8) := by
  rcases Nat.lt_or_ge i 32 with h | h
  · exact (by decide +kernel : ∀ i, i < 32 → bt 255 i = decide (i < 8)) i h
  · rw [b_big h, decide_eq_false (by omega)]
theorem b_65535 (i : Nat) : bt 65535 i = decide (i < 16) := by
  rcases Nat.lt_or_ge i 32 with h | h
  · exact (by decide +kernel : ∀ i, i < 32 → bt 65535 i = decide (i < 16)) i h
  · rw [b_big h, decide_eq_false (by omega)]
theorem b_m1 : ∀ i, i < 32 → bt (-1) i = true := by decide +kernel
theorem b_0 (i : Nat) : bt 0 i = false := BitVec.getLsbD_zero
theorem s_l : ∀ n, n < 32 → ((nI n &&& 31).toBitVec.smod 32).toNat = n := by decide +kernel
theorem s_u : ∀ n, n < 32 → (((nI n).toUInt32 &&& Int32.toUInt32 31).toBitVec % 32).toNat = n := by decide +kernel
theorem b_shl (n : Nat) (hn : n < 32) (x : Int32) {i : Nat} (hi : i < 32) : bt (x <<< (nI n &&& 31)) i = (decide (n ≤ i) && bt x (i - n)) := by
  unfold bt
  rw [Int32.toBitVec_shiftLeft]
  show (x.toBitVec <<< ((nI n &&& 31).toBitVec.smod 32).toNat).getLsbD i = _
  rw [s_l n hn, BitVec.getLsbD_shiftLeft]
  rcases Nat.lt_or_ge i n with h | h
  · simp [h, Nat.not_le.mpr h]
  · simp [hi, h, Nat.not_lt.mpr h]
theorem b_ushr (n : Nat) (hn : n < 32) (x : Int32) (i : Nat) : bt ((x.toUInt32 >>> ((nI n).toUInt32 &&& Int32.toUInt32 31)).toInt32) i = bt x (n + i) := by
  show (x.toUInt32 >>> ((nI n).toUInt32 &&& Int32.toUInt32 31)).toBitVec.getLsbD i = x.toUInt32.toBitVec.getLsbD (n + i)
  rw [UInt32.toBitVec_shiftRight]
  show (x.toUInt32.toBitVec >>> (((nI n).toUInt32 &&& Int32.toUInt32 31).toBitVec % 32).toNat).getLsbD i = _
  rw [s_u n hn, BitVec.getLsbD_ushiftRight]
theorem b_sshr (n : Nat) (hn : n < 32) (x : Int32) {i : Nat} (hi : i < 32) : bt (x >>> (nI n &&& 31)) i = if n + i < 32 then bt x (n + i) else bt x 31 := by
  unfold bt
  rw [Int32.toBitVec_shiftRight]
  show (x.toBitVec.sshiftRight ((nI n &&& 31).toBitVec.smod 32).toNat).getLsbD i = _
  rw [s_l n hn, BitVec.getLsbD_sshiftRight, BitVec.msb_eq_getLsbD_last]
  simp [hi]
/-! sets in an int -/
theorem b_shl1 {n : Nat} (hn : n < 32) {i : Nat} (hi : i < 32) : bt ((1 : Int32) <<< (nI n &&& 31)) i = decide (i = n) := by
  rw [b_shl n hn _ hi]
  have h1 : ∀ k, k < 32 → bt 1 k = decide (k = 0) := by decide +kernel
  rw [h1 _ (by omega)]
  by_cases h : i = n
  · subst h; simp
  · rw [decide_eq_false h]
    by_cases h2 : n ≤ i
    · rw [decide_eq_false (show ¬ i - n = 0 by omega), Bool.and_false]
    · rw [decide_eq_false h2, Bool.false_and]
theorem b_zero {x : Int32} : x = 0 ↔ ∀ i, i < 32 → bt x i = false :=
  ⟨fun h i _ => by rw [h, b_0], fun h => b_ext fun i hi => by rw [h i hi, b_0]⟩
theorem b_and0 {x y : Int32} : x &&& y = 0 ↔ ∀ i, i < 32 → ¬ (bt x i = true ∧ bt y i = true) := by
  rw [b_zero]
  constructor
  · intro h i hi ⟨h1, h2⟩
    have := h i hi
    rw [b_and, h1, h2] at this
    cases this
  · intro h i hi
    rw [b_and]
    cases h1 : bt x i <;> cases h2 : bt y i <;> first | rfl | exact absurd ⟨h1, h2⟩ (h i hi)
theorem b_has {x : Int32} {n : Nat} (hn : n < 31) : (x >>> (nI n &&& 31)) &&& 1 = 0 ↔ bt x n = false := by
  have h1 : ∀ k, k < 32 → bt 1 k = decide (k = 0) := by decide +kernel
  rw [b_and0]
  constructor
  · intro h
    have := h 0 (by decide)
    rw [b_sshr n (by omega) x (by decide), if_pos (by omega), h1 0 (by decide)] at this
    cases hb : bt x n with
    | false => rfl
    | true => exact absurd ⟨by rw [Nat.add_zero]; exact hb, by decide⟩ this
  · rintro h i hi ⟨h2, h3⟩
    rw [h1 i hi] at h3
    have : i = 0 := of_decide_eq_true h3
    subst this
    rw [b_sshr n (by omega) x (by decide), if_pos (by omega), Nat.add_zero, h] at h2
    cases h2
theorem b_not (x : Int32) {i : Nat} (hi : i < 32) : bt (x ^^^ (-1)) i = !bt x i := by
  rw [b_xor, b_m1 i hi]
  cases bt x i <;> rfl
theorem b_andn (x y : Int32) {i : Nat} (hi : i < 32) : bt (x &&& (y ^^^ (-1))) i = (bt x i && !bt y i) := by
  rw [b_and, b_not y hi]
/-- the lowest bit -/
theorem b_low {x : Int32} {n : Nat} (hn : n < 32) (h : bt x n = true) (hl : ∀ j, j < n → bt x j = false) : x &&& (-x) = (1 : Int32) <<< (nI n &&& 31) := by
  apply b_ext
  intro i hi
  rw [b_and, b_shl1 hn hi]
  have e : bt (-x) i = (bt x i ^^ (decide (i < 32) && decide (∃ j, j < i ∧ bt x j = true))) := by
    unfold bt
    rw [Int32.toBitVec_neg, BitVec.getLsbD_neg]
  rw [e, decide_eq_true hi, Bool.true_and]
  by_cases h1 : i = n
  · subst h1
    rw [h, decide_eq_false]
    · simp
    · rintro ⟨j, h1, h2⟩
      rw [hl j h1] at h2
      cases h2
  · rw [decide_eq_false h1]
    by_cases h2 : i < n
    · rw [hl i h2]; rfl
    · rw [decide_eq_true (p := ∃ j, j < i ∧ bt x j = true) ⟨n, by omega, h⟩]
      cases bt x i <;> rfl
theorem bc_low (h : Hp) : ∀ n, n < 32 → fJ6_bitCount_0f7a4 h (((1 : Int32) <<< (nI n &&& 31)) - 1) = some (nI n) := by
  have : ∀ n, n < 32 → fJ6_bitCount_0f7a4 (fun _ => .inl 0, fun _ _ => 0, fun _ _ => 0, fun _ _ => none, 0, 0) (((1 : Int32) <<< (nI n &&& 31)) - 1) = some (nI n) := by decide +kernel
  exact this
theorem c_least {x : Int32} {n : Nat} (g : Hp) (hn : n < 32) (h : bt x n = true) (hl : ∀ j, j < n → bt x j = false) : fJ6_bitCount_0f7a4 g ((x &&& (-x)) - 1) = some (nI n) := by
  rw [b_low hn h hl]; exact bc_low g n hn
theorem b_least {x : Int32} (h : ¬ x = 0) : ∃ n, n < 32 ∧ bt x n = true ∧ ∀ j, j < n → bt x j = false := by
  have h1 : ∃ n, n < 32 ∧ bt x n = true := by
    refine Classical.byContradiction fun hc => h (b_zero.mpr fun i hi => ?_)
    cases hb : bt x i with
    | false => rfl
    | true => exact absurd ⟨i, hi, hb⟩ hc
  obtain ⟨n, ⟨h2, h3⟩, h4⟩ := pk_least (fun n => n < 32 ∧ bt x n = true) h1
  refine ⟨n, h2, h3, fun j hj => ?_⟩
  cases hb : bt x j with
  | false => rfl
  | true => exact absurd ⟨by omega, hb⟩ (h4 j hj)
/-! a heap with another memory of ints -/
def wI (h : Hp) (m : Mem) : Hp := (h.1, m, h.2.2)
theorem wI_self (h : Hp) : wI h h.2.1 = h := rfl
theorem wI_I (h : Hp) (m : Mem) (a j : Nat) : hI (wI h m) a j = m a j := rfl
theorem wI_S (h : Hp) (m : Mem) (a : Nat) : hS (wI h m) a = hS h a := rfl
theorem wI_R (h : Hp) (m : Mem) (a j : Nat) : hR (wI h m) a j = hR h a j := rfl
theorem wI_J (h : Hp) (m : Mem) (a j : Nat) : hJ (wI h m) a j = hJ h a j := rfl
theorem wI_N (h : Hp) (m : Mem) : hN (wI h m) = hN h := rfl
theorem wI_Z (h : Hp) (m : Mem) : hZ (wI h m) = hZ h := rfl
theorem wI_s (h : Hp) (m : Mem) (a k : Nat) (v : Int32) : sI (wI h m) a k v = wI h (up m a k v) := rfl
theorem wI_w (h : Hp) (m m' : Mem) : wI (wI h m) m' = wI h m' := rfl
section WQ
variable {h : Hp} {ty : FieldType} {ci a k n j : Nat} {v : Int32}
theorem w_gI {Q : Int32 → Prop} (ha : a < hN h) (hs : hS h a = .inl ci) : wp (gI h ci a k) Q = Q (hI h a k) := wp_eq (gI_ok ha hs)
theorem w_gO {Q : Unit → Prop} (ha : a < hN h) (hs : hS h a = .inl ci) : wp (gO h ci a) Q = Q () := wp_eq (gO_ok ha hs)
theorem w_gR {Q : Nat → Prop} {r : Nat} (ha : a < hN h) (hs : hS h a = .inl ci) (hr : hR h a k = some r) : wp (gR h ci a k) Q = Q r := wp_eq ((gR_ok ha hs).trans hr)
theorem w_pI {Q : Hp → Prop} (ha : a < hN h) (hs : hS h a = .inl ci) : wp (pI h ci a k v) Q = Q (sI h a k v) := wp_eq (pI_ok ha hs)
theorem w_lI {Q : Int32 → Prop} (ha : a < hN h) (hs : hS h a = .inr (ty, n)) (hj : j < n) (hn : n < 2 ^ 31) : wp (lI h ty a (nI j)) Q = Q (hI h a j) := wp_eq (lI_ok ha hs hj hn)
theorem w_tI {Q : Hp → Prop} (ha : a < hN h) (hs : hS h a = .inr (.int, n)) (hj : j < n) (hn : n < 2 ^ 31) : wp (tI h a (nI j) v) Q = Q (sI h a j v) := wp_eq (tI_ok ha hs hj hn)
theorem w_aL {Q : Int32 → Prop} (ha : a < hN h) (hs : hS h a = .inr (ty, n)) : wp (aL h ty a) Q = Q (nI n) := wp_eq (by unfold aL; rw [ga_ok ha hs]; rfl)
theorem w_rd {m : Mem} {o : Nat} {Q : Int32 → Prop} (hj : j < n) (hn : n < 2 ^ 31) : wp (rd m o n (nI j)) Q = Q (m o j) := wp_eq (rd_nI hj hn)
theorem w_wr {m : Mem} {o : Nat} {Q : Mem → Prop} (hj : j < n) (hn : n < 2 ^ 31) : wp (wr m o n (nI j) v) Q = Q (up m o j v) := wp_eq (wr_nI hj hn)
end WQ

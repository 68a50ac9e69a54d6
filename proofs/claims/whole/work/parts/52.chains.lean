/-! chains: their numbers tell them apart; the class keeps one -/
theorem cBe_pos {c : Nat → Nat} {n : Nat} : cBe c (n + 1) ≠ 0 := by
  show cBe c n * 32 + (c n + 1) ≠ 0
  omega
theorem cB_inj : ∀ (n n' : Nat) (c c' : Nat → Nat), (∀ i, i < n → c i < 16) → (∀ i, i < n' → c' i < 16) → cBe c n = cBe c' n' → n = n' ∧ ∀ i, i < n → c i = c' i := by
  intro n
  induction n with
  | zero =>
    intro n' c c' _ _ e
    cases n' with
    | zero => exact ⟨rfl, fun i hi => by omega⟩
    | succ k => exact absurd e.symm cBe_pos
  | succ n ih =>
    intro n' c c' h h' e
    cases n' with
    | zero => exact absurd e cBe_pos
    | succ k =>
      have e1 : cBe c n * 32 + (c n + 1) = cBe c' k * 32 + (c' k + 1) := e
      have a1 := h n (by omega)
      have a2 := h' k (by omega)
      have e2 : cBe c n = cBe c' k := by omega
      have e3 : c n = c' k := by omega
      obtain ⟨b1, b2⟩ := ih k c c' (fun i hi => h i (by omega)) (fun i hi => h' i (by omega)) e2
      subst b1
      refine ⟨rfl, fun i hi => ?_⟩
      by_cases z : i = n
      · rw [z]; exact e3
      · exact b2 i (by omega)
theorem cLe_s (c : Nat → Nat) : ∀ n, cLe c (n + 1) = (c 0 + 1) + 32 * cLe (fun i => c (i + 1)) n := by
  intro n
  induction n with
  | zero => show 0 + (c 0 + 1) * 32 ^ 0 = _; simp [cLe]
  | succ n ih =>
    show cLe c (n + 1) + (c (n + 1) + 1) * 32 ^ (n + 1) = c 0 + 1 + 32 * (cLe (fun i => c (i + 1)) n + (c (n + 1) + 1) * 32 ^ n)
    rw [ih, Nat.pow_succ, Nat.mul_add, ← Nat.add_assoc]
    congr 1
    rw [Nat.mul_comm (32 ^ n) 32, ← Nat.mul_assoc, Nat.mul_comm _ 32, Nat.mul_assoc]
theorem cL_inj : ∀ (n n' : Nat) (c c' : Nat → Nat), (∀ i, i < n → c i < 16) → (∀ i, i < n' → c' i < 16) → cLe c n = cLe c' n' → n = n' ∧ ∀ i, i < n → c i = c' i := by
  intro n
  induction n with
  | zero =>
    intro n' c c' _ _ e
    cases n' with
    | zero => exact ⟨rfl, fun i hi => by omega⟩
    | succ k => rw [cLe_s] at e; change 0 = _ at e; omega
  | succ n ih =>
    intro n' c c' h h' e
    cases n' with
    | zero => rw [cLe_s] at e; change _ = 0 at e; omega
    | succ k =>
      rw [cLe_s, cLe_s] at e
      have a1 := h 0 (by omega)
      have a2 := h' 0 (by omega)
      have e2 : cLe (fun i => c (i + 1)) n = cLe (fun i => c' (i + 1)) k := by omega
      have e3 : c 0 = c' 0 := by omega
      obtain ⟨b1, b2⟩ := ih k _ _ (fun i hi => h (i + 1) (by omega)) (fun i hi => h' (i + 1) (by omega)) e2
      subst b1
      refine ⟨rfl, fun i hi => ?_⟩
      cases i with
      | zero => exact e3
      | succ i => exact b2 i (by omega)
theorem cBe_congr {c c' : Nat → Nat} : ∀ n, (∀ i, i < n → c i = c' i) → cBe c n = cBe c' n
  | 0, _ => rfl
  | n + 1, h => by
    show cBe c n * 32 + (c n + 1) = cBe c' n * 32 + (c' n + 1)
    rw [cBe_congr n (fun i hi => h i (by omega)), h n (by omega)]
theorem cLe_congr {c c' : Nat → Nat} : ∀ n, (∀ i, i < n → c i = c' i) → cLe c n = cLe c' n
  | 0, _ => rfl
  | n + 1, h => by
    show cLe c n + (c n + 1) * 32 ^ n = cLe c' n + (c' n + 1) * 32 ^ n
    rw [cLe_congr n (fun i hi => h i (by omega)), h n (by omega)]
theorem cBe_lt {c : Nat → Nat} : ∀ n, (∀ i, i < n → c i < 16) → cBe c n < 32 ^ n
  | 0, _ => by show 0 < 1; decide
  | n + 1, h => by
    have := cBe_lt n (fun i hi => h i (by omega))
    have h1 := h n (by omega)
    show cBe c n * 32 + (c n + 1) < 32 ^ n * 32
    omega
theorem cLe_lt {c : Nat → Nat} : ∀ n, (∀ i, i < n → c i < 16) → cLe c n < 32 ^ n
  | 0, _ => by show 0 < 1; decide
  | n + 1, h => by
    have := cLe_lt n (fun i hi => h i (by omega))
    have h1 := h n (by omega)
    show cLe c n + (c n + 1) * 32 ^ n < 32 ^ n * 32
    have : (c n + 1) * 32 ^ n ≤ 16 * 32 ^ n := Nat.mul_le_mul_right _ (by omega)
    omega
theorem p32 {n : Nat} (h : n ≤ 10) : 32 ^ n ≤ 32 ^ 10 := Nat.pow_le_pow_right (by decide) h
theorem cEq_B {c d : CD} (hc : CW c) (hd : CW d) : cBe c.2 c.1 = cBe d.2 d.1 ↔ cEq c d := by
  constructor
  · intro e; exact cB_inj _ _ _ _ hc.2.2 hd.2.2 e
  · rintro ⟨h1, h2⟩; rw [← h1]; exact cBe_congr _ h2
theorem cEq_L {c d : CD} (hc : CW c) (hd : CW d) : cLe c.2 c.1 = cLe d.2 d.1 ↔ cEq c d := by
  constructor
  · intro e; exact cL_inj _ _ _ _ hc.2.2 hd.2.2 e
  · rintro ⟨h1, h2⟩; rw [← h1]; exact cLe_congr _ h2
section CH
variable {h : Hp} {m : Mem} {w b n : Nat} {H : HD} {A : LA}
theorem chn_W (hw : HW H) (hk : hK H < 10) {x : Nat} (hx : x < 16) : CW (chn H x) := by
  refine ⟨?_, ?_, fun i hi => ?_⟩
  · show 1 ≤ hK H + 1; omega
  · show hK H + 1 ≤ 10; omega
  · change i < hK H + 1 at hi
    show sbf (hD H) (hK H) x i < 16
    by_cases z : i = hK H
    · rw [z, sbf_at]; exact hx
    · rw [sbf_ne z]; exact (hw.2.1 i (by omega)).2
theorem row_step {a d : Nat} (ha : a < 32 ^ 9) (hd : d < 16) : (lN a <<< ((5 : Int32).toInt64 &&& 63)) ||| ((nI d + 1).toInt64) = lN (a * 32 + (d + 1)) := by
  have e1 : lN a <<< ((5 : Int32).toInt64 &&& 63) = lN (a * 2 ^ 5) := wb_shl a (k := 5) (by decide)
  rw [e1, nI_1, nI_l (by omega)]
  exact g_or (k := 5) (p := 32) (by decide) (by omega) (by omega)
theorem c_rowWith (W : Sh9 h w) (k : WKc m w H) (hw : HW H) (hk : hK H < 10) {x : Nat} (hx : x < 16) : fX9_rowWith (wI h m) w (nI x) = some (lN (cBe (chn H x).2 (chn H x).1)) := by
  obtain ⟨k1, k2, k3⟩ := k
  have : wp (fX9_rowWith (wI h m) w (nI x)) (fun r => r = lN (cBe (chn H x).2 (chn H x).1)) := by
    unfold fX9_rowWith
    rw [wp_bind]
    refine wp_mono (Q := fun r => r = lN (cBe (hD H) (hK H))) ?_ ?_
    · refine wp_for (κ := Unit) (fun i _ => (lN (cBe (hD H) i), nI i)) (hK H) (fun i _ => True) (fun i _ hi _ => ?_) (fun _ _ => ?_) 0 () (by omega) trivial (by omega)
      · have hd := (hw.2.1 i hi).2
        have hb := cBe_lt (c := hD H) i (fun j hj => (hw.2.1 j (by omega)).2)
        have hp : 32 ^ i ≤ 32 ^ 9 := Nat.pow_le_pow_right (by decide) (by omega)
        simp (disch := omega) only [bX9_rowWith_5, wp_bind, W.g6, k1, i_le, wp_f, W.r9, W.l9, (k2 i hi).2, wp_some, lq_l]
        refine ⟨(), ?_, trivial⟩
        rw [row_step (by omega) hd, nI_1]
        rfl
      · simp (disch := omega) only [bX9_rowWith_5, wp_bind, W.g6, k1, i_le, wp_t, wp_some, lq_r]
    · rintro r rfl
      rw [wp_some]
      have hb := cBe_lt (c := hD H) (hK H) (fun j hj => (hw.2.1 j (by omega)).2)
      have hp : 32 ^ hK H ≤ 32 ^ 9 := Nat.pow_le_pow_right (by decide) (by omega)
      rw [row_step (by omega) hx]
      show _ = lN (cBe (sbf (hD H) (hK H) x) (hK H) * 32 + (sbf (hD H) (hK H) x (hK H) + 1))
      rw [sbf_at, cBe_congr (c' := hD H) (hK H) (fun i hi => sbf_ne (by omega))]
  obtain ⟨r, e, rfl⟩ := this
  exact e
/-- so long rows can be -/
def rl (n : Nat) : Prop := n = 32 ∨ n = 64 ∨ n = 128 ∨ n = 256 ∨ n = 512 ∨ n = 1024 ∨ n = 2048 ∨ n = 4096
theorem rl.le {n : Nat} (h : rl n) : 32 ≤ n ∧ n ≤ 4096 := by
  unfold rl at h
  omega
theorem rl.dbl {n : Nat} (h : rl n) (h2 : n ≤ 4000) : rl (2 * n) := by
  unfold rl at h ⊢
  omega
/-- the class's chains; its rows n long -/
def CC (h : Hp) (m : Mem) (b : Nat) (A : LA) (n : Nat) : Prop := m b 5 = nI (aK A) ∧ m b 6 = aA A ∧ rl n ∧ n ≤ 4096 ∧ aK A ≤ n ∧ ∃ ρ, hR h b 7 = some ρ ∧ ρ < hN h ∧ hS h ρ = .inr (.long, n) ∧ ∀ i, i < aK A → hJ h ρ i = lN (cBe (aC A i).2 (aC A i).1)
theorem lJ_ok {h : Hp} {a n j : Nat} (ha : a < hN h) (hs : hS h a = .inr (.long, n)) (hj : j < n) (hn : n < 2 ^ 31) : lJ h a (nI j) = some (hJ h a j) := by
  unfold lJ; rw [ga_ok ha hs]; show (ix (nI j) n).bind _ = _; rw [ix_nI hj hn]; rfl
theorem tJ_ok {h : Hp} {a n j : Nat} {v : Int64} (ha : a < hN h) (hs : hS h a = .inr (.long, n)) (hj : j < n) (hn : n < 2 ^ 31) : tJ h a (nI j) v = some (sJ h a j v) := by
  unfold tJ; rw [ga_ok ha hs]; show (ix (nI j) n).bind _ = _; rw [ix_nI hj hn]; rfl
theorem hJ_at {h : Hp} {a k : Nat} {v : Int64} : hJ (sJ h a k v) a k = v := by
  show (if a = a ∧ k = k then v else _) = v
  rw [if_pos ⟨rfl, rfl⟩]
theorem hJ_ne {h : Hp} {a k a' k' : Nat} {v : Int64} (hne : a' ≠ a ∨ k' ≠ k) : hJ (sJ h a k v) a' k' = hJ h a' k' := by
  show (if a' = a ∧ k' = k then v else h.2.2.1 a' k') = h.2.2.1 a' k'
  rw [if_neg]
  rintro ⟨h1, h2⟩
  exact hne.elim (fun z => z h1) (fun z => z h2)
/-- what a chain kept changes of the heap -/
def XC (b : Nat) (h h' : Hp) : Prop := XX h h' ∧ (∀ a k, a < hN h → (a ≠ b ∨ k ≠ 7) → hR h' a k = hR h a k) ∧ (∀ a, a < hN h → hR h b 7 ≠ some a → ∀ j, hJ h' a j = hJ h a j) ∧ (hR h' b 7 = hR h b 7 ∨ ∃ ρ, hR h' b 7 = some ρ ∧ hN h ≤ ρ)
theorem XC.rfl' (b : Nat) (h : Hp) : XC b h h := ⟨XX.rfl' h, fun _ _ _ _ => rfl, fun _ _ _ _ => rfl, Or.inl rfl⟩
theorem XC.trans {b : Nat} {h1 h2 h3 : Hp} (hb : b < hN h1) (x : XC b h1 h2) (y : XC b h2 h3) : XC b h1 h3 := by
  obtain ⟨x1, x2, x3, x4⟩ := x
  obtain ⟨y1, y2, y3, y4⟩ := y
  have hle := x1.1
  refine ⟨x1.trans y1, fun a k ha hk => ?_, fun a ha hr j => ?_, ?_⟩
  · rw [y2 a k (by omega) hk, x2 a k ha hk]
  · rw [y3 a (by omega) ?_ j, x3 a ha hr j]
    rcases x4 with e | ⟨ρ, e, hρ⟩
    · rw [e]; exact hr
    · rw [e]; intro z; cases z; omega
  · rcases y4 with e | ⟨ρ, e, hρ⟩
    · rcases x4 with e2 | ⟨ρ, e2, hρ⟩
      · exact Or.inl (e.trans e2)
      · exact Or.inr ⟨ρ, e.trans e2, hρ⟩
    · exact Or.inr ⟨ρ, e, by omega⟩
theorem keep_old {c : CD} (h : ∃ i, i < aK A ∧ cEq (aC A i) c) : keepC A c = (aD A, aG A, aU A, aR A, (aK A, aC A), aA A + 1, aS A) := ci_t h
theorem keep_new {c : CD} (h : ¬ ∃ i, i < aK A ∧ cEq (aC A i) c) : keepC A c = (aD A, aG A, aU A, aR A, (aK A + 1, sbf (aC A) (aK A) c), aA A, aS A) := ci_f h
theorem c_addRow (s3 : Sh3 h b) (C : CC h m b A n) (cw : ∀ i, i < aK A → CW (aC A i)) (hk : aK A ≤ 4000) {c : CD} (hc : CW c) : wp (fX3_addRow (wI h m) b (lN (cBe c.2 c.1))) (fun r => ∃ h' m' n', r = wI h' m' ∧ XC b h h' ∧ (∀ a, a < hN h → a ≠ b → m' a = m a) ∧ (∀ j, j ≠ 5 → j ≠ 6 → m' b j = m b j) ∧ CC h' m' b (keepC A c) n' ∧ (n' = n ∧ hN h' = hN h ∧ hZ h' = hZ h ∨ n' = 2 * n ∧ n = aK A ∧ hN h' = hN h + 1 ∧ hZ h' = hZ h + n')) := by
  obtain ⟨C1, C2, C3, C4, C5, ρ, C6, C7, C8, C9⟩ := C
  have C32 := C3.le
  have q7 : ∀ {m : Mem} {Q : Nat → Prop}, wp (gR (wI h m) 3 b 7) Q = Q ρ := fun {m Q} => by rw [s3.q7, C6, wp_some]
  have hbl : ∀ {c : CD}, CW c → cBe c.2 c.1 < 2 ^ 63 := fun {c} hc => by
    have h1 := cBe_lt c.1 hc.2.2
    have h2 := p32 hc.2.1
    omega
  unfold fX3_addRow
  rw [wp_bind]
  refine wp_mono (Q := fun r => (r = .inr () ∧ ∃ i, i < aK A ∧ cEq (aC A i) c) ∨ (r = .inl () ∧ ¬ ∃ i, i < aK A ∧ cEq (aC A i) c)) ?_ ?_
  · refine wp_for (κ := Unit) (fun i _ => nI i) (aK A) (fun i _ => ∀ j, j < i → ¬ cEq (aC A j) c) (fun i _ hi HH => ?_) (fun _ HH => ?_) 0 () (Nat.zero_le _) (fun j hj => by omega) (by omega)
    · have e1 := lJ_ok (h := wI h m) (j := i) C7 C8 (by omega) (by omega)
      simp (disch := omega) only [bX3_addRow_2, wp_bind, s3.g5, C1, i_le, wp_f, q7]
      rw [wp_eq e1, show hJ (wI h m) ρ i = lN (cBe (aC A i).2 (aC A i).1) from C9 i hi]
      have hq : (lg_cmp (lN (cBe (aC A i).2 (aC A i).1)) (lN (cBe c.2 c.1)) = 0) ↔ cEq (aC A i) c := by
        rw [lg_cmp_eq, pk_lEQ (hbl (cw i hi)) (hbl hc), cEq_B (cw i hi) hc]
      by_cases z : cEq (aC A i) c
      · rw [wp_t (hq.mpr z), wp_some, lq_r]
        exact Or.inl ⟨rfl, i, hi, z⟩
      · rw [wp_f (fun q => z (hq.mp q)), wp_bind, wp_some, wp_some, lq_l, nI_1]
        refine ⟨(), rfl, fun j hj => ?_⟩
        by_cases z2 : j = i
        · rw [z2]; exact z
        · exact HH j (by omega)
    · simp (disch := omega) only [bX3_addRow_2, wp_bind, s3.g5, C1, i_le, wp_t, wp_some, lq_r]
      exact Or.inr ⟨trivial, fun ⟨i, h1, h2⟩ => HH i h1 h2⟩
  · rintro r (⟨rfl, ex⟩ | ⟨rfl, nex⟩)
    · show wp ((gI (wI h m) 3 b 6).bind _) _
      simp (disch := omega) only [wp_bind, s3.g6, s3.p6, wp_some]
      refine ⟨h, up m b 6 (m b 6 + 1), n, rfl, XC.rfl' b h, fun a _ ha => up_r ha, fun j h1 h2 => by rw [up_a, if_neg h2], ?_, Or.inl ⟨rfl, rfl, rfl⟩⟩
      rw [keep_old ex]
      refine ⟨by rw [up_a, if_neg (by decide)]; exact C1, by rw [up_at, C2]; rfl, C3, C4, C5, ρ, C6, C7, C8, C9⟩
    · have J77 : ∀ (h1 : Hp) (m1 : Mem) (n1 ρ1 : Nat), Sh3 h1 b → hR h1 b 7 = some ρ1 → ρ1 < hN h1 → hS h1 ρ1 = .inr (.long, n1) → m1 b 5 = nI (aK A) → aK A < n1 → n1 ≤ 8192 → wp (jX3_addRow_77 b (lN (cBe c.2 c.1)) (wI h1 m1)) (fun r => r = wI (sJ h1 ρ1 (aK A) (lN (cBe c.2 c.1))) (up m1 b 5 (nI (aK A + 1)))) := by
        intro h1 m1 n1 ρ1 t3 r7 l7 sh e5 hlt hle
        have q7 : ∀ {m : Mem} {Q : Nat → Prop}, wp (gR (wI h1 m) 3 b 7) Q = Q ρ1 := fun {m Q} => by rw [t3.q7, r7, wp_some]
        have e2 := tJ_ok (h := wI h1 m1) (j := aK A) (v := lN (cBe c.2 c.1)) l7 sh hlt (by omega)
        have t3' : Sh3 (sJ h1 ρ1 (aK A) (lN (cBe c.2 c.1))) b := t3
        simp (disch := omega) only [jX3_addRow_77, jX3_addRow_109, wp_bind, t3.g5, e5, q7, x_aL l7 sh, i_le, wp_f]
        rw [wp_eq e2, show sJ (wI h1 m1) ρ1 (aK A) (lN (cBe c.2 c.1)) = wI (sJ h1 ρ1 (aK A) (lN (cBe c.2 c.1))) m1 from rfl]
        simp (disch := omega) only [t3'.g5, e5, wp_bind, L_1, i_add, t3'.p5, wp_some]
      show wp ((gI (wI h m) 3 b 5).bind _) _
      simp (disch := omega) only [wp_bind, s3.g5, C1, q7, x_aL C7 C8, i_eq]
      by_cases hfull : aK A = n
      · rw [wp_t hfull]
        simp (disch := omega) only [wp_bind, s3.g5, C1, L_8192, i_le, wp_f, q7, L_2, i_mul]
        have hne : ¬ (nI (2 * aK A) = nI n) := by rw [i_eq (by omega) (by omega)]; omega
        have eA : nA (wI h m) .long (nI (2 * aK A)) = some (wI (nw h (.inr (.long, 2 * aK A))) (fun b j => if b = hN h then 0 else m b j)) := by
          unfold nA
          rw [if_neg (by rw [nI_clamp (by omega)]; intro z; rcases z with z | z; · exact nI_pos (by omega) z
                         · omega), nI_clamp (by omega)]
          rfl
        have hρ : ρ ≠ hN h := by omega
        have sN : hS (nw h (.inr (.long, 2 * aK A))) ρ = .inr (.long, n) := by
          show (if ρ = hN h then _ else h.1 ρ) = _
          rw [if_neg hρ]; exact C8
        have sN2 : hS (nw h (.inr (.long, 2 * aK A))) (hN h) = .inr (.long, 2 * aK A) := if_pos rfl
        have lN' : ρ < hN (nw h (.inr (.long, 2 * aK A))) := by show ρ < hN h + 1; omega
        have lN2 : hN h < hN (nw h (.inr (.long, 2 * aK A))) := Nat.lt_succ_self _
        unfold fJ7_copyOf_c38d5
        rw [wp_bind, x_aL C7 C8, wp_f hne, wp_bind, wp_eq eA, wp_bind, x_aL lN' sN, if_neg (by rw [i_lt (by omega) (by omega)]; omega), wp_bind]
        have eK : kJ (wI (nw h (.inr (.long, 2 * aK A))) (fun b j => if b = hN h then 0 else m b j)) ρ 0 (hN (wI h m)) 0 (nI n) = some (wI (cpJ (nw h (.inr (.long, 2 * aK A))) ρ 0 (hN h) 0 n) (fun b j => if b = hN h then 0 else m b j)) := by
          unfold kJ
          rw [wI_N, ga_ok (h := wI (nw h (.inr (.long, 2 * aK A))) (fun b j => if b = hN h then 0 else m b j)) lN' sN, Option.bind_some, ga_ok (h := wI (nw h (.inr (.long, 2 * aK A))) (fun b j => if b = hN h then 0 else m b j)) lN2 sN2, Option.bind_some, nI_clamp (by omega), if_neg]
          · rfl
          · rintro (z | z | z | z | z)
            · exact absurd z (by decide)
            · exact absurd z (by decide)
            · exact nI_pos (by omega) z
            · change n < 0 + n at z; omega
            · change 2 * aK A < 0 + n at z; omega
        rw [wp_eq eK, wp_some]
        have x1 : XX h (cpJ (nw h (.inr (.long, 2 * aK A))) ρ 0 (hN h) 0 n) := XX.nw h _
        have t3 : Sh3 (cpJ (nw h (.inr (.long, 2 * aK A))) ρ 0 (hN h) 0 n) b := s3.x x1
        have hbN : b < hN h := s3.lt
        show wp (pR (wI (cpJ (nw h (.inr (.long, 2 * aK A))) ρ 0 (hN h) 0 n) _) 3 b 7 (hN h)) _
        rw [t3.d7]
        have t4 : Sh3 (sR (cpJ (nw h (.inr (.long, 2 * aK A))) ρ 0 (hN h) 0 n) b 7 (some (hN h))) b := t3.x (XX.sR (fun c hc => by rw [t3.2.1] at hc; cases hc; rfl))
        refine wp_mono (J77 _ _ (2 * aK A) (hN h) t4 (by show (if b = b ∧ 7 = 7 then _ else _) = _; rw [if_pos ⟨rfl, rfl⟩]) lN2 sN2 (by show (if b = hN h then 0 else m b 5) = _; rw [if_neg (by omega)]; exact C1) (by omega) (by omega)) ?_
        rintro r rfl
        refine ⟨_, _, 2 * n, rfl, ⟨?_, fun a k ha hk => ?_, fun a ha hr j => ?_, Or.inr ⟨hN h, ?_, Nat.le_refl _⟩⟩, fun a ha hab => ?_, fun j h1 h2 => ?_, ?_, Or.inr ⟨rfl, hfull.symm, rfl, ?_⟩⟩
        · exact x1.trans (XX.sR (fun c hc => by rw [t3.2.1] at hc; cases hc; rfl))
        · show (if a = b ∧ k = 7 then some (hN h) else if a = hN h then none else h.2.2.2.1 a k) = h.2.2.2.1 a k
          rw [if_neg (fun z => hk.elim (fun q => q z.1) (fun q => q z.2)), if_neg (by omega)]
        · have hane : a ≠ hN h := by omega
          rw [hJ_ne (Or.inl hane)]
          show (if a = hN h ∧ 0 ≤ j ∧ j < 0 + n then _ else if a = hN h then 0 else h.2.2.1 a j) = h.2.2.1 a j
          rw [if_neg (fun z => hane z.1), if_neg hane]
        · show (if b = b ∧ 7 = 7 then some (hN h) else _) = some (hN h)
          rw [if_pos ⟨rfl, rfl⟩]
        · rw [up_r hab]; funext j
          show (if a = hN h then 0 else m a j) = m a j
          rw [if_neg (by omega)]
        · rw [up_a, if_neg h1]
          show (if b = hN h then 0 else m b j) = m b j
          rw [if_neg (by omega)]
        · rw [keep_new nex]
          refine ⟨up_at, ?_, C3.dbl (by omega), (C3.dbl (by omega)).le.2, by have := C3.le; show aK A + 1 ≤ 2 * n; omega, hN h, ?_, lN2, by show hS (nw h (.inr (.long, 2 * aK A))) (hN h) = .inr (.long, 2 * n); rw [sN2, hfull], fun i hi => ?_⟩
          · rw [up_a, if_neg (by decide)]
            show (if b = hN h then 0 else m b 6) = aA A
            rw [if_neg (by omega)]; exact C2
          · show (if b = b ∧ 7 = 7 then some (hN h) else _) = some (hN h)
            rw [if_pos ⟨rfl, rfl⟩]
          · change i < aK A + 1 at hi
            show hJ (sJ _ (hN h) (aK A) _) (hN h) i = lN (cBe (sbf (aC A) (aK A) c i).2 (sbf (aC A) (aK A) c i).1)
            by_cases z : i = aK A
            · rw [z, sbf_at, hJ_at]
            · rw [sbf_ne z, hJ_ne (Or.inr z)]
              show (if hN h = hN h ∧ 0 ≤ i ∧ i < 0 + n then (if ρ = hN h then 0 else h.2.2.1 ρ (0 + (i - 0))) else _) = _
              rw [if_pos ⟨rfl, by omega, by omega⟩, if_neg hρ, show 0 + (i - 0) = i by omega]
              exact C9 i (by omega)
        · show hZ h + 2 * aK A = hZ h + 2 * n
          rw [hfull]
      · rw [wp_f hfull]
        refine wp_mono (J77 h m n ρ s3 C6 C7 C8 C1 (by omega) (by omega)) ?_
        rintro r rfl
        refine ⟨_, _, n, rfl, ⟨XX.sJ _ _ _ _, fun _ _ _ _ => rfl, fun a ha hr j => ?_, Or.inl rfl⟩, fun a _ ha => up_r ha, fun j h1 h2 => by rw [up_a, if_neg h1], ?_, Or.inl ⟨rfl, rfl, rfl⟩⟩
        · exact hJ_ne (Or.inl (fun e => hr (by rw [e]; exact C6)))
        · rw [keep_new nex]
          refine ⟨up_at, by rw [up_a, if_neg (by decide)]; exact C2, C3, C4, by show aK A + 1 ≤ n; omega, ρ, C6, C7, C8, fun i hi => ?_⟩
          change i < aK A + 1 at hi
          show hJ (sJ h ρ (aK A) _) ρ i = lN (cBe (sbf (aC A) (aK A) c i).2 (sbf (aC A) (aK A) c i).1)
          by_cases z : i = aK A
          · rw [z, sbf_at, hJ_at]
          · rw [sbf_ne z, hJ_ne (Or.inr z)]; exact C9 i (by omega)
end CH

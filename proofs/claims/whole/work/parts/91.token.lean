/-! the words of a text: both sides -/
section TOK
/-- from p on, past all that is P, up to n -/
noncomputable def skF (P : Nat → Prop) : Nat → Nat → Nat
  | 0, p => p
  | f + 1, p => ci (P p) (skF P f (p + 1)) p
noncomputable def skp (P : Nat → Prop) (n p : Nat) : Nat := skF P (n - p) p
variable {P : Nat → Prop} {n p : Nat}
theorem skp_t (hp : p < n) (h : P p) : skp P n p = skp P n (p + 1) := by
  unfold skp
  rw [show n - p = (n - (p + 1)) + 1 by omega, skF, ci_t h]
theorem skp_f (h : p < n → ¬ P p) : skp P n p = p := by
  unfold skp
  rcases Nat.lt_or_ge p n with z | z
  · rw [show n - p = (n - (p + 1)) + 1 by omega, skF, ci_f (h z)]
  · rw [show n - p = 0 by omega, skF]
theorem skp_le (hp : p ≤ n) : p ≤ skp P n p ∧ skp P n p ≤ n := by
  have key : ∀ f p, p + f = n → p ≤ skF P f p ∧ skF P f p ≤ n := by
    intro f
    induction f with
    | zero => intro p h; exact ⟨Nat.le_refl _, by rw [skF]; omega⟩
    | succ f ih =>
      intro p h
      rw [skF]
      by_cases z : P p
      · rw [ci_t z]
        have := ih (p + 1) (by omega)
        exact ⟨by omega, this.2⟩
      · rw [ci_f z]; exact ⟨Nat.le_refl _, by omega⟩
  exact key (n - p) p (by omega)
theorem skp_end (hp : p ≤ n) : skp P n p < n → ¬ P (skp P n p) := by
  have key : ∀ f p, p + f = n → skF P f p < n → ¬ P (skF P f p) := by
    intro f
    induction f with
    | zero => intro p h z; rw [skF] at z; omega
    | succ f ih =>
      intro p h
      rw [skF]
      by_cases z : P p
      · rw [ci_t z]; exact ih (p + 1) (by omega)
      · rw [ci_f z]; exact fun _ => z
  exact key (n - p) p (by omega)
end TOK
section WRD
def blk (x : Int32) : Prop := x = 32 ∨ x = 10
def ltt (x : Int32) : Prop := ¬ x < 97 ∧ ¬ 122 < x
/-- where each word begins in the row of letters, and how long it is -/
def wOf : Nat → Nat := fun w => [0, 5, 11, 17, 21, 26, 30, 33, 38, 43, 48, 53, 56, 61, 66, 71].getD w 0
def wLn : Nat → Nat := fun w => [4, 5, 5, 3, 4, 3, 2, 4, 4, 4, 4, 2, 4, 4, 4].getD w 0
def lt1 (i : Nat) : Nat := ltr.getD i 0
theorem lt_sp : ∀ i, i < 71 → (lt1 i = 32 ↔ ∃ w, w < 15 ∧ i = wOf w + wLn w) := by decide +kernel
theorem lt_lt : ∀ i, i < 71 → lt1 i < 128 := by decide +kernel
theorem wOf_s : ∀ w, w < 15 → wOf (w + 1) = wOf w + wLn w + 1 := by decide +kernel
theorem wOf_l : ∀ w, w < 15 → wOf w + wLn w < 71 ∧ 2 ≤ wLn w ∧ wLn w ≤ 5 := by decide +kernel
theorem lt_in : ∀ w, w < 15 → ∀ k, k < 6 → k < wLn w → ¬ lt1 (wOf w + k) = 32 := by decide +kernel
theorem w_ne : ∀ w, w < 15 → ∀ w', w' < 15 → w ≠ w' → wLn w ≠ wLn w' ∨ ∃ k, k < 6 ∧ k < wLn w ∧ lt1 (wOf w + k) ≠ lt1 (wOf w' + k) := by decide +kernel
/-- the bytes from s to e are this word -/
def mt (B : Nat → Int32) (s e w : Nat) : Prop := wLn w = e - s ∧ ∀ k, k < wLn w → B (s + k) = nI (lt1 (wOf w + k))
noncomputable def wn (B : Nat → Int32) (s e : Nat) : Nat := @dite Nat (∃ w, w < 15 ∧ mt B s e w) (Classical.propDecidable _) (fun h => Classical.choose h) (fun _ => 15)
variable {B : Nat → Int32} {s e : Nat}
theorem mt_un {w w' : Nat} (hw : w < 15) (hw' : w' < 15) (h : mt B s e w) (h' : mt B s e w') : w = w' := by
  refine Classical.byContradiction fun hc => ?_
  rcases w_ne w hw w' hw' hc with z | ⟨k, k6, k1, k2⟩
  · exact z (h.1.trans h'.1.symm)
  · have e1 := h.2 k k1
    have e2 := h'.2 k (by rw [h'.1, ← h.1]; exact k1)
    have a := wOf_l w hw
    have b := wOf_l w' hw'
    have hk' : k < wLn w' := by rw [h'.1, ← h.1]; exact k1
    rw [e1] at e2
    have l1 := lt_lt (wOf w + k) (by omega)
    have l2 := lt_lt (wOf w' + k) (by omega)
    exact k2 ((nI_eq (by omega) (by omega)).mp e2)
theorem wn_t {w : Nat} (hw : w < 15) (h : mt B s e w) : wn B s e = w := by
  have ex : ∃ w, w < 15 ∧ mt B s e w := ⟨w, hw, h⟩
  unfold wn
  rw [dif_pos ex]
  have := Classical.choose_spec ex
  exact mt_un this.1 hw this.2 h
theorem wn_f (h : ∀ w, w < 15 → ¬ mt B s e w) : wn B s e = 15 := by
  unfold wn
  rw [dif_neg (fun ⟨w, h1, h2⟩ => h w h1 h2)]
theorem wn_le : wn B s e ≤ 15 := by
  by_cases ex : ∃ w, w < 15 ∧ mt B s e w
  · obtain ⟨w, h1, h2⟩ := ex
    rw [wn_t h1 h2]; omega
  · rw [wn_f (fun w h1 h2 => ex ⟨w, h1, h2⟩)]; omega
/-- the next word of a text: which, where it begins, where it ends -/
noncomputable def tok (B : Nat → Int32) (n p : Nat) : Nat × Nat × Nat :=
  if skp (fun j => blk (B j)) n p = n then (17, n, n)
  else if B (skp (fun j => blk (B j)) n p) = 59 then (16, skp (fun j => blk (B j)) n p, skp (fun j => blk (B j)) n p + 1)
  else ci (ltt (B (skp (fun j => blk (B j)) n p))) (wn B (skp (fun j => blk (B j)) n p) (skp (fun j => ltt (B j)) n (skp (fun j => blk (B j)) n p)), skp (fun j => blk (B j)) n p, skp (fun j => ltt (B j)) n (skp (fun j => blk (B j)) n p)) (18, skp (fun j => blk (B j)) n p, skp (fun j => blk (B j)) n p)
theorem tok_ok {n p : Nat} (hp : p ≤ n) : p ≤ (tok B n p).2.1 ∧ (tok B n p).2.1 ≤ (tok B n p).2.2 ∧ (tok B n p).2.2 ≤ n ∧ (tok B n p).1 ≤ 18 ∧ ((tok B n p).1 = 16 → (tok B n p).2.2 = (tok B n p).2.1 + 1) := by
  obtain ⟨h1, h2⟩ := skp_le (P := fun j => blk (B j)) hp
  unfold tok
  by_cases z : skp (fun j => blk (B j)) n p = n
  · rw [if_pos z]; exact ⟨hp, Nat.le_refl _, Nat.le_refl _, (show (17 : Nat) ≤ 18 by decide), fun q => by cases q⟩
  · rw [if_neg z]
    by_cases y : B (skp (fun j => blk (B j)) n p) = 59
    · rw [if_pos y]; exact ⟨h1, Nat.le_succ _, by show _ + 1 ≤ n; omega, (show (16 : Nat) ≤ 18 by decide), fun _ => rfl⟩
    · rw [if_neg y]
      by_cases x : ltt (B (skp (fun j => blk (B j)) n p))
      · rw [ci_t x]
        obtain ⟨h3, h4⟩ := skp_le (P := fun j => ltt (B j)) h2
        have := wn_le (B := B) (s := skp (fun j => blk (B j)) n p) (e := skp (fun j => ltt (B j)) n (skp (fun j => blk (B j)) n p))
        exact ⟨h1, h3, h4, by show wn B _ _ ≤ 18; omega, fun q => by have q' : wn B _ _ = 16 := q; omega⟩
      · rw [ci_f x]; exact ⟨h1, Nat.le_refl _, h2, Nat.le_refl _, fun q => by cases q⟩
end WRD
section CTK
variable {h : Hp} {m : Mem} {B : Nat → Int32} {n p : Nat}
theorem up_up {m : Mem} {a k : Nat} {v w : Int32} : up (up m a k v) a k w = up m a k w := by
  funext o j
  by_cases z : o = a ∧ j = k
  · obtain ⟨rfl, rfl⟩ := z; rw [up_at, up_at]
  · rw [up_ne (by omega), up_ne (by omega), up_ne (by omega)]
theorem up_j {m : Mem} {o j j' : Nat} {v : Int32} (h : j' ≠ j) : up m o j v o j' = m o j' := up_ne (Or.inr h)
theorem up_self {m : Mem} {a k : Nat} {v : Int32} (e : m a k = v) : up m a k v = m := by
  funext o j
  by_cases z : o = a ∧ j = k
  · obtain ⟨rfl, rfl⟩ := z; rw [up_at, e]
  · rw [up_ne (by omega)]
/-- the class's reader, its text in cell 1 -/
def TX (h : Hp) (m : Mem) (B : Nat → Int32) (n : Nat) : Prop := Sh6 h 2 ∧ hR h 2 2 = some 1 ∧ hS h 1 = .inr (.byte, 900) ∧ n ≤ 900 ∧ m 2 3 = nI n ∧ ∀ j, j < n → m 1 j = B j
def TKc (m : Mem) (t : Nat × Nat × Nat) : Prop := m 2 5 = nI t.1 ∧ m 2 6 = nI t.2.1 ∧ m 2 7 = nI t.2.2
theorem c_isLetter {x : Int32} {Q : Int32 → Prop} [Decidable (ltt x)] : wp (fX6_isLetter h x) Q = Q (b01 (ltt x)) := by
  unfold fX6_isLetter jX6_isLetter_16 jX6_isLetter_17
  by_cases z : x < 97
  · rw [wp_t z, wp_bind, wp_eq bz_0, wp_some, b01_n (fun q => q.1 z)]
  · rw [wp_f z]
    by_cases y : 122 < x
    · rw [wp_t y, wp_bind, wp_eq bz_0, wp_some, b01_n (fun q => q.2 y)]
    · rw [wp_f y, wp_bind, wp_eq bz_1, wp_some, b01_t ⟨z, y⟩]
theorem r_isLetter {x : Int32} {Q : Int32 → Prop} [Decidable (ltt x)] : wp (gX12_isLetter x) Q = Q (b01 (ltt x)) := by
  unfold gX12_isLetter gjX12_isLetter_16 gjX12_isLetter_17
  by_cases z : x < 97
  · rw [wp_t z, wp_bind, wp_eq bz_0, wp_some, b01_n (fun q => q.1 z)]
  · rw [wp_f z]
    by_cases y : 122 < x
    · rw [wp_t y, wp_bind, wp_eq bz_0, wp_some, b01_n (fun q => q.2 y)]
    · rw [wp_f y, wp_bind, wp_eq bz_1, wp_some, b01_t ⟨z, y⟩]
theorem c_charAt (h : Hp) {i : Nat} (hi : i < 71) {Q : Int32 × Hp → Prop} : wp (fJ0_charAt_5068e h (nI i)) Q = Q (nI (lt1 i), h) := by
  have k1 : ∀ i, i < 71 → fJ1_charAt_3b067 (fun _ => .inl 0, fun _ _ => 0, fun _ _ => 0, fun _ _ => none, 0, 0) (nI i) = some (nI (lt1 i)) := by decide +kernel
  have k2 : ∀ i, i < 71 → bc (nI (lt1 i)) = some (nI (lt1 i)) := by decide +kernel
  have k3 : fJ0_isLatin1_aae02 h = some 1 := rfl
  have k4 : fJ1_charAt_3b067 h (nI i) = some (nI (lt1 i)) := k1 i hi
  unfold fJ0_charAt_5068e
  rw [wp_bind, wp_eq k3, wp_f (by decide), wp_bind, wp_eq k4, wp_bind, wp_eq (k2 i hi), wp_some]
theorem c_length (h : Hp) {Q : Int32 → Prop} : wp (fJ0_length_8abf5 h) Q = Q (nI 71) := by
  have k : fJ0_length_8abf5 h = some (nI 71) := (by decide : fJ0_length_8abf5 (fun _ => .inl 0, fun _ _ => 0, fun _ _ => 0, fun _ _ => none, 0, 0) = some (nI 71))
  rw [wp_eq k]
theorem TX.gt (T : TX h m B n) {Q : Nat → Prop} {m' : Mem} : wp (gR (wI h m') 6 2 2) Q = Q 1 := by rw [T.1.q2, T.2.1, wp_some]
theorem TX.lb (T : TX h m B n) {Q : Int32 → Prop} {m' : Mem} {j : Nat} (hj : j < 900) : wp (lI (wI h m') .byte 1 (nI j)) Q = Q (m' 1 j) := x_lI (by have := T.1.1; omega) T.2.2.1 hj (by decide)
/-- blanks are passed -/
theorem c_skip (T : TX h m B n) (hp : p ≤ n) (e6 : m 2 6 = nI p) : wp (lp (bX6_nextToken_8 2) FU (wI h m)) (fun r => r = wI h (up m 2 6 (nI (skp (fun j => blk (B j)) n p)))) := by
  have s := T.1
  have n9 := T.2.2.2.1
  have e3 := T.2.2.2.2.1
  have eB := T.2.2.2.2.2
  refine wp_lp (fun k st => ∃ q, k + q = n ∧ p ≤ q ∧ st = wI h (up m 2 6 (nI q)) ∧ skp (fun j => blk (B j)) n q = skp (fun j => blk (B j)) n p) (fun k st HH => ?_) (n := n - p) ⟨p, by omega, Nat.le_refl _, by rw [up_self e6], rfl⟩ (by omega)
  obtain ⟨q, kq, pq, rfl, eq⟩ := HH
  unfold bX6_nextToken_8
  rw [wp_bind, s.g6, up_at, wp_bind, s.g3, up_j (show (3 : Nat) ≠ 6 by decide), e3]
  by_cases z : n ≤ q
  · rw [wp_t (nI_le z (by omega)), wp_some, lq_r, ← eq, skp_f (by omega)]
  · have go : blk (B q) → wp (jX6_nextToken_47 2 (wI h (up m 2 6 (nI q)))) (lq (fun s' => ∃ n', n' < k ∧ ∃ q, n' + q = n ∧ p ≤ q ∧ s' = wI h (up m 2 6 (nI q)) ∧ skp (fun j => blk (B j)) n q = skp (fun j => blk (B j)) n p) (fun r => r = wI h (up m 2 6 (nI (skp (fun j => blk (B j)) n p))))) := fun hb => by
      unfold jX6_nextToken_47
      rw [wp_bind, s.g6, up_at, wp_bind, s.p6, wp_some, lq_l, up_up, show nI q + 1 = nI (q + 1) from i_add _ 1]
      exact ⟨k - 1, by omega, q + 1, by omega, by omega, rfl, (skp_t (P := fun j => blk (B j)) (show q < n by omega) hb).symm.trans eq⟩
    rw [wp_f (fun y => z ((nI_leI (by omega) (by omega)).mp y)), wp_bind, T.gt, wp_bind, s.g6, up_at, wp_bind, T.lb (by omega), up_r (by decide), eB q (by omega)]
    by_cases b1 : B q = 32
    · rw [wp_t b1]; exact go (Or.inl b1)
    · rw [wp_f b1, wp_bind, T.gt, wp_bind, s.g6, up_at, wp_bind, T.lb (by omega), up_r (by decide), eB q (by omega)]
      by_cases b2 : B q = 10
      · rw [wp_t b2]; exact go (Or.inr b2)
      · rw [wp_f b2, wp_some, lq_r, ← eq, skp_f (fun _ y => y.elim b1 b2)]
/-- letters are passed -/
theorem c_word (T : TX h m B n) (hp : p ≤ n) (e7 : m 2 7 = nI p) : wp (lp (bX6_nextToken_136 2) FU (wI h m)) (fun r => r = wI h (up m 2 7 (nI (skp (fun j => ltt (B j)) n p)))) := by
  have s := T.1
  have n9 := T.2.2.2.1
  have e3 := T.2.2.2.2.1
  have eB := T.2.2.2.2.2
  refine wp_lp (fun k st => ∃ q, k + q = n ∧ p ≤ q ∧ st = wI h (up m 2 7 (nI q)) ∧ skp (fun j => ltt (B j)) n q = skp (fun j => ltt (B j)) n p) (fun k st HH => ?_) (n := n - p) ⟨p, by omega, Nat.le_refl _, by rw [up_self e7], rfl⟩ (by omega)
  obtain ⟨q, kq, pq, rfl, eq⟩ := HH
  unfold bX6_nextToken_136
  rw [wp_bind, s.g7, up_at, wp_bind, s.g3, up_j (show (3 : Nat) ≠ 7 by decide), e3]
  by_cases z : n ≤ q
  · rw [wp_t (nI_le z (by omega)), wp_some, lq_r, ← eq, skp_f (by omega)]
  · have _d : Decidable (ltt (B q)) := Classical.propDecidable _
    rw [wp_f (fun y => z ((nI_leI (by omega) (by omega)).mp y)), wp_bind, T.gt, wp_bind, s.g7, up_at, wp_bind, T.lb (by omega), up_r (by decide), eB q (by omega), wp_bind, c_isLetter]
    by_cases b1 : ltt (B q)
    · rw [b01_t b1, wp_f (by decide), wp_bind, s.g7, up_at, wp_bind, s.p7, wp_some, lq_l, up_up, show nI q + 1 = nI (q + 1) from i_add _ 1]
      exact ⟨k - 1, by omega, q + 1, by omega, by omega, rfl, (skp_t (P := fun j => ltt (B j)) (show q < n by omega) b1).symm.trans eq⟩
    · rw [b01_n b1, wp_t rfl, wp_some, lq_r, ← eq, skp_f (fun _ => b1)]
/-- which word it is -/
theorem c_wordN {s e : Nat} (T : TX h m B n) (hse : s ≤ e) (hen : e ≤ n) (e6 : m 2 6 = nI s) (e7 : m 2 7 = nI e) : wp (fX6_wordNumber (wI h m) 2) (fun r => r = (nI (wn B s e), wI h m)) := by
  have s6 := T.1
  have n9 := T.2.2.2.1
  have eB := T.2.2.2.2.2
  unfold fX6_wordNumber
  rw [wp_bind, s6.g7, e7, wp_bind, s6.g6, e6, wp_bind, wp_some, i_sub hse, wp_bind]
  refine wp_mono (Q := fun r => (r = .inl (wI h m) ∧ wn B s e = 15) ∨ r = .inr (nI (wn B s e), wI h m)) ?_ ?_
  · refine wp_for (κ := Nat × Nat) (fun i c => (nI c.1, nI c.2, (if ∀ k, k < c.2 → k < e - s ∧ (k < e - s → m 1 (s + k) = nI (lt1 (wOf c.1 + k))) then 1 else 0 : Int32), nI i, wI h m)) 71 (fun i c => i = wOf c.1 + c.2 ∧ ((c.1 < 15 ∧ c.2 ≤ wLn c.1) ∨ (c.1 = 15 ∧ c.2 = 0)) ∧ ∀ w, w < c.1 → ¬ mt B s e w) (fun i c hi HH => ?_) (fun c HH => ?_) 0 (0, 0) (by decide) ⟨rfl, Or.inl ⟨by decide, by decide⟩, fun w hw => absurd hw (Nat.not_lt_zero _)⟩ (by decide)
    · obtain ⟨w, k⟩ := c
      obtain ⟨hik, hwk, hno⟩ := HH
      simp only at hik hwk hno
      rcases hwk with ⟨hw, hk⟩ | ⟨rfl, rfl⟩
      · obtain ⟨l1, l2, l3⟩ := wOf_l w hw
        have al : (∀ k', k' < k → k' < e - s ∧ (k' < e - s → m 1 (s + k') = nI (lt1 (wOf w + k')))) ↔ k ≤ e - s ∧ ∀ k', k' < k → B (s + k') = nI (lt1 (wOf w + k')) := by
          constructor
          · intro z
            refine ⟨Nat.le_of_not_lt fun y => ?_, fun k' hk' => ?_⟩
            · have := (z (e - s) y).1; omega
            · have q := z k' hk'
              rw [← eB (s + k') (by have := q.1; omega)]; exact q.2 q.1
          · rintro ⟨z1, z2⟩ k' hk'
            exact ⟨by omega, fun _ => by rw [eB (s + k') (by omega)]; exact z2 k' hk'⟩
        simp only [bX6_wordNumber_20, jX6_wordNumber_97, jX6_wordNumber_105, jX6_wordNumber_76, jX6_wordNumber_77]
        rw [wp_bind, c_length, wp_f (fun z => by have := (nI_leI (by decide) (by omega)).mp z; omega), wp_bind, c_charAt _ hi]
        have sp := lt_sp i hi
        have l128 := lt_lt i hi
        by_cases k2 : k = wLn w
        · have e32 : lt1 i = 32 := sp.mpr ⟨w, hw, by omega⟩
          have mtw : mt B s e w ↔ (∀ k', k' < k → k' < e - s ∧ (k' < e - s → m 1 (s + k') = nI (lt1 (wOf w + k')))) ∧ k = e - s := by
            rw [al, k2]
            unfold mt
            exact ⟨fun z => ⟨⟨by omega, z.2⟩, z.1⟩, fun z => ⟨z.2, z.1.2⟩⟩
          have nx : ¬ mt B s e w → ∃ c' : Nat × Nat, (nI w + 1, (0 : Int32), (1 : Int32), nI i + 1, wI h m) = (nI c'.1, nI c'.2, (if ∀ k, k < c'.2 → k < e - s ∧ (k < e - s → m 1 (s + k) = nI (lt1 (wOf c'.1 + k))) then 1 else 0 : Int32), nI (i + 1), wI h m) ∧ i + 1 = wOf c'.1 + c'.2 ∧ ((c'.1 < 15 ∧ c'.2 ≤ wLn c'.1) ∨ (c'.1 = 15 ∧ c'.2 = 0)) ∧ ∀ w, w < c'.1 → ¬ mt B s e w := fun hn => by
            refine ⟨(w + 1, 0), ?_, ?_, ?_, fun w' hw' => ?_⟩
            · rw [if_pos (fun k hk => absurd hk (Nat.not_lt_zero _)), nI_1, nI_1]; rfl
            · show i + 1 = wOf (w + 1) + 0
              rw [wOf_s w hw]; omega
            · by_cases z : w + 1 < 15
              · exact Or.inl ⟨z, Nat.zero_le _⟩
              · exact Or.inr ⟨by show w + 1 = 15; omega, rfl⟩
            · have hw2 : w' < w + 1 := hw'
              by_cases z : w' = w
              · rw [z]; exact hn
              · exact hno w' (by omega)
          rw [e32, wp_t (show nI 32 = 32 from rfl)]
          by_cases c1 : ∀ k', k' < k → k' < e - s ∧ (k' < e - s → m 1 (s + k') = nI (lt1 (wOf w + k')))
          · rw [if_pos c1, wp_f (by decide)]
            by_cases c2 : k = e - s
            · rw [wp_t (by rw [c2]), wp_some, lq_r]
              exact Or.inr (by rw [wn_t hw (mtw.mpr ⟨c1, c2⟩)])
            · rw [wp_f (fun z => c2 ((nI_eq (by omega) (by omega)).mp z)), wp_bind, wp_some, wp_bind, wp_some, wp_some, lq_l]
              exact nx (fun z => c2 (mtw.mp z).2)
          · rw [if_neg c1, wp_t rfl, wp_bind, wp_some, wp_bind, wp_some, wp_some, lq_l]
            exact nx (fun z => c1 (mtw.mp z).1)
        · have n32 : ¬ lt1 i = 32 := by rw [hik]; exact lt_in w hw k (by omega) (by omega)
          have nx : ∀ y : Int32, y = (if ∀ k', k' < k + 1 → k' < e - s ∧ (k' < e - s → m 1 (s + k') = nI (lt1 (wOf w + k'))) then 1 else 0 : Int32) → ∃ c' : Nat × Nat, (nI w, nI k + 1, y, nI i + 1, wI h m) = (nI c'.1, nI c'.2, (if ∀ k, k < c'.2 → k < e - s ∧ (k < e - s → m 1 (s + k) = nI (lt1 (wOf c'.1 + k))) then 1 else 0 : Int32), nI (i + 1), wI h m) ∧ i + 1 = wOf c'.1 + c'.2 ∧ ((c'.1 < 15 ∧ c'.2 ≤ wLn c'.1) ∨ (c'.1 = 15 ∧ c'.2 = 0)) ∧ ∀ w, w < c'.1 → ¬ mt B s e w := fun y hy => ⟨(w, k + 1), by rw [hy, nI_1, nI_1], by show i + 1 = wOf w + (k + 1); omega, Or.inl ⟨hw, by show k + 1 ≤ wLn w; omega⟩, hno⟩
          rw [wp_f (show ¬ nI (lt1 i) = 32 from fun z => n32 ((nI_eq (b := 32) (by omega) (by decide)).mp z))]
          by_cases c1 : ∀ k', k' < k → k' < e - s ∧ (k' < e - s → m 1 (s + k') = nI (lt1 (wOf w + k')))
          · rw [if_pos c1, wp_f (by decide)]
            by_cases c2 : e - s ≤ k
            · rw [wp_t (nI_le c2 (by omega)), wp_bind, wp_some, wp_bind, wp_some, wp_some, lq_l]
              exact nx 0 (by rw [if_neg (fun z => by have := (z k (by omega)).1; omega)])
            · rw [wp_f (fun z => c2 ((nI_leI (by omega) (by omega)).mp z)), wp_bind, T.gt, wp_bind, s6.g6, e6, wp_bind, i_add, T.lb (by omega)]
              by_cases c3 : m 1 (s + k) = nI (lt1 i)
              · rw [wp_t c3, wp_bind, wp_some, wp_bind, wp_some, wp_some, lq_l]
                refine nx 1 ?_
                rw [if_pos]
                intro k' hk'
                by_cases z : k' = k
                · rw [z]; exact ⟨by omega, fun _ => by rw [← hik]; exact c3⟩
                · exact c1 k' (by omega)
              · rw [wp_f c3, wp_bind, wp_some, wp_bind, wp_some, wp_some, lq_l]
                exact nx 0 (by rw [if_neg (fun z => c3 (by rw [hik]; exact (z k (by omega)).2 (by omega)))])
          · rw [if_neg c1, wp_t rfl, wp_bind, wp_some, wp_bind, wp_some, wp_some, lq_l]
            exact nx 0 (by rw [if_neg (fun z => c1 (fun k' hk' => z k' (by omega)))])
      · have : wOf 15 = 71 := by decide
        omega
    · obtain ⟨w, k⟩ := c
      obtain ⟨hik, hwk, hno⟩ := HH
      simp only at hik hwk hno
      simp only [bX6_wordNumber_20]
      rw [wp_bind, c_length, wp_t (nI_le (Nat.le_refl _) (by decide)), wp_some, lq_r]
      rcases hwk with ⟨hw, hk⟩ | ⟨rfl, rfl⟩
      · have := wOf_l w hw; omega
      · exact Or.inl ⟨rfl, wn_f hno⟩
  · rintro r (⟨rfl, h15⟩ | rfl)
    · rw [wp_some, h15]; rfl
    · rw [wp_some]
/-- the class's next word -/
theorem c_next (T : TX h m B n) (hp : p ≤ n) (e7 : m 2 7 = nI p) : wp (fX6_nextToken (wI h m) 2) (fun r => ∃ m', r = wI h m' ∧ (∀ a, a ≠ 2 → m' a = m a) ∧ (∀ j, j ≠ 5 → j ≠ 6 → j ≠ 7 → m' 2 j = m 2 j) ∧ TKc m' (tok B n p)) := by
  have s6 := T.1
  have n9 := T.2.2.2.1
  have e3 := T.2.2.2.2.1
  have eB := T.2.2.2.2.2
  obtain ⟨h1, h2⟩ := skp_le (P := fun j => blk (B j)) hp
  have T1 : ∀ k v, k = 5 ∨ k = 6 ∨ k = 7 → TX h (up m 2 k v) B n := fun k v hk => ⟨s6, T.2.1, T.2.2.1, n9, by rw [up_a, if_neg (by omega)]; exact e3, fun j hj => by rw [up_r (by decide)]; exact eB j hj⟩
  unfold fX6_nextToken jX6_nextToken_192
  rw [wp_bind, s6.g7, e7, wp_bind, s6.p6, wp_bind]
  refine wp_mono (c_skip (T1 6 _ (by omega)) hp up_at) ?_
  rintro r rfl
  rw [up_up]
  unfold tok
  generalize hs : skp (fun j => blk (B j)) n p = s at h1 h2
  have fr : ∀ v w x, (∀ a, a ≠ 2 → up (up (up m 2 6 v) 2 7 w) 2 5 x a = m a) ∧ ∀ j, j ≠ 5 → j ≠ 6 → j ≠ 7 → up (up (up m 2 6 v) 2 7 w) 2 5 x 2 j = m 2 j := fun v w x => ⟨fun a ha => by rw [up_r ha, up_r ha, up_r ha], fun j z1 z2 z3 => by rw [up_a, if_neg z1, up_a, if_neg z3, up_a, if_neg z2]⟩
  have tk : ∀ a b c, TKc (up (up (up m 2 6 (nI a)) 2 7 (nI b)) 2 5 (nI c)) (c, a, b) := fun a b c => ⟨up_at, by rw [up_a, if_neg (by decide), up_a, if_neg (by decide), up_at], by rw [up_a, if_neg (by decide), up_at]⟩
  have g6 : ∀ {w : Int32} {Q : Int32 → Prop}, wp (gI (wI h (up (up m 2 6 (nI s)) 2 7 w)) 6 2 6) Q = Q (nI s) := fun {w Q} => by rw [s6.g6, up_a, if_neg (by decide), up_at]
  have g3 : ∀ {w : Int32} {Q : Int32 → Prop}, wp (gI (wI h (up (up m 2 6 (nI s)) 2 7 w)) 6 2 3) Q = Q (nI n) := fun {w Q} => by rw [s6.g3, up_a, if_neg (by decide), up_a, if_neg (by decide), e3]
  have lb : ∀ {w : Int32} {Q : Int32 → Prop}, s < n → wp (lI (wI h (up (up m 2 6 (nI s)) 2 7 w)) .byte 1 (nI s)) Q = Q (B s) := fun {w Q} hs => by rw [T.lb (by omega), up_r (by decide), up_r (by decide), eB s hs]
  rw [wp_bind, s6.g6, up_at, wp_bind, s6.p7, wp_bind, g6, wp_bind, g3]
  by_cases z : s = n
  · rw [wp_t (by rw [z]), wp_bind, s6.p5, wp_some, if_pos z]
    refine ⟨_, rfl, (fr _ _ _).1, (fr _ _ _).2, ?_⟩
    have := tk s s 17
    rw [z] at this ⊢; exact this
  · have sn : s < n := by omega
    rw [wp_f (fun y => z ((nI_eq (by omega) (by omega)).mp y)), if_neg z, wp_bind, T.gt, wp_bind, g6, wp_bind, lb sn]
    by_cases y : B s = 59
    · rw [wp_t y, wp_bind, s6.p5, wp_bind, s6.g7, up_a, if_neg (by decide), up_at, wp_bind, s6.p7, wp_some, if_pos y, show nI s + 1 = nI (s + 1) from i_add _ 1]
      refine ⟨_, rfl, fun a ha => by rw [up_r ha]; exact (fr _ _ _).1 a ha, fun j z1 z2 z3 => by rw [up_a, if_neg z3]; exact (fr _ _ _).2 j z1 z2 z3, ?_, ?_, up_at⟩
      · rw [up_a, if_neg (by decide), up_at]; rfl
      · rw [up_a, if_neg (by decide), up_a, if_neg (by decide), up_a, if_neg (by decide), up_at]
    · have _d : Decidable (ltt (B s)) := Classical.propDecidable _
      rw [wp_f y, if_neg y, wp_bind, T.gt, wp_bind, g6, wp_bind, lb sn, wp_bind, c_isLetter]
      by_cases x : ltt (B s)
      · rw [b01_t x, wp_f (by decide), ci_t x, wp_bind]
        obtain ⟨h3, h4⟩ := skp_le (P := fun j => ltt (B j)) h2
        have T2 : TX h (up (up m 2 6 (nI s)) 2 7 (nI s)) B n := ⟨s6, T.2.1, T.2.2.1, n9, by rw [up_a, if_neg (by decide), up_a, if_neg (by decide)]; exact e3, fun j hj => by rw [up_r (by decide), up_r (by decide)]; exact eB j hj⟩
        refine wp_mono (c_word T2 h2 up_at) ?_
        rintro r rfl
        rw [up_up]
        have T3 : TX h (up (up m 2 6 (nI s)) 2 7 (nI (skp (fun j => ltt (B j)) n s))) B n := ⟨s6, T.2.1, T.2.2.1, n9, by rw [up_a, if_neg (by decide), up_a, if_neg (by decide)]; exact e3, fun j hj => by rw [up_r (by decide), up_r (by decide)]; exact eB j hj⟩
        rw [wp_bind, s6.o, wp_bind]
        refine wp_mono (c_wordN T3 h3 h4 (by rw [up_a, if_neg (by decide), up_at]) up_at) ?_
        rintro r rfl
        rw [wp_bind]
        show wp (pI (wI h _) 6 2 5 _) _
        rw [s6.p5, wp_some]
        exact ⟨_, rfl, (fr _ _ _).1, (fr _ _ _).2, tk _ _ _⟩
      · rw [b01_n x, wp_t rfl, ci_f x, wp_bind, s6.p5, wp_some]
        exact ⟨_, rfl, (fr _ _ _).1, (fr _ _ _).2, tk s s 18⟩
end CTK

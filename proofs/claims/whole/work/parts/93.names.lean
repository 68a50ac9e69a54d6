/-! what is read of a text, told once -/
abbrev TT : Type := Nat × Nat × Nat
abbrev NT : Type := Nat × (Nat → Nat) × (Nat → Nat) × (Nat → Nat) × (Nat → Nat)
abbrev QT : Type := PD × (Nat → Nat)
abbrev OT (α : Type) : Type := (Nat × Nat) ⊕ α
def ntN (N : NT) : Nat := N.1
def ntA (N : NT) : Nat → Nat := N.2.1
def ntG (N : NT) : Nat → Nat := N.2.2.1
def ntS (N : NT) : Nat → Nat := N.2.2.2.1
def ntU (N : NT) : Nat → Nat := N.2.2.2.2
def obi {α β : Type} (o : OT α) (f : α → OT β) : OT β := match o with
  | .inl e => .inl e
  | .inr a => f a
def outc {α : Type} (o : OT α) (F : Nat × Nat → Prop) (G : α → Prop) : Prop := match o with
  | .inl e => F e
  | .inr a => G a
/-- the word at hand is this name -/
def nm (B : Nat → Int32) (N : NT) (t : TT) (i : Nat) : Prop := ntG N i = t.2.2 - t.2.1 ∧ ∀ k, k < ntG N i → B (ntA N i + k) = B (t.2.1 + k)
noncomputable def fnd (B : Nat → Int32) (N : NT) (t : TT) : Nat → Option Nat
  | 0 => none
  | k + 1 => match fnd B N t k with
    | some i => some i
    | none => ci (nm B N t k) (some k) none
section FND
variable {B : Nat → Int32} {N : NT} {t : TT}
theorem fnd_n : ∀ k, (∀ i, i < k → ¬ nm B N t i) → fnd B N t k = none
  | 0, _ => rfl
  | k + 1, h => by
    rw [fnd, fnd_n k (fun i hi => h i (by omega))]
    exact ci_f (h k (by omega))
theorem fnd_s {i : Nat} : ∀ k, i < k → nm B N t i → (∀ j, j < i → ¬ nm B N t j) → fnd B N t k = some i
  | 0, hi, _, _ => absurd hi (Nat.not_lt_zero _)
  | k + 1, hi, h1, h2 => by
    by_cases z : i = k
    · subst z
      rw [fnd, fnd_n i h2]
      exact ci_t h1
    · rw [fnd, fnd_s k (by omega) h1 h2]
theorem fnd_lt {i : Nat} : ∀ k, fnd B N t k = some i → i < k
  | 0, h => by cases h
  | k + 1, h => by
    rw [fnd] at h
    cases e : fnd B N t k with
    | some j =>
      rw [e] at h
      cases h
      exact Nat.lt_succ_of_lt (fnd_lt k e)
    | none =>
      rw [e] at h
      simp only at h
      by_cases z : nm B N t k
      · rw [ci_t z] at h; cases h; exact Nat.lt_succ_self _
      · rw [ci_f z] at h; cases h
end FND
def addN (N : NT) (t : TT) (so nu : Nat) : NT := (ntN N + 1, sbf (ntA N) (ntN N) t.2.1, sbf (ntG N) (ntN N) (t.2.2 - t.2.1), sbf (ntS N) (ntN N) so, sbf (ntU N) (ntN N) nu)
noncomputable def nxt (B : Nat → Int32) (n : Nat) (t : TT) : TT := tok B n t.2.2
noncomputable def sNew (B : Nat → Int32) (n so nu : Nat) (t : TT) (N : NT) : OT (TT × NT) := if t.1 = 15 then (match fnd B N t (ntN N) with
  | none => .inr (nxt B n t, addN N t so nu)
  | some _ => .inl (2, t.2.1)) else .inl (1, t.2.1)
noncomputable def sOld (B : Nat → Int32) (n so : Nat) (t : TT) (N : NT) : OT (Nat × TT) := if t.1 = 15 then (match fnd B N t (ntN N) with
  | none => .inl (3, t.2.1)
  | some i => if ntS N i = so then .inr (ntU N i, nxt B n t) else .inl (3, t.2.1)) else .inl (1, t.2.1)
noncomputable def sPass (B : Nat → Int32) (n w : Nat) (t : TT) : OT TT := if t.1 = w then .inr (nxt B n t) else .inl (1, t.2.1)
/-- bounds -/
def TW (n : Nat) (t : TT) : Prop := t.2.1 ≤ t.2.2 ∧ t.2.2 ≤ n ∧ t.1 ≤ 18 ∧ (t.1 = 16 → t.2.2 = t.2.1 + 1)
def NW (n : Nat) (N : NT) : Prop := ntN N ≤ 24 ∧ ∀ i, i < ntN N → ntA N i + ntG N i ≤ n ∧ ntS N i ≤ 2 ∧ ntU N i < 10
section CNM
variable {h : Hp} {m m' : Mem} {B : Nat → Int32} {n Q : Nat} {t : TT} {N : NT}
theorem nxt_W (w : TW n t) : TW n (nxt B n t) ∧ t.2.2 ≤ (nxt B n t).2.1 := by
  obtain ⟨h1, h2, h3, h4, h5⟩ := tok_ok (B := B) (n := n) (p := t.2.2) w.2.1
  exact ⟨⟨h2, h3, h4, h5⟩, h1⟩
theorem addN_W {so nu : Nat} (w : TW n t) (x : NW n N) (hN : ntN N < 24) (hs : so ≤ 2) (hu : nu < 10) : NW n (addN N t so nu) := by
  refine ⟨hN, fun i hi => ?_⟩
  have hi' : i < ntN N + 1 := hi
  show sbf (ntA N) (ntN N) t.2.1 i + sbf (ntG N) (ntN N) (t.2.2 - t.2.1) i ≤ n ∧ sbf (ntS N) (ntN N) so i ≤ 2 ∧ sbf (ntU N) (ntN N) nu i < 10
  by_cases z : i = ntN N
  · rw [z, sbf_at, sbf_at, sbf_at, sbf_at]
    have := w.1
    have := w.2.1
    exact ⟨by omega, hs, hu⟩
  · rw [sbf_ne z, sbf_ne z, sbf_ne z, sbf_ne z]; exact x.2 i (by omega)
def NMc (m : Mem) (N : NT) : Prop := m 2 8 = nI (ntN N) ∧ ∀ i, i < ntN N → m 4 i = nI (ntA N i) ∧ m 5 i = nI (ntA N i + ntG N i) ∧ m 6 i = nI (ntS N i) ∧ m 7 i = nI (ntU N i)
def NMr (m : Mem) (N : NT) : Prop := m 0 26 = nI (ntN N) ∧ ∀ i, i < ntN N → m 12 i = nI (ntA N i) ∧ m 13 i = nI (ntG N i) ∧ m 14 i = nI (ntS N i) ∧ m 15 i = nI (ntU N i)
theorem c_isNm {i : Nat} (T : TX h m B n) (K : TKc m t) (w : TW n t) (M : NMc m N) (x : NW n N) (hi : i < ntN N) : wp (fX6_isName (wI h m) 2 (nI i)) (fun r => (r = 1 ∧ nm B N t i) ∨ (r = 0 ∧ ¬ nm B N t i)) := by
  have s6 := T.1
  have n9 := T.2.2.2.1
  have eB := T.2.2.2.2.2
  obtain ⟨k1, k2, k3⟩ := K
  obtain ⟨w1, w2, w3, _⟩ := w
  obtain ⟨m4, m5, _, _⟩ := M.2 i hi
  have x24 := x.1
  have xb := (x.2 i hi).1
  have l10 : ∀ {Q : Int32 → Prop}, wp (lI (wI h m) .int 5 (nI i)) Q = Q (nI (ntA N i + ntG N i)) := fun {Q} => by rw [show (5 : Nat) = 2 + 3 from rfl, s6.l10 (by omega), m5]
  have l9 : ∀ {Q : Int32 → Prop}, wp (lI (wI h m) .int 4 (nI i)) Q = Q (nI (ntA N i)) := fun {Q} => by rw [show (4 : Nat) = 2 + 2 from rfl, s6.l9 (by omega), m4]
  have r10 : ∀ {Q : Nat → Prop}, wp (gR (wI h m) 6 2 10) Q = Q 5 := fun {Q} => s6.r10
  have r9 : ∀ {Q : Nat → Prop}, wp (gR (wI h m) 6 2 9) Q = Q 4 := fun {Q} => s6.r9
  unfold fX6_isName
  rw [wp_bind, s6.g7, k3, wp_bind, s6.g6, k2, wp_bind, wp_some, i_sub w1, wp_bind, r10, wp_bind, l10, wp_bind, r9, wp_bind, l9, i_sub (by omega), Nat.add_sub_cancel_left]
  by_cases z : ntG N i = t.2.2 - t.2.1
  · rw [wp_t (by rw [z]), wp_bind]
    refine wp_mono (Q := fun r => (r = .inl () ∧ nm B N t i) ∨ (r = .inr () ∧ ¬ nm B N t i)) ?_ ?_
    · refine wp_for (κ := Unit) (fun k _ => nI k) (t.2.2 - t.2.1) (fun k _ => ∀ k', k' < k → B (ntA N i + k') = B (t.2.1 + k')) (fun k c hk HH => ?_) (fun c HH => ?_) 0 () (Nat.zero_le _) (fun k hk => absurd hk (Nat.not_lt_zero _)) (by omega)
      · unfold bX6_isName_31
        rw [wp_f (fun y => by have := (nI_leI (by omega) (by omega)).mp y; omega), wp_bind, T.gt, wp_bind, r9, wp_bind, l9, wp_bind, i_add, T.lb (by omega), eB _ (by omega), wp_bind, T.gt, wp_bind, s6.g6, k2, wp_bind, i_add, T.lb (by omega), eB _ (by omega)]
        by_cases y : B (ntA N i + k) = B (t.2.1 + k)
        · rw [wp_t y, wp_bind, wp_some, wp_some, lq_l]
          refine ⟨(), nI_1 k, fun k' hk' => ?_⟩
          by_cases x : k' = k
          · rw [x]; exact y
          · exact HH k' (by omega)
        · rw [wp_f y, wp_some, lq_r]
          exact Or.inr ⟨rfl, fun q => y (q.2 k (by rw [z]; exact hk))⟩
      · unfold bX6_isName_31
        rw [wp_t (nI_le (Nat.le_refl _) (by omega)), wp_some, lq_r]
        exact Or.inl ⟨rfl, z, fun k hk => HH k (by rw [← z]; exact hk)⟩
    · rintro r (⟨rfl, h⟩ | ⟨rfl, h⟩)
      · rw [wp_some]; exact Or.inl ⟨rfl, h⟩
      · rw [wp_some]; exact Or.inr ⟨rfl, h⟩
  · rw [wp_f (fun y => z ((nI_eq (by omega) (by omega)).mp y)), wp_some]
    exact Or.inr ⟨rfl, fun y => z y.1⟩
theorem c_findNm (T : TX h m B n) (K : TKc m t) (w : TW n t) (M : NMc m N) (x : NW n N) : wp (fX6_findName (wI h m) 2) (fun r => r = bI (fnd B N t (ntN N))) := by
  have s6 := T.1
  have x24 := x.1
  unfold fX6_findName
  rw [wp_bind]
  refine wp_mono (Q := fun r => (r = .inl () ∧ ∀ i, i < ntN N → ¬ nm B N t i) ∨ ∃ i, i < ntN N ∧ r = .inr (nI i) ∧ nm B N t i ∧ ∀ j, j < i → ¬ nm B N t j) ?_ ?_
  · refine wp_for (κ := Unit) (fun k _ => nI k) (ntN N) (fun k _ => ∀ i, i < k → ¬ nm B N t i) (fun k c hk HH => ?_) (fun c HH => ?_) 0 () (Nat.zero_le _) (fun k hk => absurd hk (Nat.not_lt_zero _)) (by omega)
    · unfold bX6_findName_2
      rw [wp_bind, s6.g8, M.1, wp_f (fun y => by have := (nI_leI (by omega) (by omega)).mp y; omega), wp_bind, s6.o, wp_bind]
      refine wp_mono (c_isNm T K w M x hk) ?_
      rintro r (⟨rfl, z⟩ | ⟨rfl, z⟩)
      · rw [wp_f (by decide), wp_some, lq_r]
        exact Or.inr ⟨k, hk, rfl, z, HH⟩
      · rw [wp_t rfl, wp_bind, wp_some, wp_some, lq_l]
        refine ⟨(), nI_1 k, fun i hi => ?_⟩
        by_cases y : i = k
        · rw [y]; exact z
        · exact HH i (by omega)
    · unfold bX6_findName_2
      rw [wp_bind, s6.g8, M.1, wp_t (nI_le (Nat.le_refl _) (by omega)), wp_some, lq_r]
      exact Or.inl ⟨rfl, HH⟩
  · rintro r (⟨rfl, z⟩ | ⟨i, hi, rfl, z1, z2⟩)
    · rw [wp_some, fnd_n _ z]; rfl
    · rw [wp_some, fnd_s _ hi z1 z2]; rfl
theorem r_isNm {i : Nat} (T : TXr m B n) (e14 : m 0 14 = nI t.2.1) (e13 : m 0 13 = nI t.2.2) (w : TW n t) (M : NMr m N) (x : NW n N) (hi : i < ntN N) : wp (gX12_isNamed m (nI i)) (fun r => (r = 1 ∧ nm B N t i) ∨ (r = 0 ∧ ¬ nm B N t i)) := by
  obtain ⟨t1, n9, eB, _⟩ := T
  obtain ⟨w1, w2, w3, _⟩ := w
  obtain ⟨m4, m5, _, _⟩ := M.2 i hi
  have x24 := x.1
  have xb := (x.2 i hi).1
  unfold gX12_isNamed
  rw [wp_bind, w_rd (by omega) (by decide), m5, e13, e14, i_sub w1]
  by_cases z : ntG N i = t.2.2 - t.2.1
  · rw [wp_t (by rw [z]), wp_bind]
    refine wp_mono (Q := fun r => (r = .inl () ∧ nm B N t i) ∨ (r = .inr () ∧ ¬ nm B N t i)) ?_ ?_
    · refine wp_for (κ := Unit) (fun k _ => nI k) (ntG N i) (fun k _ => ∀ k', k' < k → B (ntA N i + k') = B (t.2.1 + k')) (fun k c hk HH => ?_) (fun c HH => ?_) 0 () (Nat.zero_le _) (fun k hk => absurd hk (Nat.not_lt_zero _)) (by omega)
      · unfold gbX12_isNamed_22
        rw [wp_bind, w_rd (by omega) (by decide), m5, wp_f (fun y => by have := (nI_leI (by omega) (by omega)).mp y; omega), wp_bind, w_rd (by omega) (by decide), m4, wp_bind, i_add, w_rd (by omega) (by decide), eB _ (by omega), wp_bind, e14, i_add, w_rd (by omega) (by decide), eB _ (by omega)]
        by_cases y : B (ntA N i + k) = B (t.2.1 + k)
        · rw [wp_t y, wp_bind, wp_some, wp_some, lq_l]
          refine ⟨(), nI_1 k, fun k' hk' => ?_⟩
          by_cases x : k' = k
          · rw [x]; exact y
          · exact HH k' (by omega)
        · rw [wp_f y, wp_some, lq_r]
          exact Or.inr ⟨rfl, fun q => y (q.2 k hk)⟩
      · unfold gbX12_isNamed_22
        rw [wp_bind, w_rd (by omega) (by decide), m5, wp_t (nI_le (Nat.le_refl _) (by omega)), wp_some, lq_r]
        exact Or.inl ⟨rfl, z, HH⟩
    · rintro r (⟨rfl, h⟩ | ⟨rfl, h⟩)
      · rw [wp_some]; exact Or.inl ⟨rfl, h⟩
      · rw [wp_some]; exact Or.inr ⟨rfl, h⟩
  · rw [wp_f (fun y => z ((nI_eq (by omega) (by omega)).mp y)), wp_some]
    exact Or.inr ⟨rfl, fun y => z y.1⟩
theorem r_findNm (T : TXr m B n) (e14 : m 0 14 = nI t.2.1) (e13 : m 0 13 = nI t.2.2) (w : TW n t) (M : NMr m N) (x : NW n N) : wp (gX12_nameHere m) (fun r => r = bI (fnd B N t (ntN N))) := by
  have x24 := x.1
  unfold gX12_nameHere
  rw [wp_bind]
  refine wp_mono (Q := fun r => (r = .inl () ∧ ∀ i, i < ntN N → ¬ nm B N t i) ∨ ∃ i, i < ntN N ∧ r = .inr (nI i) ∧ nm B N t i ∧ ∀ j, j < i → ¬ nm B N t j) ?_ ?_
  · refine wp_for (κ := Unit) (fun k _ => nI k) (ntN N) (fun k _ => ∀ i, i < k → ¬ nm B N t i) (fun k c hk HH => ?_) (fun c HH => ?_) 0 () (Nat.zero_le _) (fun k hk => absurd hk (Nat.not_lt_zero _)) (by omega)
    · unfold gbX12_nameHere_2
      rw [M.1, wp_f (fun y => by have := (nI_leI (by omega) (by omega)).mp y; omega), wp_bind]
      refine wp_mono (r_isNm T e14 e13 w M x hk) ?_
      rintro r (⟨rfl, z⟩ | ⟨rfl, z⟩)
      · rw [wp_f (by decide), wp_some, lq_r]
        exact Or.inr ⟨k, hk, rfl, z, HH⟩
      · rw [wp_t rfl, wp_bind, wp_some, wp_some, lq_l]
        refine ⟨(), nI_1 k, fun i hi => ?_⟩
        by_cases y : i = k
        · rw [y]; exact z
        · exact HH i (by omega)
    · unfold gbX12_nameHere_2
      rw [M.1, wp_t (nI_le (Nat.le_refl _) (by omega)), wp_some, lq_r]
      exact Or.inl ⟨rfl, HH⟩
  · rintro r (⟨rfl, z⟩ | ⟨i, hi, rfl, z1, z2⟩)
    · rw [wp_some, fnd_n _ z]; rfl
    · rw [wp_some, fnd_s _ hi z1 z2]; rfl
end CNM

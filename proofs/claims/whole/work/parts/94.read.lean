/-! how a text is read, told once -/
section SRD
def gd (L x : Nat) : Prop := x / 16 ≤ 8 ∧ (x / 16 ≤ 4 → x % 16 < L) ∧ (4 < x / 16 → x % 16 = 0)
def kindQ (q : QT) : QT := ((pK q.1 + 1, pL q.1, pP q.1, pk q.1, pS q.1, pN q.1), q.2)
def lockQ (q : QT) (k : Nat) : QT := ((pK q.1, pL q.1 + 1, pP q.1, sbf (pk q.1) (pL q.1) k, pS q.1, pN q.1), q.2)
def progQ (q : QT) (s : Nat) : QT := ((pK q.1, pL q.1, pP q.1, pk q.1, sbf (pS q.1) (pP q.1) s, sbf (pN q.1) (pP q.1) 0), q.2)
def stepQ (q : QT) (x : Nat) : QT := ((pK q.1, pL q.1, pP q.1, pk q.1, pS q.1, sbf (pN q.1) (pP q.1) (pN q.1 (pP q.1) + 1)), sbf q.2 (12 * pP q.1 + pN q.1 (pP q.1)) x)
def doneQ (q : QT) : QT := ((pK q.1, pL q.1, pP q.1 + 1, pk q.1, pS q.1, pN q.1), q.2)
noncomputable def sKind (B : Nat → Int32) (n : Nat) (t : TT) (N : NT) (q : QT) : OT (TT × NT × QT) := if pK q.1 = 8 then .inl (4, t.2.1) else obi (sNew B n 0 (pK q.1) (nxt B n t) N) fun a => .inr (a.1, a.2, kindQ q)
noncomputable def sLock (B : Nat → Int32) (n : Nat) (t : TT) (N : NT) (q : QT) : OT (TT × NT × QT) := if pL q.1 = 10 then .inl (4, t.2.1) else obi (sNew B n 1 (pL q.1) (nxt B n t) N) fun a => obi (sPass B n 11 a.1) fun t2 => obi (sOld B n 0 t2 a.2) fun b => .inr (b.2, a.2, lockQ q b.1)
noncomputable def sStep (B : Nat → Int32) (n : Nat) (t : TT) (N : NT) (q : QT) : OT (TT × QT) := if t.1 ≤ 8 then (if pN q.1 (pP q.1) = 12 then .inl (4, t.2.1) else if t.1 ≤ 4 then obi (sOld B n 1 (nxt B n t) N) fun b => .inr (b.2, stepQ q (16 * t.1 + b.1)) else .inr (nxt B n t, stepQ q (16 * t.1))) else .inl (1, t.2.1)
noncomputable def sSteps (B : Nat → Int32) (n : Nat) (N : NT) : Nat → TT → QT → OT (TT × QT)
  | 0, t, _ => .inl (4, t.2.1)
  | f + 1, t, q => obi (sStep B n t N q) fun a => if a.1.1 = 16 then .inr a else sSteps B n N f a.1 a.2
noncomputable def sProg (B : Nat → Int32) (n : Nat) (t : TT) (N : NT) (q : QT) : OT (TT × NT × QT) := if pP q.1 = 6 then .inl (4, t.2.1) else obi (sNew B n 2 (pP q.1) (nxt B n t) N) fun a => obi (sSteps B n a.2 13 a.1 (progQ q (t.1 - 12))) fun b => .inr (b.1, a.2, doneQ b.2)
noncomputable def sLine (B : Nat → Int32) (n : Nat) (t : TT) (N : NT) (q : QT) : OT (TT × NT × QT) := if t.1 = 9 then sKind B n t N q else if t.1 = 10 then sLock B n t N q else if 12 ≤ t.1 ∧ t.1 ≤ 14 then sProg B n t N q else .inl (1, t.2.1)
noncomputable def sStop (B : Nat → Int32) (n : Nat) (o : OT (TT × NT × QT)) : OT (TT × NT × QT) := obi o fun a => obi (sPass B n 16 a.1) fun t => .inr (t, a.2)
noncomputable def sAll (B : Nat → Int32) (n : Nat) : Nat → TT → NT → QT → OT (TT × NT × QT)
  | 0, t, _, _ => .inl (1, t.2.1)
  | f + 1, t, N, q => if t.1 = 17 then .inr (t, N, q) else obi (sStop B n (sLine B n t N q)) fun a => sAll B n f a.1 a.2.1 a.2.2
/-- bounds of what was read; so many programs' sorts stand -/
def QW (q : QT) (w : Nat) : Prop := pK q.1 ≤ 8 ∧ pL q.1 ≤ 10 ∧ (pP q.1 ≤ w ∧ w ≤ pP q.1 + 1 ∧ w ≤ 6) ∧ (∀ l, l < pL q.1 → pk q.1 l < pK q.1) ∧ (∀ p, p < w → pS q.1 p ≤ 2 ∧ pN q.1 p ≤ 12) ∧ (∀ p, p < pP q.1 → 1 ≤ pN q.1 p) ∧ (∀ p, w ≤ p → pN q.1 p = 0) ∧ (∀ p s, p < w → s < pN q.1 p → gd (pL q.1) (q.2 (12 * p + s))) ∧ ∀ j, q.2 j < 160
def NQ (N : NT) (so k : Nat) : Prop := ∀ i, i < ntN N → ntS N i = so → ntU N i < k
variable {B : Nat → Int32} {n : Nat} {t : TT} {N : NT} {q : QT}
theorem sNew_i {so nu : Nat} {a : TT × NT} (h : sNew B n so nu t N = .inr a) : t.1 = 15 ∧ fnd B N t (ntN N) = none ∧ a = (nxt B n t, addN N t so nu) := by
  unfold sNew at h
  by_cases z : t.1 = 15
  · rw [if_pos z] at h
    cases e : fnd B N t (ntN N) with
    | none => rw [e] at h; cases h; exact ⟨z, rfl, rfl⟩
    | some i => rw [e] at h; cases h
  · rw [if_neg z] at h; cases h
theorem sOld_i {so : Nat} {a : Nat × TT} (h : sOld B n so t N = .inr a) : t.1 = 15 ∧ ∃ i, i < ntN N ∧ ntS N i = so ∧ a = (ntU N i, nxt B n t) := by
  unfold sOld at h
  by_cases z : t.1 = 15
  · rw [if_pos z] at h
    cases e : fnd B N t (ntN N) with
    | none => rw [e] at h; cases h
    | some i =>
      rw [e] at h
      simp only at h
      by_cases y : ntS N i = so
      · rw [if_pos y] at h; cases h; exact ⟨z, i, fnd_lt _ e, y, rfl⟩
      · rw [if_neg y] at h; cases h
  · rw [if_neg z] at h; cases h
theorem sPass_i {w : Nat} {a : TT} (h : sPass B n w t = .inr a) : t.1 = w ∧ a = nxt B n t := by
  unfold sPass at h
  by_cases z : t.1 = w
  · rw [if_pos z] at h; cases h; exact ⟨z, rfl⟩
  · rw [if_neg z] at h; cases h
def FE (n : Nat) (e : Nat × Nat) : Prop := 1 ≤ e.1 ∧ e.1 ≤ 4 ∧ e.2 ≤ n
theorem sNew_e {so nu : Nat} {e : Nat × Nat} (w : TW n t) (h : sNew B n so nu t N = .inl e) : FE n e := by
  have := w.1
  have := w.2.1
  unfold sNew at h
  by_cases z : t.1 = 15
  · rw [if_pos z] at h
    cases e : fnd B N t (ntN N) with
    | none => rw [e] at h; cases h
    | some i => rw [e] at h; cases h; exact ⟨(show (1 : Nat) ≤ 2 by decide), (show (2 : Nat) ≤ 4 by decide), by show t.2.1 ≤ n; omega⟩
  · rw [if_neg z] at h; cases h; exact ⟨Nat.le_refl _, (show (1 : Nat) ≤ 4 by decide), by show t.2.1 ≤ n; omega⟩
theorem sOld_e {so : Nat} {e : Nat × Nat} (w : TW n t) (h : sOld B n so t N = .inl e) : FE n e := by
  have := w.1
  have := w.2.1
  have e3 : FE n (3, t.2.1) := ⟨(show (1 : Nat) ≤ 3 by decide), (show (3 : Nat) ≤ 4 by decide), by show t.2.1 ≤ n; omega⟩
  unfold sOld at h
  by_cases z : t.1 = 15
  · rw [if_pos z] at h
    cases e : fnd B N t (ntN N) with
    | none => rw [e] at h; cases h; exact e3
    | some i =>
      rw [e] at h
      simp only at h
      by_cases y : ntS N i = so
      · rw [if_pos y] at h; cases h
      · rw [if_neg y] at h; cases h; exact e3
  · rw [if_neg z] at h; cases h; exact ⟨Nat.le_refl _, (show (1 : Nat) ≤ 4 by decide), by show t.2.1 ≤ n; omega⟩
theorem FE_1 (w : TW n t) : FE n (1, t.2.1) := ⟨Nat.le_refl _, (show (1 : Nat) ≤ 4 by decide), by have := w.1; have := w.2.1; show t.2.1 ≤ n; omega⟩
theorem FE_4 (w : TW n t) : FE n (4, t.2.1) := ⟨(show (1 : Nat) ≤ 4 by decide), Nat.le_refl _, by have := w.1; have := w.2.1; show t.2.1 ≤ n; omega⟩
theorem sPass_e {w : Nat} {e : Nat × Nat} (x : TW n t) (h : sPass B n w t = .inl e) : FE n e := by
  unfold sPass at h
  by_cases z : t.1 = w
  · rw [if_pos z] at h; cases h
  · rw [if_neg z] at h; cases h; exact FE_1 x
theorem gd_m {L L' x : Nat} (hL : L ≤ L') (g : gd L x) : gd L' x := ⟨g.1, fun z => by have := g.2.1 z; omega, g.2.2⟩
theorem NQ_add {so nu so' k k' : Nat} (h : NQ N so k) (hk : k ≤ k') (hn : so' = so → nu < k') : NQ (addN N t so' nu) so k' := fun i hi hs => by
  have hi' : i < ntN N + 1 := hi
  change sbf (ntS N) (ntN N) so' i = so at hs
  show sbf (ntU N) (ntN N) nu i < k'
  by_cases z : i = ntN N
  · rw [z, sbf_at] at hs
    rw [z, sbf_at]; exact hn hs
  · rw [sbf_ne z] at hs
    rw [sbf_ne z]
    have := h i (by omega) hs
    omega
def WF (n : Nat) (t : TT) (N : NT) (q : QT) : Prop := TW n t ∧ NW n N ∧ QW q (pP q.1) ∧ NQ N 0 (pK q.1) ∧ NQ N 1 (pL q.1) ∧ ntN N = pK q.1 + pL q.1 + pP q.1
theorem sKind_W (w : WF n t N q) : outc (sKind B n t N q) (FE n) (fun a => WF n a.1 a.2.1 a.2.2 ∧ t.2.2 ≤ a.1.2.1) := by
  obtain ⟨w1, w2, w3, w4, w5, w6⟩ := w
  obtain ⟨q1, q2, q3, q4, q5, q6, q7, q8, q9⟩ := w3
  unfold sKind
  by_cases z : pK q.1 = 8
  · rw [if_pos z]; exact FE_4 w1
  · rw [if_neg z]
    obtain ⟨x1, x2⟩ := nxt_W (B := B) w1
    cases e : sNew B n 0 (pK q.1) (nxt B n t) N with
    | inl f => exact sNew_e x1 e
    | inr a =>
      obtain ⟨y1, _, rfl⟩ := sNew_i e
      obtain ⟨y2, y3⟩ := nxt_W (B := B) x1
      have := x1.1
      refine ⟨⟨y2, addN_W x1 w2 (by omega) (by decide) (by omega), ⟨?_, q2, q3, fun l hl => ?_, q5, q6, q7, q8, q9⟩, NQ_add w4 (Nat.le_succ _) (fun _ => Nat.lt_succ_self _), NQ_add w5 (Nat.le_refl _) (fun z => by cases z), ?_⟩, ?_⟩
      · show pK q.1 + 1 ≤ 8; omega
      · have := q4 l hl; show pk q.1 l < pK q.1 + 1; omega
      · show ntN N + 1 = pK q.1 + 1 + pL q.1 + pP q.1; omega
      · show t.2.2 ≤ (nxt B n (nxt B n t)).2.1; omega
theorem sLock_W (w : WF n t N q) : outc (sLock B n t N q) (FE n) (fun a => WF n a.1 a.2.1 a.2.2 ∧ t.2.2 ≤ a.1.2.1) := by
  obtain ⟨w1, w2, w3, w4, w5, w6⟩ := w
  obtain ⟨q1, q2, q3, q4, q5, q6, q7, q8, q9⟩ := w3
  unfold sLock
  by_cases z : pL q.1 = 10
  · rw [if_pos z]; exact FE_4 w1
  · rw [if_neg z]
    obtain ⟨x1, x2⟩ := nxt_W (B := B) w1
    cases e : sNew B n 1 (pL q.1) (nxt B n t) N with
    | inl f => exact sNew_e x1 e
    | inr a =>
      obtain ⟨y1, _, rfl⟩ := sNew_i e
      obtain ⟨y2, y3⟩ := nxt_W (B := B) x1
      have nw := addN_W (so := 1) (nu := pL q.1) x1 w2 (by omega) (by decide) (by omega)
      show outc (obi (sPass B n 11 (nxt B n (nxt B n t))) _) _ _
      cases e2 : sPass B n 11 (nxt B n (nxt B n t)) with
      | inl f => exact sPass_e y2 e2
      | inr t2 =>
        obtain ⟨_, rfl⟩ := sPass_i e2
        obtain ⟨y4, y5⟩ := nxt_W (B := B) y2
        show outc (obi (sOld B n 0 _ _) _) _ _
        cases e3 : sOld B n 0 (nxt B n (nxt B n (nxt B n t))) (addN N (nxt B n t) 1 (pL q.1)) with
        | inl f => exact sOld_e y4 e3
        | inr b =>
          obtain ⟨_, i, i1, i2, rfl⟩ := sOld_i e3
          obtain ⟨y6, y7⟩ := nxt_W (B := B) y4
          have k0 := NQ_add (t := nxt B n t) (so' := 1) (nu := pL q.1) w4 (Nat.le_refl _) (fun z => by cases z) i i1 i2
          have := x1.1
          have := y2.1
          have := y4.1
          refine ⟨⟨y6, nw, ⟨q1, ?_, q3, fun l hl => ?_, q5, q6, q7, fun p s hp hs => gd_m (Nat.le_succ _) (q8 p s hp hs), q9⟩, NQ_add w4 (Nat.le_refl _) (fun z => by cases z), NQ_add w5 (Nat.le_succ _) (fun _ => Nat.lt_succ_self _), ?_⟩, ?_⟩
          · show pL q.1 + 1 ≤ 10; omega
          · have hl' : l < pL q.1 + 1 := hl
            show sbf (pk q.1) (pL q.1) _ l < pK q.1
            by_cases y : l = pL q.1
            · rw [y, sbf_at]; exact k0
            · rw [sbf_ne y]; exact q4 l (by omega)
          · show ntN N + 1 = pK q.1 + (pL q.1 + 1) + pP q.1; omega
          · show t.2.2 ≤ (nxt B n (nxt B n (nxt B n (nxt B n t)))).2.1; omega
theorem stepQ_W {x : Nat} (w : QW q (pP q.1 + 1)) (h12 : pN q.1 (pP q.1) ≠ 12) (hx : gd (pL q.1) x) (h160 : x < 160) : QW (stepQ q x) (pP (stepQ q x).1 + 1) := by
  obtain ⟨q1, q2, q3, q4, q5, q6, q7, q8, q9⟩ := w
  have hp := (q5 (pP q.1) (Nat.lt_succ_self _)).2
  refine ⟨q1, q2, q3, q4, fun p hp' => ⟨(q5 p hp').1, ?_⟩, fun p hp' => ?_, fun p hp' => ?_, fun p s hp' hs => ?_, fun j => ?_⟩
  · show sbf (pN q.1) (pP q.1) (pN q.1 (pP q.1) + 1) p ≤ 12
    by_cases y : p = pP q.1
    · rw [y, sbf_at]; omega
    · rw [sbf_ne y]; exact (q5 p hp').2
  · have hp2 : p < pP q.1 := hp'
    show 1 ≤ sbf (pN q.1) (pP q.1) (pN q.1 (pP q.1) + 1) p
    rw [sbf_ne (by omega)]; exact q6 p hp2
  · have hp2 : pP q.1 + 1 ≤ p := hp'
    show sbf (pN q.1) (pP q.1) (pN q.1 (pP q.1) + 1) p = 0
    rw [sbf_ne (by omega)]; exact q7 p hp2
  · have hp2 : p < pP q.1 + 1 := hp'
    change s < sbf (pN q.1) (pP q.1) (pN q.1 (pP q.1) + 1) p at hs
    show gd (pL q.1) (sbf q.2 (12 * pP q.1 + pN q.1 (pP q.1)) x (12 * p + s))
    by_cases y : p = pP q.1
    · rw [y, sbf_at] at hs
      rw [y]
      by_cases z : s = pN q.1 (pP q.1)
      · rw [z, sbf_at]; exact hx
      · rw [sbf_ne (by omega)]; exact q8 _ _ (Nat.lt_succ_self _) (by omega)
    · rw [sbf_ne y] at hs
      have := (q5 p hp2).2
      rw [sbf_ne (by omega)]; exact q8 p s hp2 hs
  · show sbf q.2 _ x j < 160
    by_cases y : j = 12 * pP q.1 + pN q.1 (pP q.1)
    · rw [y, sbf_at]; exact h160
    · rw [sbf_ne y]; exact q9 j
theorem sStep_W (w : TW n t) (x : NW n N) (qw : QW q (pP q.1 + 1)) (n1 : NQ N 1 (pL q.1)) : outc (sStep B n t N q) (FE n) (fun a => TW n a.1 ∧ QW a.2 (pP a.2.1 + 1) ∧ t.2.2 ≤ a.1.2.1 ∧ (pK a.2.1 = pK q.1 ∧ pL a.2.1 = pL q.1 ∧ pP a.2.1 = pP q.1) ∧ pN a.2.1 (pP q.1) = pN q.1 (pP q.1) + 1) := by
  obtain ⟨y2, y3⟩ := nxt_W (B := B) w
  have q10 := qw.2.1
  unfold sStep
  by_cases z : t.1 ≤ 8
  · rw [if_pos z]
    by_cases z2 : pN q.1 (pP q.1) = 12
    · rw [if_pos z2]; exact FE_4 w
    · rw [if_neg z2]
      by_cases z4 : t.1 ≤ 4
      · rw [if_pos z4]
        cases e3 : sOld B n 1 (nxt B n t) N with
        | inl f => exact sOld_e y2 e3
        | inr b =>
          obtain ⟨_, i, i1, i2, rfl⟩ := sOld_i e3
          obtain ⟨y6, y7⟩ := nxt_W (B := B) y2
          have k0 := n1 i i1 i2
          have := y2.1
          refine ⟨y6, stepQ_W qw z2 ⟨?_, fun _ => ?_, fun q => ?_⟩ ?_, ?_, ⟨rfl, rfl, rfl⟩, sbf_at⟩
          · show (16 * t.1 + ntU N i) / 16 ≤ 8; omega
          · show (16 * t.1 + ntU N i) % 16 < _; omega
          · have q' : 4 < (16 * t.1 + ntU N i) / 16 := q
            omega
          · show 16 * t.1 + ntU N i < 160; omega
          · show t.2.2 ≤ (nxt B n (nxt B n t)).2.1; omega
      · rw [if_neg z4]
        refine ⟨y2, stepQ_W qw z2 ⟨?_, fun q => ?_, fun _ => ?_⟩ ?_, y3, ⟨rfl, rfl, rfl⟩, sbf_at⟩
        · omega
        · omega
        · omega
        · omega
  · rw [if_neg z]; exact FE_1 w
theorem sSteps_W (x : NW n N) : ∀ (f : Nat) (t : TT) (q : QT), TW n t → QW q (pP q.1 + 1) → NQ N 1 (pL q.1) → outc (sSteps B n N f t q) (FE n) (fun a => TW n a.1 ∧ QW a.2 (pP a.2.1 + 1) ∧ t.2.2 ≤ a.1.2.1 ∧ (pK a.2.1 = pK q.1 ∧ pL a.2.1 = pL q.1 ∧ pP a.2.1 = pP q.1) ∧ 1 ≤ pN a.2.1 (pP q.1) ∧ a.1.1 = 16)
  | 0, t, q, w, _, _ => FE_4 w
  | f + 1, t, q, w, qw, n1 => by
    have s := sStep_W (B := B) w x qw n1
    rw [sSteps]
    cases e : sStep B n t N q with
    | inl g => rw [e] at s; exact s
    | inr a =>
      rw [e] at s
      obtain ⟨s1, s2, s3, ⟨s4, s5, s6⟩, s7⟩ := s
      show outc (if a.1.1 = 16 then _ else _) _ _
      by_cases z : a.1.1 = 16
      · rw [if_pos z]; exact ⟨s1, s2, s3, ⟨s4, s5, s6⟩, by omega, z⟩
      · rw [if_neg z]
        have ih := sSteps_W x f a.1 a.2 s1 s2 (by rw [s5]; exact n1)
        have := s1.1
        cases e2 : sSteps B n N f a.1 a.2 with
        | inl g => rw [e2] at ih; exact ih
        | inr b =>
          rw [e2] at ih
          obtain ⟨i1, i2, i3, ⟨i4, i5, i6⟩, i7, i8⟩ := ih
          exact ⟨i1, i2, by omega, ⟨i4.trans s4, i5.trans s5, i6.trans s6⟩, by rw [← s6]; exact i7, i8⟩
theorem progQ_W {s : Nat} (w : QW q (pP q.1)) (h6 : pP q.1 ≠ 6) (hs : s ≤ 2) : QW (progQ q s) (pP (progQ q s).1 + 1) := by
  obtain ⟨q1, q2, q3, q4, q5, q6, q7, q8, q9⟩ := w
  refine ⟨q1, q2, ⟨Nat.le_succ _, Nat.le_refl _, by show pP q.1 + 1 ≤ 6; omega⟩, q4, fun p hp => ?_, fun p hp => ?_, fun p hp => ?_, fun p s' hp hs' => ?_, q9⟩
  · have hp2 : p < pP q.1 + 1 := hp
    show sbf (pS q.1) (pP q.1) s p ≤ 2 ∧ sbf (pN q.1) (pP q.1) 0 p ≤ 12
    by_cases y : p = pP q.1
    · rw [y, sbf_at, sbf_at]; exact ⟨hs, Nat.zero_le _⟩
    · rw [sbf_ne y, sbf_ne y]; exact q5 p (by omega)
  · have hp2 : p < pP q.1 := hp
    show 1 ≤ sbf (pN q.1) (pP q.1) 0 p
    rw [sbf_ne (by omega)]; exact q6 p hp2
  · have hp2 : pP q.1 + 1 ≤ p := hp
    show sbf (pN q.1) (pP q.1) 0 p = 0
    rw [sbf_ne (by omega)]; exact q7 p (by omega)
  · have hp2 : p < pP q.1 + 1 := hp
    change s' < sbf (pN q.1) (pP q.1) 0 p at hs'
    by_cases y : p = pP q.1
    · rw [y, sbf_at] at hs'; exact absurd hs' (Nat.not_lt_zero _)
    · rw [sbf_ne y] at hs'; exact q8 p s' (by omega) hs'
theorem doneQ_W (w : QW q (pP q.1 + 1)) (h1 : 1 ≤ pN q.1 (pP q.1)) : QW (doneQ q) (pP (doneQ q).1) := by
  obtain ⟨q1, q2, q3, q4, q5, q6, q7, q8, q9⟩ := w
  refine ⟨q1, q2, ⟨Nat.le_refl _, Nat.le_succ _, q3.2.2⟩, q4, q5, fun p hp => ?_, q7, q8, q9⟩
  have hp2 : p < pP q.1 + 1 := hp
  show 1 ≤ pN q.1 p
  by_cases y : p = pP q.1
  · rw [y]; exact h1
  · exact q6 p (by omega)
theorem sProg_W (w : WF n t N q) (t12 : 12 ≤ t.1) (t14 : t.1 ≤ 14) : outc (sProg B n t N q) (FE n) (fun a => WF n a.1 a.2.1 a.2.2 ∧ t.2.2 ≤ a.1.2.1) := by
  obtain ⟨w1, w2, w3, w4, w5, w6⟩ := w
  have q1 := w3.1
  have q2 := w3.2.1
  have q3 := w3.2.2.1
  unfold sProg
  by_cases z : pP q.1 = 6
  · rw [if_pos z]; exact FE_4 w1
  · rw [if_neg z]
    obtain ⟨x1, x2⟩ := nxt_W (B := B) w1
    cases e : sNew B n 2 (pP q.1) (nxt B n t) N with
    | inl f => exact sNew_e x1 e
    | inr a =>
      obtain ⟨y1, _, rfl⟩ := sNew_i e
      obtain ⟨y2, y3⟩ := nxt_W (B := B) x1
      have nw := addN_W (so := 2) (nu := pP q.1) x1 w2 (by omega) (by decide) (by omega)
      have nq1 : NQ (addN N (nxt B n t) 2 (pP q.1)) 1 (pL q.1) := NQ_add w5 (Nat.le_refl _) (fun z => by cases z)
      have st := sSteps_W (B := B) nw 13 (nxt B n (nxt B n t)) (progQ q (t.1 - 12)) y2 (progQ_W w3 z (by omega)) nq1
      show outc (obi (sSteps B n (addN N (nxt B n t) 2 (pP q.1)) 13 (nxt B n (nxt B n t)) (progQ q (t.1 - 12))) _) _ _
      cases e2 : sSteps B n (addN N (nxt B n t) 2 (pP q.1)) 13 (nxt B n (nxt B n t)) (progQ q (t.1 - 12)) with
      | inl f => rw [e2] at st; exact st
      | inr b =>
        rw [e2] at st
        obtain ⟨i1, i2, i3, ⟨i4, i5, i6⟩, i7, i8⟩ := st
        have i4' : pK b.2.1 = pK q.1 := i4
        have i5' : pL b.2.1 = pL q.1 := i5
        have i6' : pP b.2.1 = pP q.1 := i6
        have := x1.1
        have := y2.1
        refine ⟨⟨i1, nw, doneQ_W i2 (by rw [i6']; exact i7), ?_, ?_, ?_⟩, ?_⟩
        · show NQ _ 0 (pK b.2.1); rw [i4']; exact NQ_add w4 (Nat.le_refl _) (fun z => by cases z)
        · show NQ _ 1 (pL b.2.1); rw [i5']; exact nq1
        · show ntN N + 1 = pK b.2.1 + pL b.2.1 + (pP b.2.1 + 1); omega
        · show t.2.2 ≤ b.1.2.1; omega
theorem sLine_W (w : WF n t N q) : outc (sLine B n t N q) (FE n) (fun a => WF n a.1 a.2.1 a.2.2 ∧ t.2.2 ≤ a.1.2.1) := by
  unfold sLine
  by_cases z1 : t.1 = 9
  · rw [if_pos z1]; exact sKind_W w
  · rw [if_neg z1]
    by_cases z2 : t.1 = 10
    · rw [if_pos z2]; exact sLock_W w
    · rw [if_neg z2]
      by_cases z3 : 12 ≤ t.1 ∧ t.1 ≤ 14
      · rw [if_pos z3]; exact sProg_W w z3.1 z3.2
      · rw [if_neg z3]; exact FE_1 w.1
theorem sStop_W {o : OT (TT × NT × QT)} {p : Nat} (h : outc o (FE n) (fun a => WF n a.1 a.2.1 a.2.2 ∧ p ≤ a.1.2.1)) : outc (sStop B n o) (FE n) (fun a => WF n a.1 a.2.1 a.2.2 ∧ p + 1 ≤ a.1.2.2) := by
  unfold sStop
  cases o with
  | inl e => exact h
  | inr a =>
    obtain ⟨⟨w1, w2⟩, hp⟩ := h
    show outc (obi (sPass B n 16 a.1) _) _ _
    cases e : sPass B n 16 a.1 with
    | inl f => exact sPass_e w1 e
    | inr t =>
      obtain ⟨y1, rfl⟩ := sPass_i e
      obtain ⟨y2, y3⟩ := nxt_W (B := B) w1
      have := y2.1
      have := w1.2.2.2 y1
      exact ⟨⟨y2, w2⟩, by show p + 1 ≤ (nxt B n a.1).2.2; omega⟩
end SRD

/-! one slot changes -/
section UP
variable {h h' : Hp} {g g' : GS} {own own' : Nat → Nat} {ad : Nat → Option Nat}
theorem SLT.go {s b : Nat} (S : SLT h own s b) (x : XX h h') (k : KEEP h h' own (1 + s)) (oe : ∀ a, a < hN h → own' a = own a) : SLT h' own' s b := by
  obtain ⟨o1, s3, ρ, n2, r7, oρ, lρ, sρ, n32, n81⟩ := S
  have b14 := s3.1
  refine ⟨fun a h1 h2 => by rw [oe a (by omega)]; exact o1 a h1 h2, s3.x x, ρ, n2, ?_, by rw [oe ρ lρ]; exact oρ, Nat.lt_of_lt_of_le lρ x.1, by rw [x.2.1 ρ lρ]; exact sρ, n32, n81⟩
  rw [(k b (by omega) (o1 b (by omega) (by omega))).2.2 7]; exact r7
/-- tape, fault, plan and rings as they were -/
def SAME (h h' : Hp) : Prop := hI h' 0 1 = hI h 0 1 ∧ (∀ j, hI h' 1 j = hI h 1 j) ∧ (∀ j, j ≤ 1 → hI h' 2 j = hI h 2 j) ∧ (∀ a j, 8 ≤ a → a ≤ 17 → hI h' a j = hI h a j) ∧ (∀ q, q = 3 ∨ q = 4 → hR h' 0 q = hR h 0 q) ∧ ∀ q, hR h' 52 q = hR h 52 q
theorem IC.up {s : Nat} (I : IC h g own ad) (x : XX h h') (ow : OWN own' (hN h')) (oe : ∀ a, a < hN h → own' a = own a) (k : ∀ t, t < 16 → t ≠ s → KEEP h h' own (1 + t)) (ss : ∀ b, ad s = some b → SLT h' own' s b) (sm : SAME h h') (hp : sP g' = sP g) (ht : sT g' = sT g) (hB : sB g' = sB g) (hF : sF g' = sF g) (hG : sG g' = sG g) (a18 : hI h' 18 0 = nI (sA g') ∧ hI h' 18 1 = nI (sL g')) (r19 : ∀ i, i < 13 → hR h' 19 i = hR h 19 i) (r36 : ∀ i, i < 2 → hR h' 36 i = hR h 36 i) (hl : sL g' ≤ 12) (li : ∀ i, i ≤ sL g' → i ≠ s → i ≤ sL g ∧ sH g' i = sH g i) (ls : s ≤ sL g' → ∃ b n, ad s = some b ∧ LX h' (hI h') b (sH g' s) n) (bi : ∀ q, q < 2 → 13 + q ≠ s → sX g' q = sX g q ∧ hI h' 37 q = hI h 37 q) (bs : ∀ q, q < 2 → 13 + q = s → (sX g' q = none → hI h' 37 q = 0) ∧ ∀ B, sX g' q = some B → hI h' 37 q = 1 ∧ ∃ b n, ad (13 + q) = some b ∧ LX h' (hI h') b B n) : IC h' g' own' ad := by
  obtain ⟨c, o, ⟨t1, t2⟩, ⟨f1, f2⟩, ⟨P, hP, p1, p2, p3⟩, ⟨a1, a2⟩, r52, rr19, rr36, r15, sl, lin, bx⟩ := I
  obtain ⟨m1, m2, m3, m4, m5, m6⟩ := sm
  have slk : ∀ t b, t < 16 → ad t = some b → SLT h' own' t b := by
    intro t b hs hb
    by_cases z : t = s
    · subst z; exact ss b hb
    · exact (sl t b hs hb).go x (k t hs z) oe
  refine ⟨c.x x, ow, ⟨by rw [m1, ht]; exact t1, fun j hj => by rw [m2, hB]; exact t2 j (by rw [← ht]; exact hj)⟩, ⟨by rw [m3 0 (by decide), hF]; exact f1, by rw [m3 1 (by decide), hG]; exact f2⟩, ⟨P, hP, by rw [m5 3 (Or.inl rfl)]; exact p1, by rw [m5 4 (Or.inr rfl)]; exact p2, ?_⟩, a18, fun q hq => by rw [m6]; exact r52 q hq, fun q hq => by rw [r19 q hq]; exact rr19 q hq, fun q hq => by rw [r36 q hq]; exact rr36 q hq, r15, slk, fun i hi => ?_, fun q hq => ?_⟩
  · rw [hp]
    exact PC.congr (h := h) (m := hI h) (m' := hI h') p3 x (fun a h1 h2 => funext fun j => m4 a j (by omega) (by omega))
  · by_cases z : i = s
    · subst z; exact ls hi
    · obtain ⟨q1, q2⟩ := li i hi z
      obtain ⟨b, n, hb, L⟩ := lin i q1
      rw [q2]
      exact ⟨b, n, hb, L.keep (sl i b (by omega) hb) x (k i (by omega) z)⟩
  · by_cases z : 13 + q = s
    · exact bs q hq z
    · obtain ⟨q1, q2⟩ := bi q hq z
      rw [q1, q2]
      refine ⟨(bx q hq).1, fun B hB => ?_⟩
      obtain ⟨e, b, n, hb, L⟩ := (bx q hq).2 B hB
      exact ⟨e, b, n, hb, L.keep (sl (13 + q) b (by omega) hb) x (k (13 + q) (by omega) z)⟩
/-- blocks lie apart -/
theorem SLT.apart {s t b b' : Nat} (S : SLT h own s b) (T : SLT h own t b') (hne : s ≠ t) : (b + 14 < b' ∨ b' + 14 < b) ∧ hR h b 7 ≠ hR h b' 7 := by
  obtain ⟨o1, s3, ρ, n2, r7, oρ, _⟩ := S
  obtain ⟨o1', s3', ρ', n2', r7', oρ', _⟩ := T
  constructor
  · refine Classical.byContradiction fun hc => ?_
    rcases Nat.le_total b b' with z | z
    · have h1 := o1 b' z (by omega)
      have h2 := o1' b' (Nat.le_refl _) (by omega)
      omega
    · have h1 := o1 b (Nat.le_refl _) (by omega)
      have h2 := o1' b z (by omega)
      omega
  · intro e
    rw [r7, r7'] at e
    cases e
    omega
/-- a block lies outside of the class's own cells -/
theorem SLT.out {s b n a c : Nat} (S : SLT h own s b) (o : OWN own n) (hc : a < 120 → ¬ (20 ≤ a ∧ a ≤ 35) → ¬ (57 ≤ a ∧ a ≤ 72) → b ≤ a → a ≤ b + 14 → False) : True := trivial
theorem SLT.ne {s b n a : Nat} (S : SLT h own s b) (o : OWN own n) (h1 : a < 120) (h2 : ¬ (20 ≤ a ∧ a ≤ 35)) (h3 : ¬ (57 ≤ a ∧ a ≤ 72)) : ¬ (b ≤ a ∧ a ≤ b + 14) := fun z => by
  have e1 := S.1 a z.1 z.2
  have e2 := o.1 a h1 h2 h3
  omega
theorem SLT.CE {s b : Nat} (S : SLT h own s b) : ∃ n, CE h b n := by
  obtain ⟨o1, s3, ρ, n2, r7, oρ, lρ, sρ, n32, n81⟩ := S
  exact ⟨n2, n32, n81, ρ, r7, lρ, sρ⟩
/-- who owns cells when the rows of a slot may be new -/
def own2 (own : Nat → Nat) (n s : Nat) (h' : Hp) : Nat → Nat := fun a => if n ≤ a ∧ a < hN h' then 1 + s else own a
/-- a slot whose rows may be new, all else as it was: what a chain kept, a copy or a run leaves -/
theorem XD.keep {w s b t : Nat} (o : OWN own (hN h)) (S : SLT h own s b) (x : XD w b h h') (e : ∀ a, a < hN h → own a = 1 + t → ∀ j, hI h' a j = hI h a j) (hw : w < 120 ∧ ¬ (20 ≤ w ∧ w ≤ 35) ∧ ¬ (57 ≤ w ∧ w ≤ 72)) (hne : t ≠ s) : KEEP h h' own (1 + t) := by
  intro a ha ho
  obtain ⟨o1, s3, ρ, n2, r7, oρ, _⟩ := S
  have hab : a ≠ b := fun e => by have := o1 b (Nat.le_refl _) (by omega); rw [← e] at this; omega
  have haw : a ≠ w := fun e => by have := o.1 w hw.1 hw.2.1 hw.2.2; rw [← e] at this; omega
  refine ⟨e a ha ho, fun j => x.2.2.1 a ha ?_ j, fun q => x.2.1 a q ha (Or.inl hab) (Or.inl haw)⟩
  rw [r7]
  intro z
  cases z
  omega
theorem XD.slt {w s b n : Nat} (o : OWN own (hN h)) (S : SLT h own s b) (x : XD w b h h') (s3' : Sh3 h' b) (C : CE h' b n) : SLT h' (own2 own (hN h) s h') s b := by
  obtain ⟨o1, s3, ρ, n2, r7, oρ, lρ, sρ, n32, n81⟩ := S
  obtain ⟨c1, c2, ρ', c3, c4, c5⟩ := C
  have b14 := s3.1
  refine ⟨fun a h1 h2 => ?_, s3', ρ', n, c3, ?_, c4, c5, c1, c2⟩
  · unfold own2
    rw [if_neg (by omega)]; exact o1 a h1 h2
  · unfold own2
    rcases x.2.2.2 with e | ⟨σ, e, hσ⟩
    · rw [c3, r7] at e
      cases e
      rw [if_neg (by omega)]; exact oρ
    · rw [c3] at e
      cases e
      rw [if_pos ⟨hσ, c4⟩]
theorem own2_W {s : Nat} (o : OWN own (hN h)) (hle : hN h ≤ hN h') (h120 : 120 ≤ hN h) : OWN (own2 own (hN h) s h') (hN h') := by
  refine ⟨fun a h1 h2 h3 => ?_, fun a h1 h2 => ?_, fun a h1 => ?_⟩
  · unfold own2; rw [if_neg (by omega)]; exact o.1 a h1 h2 h3
  · unfold own2; rw [if_neg (by omega)]; exact o.2.1 a h1 h2
  · unfold own2; rw [if_neg (by omega)]; exact o.2.2 a (by omega)
theorem own2_e {s : Nat} : ∀ a, a < hN h → own2 own (hN h) s h' a = own a := fun a ha => by unfold own2; rw [if_neg (by omega)]
end UP

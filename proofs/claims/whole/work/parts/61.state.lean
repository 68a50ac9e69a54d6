/-! the whole state, told once for both sides -/
/-- bytes on the tape; fault and place; plan; acts: which state is present, the last one, all of them; boxes -/
abbrev GS : Type := (Nat × (Nat → Int32)) × (Int32 × Int32) × PD × (Nat × Nat × (Nat → LA)) × (Nat → Option LA)
def sT (g : GS) : Nat := g.1.1
def sB (g : GS) : Nat → Int32 := g.1.2
def sF (g : GS) : Int32 := g.2.1.1
def sG (g : GS) : Int32 := g.2.1.2
def sP (g : GS) : PD := g.2.2.1
def sA (g : GS) : Nat := g.2.2.2.1.1
def sL (g : GS) : Nat := g.2.2.2.1.2.1
def sH (g : GS) : Nat → LA := g.2.2.2.1.2.2
def sX (g : GS) : Nat → Option LA := g.2.2.2.2
def okA (P : PD) (A : LA) : Prop := LW A ∧ SW P (aS A)
def okG (g : GS) : Prop := sT g ≤ 900 ∧ PW (sP g) ∧ sA g ≤ sL g ∧ sL g ≤ 12 ∧ (∀ i, i ≤ sL g → okA (sP g) (sH g i)) ∧ ∀ k B, sX g k = some B → okA (sP g) B
/-- what never changes of the class's cells -/
def CS (h : Hp) : Prop := 120 ≤ hN h ∧ hS h 0 = .inl 11 ∧ (hR h 0 0 = some 1 ∧ hS h 1 = .inr (.byte, 900)) ∧ (hR h 0 2 = some 2 ∧ Sh6 h 2) ∧ (Sh5 h 8 ∧ Sh5 h 13) ∧ (hR h 0 5 = some 18 ∧ Sh2 h 18) ∧ (hR h 0 6 = some 36 ∧ hS h 36 = .inr ((.object RX3), 2)) ∧ (hR h 0 7 = some 37 ∧ hS h 37 = .inr (.boolean, 2)) ∧ (hR h 0 8 = some 38 ∧ Sh10 h 38) ∧ (hR h 0 9 = some 41 ∧ Sh9 h 41) ∧ (hR h 0 10 = some 47 ∧ Sh4 h 47) ∧ (hR h 47 4 = some 52 ∧ hS h 52 = .inr ((.array .int), 4) ∧ hS h 53 = .inr (.int, 17) ∧ hS h 54 = .inr (.int, 17) ∧ hS h 55 = .inr (.int, 17) ∧ hS h 56 = .inr (.int, 17)) ∧ hR h 0 11 = some 57 ∧ (hR h 0 12 = some 73 ∧ hS h 73 = .inr (.int, 72)) ∧ (hR h 0 13 = some 74 ∧ Sh0 h 74) ∧ RS 81 h
theorem CS.x {h h' : Hp} (c : CS h) (x : XX h h') : CS h' := by
  obtain ⟨c0, c1, ⟨c2, c3⟩, ⟨c4, c5⟩, ⟨c6, c7⟩, ⟨c8, c9⟩, ⟨c10, c11⟩, ⟨c12, c13⟩, ⟨c14, c15⟩, ⟨c16, c17⟩, ⟨c18, c19⟩, ⟨c20, c21, c22, c23, c24, c25⟩, c26, ⟨c27, c28⟩, ⟨c29, c30⟩, c31⟩ := c
  have hr : ∀ k, dynF 11 k = false → hR h' 0 k = hR h 0 k := fun k hk => x.2.2 0 k 11 (by omega) c1 hk
  have hs : ∀ a, a < 120 → hS h' a = hS h a := fun a ha => x.2.1 a (by omega)
  refine ⟨Nat.le_trans c0 x.1, by rw [hs 0 (by omega)]; exact c1, ⟨by rw [hr 0 rfl]; exact c2, by rw [hs 1 (by omega)]; exact c3⟩, ⟨by rw [hr 2 rfl]; exact c4, c5.x x⟩, ⟨c6.x x, c7.x x⟩, ⟨by rw [hr 5 rfl]; exact c8, c9.x x⟩, ⟨by rw [hr 6 rfl]; exact c10, by rw [hs 36 (by omega)]; exact c11⟩, ⟨by rw [hr 7 rfl]; exact c12, by rw [hs 37 (by omega)]; exact c13⟩, ⟨by rw [hr 8 rfl]; exact c14, c15.x x⟩, ⟨by rw [hr 9 rfl]; exact c16, c17.x x⟩, ⟨by rw [hr 10 rfl]; exact c18, c19.x x⟩, ⟨?_, ?_, ?_, ?_, ?_, ?_⟩, by rw [hr 11 rfl]; exact c26, ⟨by rw [hr 12 rfl]; exact c27, by rw [hs 73 (by omega)]; exact c28⟩, ⟨by rw [hr 13 rfl]; exact c29, c30.x x⟩, c31.x x⟩
  · rw [x.2.2 47 4 4 (by omega) c19.2.1 rfl]; exact c20
  · rw [hs 52 (by omega)]; exact c21
  · rw [hs 53 (by omega)]; exact c22
  · rw [hs 54 (by omega)]; exact c23
  · rw [hs 55 (by omega)]; exact c24
  · rw [hs 56 (by omega)]; exact c25
/-- who owns a cell: 0 the class's own, 1 + s a slot's (0 .. 12 the line, 13, 14 boxes, 15 the trial), 17 the search's -/
def SLT (h : Hp) (own : Nat → Nat) (s b : Nat) : Prop := (∀ a, b ≤ a → a ≤ b + 14 → own a = 1 + s) ∧ Sh3 h b ∧ ∃ ρ n, hR h b 7 = some ρ ∧ own ρ = 1 + s ∧ ρ < hN h ∧ hS h ρ = .inr (.long, n) ∧ rl n ∧ n ≤ 4096
def OWN (own : Nat → Nat) (n : Nat) : Prop := (∀ a, a < 120 → ¬ (20 ≤ a ∧ a ≤ 35) → ¬ (57 ≤ a ∧ a ≤ 72) → own a = 0) ∧ (∀ a, 57 ≤ a → a ≤ 71 → own a = 16) ∧ ∀ a, n ≤ a → own a = 0
/-- the class's state -/
def IC (h : Hp) (g : GS) (own : Nat → Nat) (ad : Nat → Option Nat) : Prop := CS h ∧ OWN own (hN h) ∧ (hI h 0 1 = nI (sT g) ∧ ∀ j, j < sT g → hI h 1 j = sB g j) ∧ (hI h 2 0 = sF g ∧ hI h 2 1 = sG g) ∧ (∃ P, (P = 8 ∨ P = 13) ∧ hR h 0 3 = some P ∧ hR h 0 4 = some (21 - P) ∧ PC h P (sP g)) ∧ (hI h 18 0 = nI (sA g) ∧ hI h 18 1 = nI (sL g)) ∧ (∀ i, i < 4 → hR h 52 i = some (53 + i)) ∧ (∀ i, i < 13 → hR h 19 i = ad i) ∧ (∀ i, i < 2 → hR h 36 i = ad (13 + i)) ∧ ad 15 = some 57 ∧ (∀ s b, s < 16 → ad s = some b → SLT h own s b) ∧ (∀ i, i ≤ sL g → ∃ b n, ad i = some b ∧ LX h (hI h) b (sH g i) n) ∧ ∀ k, k < 2 → (sX g k = none → hI h 37 k = 0) ∧ ∀ B, sX g k = some B → hI h 37 k = 1 ∧ ∃ b n, ad (13 + k) = some b ∧ LX h (hI h) b B n
def ltr : List Nat := [116, 97, 107, 101, 32, 105, 110, 110, 101, 114, 32, 115, 104, 97, 114, 101, 32, 116, 114, 121, 32, 100, 114, 111, 112, 32, 111, 102, 102, 32, 111, 110, 32, 109, 97, 115, 107, 32, 111, 112, 101, 110, 32, 107, 105, 110, 100, 32, 108, 111, 99, 107, 32, 111, 102, 32, 116, 97, 115, 107, 32, 115, 111, 102, 116, 32, 104, 97, 114, 100, 32]
/-- the reference's state -/
def IR (m : Mem) (g : GS) : Prop := (m 0 11 = nI (sT g) ∧ ∀ j, j < sT g → m 10 j = sB g j) ∧ (m 0 19 = sF g ∧ m 0 20 = sG g) ∧ PF m (sP g) ∧ (m 0 56 = nI (sA g) ∧ m 0 57 = nI (sL g - sA g)) ∧ LF (pV (sP g)) (m 1) (sH g (sA g)) ∧ (∀ i, i < sA g → LF (pV (sP g)) (fun j => m 36 (9685 * i + j)) (sH g i)) ∧ (∀ i, sA g < i → i ≤ sL g → LF (pV (sP g)) (fun j => m 36 (9685 * (i - 1) + j)) (sH g i)) ∧ (∀ k, k < 2 → (sX g k = none → m 38 k = 0) ∧ ∀ B, sX g k = some B → m 38 k = 1 ∧ LF (pV (sP g)) (fun j => m 37 (9685 * k + j)) B) ∧ ∀ j, j < 71 → m 11 j = nI (ltr.getD j 0)
/-- cells that are owned so stay as they were -/
def KEEP (h h' : Hp) (own : Nat → Nat) (o : Nat) : Prop := ∀ a, a < hN h → own a = o → (∀ j, hI h' a j = hI h a j) ∧ (∀ j, hJ h' a j = hJ h a j) ∧ ∀ k, hR h' a k = hR h a k
theorem LX.keep {h h' : Hp} {own : Nat → Nat} {s b n : Nat} {A : LA} (L : LX h (hI h) b A n) (S : SLT h own s b) (x : XX h h') (k : KEEP h h' own (1 + s)) : LX h' (hI h') b A n := by
  obtain ⟨o1, s3, ρ, n2, r7, oρ, lρ, sρ, n32, n81⟩ := S
  have b14 := s3.1
  have e : ∀ a, b ≤ a → a ≤ b + 14 → hI h' a = hI h a := fun a h1 h2 => funext (k a (by omega) (o1 a h1 h2)).1
  have L' := LX.congr L e
  obtain ⟨_, L1, L2, L3, L4, L5, c1, c2, c3, c4, c5, ρ', c6, c7, c8, c9⟩ := L'
  rw [r7] at c6
  cases c6
  refine ⟨s3.x x, L1, L2, L3, L4, L5, c1, c2, c3, c4, c5, ρ, ?_, Nat.lt_of_lt_of_le lρ x.1, by rw [x.2.1 ρ lρ]; exact c8, fun i hi => ?_⟩
  · rw [(k b (by omega) (o1 b (by omega) (by omega))).2.2 7]; exact r7
  · rw [(k ρ lρ oρ).2.1 i]; exact c9 i hi
theorem SLT.keep {h h' : Hp} {own : Nat → Nat} {s b : Nat} (S : SLT h own s b) (x : XX h h') (k : KEEP h h' own (1 + s)) : SLT h' own s b := by
  obtain ⟨o1, s3, ρ, n2, r7, oρ, lρ, sρ, n32, n81⟩ := S
  have b14 := s3.1
  refine ⟨o1, s3.x x, ρ, n2, ?_, oρ, Nat.lt_of_lt_of_le lρ x.1, by rw [x.2.1 ρ lρ]; exact sρ, n32, n81⟩
  rw [(k b (by omega) (o1 b (by omega) (by omega))).2.2 7]; exact r7
/-! a heap with another memory of the reference -/
theorem hm_I {h : Hp} {m : Mem} {a j : Nat} (ha : ¬ (81 ≤ a ∧ a < 120)) : hI (hm 81 h m) a j = hI h a j := by
  show (if 81 ≤ a ∧ a < 81 + 39 then _ else h.2.1 a j) = _
  rw [if_neg ha]; rfl
theorem hm_X (h : Hp) (m : Mem) : XX h (hm 81 h m) := XX.rfl' h
theorem SLT.own {h : Hp} {own own' : Nat → Nat} {s b : Nat} (S : SLT h own s b) (oe : ∀ a, a < hN h → own' a = own a) : SLT h own' s b := by
  obtain ⟨o1, s3, ρ, n2, r7, oρ, lρ, sρ, n32, n81⟩ := S
  have b14 := s3.1
  exact ⟨fun a h1 h2 => by rw [oe a (by omega)]; exact o1 a h1 h2, s3, ρ, n2, r7, by rw [oe ρ lρ]; exact oρ, lρ, sρ, n32, n81⟩
/-- what is not a slot's but the trial's may change, and more cells may come -/
theorem IC.go {h h' : Hp} {g : GS} {own own' : Nat → Nat} {ad : Nat → Option Nat} (I : IC h g own ad) (hl : sL g ≤ 12) (x : XX h h') (ow : OWN own' (hN h')) (oe : ∀ a, a < hN h → own' a = own a) (k : ∀ s, s < 15 → KEEP h h' own (1 + s)) (s15 : SLT h' own' 15 57) (i : ∀ a, a ≤ 18 ∨ a = 37 → (a = 0 → ∀ j, j = 1 → hI h' 0 j = hI h 0 j) ∧ (a = 2 → ∀ j, j ≤ 1 → hI h' 2 j = hI h 2 j) ∧ (a ≠ 0 → (a < 2 ∨ 8 ≤ a) → ∀ j, hI h' a j = hI h a j)) (r : ∀ a q, (a = 0 ∧ (q = 3 ∨ q = 4)) ∨ a = 19 ∨ a = 36 ∨ a = 52 → hR h' a q = hR h a q) : IC h' g own' ad := by
  obtain ⟨c, o, ⟨t1, t2⟩, ⟨f1, f2⟩, ⟨P, hP, p1, p2, p3⟩, ⟨a1, a2⟩, r52, r19, r36, r15, sl, li, bx⟩ := I
  have gi : ∀ a j, a ≠ 0 → a ≠ 2 → (a < 2 ∨ 8 ≤ a) → (a ≤ 18 ∨ a = 37) → hI h' a j = hI h a j := fun a j h0 _ h2 h3 => (i a h3).2.2 h0 h2 j
  have slk : ∀ s b, s < 16 → ad s = some b → SLT h' own' s b := by
    intro s b hs hb
    by_cases z : s = 15
    · subst z
      rw [r15] at hb
      cases hb
      exact s15
    · have S := (sl s b hs hb).keep x (k s (by omega))
      obtain ⟨o1, s3, ρ, n2, r7, oρ, lρ, sρ, n32, n81⟩ := sl s b hs hb
      have b14 := s3.1
      obtain ⟨p1, p2, ρ', n3, p4, p5, p6, p7, p8, p9⟩ := S
      have hρ : ρ' = ρ := by
        rw [(k s (by omega) b (by omega) (o1 b (by omega) (by omega))).2.2 7, r7] at p4
        cases p4; rfl
      subst hρ
      exact ⟨fun a h1 h2 => by rw [oe a (by omega)]; exact o1 a h1 h2, p2, ρ', n3, p4, by rw [oe ρ' lρ]; exact oρ, p6, p7, p8, p9⟩
  refine ⟨c.x x, ow, ⟨?_, fun j hj => ?_⟩, ⟨?_, ?_⟩, ⟨P, hP, ?_, ?_, ?_⟩, ⟨?_, ?_⟩, fun q hq => ?_, fun q hq => ?_, fun q hq => ?_, r15, slk, fun q hq => ?_, fun q hq => ⟨fun hx => ?_, fun B hB => ?_⟩⟩
  · rw [(i 0 (Or.inl (by omega))).1 rfl 1 rfl]; exact t1
  · rw [gi 1 j (by decide) (by decide) (by decide) (by decide)]; exact t2 j hj
  · rw [(i 2 (Or.inl (by omega))).2.1 rfl 0 (by decide)]; exact f1
  · rw [(i 2 (Or.inl (by omega))).2.1 rfl 1 (by decide)]; exact f2
  · rw [r 0 3 (Or.inl ⟨rfl, Or.inl rfl⟩)]; exact p1
  · rw [r 0 4 (Or.inl ⟨rfl, Or.inr rfl⟩)]; exact p2
  · exact PC.congr (h := h) (m := hI h) (m' := hI h') p3 x (fun a h1 h2 => funext fun j => gi a j (by omega) (by omega) (by omega) (by omega))
  · rw [gi 18 0 (by decide) (by decide) (by decide) (by decide)]; exact a1
  · rw [gi 18 1 (by decide) (by decide) (by decide) (by decide)]; exact a2
  · rw [r 52 q (by omega)]; exact r52 q hq
  · rw [r 19 q (by omega)]; exact r19 q hq
  · rw [r 36 q (by omega)]; exact r36 q hq
  · obtain ⟨b, n, hb, L⟩ := li q hq
    exact ⟨b, n, hb, L.keep (sl q b (by omega) hb) x (k q (by omega))⟩
  · rw [gi 37 q (by decide) (by decide) (by decide) (by decide)]; exact (bx q hq).1 hx
  · obtain ⟨e, b, n, hb, L⟩ := (bx q hq).2 B hB
    refine ⟨by rw [gi 37 q (by decide) (by decide) (by decide) (by decide)]; exact e, b, n, hb, L.keep (sl (13 + q) b (by omega) hb) x (k (13 + q) (by omega))⟩
theorem IC.mem {h : Hp} {g : GS} {own : Nat → Nat} {ad : Nat → Option Nat} (I : IC h g own ad) (hl : sL g ≤ 12) (m : Mem) : IC (hm 81 h m) g own ad := by
  have o := I.2.1
  have r15 := I.2.2.2.2.2.2.2.2.2.1
  have sl := I.2.2.2.2.2.2.2.2.2.2.1
  have kp : ∀ s, KEEP h (hm 81 h m) own (1 + s) := by
    intro s a ha ho
    have hna : ¬ (81 ≤ a ∧ a < 120) := fun z => by
      have := o.1 a z.2 (by omega) (by omega)
      omega
    exact ⟨fun j => hm_I hna, fun _ => rfl, fun _ => rfl⟩
  exact I.go hl (hm_X h m) o (fun _ _ => rfl) (fun s _ => kp s) ((sl 15 57 (by decide) r15).keep (hm_X h m) (kp 15)) (fun a ha => ⟨fun h0 j _ => hm_I (by omega), fun h2 j _ => hm_I (by omega), fun _ _ j => hm_I (by omega)⟩) (fun _ _ _ => rfl)

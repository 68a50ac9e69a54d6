/-! what was learnt, as one thing that both sides tell: reports, edges, uses, runs, chains, steps -/
abbrev RD : Type := Nat × (Nat → Nat) × (Nat → Nat) × (Nat → Nat) × (Nat → Nat) × (Nat → Nat → Nat)
def rC (D : RD) : Nat := D.1
def rS (D : RD) : Nat → Nat := D.2.1
def rP (D : RD) : Nat → Nat := D.2.2.1
def rT (D : RD) : Nat → Nat := D.2.2.2.1
def rN (D : RD) : Nat → Nat := D.2.2.2.2.1
def rX (D : RD) : Nat → Nat → Nat := D.2.2.2.2.2
def sbf {α : Type} (f : Nat → α) (k : Nat) (v : α) : Nat → α := fun i => if i = k then v else f i
theorem sbf_at {α : Type} {f : Nat → α} {k : Nat} {v : α} : sbf f k v k = v := if_pos rfl
theorem sbf_ne {α : Type} {f : Nat → α} {k i : Nat} {v : α} (h : i ≠ k) : sbf f k v i = f i := if_neg h
/-- a report more, if there is room -/
def addR (D : RD) (st p s n : Nat) (x : Nat → Nat) : RD := if rC D = 60 then D else (rC D + 1, sbf (rS D) (rC D) st, sbf (rP D) (rC D) p, sbf (rT D) (rC D) s, sbf (rN D) (rC D) n, sbf (rX D) (rC D) x)
theorem addR_full {D : RD} {st p s n : Nat} {x : Nat → Nat} (h : rC D = 60) : addR D st p s n x = D := if_pos h
theorem addR_C {D : RD} {st p s n : Nat} {x : Nat → Nat} (h : rC D ≠ 60) : rC (addR D st p s n x) = rC D + 1 := by unfold addR; rw [if_neg h]; rfl
theorem addR_S {D : RD} {st p s n : Nat} {x : Nat → Nat} (h : rC D ≠ 60) : rS (addR D st p s n x) = sbf (rS D) (rC D) st := by unfold addR; rw [if_neg h]; rfl
theorem addR_P {D : RD} {st p s n : Nat} {x : Nat → Nat} (h : rC D ≠ 60) : rP (addR D st p s n x) = sbf (rP D) (rC D) p := by unfold addR; rw [if_neg h]; rfl
theorem addR_T {D : RD} {st p s n : Nat} {x : Nat → Nat} (h : rC D ≠ 60) : rT (addR D st p s n x) = sbf (rT D) (rC D) s := by unfold addR; rw [if_neg h]; rfl
theorem addR_N {D : RD} {st p s n : Nat} {x : Nat → Nat} (h : rC D ≠ 60) : rN (addR D st p s n x) = sbf (rN D) (rC D) n := by unfold addR; rw [if_neg h]; rfl
theorem addR_X {D : RD} {st p s n : Nat} {x : Nat → Nat} (h : rC D ≠ 60) : rX (addR D st p s n x) = sbf (rX D) (rC D) x := by unfold addR; rw [if_neg h]; rfl
/-- reports are such -/
def RW (D : RD) : Prop := rC D ≤ 60 ∧ ∀ r, r < rC D → (1 ≤ rS D r ∧ rS D r ≤ 9 ∧ 1 ≤ rN D r ∧ rN D r ≤ 17 ∧ rP D r < 6 ∧ rT D r ≤ 12) ∧ ∀ i, i < rN D r → rX D r i < 16
theorem RW.add {D : RD} (w : RW D) {st p s n : Nat} {x : Nat → Nat} (h1 : 1 ≤ st) (h2 : st ≤ 9) (h3 : 1 ≤ n) (h4 : n ≤ 17) (h5 : p < 6) (h6 : s ≤ 12) (hx : ∀ i, i < n → x i < 16) : RW (addR D st p s n x) := by
  by_cases h : rC D = 60
  · rw [addR_full h]; exact w
  · refine ⟨by rw [addR_C h]; have := w.1; omega, fun r hr => ?_⟩
    rw [addR_C h] at hr
    rw [addR_S h, addR_P h, addR_T h, addR_N h, addR_X h]
    by_cases hc : r = rC D
    · subst hc; simp only [sbf_at]; exact ⟨⟨h1, h2, h3, h4, h5, h6⟩, hx⟩
    · simp only [sbf_ne hc]; exact w.2 r (by omega)
/-- the class's reports at b -/
def RRc (μ : Mem) (b : Nat) (D : RD) : Prop := μ b 0 = nI (rC D) ∧ (∀ r, r < rC D → (μ (b + 1) r = nI (rS D r) ∧ μ (b + 2) r = nI (rP D r) ∧ μ (b + 3) r = nI (rT D r) ∧ μ (b + 4) r = nI (rN D r)) ∧ ∀ i, i < rN D r → μ (b + 5) (17 * r + i) = nI (rX D r i)) ∧ ∀ st x y, st < 10 → x < 16 → y < 32 → (bt (μ (b + 6) (16 * st + x)) y = true ↔ ∃ r, r < rC D ∧ rS D r = st ∧ rX D r 0 = x ∧ rX D r (rN D r - 1) = y)
/-- the reference's -/
def RRr (a : Nat → Int32) (D : RD) : Prop := a 272 = nI (rC D) ∧ ∀ r, r < rC D → (a (273 + 21 * r) = nI (rS D r) ∧ a (274 + 21 * r) = nI (rP D r) ∧ a (275 + 21 * r) = nI (rT D r) ∧ a (276 + 21 * r) = nI (rN D r)) ∧ ∀ i, i < rN D r → a (277 + 21 * r + i) = nI (rX D r i)
theorem RRc.congr {μ μ' : Mem} {b : Nat} {D : RD} (h : RRc μ b D) (e : ∀ a, b ≤ a → a ≤ b + 6 → μ' a = μ a) : RRc μ' b D := by
  unfold RRc at h ⊢
  rw [e b (by omega) (by omega), e (b + 1) (by omega) (by omega), e (b + 2) (by omega) (by omega), e (b + 3) (by omega) (by omega), e (b + 4) (by omega) (by omega), e (b + 5) (by omega) (by omega), e (b + 6) (by omega) (by omega)]
  exact h
theorem RRr.congr {a a' : Nat → Int32} {D : RD} (h : RRr a D) (w : RW D) (e : ∀ j, 272 ≤ j → j < 1533 → a' j = a j) : RRr a' D := by
  refine ⟨by rw [e 272 (by omega) (by omega)]; exact h.1, fun r hr => ?_⟩
  obtain ⟨⟨h1, h2, h3, h4⟩, h5⟩ := h.2 r hr
  have h60 := w.1
  have hn := (w.2 r hr).1
  refine ⟨⟨?_, ?_, ?_, ?_⟩, fun i hi => ?_⟩
  · rw [e _ (by omega) (by omega)]; exact h1
  · rw [e _ (by omega) (by omega)]; exact h2
  · rw [e _ (by omega) (by omega)]; exact h3
  · rw [e _ (by omega) (by omega)]; exact h4
  · rw [e _ (by omega) (by omega)]; exact h5 i hi
/-! edges: place 12 * program + step of each -/
abbrev GD : Type := Nat → Nat → Option Nat
def gE (G : GD) (x y : Nat) : Prop := G x y ≠ none
/-- how many below n hold -/
noncomputable def cn (P : Nat → Prop) : Nat → Nat
  | 0 => 0
  | n + 1 => cn P n + @ite Nat (P n) (Classical.propDecidable _) 1 0
theorem cn_le (P : Nat → Prop) : ∀ n, cn P n ≤ n
  | 0 => Nat.le_refl _
  | n + 1 => by
    have := cn_le P n
    unfold cn
    split <;> omega
theorem cn_t {P : Nat → Prop} {n : Nat} (h : P n) : cn P (n + 1) = cn P n + 1 := by
  show cn P n + _ = _
  rw [if_pos h]
theorem cn_f {P : Nat → Prop} {n : Nat} (h : ¬ P n) : cn P (n + 1) = cn P n := by
  show cn P n + _ = _
  rw [if_neg h, Nat.add_zero]
theorem cn_congr {P Q : Nat → Prop} : ∀ n, (∀ i, i < n → (P i ↔ Q i)) → cn P n = cn Q n
  | 0, _ => rfl
  | n + 1, h => by
    have e := cn_congr n (fun i hi => h i (by omega))
    by_cases hp : P n
    · rw [cn_t hp, cn_t ((h n (by omega)).mp hp), e]
    · rw [cn_f hp, cn_f (fun z => hp ((h n (by omega)).mpr z)), e]
theorem cn_more {P Q : Nat → Prop} {k : Nat} (hk : ¬ P k) (hq : ∀ i, Q i ↔ P i ∨ i = k) : ∀ n, k < n → cn Q n = cn P n + 1
  | 0, h => by omega
  | n + 1, h => by
    by_cases hn : n = k
    · subst hn
      rw [cn_t ((hq n).mpr (Or.inr rfl)), cn_f hk, cn_congr n (P := Q) (Q := P) (fun i hi => ⟨fun z => ((hq i).mp z).resolve_right (by omega), fun z => (hq i).mpr (Or.inl z)⟩)]
    · have e := cn_more hk hq n (by omega)
      by_cases hp : P n
      · rw [cn_t hp, cn_t ((hq n).mpr (Or.inl hp)), e]
      · rw [cn_f hp, cn_f (fun z => ((hq n).mp z).elim hp hn), e]
noncomputable def gN (G : GD) : Nat := cn (fun k => gE G (k / 16) (k % 16)) 256
def GW (G : GD) : Prop := ∀ x y pl, G x y = some pl → pl < 72
/-- the class's graph at b -/
def GRc (μ : Mem) (b : Nat) (G : GD) : Prop := μ b 0 = nI (gN G) ∧ ∀ x, x < 16 → (∀ y, y < 32 → (bt (μ (b + 1) x) y = true ↔ y < 16 ∧ gE G x y)) ∧ (∀ y, y < 32 → (bt (μ (b + 2) x) y = true ↔ y < 16 ∧ Rc 16 (gE G) x y)) ∧ ∀ y pl, y < 16 → G x y = some pl → μ (b + 3) (16 * x + y) = nI pl
def plI (o : Option Nat) : Int32 := match o with
  | none => 0
  | some pl => nI (1 + 16 * (pl / 12) + pl % 12)
def GRr (a : Nat → Int32) (G : GD) : Prop := ∀ x y, x < 16 → y < 16 → a (16 * x + y) = plI (G x y)
theorem GRr.E {a : Nat → Int32} {G : GD} (h : GRr a G) (w : GW G) {x y : Nat} (hx : x < 16) (hy : y < 16) : rE a x y ↔ gE G x y := by
  unfold rE gE
  rw [h x y hx hy]
  cases hG : G x y with
  | none => simp [plI]
  | some pl =>
    have := w x y pl hG
    simp only [plI, ne_eq, reduceCtorEq, not_false_eq_true, iff_true]
    exact nI_nle (by omega) (by omega)
theorem GRc.E {μ : Mem} {b : Nat} {G : GD} (h : GRc μ b G) {x y : Nat} (hx : x < 16) (hy : y < 16) : nE (μ (b + 1)) x y ↔ gE G x y := by
  unfold nE
  rw [(h.2 x hx).1 y (by omega)]
  exact ⟨fun z => z.2, fun z => ⟨hy, z⟩⟩
theorem GRc.congr {μ μ' : Mem} {b : Nat} {G : GD} (h : GRc μ b G) (e : ∀ a, b ≤ a → a ≤ b + 3 → μ' a = μ a) : GRc μ' b G := by
  unfold GRc at h ⊢
  rw [e b (by omega) (by omega), e (b + 1) (by omega) (by omega), e (b + 2) (by omega) (by omega), e (b + 3) (by omega) (by omega)]
  exact h
theorem GRr.congr {a a' : Nat → Int32} {G : GD} (h : GRr a G) (e : ∀ j, j < 256 → a' j = a j) : GRr a' G := fun x y hx hy => by rw [e _ (by omega)]; exact h x y hx hy
/-! chains: how many nodes, and which -/
abbrev CD : Type := Nat × (Nat → Nat)
def cBe (c : Nat → Nat) : Nat → Nat
  | 0 => 0
  | n + 1 => cBe c n * 32 + (c n + 1)
def cLe (c : Nat → Nat) : Nat → Nat
  | 0 => 0
  | n + 1 => cLe c n + (c n + 1) * 32 ^ n
def CW (c : CD) : Prop := 1 ≤ c.1 ∧ c.1 ≤ 10 ∧ ∀ i, i < c.1 → c.2 i < 16
def cEq (c d : CD) : Prop := c.1 = d.1 ∧ ∀ i, i < c.1 → c.2 i = d.2 i
/-! all of it -/
abbrev LA : Type := RD × GD × (Nat → Nat) × (Nat → Int32) × (Nat × (Nat → CD)) × Int32 × (Nat → Nat)
def aD (A : LA) : RD := A.1
def aG (A : LA) : GD := A.2.1
def aU (A : LA) : Nat → Nat := A.2.2.1
def aR (A : LA) : Nat → Int32 := A.2.2.2.1
def aK (A : LA) : Nat := A.2.2.2.2.1.1
def aC (A : LA) : Nat → CD := A.2.2.2.2.1.2
def aA (A : LA) : Int32 := A.2.2.2.2.2.1
def aS (A : LA) : Nat → Nat := A.2.2.2.2.2.2
def LW (A : LA) : Prop := RW (aD A) ∧ GW (aG A) ∧ (∀ x, x < 16 → aU A x < 16) ∧ (∀ i, i < aK A → CW (aC A i)) ∧ aK A ≤ 4000 ∧ ∀ j, j < 72 → aS A j < 160
/-- the class's, at b; its rows at ρ, n long -/
def LC (h : Hp) (b : Nat) (A : LA) : Prop := Sh3 h b ∧ RRc (hI h) (b + 8) (aD A) ∧ GRc (hI h) (b + 4) (aG A) ∧ (∀ x, x < 16 → hI h (b + 3) x = nI (aU A x)) ∧ (∀ p, p < 6 → hI h (b + 2) p = aR A p) ∧ (∀ j, j < 72 → hI h (b + 1) j = nI (aS A j)) ∧ hI h b 5 = nI (aK A) ∧ hI h b 6 = aA A ∧ ∃ ρ n, hR h b 7 = some ρ ∧ ρ < hN h ∧ hS h ρ = .inr (.long, n) ∧ 32 ≤ n ∧ n ≤ 8192 ∧ aK A ≤ n ∧ ∀ i, i < aK A → hJ h ρ i = lN (cBe (aC A i).2 (aC A i).1)
/-- the reference's, in a row; V: which steps there are -/
def LF (V : Nat → Prop) (a : Nat → Int32) (A : LA) : Prop := RRr a (aD A) ∧ GRr a (aG A) ∧ (∀ x, x < 16 → a (256 + x) = nI (aU A x)) ∧ (∀ p, p < 6 → a (1533 + p) = aR A p) ∧ (a 1539 = nI (aK A) ∧ a 1540 = aA A ∧ ∀ i, i < aK A → a (1685 + 2 * i) = nI (cLe (aC A i).2 (aC A i).1 % 33554432) ∧ a (1686 + 2 * i) = nI (cLe (aC A i).2 (aC A i).1 / 33554432)) ∧ ∀ j, V j → a (1541 + j) = nI (aS A j / 16) ∧ a (1613 + j) = if aS A j / 16 ≤ 4 then nI (aS A j % 16) else mI

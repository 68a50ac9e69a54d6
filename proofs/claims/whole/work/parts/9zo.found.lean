/-! what was found, and is kept -/
/-- steps, cut to the row's length -/
def cS (T : Nat → Nat) : Nat → Nat := fun j => if j < 72 then T j else 0
theorem cS_lt {T : Nat → Nat} {j : Nat} (h : j < 72) : cS T j = T j := if_pos h
theorem cS_eq {T U : Nat → Nat} (h : ∀ j, j < 72 → T j = U j) : cS T = cS U := by
  funext j
  unfold cS
  by_cases z : j < 72
  · rw [if_pos z, if_pos z, h j z]
  · rw [if_neg z, if_neg z]
/-- a set that may be asked for -/
def vst (Pl : PD) (X : Nat) : Prop := X < 64 ∧ (∀ t, X.testBit t = true → t < pP Pl) ∧ ∃ t, tk Pl X t
/-- outcome: 0 free, 1 stuck, 2 too many -/
noncomputable def oc (Pl : PD) (S : Nat → Nat) (X : Nat) : Nat := ci (zO (srch Pl S X) = 3) 0 (zO (srch Pl S X))
/-- the last moment -/
noncomputable def lastM (Pl : PD) (S : Nat → Nat) (X : Nat) : MO := zM (srch Pl S X) (zN (srch Pl S X) - 1)
/-- what is kept of a search -/
def KN (Pl : PD) (S : Nat → Nat) (X : Nat) (o mv mo rg lk : Int32) : Prop := o = nI (oc Pl S X) ∧ mo = nI (zN (srch Pl S X)) ∧ SI Pl S X (srch Pl S X) ∧ (oc Pl S X = 1 → mv = nI (dep (lastM Pl S X) 6) ∧ RGT Pl S X (lastM Pl S X) rg lk)
theorem oc_1 {Pl : PD} {S : Nat → Nat} {X : Nat} : oc Pl S X = 1 ↔ zO (srch Pl S X) = 1 := by
  unfold oc
  by_cases z : zO (srch Pl S X) = 3
  · rw [ci_t z, z]; exact ⟨fun q => absurd q (by decide), fun q => absurd q (by decide)⟩
  · rw [ci_f z]
theorem oc_2 {Pl : PD} {S : Nat → Nat} {X : Nat} : oc Pl S X = 2 ↔ zO (srch Pl S X) = 2 := by
  unfold oc
  by_cases z : zO (srch Pl S X) = 3
  · rw [ci_t z, z]; exact ⟨fun q => absurd q (by decide), fun q => absurd q (by decide)⟩
  · rw [ci_f z]
theorem oc_lt {Pl : PD} {S : Nat → Nat} {X : Nat} (si : SI Pl S X (srch Pl S X)) : oc Pl S X < 3 := by
  unfold oc
  by_cases z : zO (srch Pl S X) = 3
  · rw [ci_t z]; decide
  · rw [ci_f z]; rcases si.1 with y | y | y <;> omega
/-- the rows of the search, once they are made -/
def SDS (h : Hp) (own : Nat → Nat) : Prop := hR h 74 8 = none ∨ ∃ a turn, hR h 74 8 = some a ∧ 120 ≤ a ∧ (∀ x, a ≤ x → x ≤ a + 11 → own x = 17) ∧ Sh8 h a ∧ SDT (hI h) a turn
/-- all that is kept speaks of these steps -/
def FZ (h : Hp) (own : Nat → Nat) (Pl : PD) (T : Nat → Nat) : Prop := SDS h own ∧ hI h 74 6 = 1 ∧ (∀ j, j < 72 → hI h 80 j = nI (T j)) ∧ (∀ X, vst Pl X → hI h 79 X = 3 ∨ KN Pl (cS T) X (hI h 79 X) (hI h 75 X) (hI h 76 X) (hI h 77 X) (hI h 78 X)) ∧ ∀ X, vst Pl X → hI h 74 7 = nI X → ∃ a, hR h 74 8 = some a ∧ CSP Pl (cS T) X (hI h) a
def FI (h : Hp) (own : Nat → Nat) (Pl : PD) : Prop := SDS h own ∧ (hI h 74 6 = 0 ∨ ∃ T, (∀ j, j < 72 → T j < 160) ∧ FZ h own Pl T)
def sd (h : Hp) : Nat := if hR h 74 8 = none then 12 else 0
def sz (h : Hp) : Nat := if hR h 74 8 = none then 24100 else 0
/-- what asking leaves alone -/
def FN (h h' : Hp) (own own' : Nat → Nat) : Prop := XX h h' ∧ (∀ x, x < hN h → own' x = own x) ∧ (∀ x, hN h ≤ x → x < hN h' → own' x = 17) ∧ (∀ x, hN h' ≤ x → own' x = 0) ∧ (∀ x, x < hN h → own x ≠ 17 → ¬ (74 ≤ x ∧ x ≤ 80) → ∀ j, hI h' x j = hI h x j) ∧ (∀ x, x < hN h → own x ≠ 17 → ∀ j, hJ h' x j = hJ h x j) ∧ (∀ x q, x < hN h → own x ≠ 17 → ¬ (x = 74 ∧ q = 8) → hR h' x q = hR h x q) ∧ hN h' + sd h' ≤ hN h + sd h ∧ hZ h' + sz h' ≤ hZ h + sz h
theorem Sh8.x {h h' : Hp} {a : Nat} (s : Sh8 h a) (x : XX h h') : Sh8 h' a := by
  obtain ⟨s1, s2, ⟨a0, b0⟩, ⟨a1, b1⟩, ⟨a2, b2⟩, ⟨a3, b3⟩, ⟨a4, b4⟩, ⟨a5, b5⟩, ⟨a6, b6⟩, ⟨a7, b7⟩, a8, w10⟩ := s
  have l := x.1
  have hs : ∀ y, y < hN h → hS h' y = hS h y := x.2.1
  have hr : ∀ q, dynF 8 q = false → hR h' a q = hR h a q := fun q hq => x.2.2 a q 8 (by omega) s2 hq
  exact ⟨by omega, by rw [hs a (by omega)]; exact s2, ⟨by rw [hr 5 rfl]; exact a0, by rw [hs _ (by omega)]; exact b0⟩, ⟨by rw [hr 10 rfl]; exact a1, by rw [hs _ (by omega)]; exact b1⟩, ⟨by rw [hr 11 rfl]; exact a2, by rw [hs _ (by omega)]; exact b2⟩, ⟨by rw [hr 12 rfl]; exact a3, by rw [hs _ (by omega)]; exact b3⟩, ⟨by rw [hr 13 rfl]; exact a4, by rw [hs _ (by omega)]; exact b4⟩, ⟨by rw [hr 15 rfl]; exact a5, by rw [hs _ (by omega)]; exact b5⟩, ⟨by rw [hr 16 rfl]; exact a6, by rw [hs _ (by omega)]; exact b6⟩, ⟨by rw [hr 17 rfl]; exact a7, by rw [hs _ (by omega)]; exact b7⟩, by rw [hr 18 rfl]; exact a8, w10.x x⟩
section FND
variable {h h' h'' : Hp} {own own' own'' : Nat → Nat} {Pl : PD} {T : Nat → Nat} {X P c : Nat} {g : GS} {ad : Nat → Option Nat}
theorem FN.rfl' (o : ∀ x, hN h ≤ x → own x = 0) : FN h h own own := ⟨XX.rfl' h, fun _ _ => rfl, fun x h1 h2 => by omega, o, fun _ _ _ _ _ => rfl, fun _ _ _ _ => rfl, fun _ _ _ _ _ => rfl, Nat.le_refl _, Nat.le_refl _⟩
theorem FN.tr (a : FN h h' own own') (b : FN h' h'' own' own'') : FN h h'' own own'' := by
  obtain ⟨a1, a2, a3, a4, a5, a6, a7, a8, a9⟩ := a
  obtain ⟨b1, b2, b3, b4, b5, b6, b7, b8, b9⟩ := b
  have l := a1.1
  refine ⟨a1.trans b1, fun x hx => by rw [b2 x (by omega), a2 x hx], fun x h1 h2 => ?_, b4, fun x hx ho hn j => ?_, fun x hx ho j => ?_, fun x q hx ho hn => ?_, by omega, by omega⟩
  · by_cases z : x < hN h'
    · rw [b2 x z]; exact a3 x h1 z
    · exact b3 x (by omega) h2
  · rw [b5 x (by omega) (by rw [a2 x hx]; exact ho) hn j, a5 x hx ho hn j]
  · rw [b6 x (by omega) (by rw [a2 x hx]; exact ho) j, a6 x hx ho j]
  · rw [b7 x q (by omega) (by rw [a2 x hx]; exact ho) hn, a7 x q hx ho hn]
theorem ic_f (I : IC h g own ad) (hl : sL g ≤ 12) (f : FN h h' own own') : IC h' g own' ad := by
  obtain ⟨a1, a2, a3, a4, a5, a6, a7, a8, a9⟩ := f
  have c0 := I.1.1
  have o := I.2.1
  have r15 := I.2.2.2.2.2.2.2.2.2.1
  have sl := I.2.2.2.2.2.2.2.2.2.2.1
  have l := a1.1
  have kp : ∀ s, s < 16 → KEEP h h' own (1 + s) := fun s hs a ha ho => by
    have n17 : own a ≠ 17 := by omega
    have n74 : ¬ (74 ≤ a ∧ a ≤ 80) := fun z => by
      have := o.1 a (by omega) (by omega) (by omega); omega
    exact ⟨a5 a ha n17 n74, a6 a ha n17, fun k => a7 a k ha n17 (fun z => n74 (by omega))⟩
  have own0 : ∀ a, a ≤ 18 ∨ a = 37 ∨ a = 19 ∨ a = 36 ∨ a = 52 → own a ≠ 17 := fun a ha => by
    have := o.1 a (by omega) (by omega) (by omega); omega
  have s15 : SLT h own' 15 57 := (sl 15 57 (by decide) r15).own a2
  refine I.go hl a1 ⟨fun a h1 h2 h3 => by rw [a2 a (by omega)]; exact o.1 a h1 h2 h3, fun a h1 h2 => by rw [a2 a (by omega)]; exact o.2.1 a h1 h2, a4⟩ a2 (fun s hs => kp s (by omega)) (s15.keep a1 (fun a ha ho => kp 15 (by decide) a ha (by rw [← a2 a ha]; exact ho))) (fun a ha => ⟨fun h0 j _ => a5 0 (by omega) (own0 0 (by omega)) (by omega) j, fun h2 j _ => a5 2 (by omega) (own0 2 (by omega)) (by omega) j, fun _ _ j => a5 a (by omega) (own0 a (by omega)) (by omega) j⟩) (fun a q hq => a7 a q (by omega) (own0 a (by omega)) (by omega))
theorem sds_k (s : SDS h own) (x : XX h h') (k : KEEP h h' own 17) (r8 : hR h' 74 8 = hR h 74 8) (oe : ∀ a, a < hN h → own a = 17 → own' a = 17) : SDS h' own' := by
  rcases s with s | ⟨a, turn, s1, s2, s3, s4, s5⟩
  · exact Or.inl (by rw [r8]; exact s)
  · have l := s4.1
    have e : ∀ y, a ≤ y → y ≤ a + 11 → ∀ j, hI h' y j = hI h y j := fun y h1 h2 => (k y (by omega) (s3 y h1 h2)).1
    refine Or.inr ⟨a, turn, by rw [r8]; exact s1, s2, fun y h1 h2 => oe y (by omega) (s3 y h1 h2), s4.x x, by rw [e a (by omega) (by omega)]; exact s5.1, s5.2.1, fun t ht => ?_⟩
    rw [e (a + 5) (by omega) (by omega)]; exact s5.2.2 t ht
theorem csp_k {S : Nat → Nat} {a : Nat} {m m' : Mem} (h : CSP Pl S X m a) (h0 : ∀ j, m' a j = m a j) (h1 : ∀ j, m' (a + 1) j = m (a + 1) j) : CSP Pl S X m' a := by
  obtain ⟨c1, c2, c3, c4, c5⟩ := h
  refine ⟨by rw [h0]; exact c1, by rw [h0]; exact c2, c3, fun q => ?_, fun q => by rw [h0, h0, h0]; exact c5 q⟩
  obtain ⟨d1, d2, d3⟩ := c4 q
  exact ⟨by rw [h0, h0]; exact d1, by rw [h0]; exact d2, fun i hi => by rw [h1]; exact d3 i hi⟩
/-- other calls leave what is kept alone -/
theorem fi_k (f : FI h own Pl) (x : XX h h') (k : KEEP h h' own 17) (i : ∀ a, 74 ≤ a → a < 120 → ∀ j, hI h' a j = hI h a j) (r8 : hR h' 74 8 = hR h 74 8) (oe : ∀ a, a < hN h → own a = 17 → own' a = 17) : FI h' own' Pl := by
  obtain ⟨s, f⟩ := f
  have s' := sds_k s x k r8 oe
  refine ⟨s', ?_⟩
  rcases f with f | ⟨T, t1, _, f1, f2, f3, f4⟩
  · exact Or.inl (by rw [i 74 (by decide) (by decide)]; exact f)
  · refine Or.inr ⟨T, t1, s', by rw [i 74 (by decide) (by decide)]; exact f1, fun j hj => by rw [i 80 (by decide) (by decide)]; exact f2 j hj, fun X hX => ?_, fun X hX hl => ?_⟩
    · rw [i 79 (by decide) (by decide), i 75 (by decide) (by decide), i 76 (by decide) (by decide), i 77 (by decide) (by decide), i 78 (by decide) (by decide)]
      exact f3 X hX
    · rw [i 74 (by decide) (by decide)] at hl
      obtain ⟨a, a1, a2⟩ := f4 X hX hl
      rcases s with s | ⟨b, turn, s1, s2, s3, s4, s5⟩
      · rw [s] at a1; cases a1
      · rw [a1] at s1
        cases s1
        have l := s4.1
        exact ⟨a, by rw [r8]; exact a1, csp_k a2 (k a (by omega) (s3 a (by omega) (by omega))).1 (k (a + 1) (by omega) (s3 (a + 1) (by omega) (by omega))).1⟩
/-- a store clears it -/
theorem fi_0 {Pl' : PD} (f : FI h own Pl) (x : XX h h') (k : KEEP h h' own 17) (z : hI h' 74 6 = 0) (r8 : hR h' 74 8 = hR h 74 8) (oe : ∀ a, a < hN h → own a = 17 → own' a = 17) : FI h' own' Pl' := ⟨sds_k f.1 x k r8 oe, Or.inl z⟩
end FND

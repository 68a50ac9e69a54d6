/-! what a run does, told once for both sides -/
noncomputable def ci {α : Type} (P : Prop) (a b : α) : α := @ite α P (Classical.propDecidable P) a b
theorem ci_t {α : Type} {P : Prop} {a b : α} (h : P) : ci P a b = a := if_pos h
theorem ci_f {α : Type} {P : Prop} {a b : α} (h : ¬ P) : ci P a b = b := if_neg h
/-- the plan: kinds, locks, programs; kind of a lock, sort and length of a program -/
abbrev PD : Type := Nat × Nat × Nat × (Nat → Nat) × (Nat → Nat) × (Nat → Nat)
def pK (P : PD) : Nat := P.1
def pL (P : PD) : Nat := P.2.1
def pP (P : PD) : Nat := P.2.2.1
def pk (P : PD) : Nat → Nat := P.2.2.2.1
def pS (P : PD) : Nat → Nat := P.2.2.2.2.1
def pN (P : PD) : Nat → Nat := P.2.2.2.2.2
def PW (P : PD) : Prop := pK P ≤ 8 ∧ pL P ≤ 10 ∧ pP P ≤ 6 ∧ (∀ l, l < pL P → pk P l < pK P) ∧ ∀ p, p < pP P → pS P p ≤ 2 ∧ 1 ≤ pN P p ∧ pN P p ≤ 12
/-- there is such a step -/
def pV (P : PD) (j : Nat) : Prop := j / 12 < pP P ∧ j % 12 < pN P (j / 12)
/-- steps are such -/
def SW (P : PD) (S : Nat → Nat) : Prop := ∀ j, pV P j → S j / 16 ≤ 8 ∧ (S j / 16 ≤ 4 → S j % 16 < pL P) ∧ (4 < S j / 16 → S j % 16 = 0)
/-- the class's plan at b -/
def PC (h : Hp) (b : Nat) (P : PD) : Prop := Sh5 h b ∧ hI h b 0 = nI (pK P) ∧ hI h b 1 = nI (pL P) ∧ hI h b 2 = nI (pP P) ∧ (∀ l, l < pL P → hI h (b + 1) l = nI (pk P l)) ∧ ∀ p, p < pP P → hI h (b + 2) p = nI (pS P p) ∧ hI h (b + 3) p = nI (pN P p)
/-- the reference's -/
def PF (m : Mem) (P : PD) : Prop := ∃ k, k ≤ 1 ∧ m 0 9 = nI k ∧ m 2 k = nI (pK P) ∧ m 3 k = nI (pL P) ∧ m 4 k = nI (pP P) ∧ (∀ l, l < pL P → m 5 (10 * k + l) = nI (pk P l)) ∧ ∀ p, p < pP P → m 6 (6 * k + p) = nI (pS P p) ∧ m 7 (6 * k + p) = nI (pN P p)
/-- the way between two nodes -/
noncomputable def wK (G : GD) (f t : Nat) : Nat := @dite Nat (∃ K x, Way 16 (gE G) f t K x) (Classical.propDecidable _) (fun h => Classical.choose h) (fun _ => 0)
noncomputable def wX (G : GD) (f t : Nat) : Nat → Nat := @dite (Nat → Nat) (∃ K x, Way 16 (gE G) f t K x) (Classical.propDecidable _) (fun h => Classical.choose (Classical.choose_spec h)) (fun _ => fun _ => 0)
theorem w_ok {G : GD} {f t : Nat} (ht : t < 16) (h : Rc 16 (gE G) f t) : Way 16 (gE G) f t (wK G f t) (wX G f t) := by
  have h1 := Rc_way ht h
  unfold wK wX
  rw [dif_pos h1, dif_pos h1]
  exact Classical.choose_spec (Classical.choose_spec h1)
/-- it was told -/
def tD (D : RD) (st x y : Nat) : Prop := ∃ r, r < rC D ∧ rS D r = st ∧ rX D r 0 = x ∧ rX D r (rN D r - 1) = y
noncomputable def once (D : RD) (st p s x : Nat) : RD := ci (tD D st x x) D (addR D st p s 1 (fun _ => x))
def cons (h : Nat) (x : Nat → Nat) : Nat → Nat := fun i => match i with
  | 0 => h
  | i + 1 => x i
noncomputable def learn1 (DG : RD × GD) (p s h x : Nat) : RD × GD :=
  if h = x then (once DG.1 2 p s x, DG.2) else
  ci (gE DG.2 h x) DG (ci (Rc 16 (gE (upG DG.2 h x (12 * p + s))) x h) (addR DG.1 3 p s (wK (upG DG.2 h x (12 * p + s)) x h + 2) (cons h (wX (upG DG.2 h x (12 * p + s)) x h))) DG.1, upG DG.2 h x (12 * p + s))
noncomputable def learnN (DG : RD × GD) (p s : Nat) (nd : Nat → Nat) (x : Nat) : Nat → RD × GD
  | 0 => DG
  | i + 1 => learn1 (learnN DG p s nd x i) p s (nd i) x
/-- contexts: bit 2 (4): hard ones are on, bit 1 (2): soft ones -/
def cx0 (so : Nat) : Nat := if so = 0 then 6 else if so = 1 then 4 else 0
def cx1 (c so d : Nat) : Nat := if d = 5 then c &&& 2 else if d = 6 then c ||| (cx0 so &&& 4) else if d = 7 then c &&& 4 else if d = 8 then c ||| (cx0 so &&& 2) else c
def cx (so : Nat) (S : Nat → Nat) : Nat → Nat
  | 0 => cx0 so
  | i + 1 => cx1 (cx so S i) so (S i / 16)
/-- what a use adds -/
def useB (so c : Nat) : Nat := (if so = 2 then 1 else 0) ||| (if so = 1 then 2 else 0) ||| (if c &&& 4 = 0 then 0 else 4) ||| (if c = 6 then 8 else 0)
noncomputable def useD (D : RD) (u p s x : Nat) : RD :=
  let D1 := if u &&& 1 = 0 ∨ u &&& 4 = 0 then D else once D 4 p s x
  if u &&& 2 = 0 ∨ u &&& 8 = 0 then D1 else once D1 5 p s x
noncomputable def uns1 (D : RD) (G : GD) (U : Nat → Nat) (its bi bo p s a b : Nat) : RD :=
  ci (a = b ∨ U a &&& bi = 0 ∨ U b &&& bo = 0 ∨ tD D its a b ∨ ¬ Rc 16 (gE G) a b) D (addR D its p s (wK G a b + 1) (wX G a b))
noncomputable def unsN (D : RD) (G : GD) (U : Nat → Nat) (its bi bo p s a : Nat) : Nat → RD
  | 0 => D
  | b + 1 => uns1 (unsN D G U its bi bo p s a b) G U its bi bo p s a b
noncomputable def unsA (D : RD) (G : GD) (U : Nat → Nat) (its bi bo p s : Nat) : Nat → RD
  | 0 => D
  | a + 1 => unsN (unsA D G U its bi bo p s a) G U its bi bo p s a 16
/-- what is held: how many, which locks, as which nodes -/
abbrev HD : Type := Nat × (Nat → Nat) × (Nat → Nat)
def hK (H : HD) : Nat := H.1
def hL (H : HD) : Nat → Nat := H.2.1
def hD (H : HD) : Nat → Nat := H.2.2
def isH (H : HD) (l : Nat) : Prop := ∃ i, i < hK H ∧ hL H i = l
def HW (H : HD) : Prop := hK H ≤ 10 ∧ (∀ i, i < hK H → hL H i < 10 ∧ hD H i < 16) ∧ ∀ i j, i < hK H → j < hK H → hL H i = hL H j → i = j
def push (H : HD) (l x : Nat) : HD := (hK H + 1, sbf (hL H) (hK H) l, sbf (hD H) (hK H) x)
/-- without place i -/
def drop1 (H : HD) (i : Nat) : HD := (hK H - 1, fun j => if j < i then hL H j else hL H (j + 1), fun j => if j < i then hD H j else hD H (j + 1))
noncomputable def plc (H : HD) (l : Nat) : Nat := @dite Nat (isH H l) (Classical.propDecidable _) (fun h => Classical.choose h) (fun _ => 0)
theorem plc_ok {H : HD} {l : Nat} (h : isH H l) : plc H l < hK H ∧ hL H (plc H l) = l := by
  unfold plc
  rw [dif_pos h]
  exact Classical.choose_spec h
theorem plc_un {H : HD} (w : HW H) {l i : Nat} (hi : i < hK H) (h : hL H i = l) : plc H l = i := by
  have h1 := plc_ok (H := H) (l := l) ⟨i, hi, h⟩
  exact w.2.2 _ _ h1.1 hi (by rw [h1.2, h])
/-- a chain more, if it is new -/
noncomputable def keepC (A : LA) (c : CD) : LA := ci (∃ i, i < aK A ∧ cEq (aC A i) c) (aD A, aG A, aU A, aR A, (aK A, aC A), aA A + 1, aS A) (aD A, aG A, aU A, aR A, (aK A + 1, sbf (aC A) (aK A) c), aA A, aS A)
def chn (H : HD) (x : Nat) : CD := (hK H + 1, sbf (hD H) (hK H) x)
def setD (A : LA) (D : RD) : LA := (D, A.2)
def nodeOf (P : PD) (d l : Nat) : Nat := 2 * pk P l + (if d = 1 then 1 else 0)
noncomputable def takeA (P : PD) (p s d x : Nat) (A : LA) (H : HD) : LA :=
  let A1 := keepC A (chn H x)
  let DG := if d = 3 then (aD A1, aG A1) else learnN (aD A1, aG A1) p s (hD H) x (hK H)
  let u := aU A1 x ||| useB (pS P p) (cx (pS P p) (fun i => aS A (12 * p + i)) s)
  let U := sbf (aU A1) x u
  let D3 := useD DG.1 u p s x
  let D4 := unsA D3 DG.2 U 6 1 4 p s 16
  let D5 := unsA D4 DG.2 U 7 2 8 p s 16
  (D5, DG.2, U, A1.2.2.2)
noncomputable def stepA (P : PD) (p s : Nat) (AH : LA × HD) : LA × HD :=
  let c := aS AH.1 (12 * p + s)
  let d := c / 16
  let l := c % 16
  if d < 4 then
    ci (isH AH.2 l) (setD AH.1 (addR (aD AH.1) 1 p s 1 (fun _ => hD AH.2 (plc AH.2 l))), AH.2) (takeA P p s d (nodeOf P d l) AH.1 AH.2, push AH.2 l (nodeOf P d l))
  else if d = 4 then
    ci (isH AH.2 l) (AH.1, drop1 AH.2 (plc AH.2 l)) (setD AH.1 (addR (aD AH.1) 8 p s 1 (fun _ => 2 * pk P l)), AH.2)
  else AH
noncomputable def stepsA (P : PD) (p : Nat) (A : LA) : Nat → LA × HD
  | 0 => (A, (0, fun _ => 0, fun _ => 0))
  | s + 1 => stepA P p s (stepsA P p A s)
def keptN (D : RD) (p s : Nat) (nd : Nat → Nat) : Nat → RD
  | 0 => D
  | i + 1 => addR (keptN D p s nd i) 9 p s 1 (fun _ => nd i)
/-- a run -/
noncomputable def runA (P : PD) (p : Nat) (A : LA) : LA :=
  let B := stepsA P p A (pN P p)
  (keptN (aD B.1) p (pN P p) (hD B.2) (hK B.2), aG B.1, aU B.1, sbf (aR B.1) p (aR B.1 p + 1), B.1.2.2.2.2)

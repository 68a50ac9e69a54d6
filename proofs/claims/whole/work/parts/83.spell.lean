/-! how long a lock is held: both sides -/
section SPL
variable {h h' : Hp} {m m' : Mem} {g g' : GS} {own : Nat → Nat} {ad : Nat → Option Nat} {Pl : PD} {A : LA} {H : HD} {w P p s : Nat}
theorem b_1 : ∀ k, k < 32 → bt 1 k = decide (k = 0) := by decide +kernel
theorem and_1 (y : Int32) : y &&& 1 = if bt y 0 = true then 1 else 0 := by
  apply b_ext
  intro i hi
  rw [b_and, b_1 i hi]
  by_cases z : i = 0
  · subst z
    cases hb : bt y 0
    · rw [if_neg (by decide), b_0]; rfl
    · rw [if_pos rfl, b_1 0 (by decide)]; rfl
  · rw [decide_eq_false z, Bool.and_false]
    by_cases hb : bt y 0 = true
    · rw [if_pos hb, b_1 i hi, decide_eq_false z]
    · rw [if_neg hb, b_0]
theorem w_hasR {x : Int32} {n : Nat} {Q : Int32 → Prop} (hn : n < 31) : wp (gX12_has x (nI n)) Q = Q (b01 (bt x n = true)) := by
  have e : bt (x >>> (nI n &&& 31)) 0 = bt x n := by rw [b_sshr n (by omega) x (by decide), if_pos (by omega), Nat.add_zero]
  unfold gX12_has gjX12_has_14
  rw [and_1, e]
  by_cases hb : bt x n = true
  · rw [if_pos hb, wp_t rfl, wp_bind, wp_eq bz_1, wp_some, b01_t hb]
  · rw [if_neg hb, wp_f (by decide), wp_bind, wp_eq bz_0, wp_some, b01_n hb]
theorem w_more {a b : Nat} {Q : Int32 → Prop} (ha : a < 2 ^ 31) (hb : b < 2 ^ 31) : wp (gX12_more (nI a) (nI b)) Q = Q (nI (max a b)) := by
  unfold gX12_more gjX12_more_10
  by_cases z : a ≤ b
  · rw [wp_t (nI_le z hb), wp_some, Nat.max_eq_right z]
  · rw [wp_f (fun y => z ((nI_leI ha hb).mp y)), wp_some, Nat.max_eq_left (by omega)]
/-- what is held, as bits -/
noncomputable def bsI (H : HD) : Nat → Int32
  | 0 => 0
  | n + 1 => bsI H n ||| ci (isH H n) ((1 : Int32) <<< (nI n &&& 31)) 0
theorem bsI_b {i : Nat} (hi : i < 32) : ∀ n, n ≤ 32 → (bt (bsI H n) i = true ↔ i < n ∧ isH H i)
  | 0, _ => by
    show bt 0 i = true ↔ _
    rw [b_0]; exact ⟨fun z => (by cases z), fun z => absurd z.1 (Nat.not_lt_zero _)⟩
  | n + 1, hn => by
    have ih := bsI_b hi n (by omega)
    show bt (bsI H n ||| ci (isH H n) ((1 : Int32) <<< (nI n &&& 31)) 0) i = true ↔ _
    rw [b_or, Bool.or_eq_true, ih]
    by_cases hh : isH H n
    · rw [ci_t hh, b_shl1 (by omega) hi, decide_eq_true_iff]
      constructor
      · rintro (z | z)
        · exact ⟨by omega, z.2⟩
        · subst z; exact ⟨by omega, hh⟩
      · rintro ⟨z1, z2⟩
        by_cases z : i = n
        · exact Or.inr z
        · exact Or.inl ⟨by omega, z2⟩
    · rw [ci_f hh, b_0]
      constructor
      · rintro (z | z)
        · exact ⟨by omega, z.2⟩
        · cases z
      · rintro ⟨z1, z2⟩
        refine Or.inl ⟨?_, z2⟩
        have : i ≠ n := fun e => hh (e ▸ z2)
        omega
theorem bsI_eq {x : Int32} (hx : ∀ l, l < 32 → (bt x l = true ↔ isH H l)) : x = bsI H 32 := b_ext fun i hi => by
  have h1 := hx i hi
  have h2 := bsI_b (H := H) hi 32 (Nat.le_refl _)
  exact Bool.eq_iff_iff.mpr (h1.trans ⟨fun z => h2.mpr ⟨hi, z⟩, fun z => (h2.mp z).2⟩)
theorem bsI_t {i : Nat} (hi : i < 32) : bt (bsI H 32) i = true ↔ isH H i := ⟨fun z => ((bsI_b hi 32 (Nat.le_refl _)).mp z).2, fun z => (bsI_b hi 32 (Nat.le_refl _)).mpr ⟨hi, z⟩⟩
theorem isH_step (hw : HW H) {x : Nat} : isH (stepA Pl p s (A, H)).2 x ↔ if aS A (12 * p + s) / 16 < 4 then isH H x ∨ x = aS A (12 * p + s) % 16 else if aS A (12 * p + s) / 16 = 4 then isH H x ∧ x ≠ aS A (12 * p + s) % 16 else isH H x := by
  rw [step_H]
  by_cases c1 : aS A (12 * p + s) / 16 < 4
  · rw [if_pos c1, if_pos c1]
    by_cases c2 : isH H (aS A (12 * p + s) % 16)
    · rw [ci_t c2]
      exact ⟨Or.inl, fun z => z.elim id (fun e => e ▸ c2)⟩
    · rw [ci_f c2, isH_push]
  · rw [if_neg c1, if_neg c1]
    by_cases c3 : aS A (12 * p + s) / 16 = 4
    · rw [if_pos c3, if_pos c3]
      unfold without
      by_cases c2 : isH H (aS A (12 * p + s) % 16)
      · rw [ci_t c2, isH_drop hw c2]
      · rw [ci_f c2]
        exact ⟨fun z => ⟨z, fun e => c2 (e ▸ z)⟩, fun z => z.1⟩
    · rw [if_neg c3, if_neg c3]
/-- how often taken, since when held, the longest that is over, what was held at first -/
noncomputable def spl (P : PD) (p : Nat) (A : LA) (l : Nat) : Nat → Nat × Option Nat × Nat × Int32
  | 0 => (0, none, 0, 0)
  | i + 1 => ci (¬ isH (stepsA P p A i).2 l ∧ isH (stepsA P p A (i + 1)).2 l) ((spl P p A l i).1 + 1, some i, (spl P p A l i).2.2.1, if (spl P p A l i).1 = 0 then bsI (stepsA P p A i).2 32 else (spl P p A l i).2.2.2) (ci (isH (stepsA P p A i).2 l ∧ ¬ isH (stepsA P p A (i + 1)).2 l) ((spl P p A l i).1, none, max (spl P p A l i).2.2.1 (i - (spl P p A l i).2.1.getD 0 + 1), (spl P p A l i).2.2.2) (spl P p A l i))
theorem spl_a {l i : Nat} (h1 : ¬ isH (stepsA Pl p A i).2 l) (h2 : isH (stepsA Pl p A (i + 1)).2 l) : spl Pl p A l (i + 1) = ((spl Pl p A l i).1 + 1, some i, (spl Pl p A l i).2.2.1, if (spl Pl p A l i).1 = 0 then bsI (stepsA Pl p A i).2 32 else (spl Pl p A l i).2.2.2) := by
  rw [spl, ci_t ⟨h1, h2⟩]
theorem spl_b {l i : Nat} (h1 : isH (stepsA Pl p A i).2 l) (h2 : ¬ isH (stepsA Pl p A (i + 1)).2 l) : spl Pl p A l (i + 1) = ((spl Pl p A l i).1, none, max (spl Pl p A l i).2.2.1 (i - (spl Pl p A l i).2.1.getD 0 + 1), (spl Pl p A l i).2.2.2) := by
  rw [spl, ci_f (fun z => z.1 h1), ci_t ⟨h1, h2⟩]
theorem spl_c {l i : Nat} (h1 : isH (stepsA Pl p A i).2 l ↔ isH (stepsA Pl p A (i + 1)).2 l) : spl Pl p A l (i + 1) = spl Pl p A l i := by
  rw [spl, ci_f (fun z => z.1 (h1.mpr z.2)), ci_f (fun z => z.2 (h1.mp z.1))]
theorem spl_ok {l : Nat} : ∀ i, (((spl Pl p A l i).2.1 = none ∧ ¬ isH (stepsA Pl p A i).2 l) ∨ ∃ f, (spl Pl p A l i).2.1 = some f ∧ f < i ∧ isH (stepsA Pl p A i).2 l) ∧ (spl Pl p A l i).1 ≤ i ∧ (spl Pl p A l i).2.2.1 ≤ i
  | 0 => ⟨Or.inl ⟨rfl, fun ⟨i, hi, _⟩ => absurd hi (Nat.not_lt_zero _)⟩, Nat.le_refl _, Nat.le_refl _⟩
  | i + 1 => by
    obtain ⟨q1, q2, q3⟩ := spl_ok (l := l) i
    by_cases h1 : isH (stepsA Pl p A i).2 l
    · by_cases h2 : isH (stepsA Pl p A (i + 1)).2 l
      · rw [spl_c ⟨fun _ => h2, fun _ => h1⟩]
        refine ⟨?_, by omega, by omega⟩
        rcases q1 with ⟨_, z⟩ | ⟨f, z1, z2, _⟩
        · exact absurd h1 z
        · exact Or.inr ⟨f, z1, by omega, h2⟩
      · rw [spl_b h1 h2]
        refine ⟨Or.inl ⟨rfl, h2⟩, ?_, ?_⟩
        · show (spl Pl p A l i).1 ≤ _; omega
        · show max (spl Pl p A l i).2.2.1 (i - (spl Pl p A l i).2.1.getD 0 + 1) ≤ _; omega
    · by_cases h2 : isH (stepsA Pl p A (i + 1)).2 l
      · rw [spl_a h1 h2]
        refine ⟨Or.inr ⟨i, rfl, by omega, h2⟩, ?_, ?_⟩
        · show (spl Pl p A l i).1 + 1 ≤ _; omega
        · show (spl Pl p A l i).2.2.1 ≤ _; omega
      · rw [spl_c ⟨fun z => absurd z h1, fun z => absurd z h2⟩]
        refine ⟨?_, by omega, by omega⟩
        rcases q1 with ⟨z1, _⟩ | ⟨f, z1, z2, z3⟩
        · exact Or.inl ⟨z1, h2⟩
        · exact absurd z3 h1
/-- the longest, with the one that goes on -/
def lgn (x : Nat × Option Nat × Nat × Int32) (i : Nat) : Nat := match x.2.1 with
  | none => x.2.2.1
  | some f => max x.2.2.1 (i - f)
theorem lgn_n {x : Nat × Option Nat × Nat × Int32} {i : Nat} (e : x.2.1 = none) : lgn x i = x.2.2.1 := by unfold lgn; rw [e]
theorem lgn_s {x : Nat × Option Nat × Nat × Int32} {i f : Nat} (e : x.2.1 = some f) : lgn x i = max x.2.2.1 (i - f) := by unfold lgn; rw [e]
section W103
variable {q l i f L : Nat} {v5 v6 v7 v8 v9 x8 : Int32}
theorem w_103a {Q : (Int32 × Int32 × Int32 × Int32 × Int32 × Hp) ⊕ (Int32 × Int32 × Int32 × Hp) → Prop} (s9 : Sh9 h w) (hl : l < 31) (h1 : ¬ bt x8 l = true) (h2 : ¬ bt (m w 7) l = true) : wp (jX9_spellOf_103 w q (nI l) v5 v6 v7 v8 v9 (nI i) x8 (wI h m)) Q = Q (.inl (v6, v7, v8, v9, nI (i + 1), wI h m)) := by
  have e1 : nI i + 1 = nI (i + 1) := i_add _ 1
  unfold jX9_spellOf_103 jX9_spellOf_132
  rw [wp_bind, s9.g7, wp_bind, w_has hl, b01_n (by rw [b_or, Bool.or_eq_true]; exact fun z => z.elim h1 h2), wp_t rfl, wp_bind, wp_some, wp_some, e1]
theorem w_103b {Q : (Int32 × Int32 × Int32 × Int32 × Int32 × Hp) ⊕ (Int32 × Int32 × Int32 × Hp) → Prop} (s9 : Sh9 h w) (hl : l < 31) (h1 : bt x8 l = true ∨ bt (m w 7) l = true) (hf : f ≤ i) (hi : i < 100) (hL : L < 100) : wp (jX9_spellOf_103 w q (nI l) v5 v6 (nI f) (nI L) v9 (nI i) x8 (wI h m)) Q = Q (.inl (v6, nI f, nI (max L (i - f + 1)), v9, nI (i + 1), wI h m)) := by
  have e1 : nI i + 1 = nI (i + 1) := i_add _ 1
  have e2 : nI i - nI f + 1 = nI (i - f + 1) := by rw [i_sub hf]; exact i_add _ 1
  unfold jX9_spellOf_103 jX9_spellOf_132
  rw [wp_bind, s9.g7, wp_bind, w_has hl, b01_t (by rw [b_or, Bool.or_eq_true]; exact h1), wp_f (by decide), wp_bind, wp_some, wp_bind, wp_some, wp_some, e1, e2]
  by_cases z : L < i - f + 1
  · rw [if_pos ((nI_ltI (by omega) (by omega)).mpr z), Nat.max_eq_right (by omega)]
  · rw [if_neg (fun y => z ((nI_ltI (by omega) (by omega)).mp y)), Nat.max_eq_left (by omega)]
end W103
theorem c_splL {q l : Nat} {v5 : Int32} (s9 : Sh9 h w) (q1 : hR h w 1 = some P) (pc : PC (wI h m) P Pl) (hwP : P + 4 < w) (pw : PW Pl) (hp : p < pP Pl) (sw : SW Pl (aS A)) (lw : LW A) (hA : aK A + 12 ≤ 4000) (e3 : m w 3 = nI p) (e5 : m w 5 = nI (cx0 (pS Pl p))) (k : WKc m w (0, fun _ => 0, fun _ => 0)) (hq : q < hN h) (tq : hS h q = .inr (.int, 72)) (nq : q ≠ w ∧ q ≠ w + 4 ∧ q ≠ w + 5) (hS : ∀ j, j < 72 → m q j = nI (aS A j)) (hl : l < 10) : wp (lp (bX9_spellOf_21 w q (nI l) v5) FU (0, 0, 0, 0, 0, wI h m)) (fun r => ∃ m', r = (nI (spl Pl p A l (pN Pl p)).1, nI (lgn (spl Pl p A l (pN Pl p)) (pN Pl p)), (spl Pl p A l (pN Pl p)).2.2.2, wI h m') ∧ ∀ a, a ≠ w → a ≠ w + 4 → a ≠ w + 5 → m' a = m a) := by
  have h12 := (pw.2.2.2.2 p hp).2.2
  have hso := (pw.2.2.2.2 p hp).1
  have h6 := pw.2.2.1
  have s5 : Sh5 h P := pc.1
  refine wp_for (κ := Mem × Int32) (fun i c => (nI (spl Pl p A l i).1, c.2, nI (lgn (spl Pl p A l i) i), (spl Pl p A l i).2.2.2, nI i, wI h c.1)) (pN Pl p) (fun i c => ((∀ a, a ≠ w → a ≠ w + 4 → a ≠ w + 5 → c.1 a = m a) ∧ c.1 w 3 = nI p ∧ c.1 w 5 = nI (cx (pS Pl p) (fun j => aS A (12 * p + j)) i) ∧ WKc c.1 w (stepsA Pl p A i).2) ∧ ∀ f, (spl Pl p A l i).2.1 = some f → c.2 = nI f) (fun i c hi HH => ?_) (fun c HH => ?_) 0 (m, 0) (Nat.zero_le _) ⟨⟨fun _ _ _ _ => rfl, e3, e5, k⟩, fun f z => by cases z⟩ (by omega)
  all_goals
    obtain ⟨c, si⟩ := c
    obtain ⟨⟨f2, g3, g5, kc⟩, hsi⟩ := HH
    simp only at f2 g3 g5 kc hsi
    have pc2 : PC (wI h c) P Pl := PC.congr (h := h) (m := m) pc (XX.rfl' h) (fun a z1 z2 => f2 a (by omega) (by omega) (by omega))
    have eN : c (P + 3) p = nI (pN Pl p) := (pc2.2.2.2.2.2 p hp).2
    simp only [bX9_spellOf_21]
    rw [wp_bind, s9.q1, q1, wp_some, wp_bind, s5.r5, wp_bind, s9.g3, g3, wp_bind, s5.l5 (by omega), eN]
  · obtain ⟨a1, a2, a3, a4, a5, a6⟩ := stepsA_W pw hp sw lw hA i (by omega)
    obtain ⟨ok1, ok2, ok3⟩ := spl_ok (Pl := Pl) (p := p) (A := A) (l := l) i
    have c8 := cx_8 (pS Pl p) (fun j => aS A (12 * p + j)) i
    have ei : nI p * 12 + nI i = nI (12 * p + i) := by rw [L_12, i_mul, i_add, Nat.mul_comm p 12]
    have eq : c q (12 * p + i) = nI (aS A (12 * p + i)) := by rw [f2 q nq.1 nq.2.1 nq.2.2]; exact hS _ (by omega)
    rw [wp_f (fun z => by have := (nI_leI (by omega) (by omega)).mp z; omega), wp_bind, s9.g7, wp_bind, s9.g3, g3, ei, wp_bind, x_lI hq tq (by omega) (by decide), eq, wp_bind, s9.o, wp_bind]
    have fo := c_follow (A := (stepsA Pl p A i).1) (H := (stepsA Pl p A i).2) (s := i) s9 q1 pc2 pw hp hi (by rw [a3]; exact sw) (by rw [a3]; exact lw.2.2.2.2.2 _ (by omega)) g3 g5 c8 kc a2
    rw [a3] at fo
    refine wp_mono fo ?_
    rintro r ⟨m3, rfl, f3, g33, g35, k3⟩
    have fin : (∀ a, a ≠ w → a ≠ w + 4 → a ≠ w + 5 → m3 a = m a) ∧ m3 w 3 = nI p ∧ m3 w 5 = nI (cx (pS Pl p) (fun j => aS A (12 * p + j)) (i + 1)) ∧ WKc m3 w (stepsA Pl p A (i + 1)).2 := ⟨fun a z1 z2 z3 => (f3 a z1 z2 z3).trans (f2 a z1 z2 z3), g33, g35, k3⟩
    have b1 := kc.2.2 l (by omega)
    have b2 : bt (m3 w 7) l = true ↔ isH (stepsA Pl p A (i + 1)).2 l := k3.2.2 l (by omega)
    have e7 : c w 7 = bsI (stepsA Pl p A i).2 32 := bsI_eq kc.2.2
    rw [wp_bind, w_has (by omega)]
    by_cases h1 : isH (stepsA Pl p A i).2 l
    · obtain ⟨f, z1, z2, _⟩ : ∃ f, (spl Pl p A l i).2.1 = some f ∧ f < i ∧ isH (stepsA Pl p A i).2 l := ok1.resolve_left (fun z => z.2 h1)
      have esi := hsi f z1
      subst esi
      rw [b01_t (b1.mpr h1), wp_f (by decide), lgn_s z1, w_103b s9 (by omega) (Or.inl (b1.mpr h1)) (by omega) (by omega) (by omega), lq_l]
      by_cases h2 : isH (stepsA Pl p A (i + 1)).2 l
      · refine ⟨(m3, nI f), ?_, fin, ?_⟩
        · rw [spl_c ⟨fun _ => h2, fun _ => h1⟩, lgn_s z1, show max (max (spl Pl p A l i).2.2.1 (i - f)) (i - f + 1) = max (spl Pl p A l i).2.2.1 (i + 1 - f) by omega]
        · rw [spl_c ⟨fun _ => h2, fun _ => h1⟩]; exact hsi
      · refine ⟨(m3, nI f), ?_, fin, ?_⟩
        · rw [spl_b h1 h2, lgn_n rfl, z1]
          show _ = (nI (spl Pl p A l i).1, nI f, nI (max (spl Pl p A l i).2.2.1 (i - f + 1)), (spl Pl p A l i).2.2.2, nI (i + 1), wI h m3)
          rw [show max (max (spl Pl p A l i).2.2.1 (i - f)) (i - f + 1) = max (spl Pl p A l i).2.2.1 (i - f + 1) by omega]
        · rw [spl_b h1 h2]; intro f' z; cases z
    · have z1 : (spl Pl p A l i).2.1 = none := by
        rcases ok1 with z | ⟨f, _, _, z⟩
        · exact z.1
        · exact absurd z h1
      rw [b01_n (fun z => h1 (b1.mp z)), wp_t rfl]
      show wp ((gI (wI h m3) 9 w 7).bind _) _
      rw [wp_bind, s9.g7, wp_bind, w_has (by omega)]
      by_cases h2 : isH (stepsA Pl p A (i + 1)).2 l
      · rw [b01_t (b2.mpr h2), wp_f (by decide)]
        have key : ∀ y0, y0 = (if (spl Pl p A l i).1 = 0 then bsI (stepsA Pl p A i).2 32 else (spl Pl p A l i).2.2.2) → wp (jX9_spellOf_94 w q (nI l) v5 (nI (spl Pl p A l i).1) (nI (lgn (spl Pl p A l i) i)) (nI i) (c w 7) y0 (wI h m3)) (lq (fun s' => ∃ c' : Mem × Int32, s' = (nI (spl Pl p A l (i + 1)).1, c'.2, nI (lgn (spl Pl p A l (i + 1)) (i + 1)), (spl Pl p A l (i + 1)).2.2.2, nI (i + 1), wI h c'.1) ∧ ((∀ a, a ≠ w → a ≠ w + 4 → a ≠ w + 5 → c'.1 a = m a) ∧ c'.1 w 3 = nI p ∧ c'.1 w 5 = nI (cx (pS Pl p) (fun j => aS A (12 * p + j)) (i + 1)) ∧ WKc c'.1 w (stepsA Pl p A (i + 1)).2) ∧ ∀ f, (spl Pl p A l (i + 1)).2.1 = some f → c'.2 = nI f) (fun r => ∃ m', r = (nI (spl Pl p A l (pN Pl p)).1, nI (lgn (spl Pl p A l (pN Pl p)) (pN Pl p)), (spl Pl p A l (pN Pl p)).2.2.2, wI h m') ∧ ∀ a, a ≠ w → a ≠ w + 4 → a ≠ w + 5 → m' a = m a)) := by
          intro y0 hy
          have e1 : nI (spl Pl p A l i).1 + 1 = nI ((spl Pl p A l i).1 + 1) := i_add _ 1
          simp only [jX9_spellOf_94]
          rw [wp_bind, wp_some, e1, lgn_n z1, w_103b s9 (by omega) (Or.inr (b2.mpr h2)) (Nat.le_refl i) (by omega) (by omega), lq_l]
          refine ⟨(m3, nI i), ?_, fin, ?_⟩
          · rw [spl_a h1 h2, lgn_s rfl, hy]
            show _ = (nI ((spl Pl p A l i).1 + 1), nI i, nI (max (spl Pl p A l i).2.2.1 (i + 1 - i)), _, nI (i + 1), wI h m3)
            rw [show i - i + 1 = i + 1 - i by omega]
          · rw [spl_a h1 h2]; intro f' z; cases z; rfl
        by_cases h3 : (spl Pl p A l i).1 = 0
        · rw [wp_t ((nI_z (by omega)).mpr h3)]
          exact key _ (by rw [if_pos h3, e7])
        · rw [wp_f (fun z => h3 ((nI_z (by omega)).mp z))]
          exact key _ (by rw [if_neg h3])
      · rw [b01_n (fun z => h2 (b2.mp z)), wp_t rfl, w_103a s9 (by omega) (fun z => h1 (b1.mp z)) (fun z => h2 (b2.mp z)), lq_l]
        have ec := spl_c (Pl := Pl) (p := p) (A := A) (l := l) (i := i) ⟨fun z => absurd z h1, fun z => absurd z h2⟩
        refine ⟨(m3, si), ?_, fin, ?_⟩
        · rw [ec, lgn_n z1, lgn_n z1]
        · rw [ec]; exact hsi
  · rw [wp_t (nI_le (Nat.le_refl _) (by omega)), wp_some, lq_r]
    exact ⟨c, rfl, f2⟩
theorem w_188 {l i : Nat} {v3 v4 v5 v6 v8 : Int32} {Q : (Int32 × Int32 × Int32 × Int32 × Int32 × Int32) ⊕ (Int32 × Int32 × Int32 × Int32) → Prop} {d lk : Nat} (hp : p < 6) (hi : i < 12) (e : m 1 (1541 + (12 * p + i)) = nI d) (hd : d ≤ 4) (hlk : lk < 32) {H' : HD} (hH : ∀ x, isH H' x ↔ if d < 4 then isH H x ∨ x = lk else if d = 4 then isH H x ∧ x ≠ lk else isH H x) : wp (gjX12_spell_188 (nI p) (nI l) v3 v4 v5 v6 (bsI H 32) v8 (nI i) (nI lk) m) Q = Q (.inl (v4, v5, v6, bsI H' 32, v8, nI (i + 1))) := by
  have e1 : nI i + 1 = nI (i + 1) := i_add _ 1
  unfold gjX12_spell_188 gjX12_spell_218 gjX12_spell_220
  rw [wp_bind, w_opOf hp hi e, L_4]
  by_cases c : d = 4
  · rw [wp_t (by rw [c]), wp_bind, wp_some, wp_some, e1, bsI_eq (H := H') (x := bsI H 32 &&& (((1 : Int32) <<< (nI lk &&& 31)) ^^^ (-1))) (fun x hx => ?_)]
    rw [b_andn _ _ hx, Bool.and_eq_true, b_shl1 hlk hx, bsI_t hx, hH, if_neg (by omega), if_pos c]
    simp
  · rw [wp_f (by rw [i_eq (by omega) (by decide)]; exact c), wp_bind, wp_some, wp_some, e1, bsI_eq (H := H') (x := bsI H 32 ||| ((1 : Int32) <<< (nI lk &&& 31))) (fun x hx => ?_)]
    rw [b_or, Bool.or_eq_true, b_shl1 hlk hx, bsI_t hx, hH, if_pos (by omega), decide_eq_true_iff]
theorem r_splL {l : Nat} {v3 : Int32} (L : LF (pV Pl) (m 1) A) (f : PF m Pl) (pw : PW Pl) (hp : p < pP Pl) (sw : SW Pl (aS A)) (lw : LW A) (hA : aK A + 12 ≤ 4000) (hl : l < 10) : wp (lp (gbX12_spell_56 (nI p) (nI l) v3 m) FU (0, 0, (-1 : Int32), 0, 0, 0)) (fun r => r = (nI (spl Pl p A l (pN Pl p)).1, nI (spl Pl p A l (pN Pl p)).2.2.1, bI (spl Pl p A l (pN Pl p)).2.1, (spl Pl p A l (pN Pl p)).2.2.2)) := by
  have h12 := (pw.2.2.2.2 p hp).2.2
  have h6 := pw.2.2.1
  have h10 := pw.2.1
  have b0 : bsI (stepsA Pl p A 0).2 32 = 0 := (bsI_eq (fun l _ => by rw [b_0]; exact ⟨fun z => (by cases z), fun ⟨i, hi, _⟩ => absurd hi (Nat.not_lt_zero _)⟩)).symm
  rw [show ((0, 0, (-1 : Int32), 0, 0, 0) : Int32 × Int32 × Int32 × Int32 × Int32 × Int32) = (nI (spl Pl p A l 0).1, nI (spl Pl p A l 0).2.2.1, bI (spl Pl p A l 0).2.1, bsI (stepsA Pl p A 0).2 32, (spl Pl p A l 0).2.2.2, nI 0) from by rw [b0]; rfl]
  refine wp_for (κ := Unit) (fun i _ => (nI (spl Pl p A l i).1, nI (spl Pl p A l i).2.2.1, bI (spl Pl p A l i).2.1, bsI (stepsA Pl p A i).2 32, (spl Pl p A l i).2.2.2, nI i)) (pN Pl p) (fun _ _ => True) (fun i _ hi _ => ?_) (fun _ _ => ?_) 0 () (Nat.zero_le _) trivial (by omega)
  · obtain ⟨a1, a2, a3, a4, a5, a6⟩ := stepsA_W pw hp sw lw hA i (by omega)
    obtain ⟨ok1, ok2, ok3⟩ := spl_ok (Pl := Pl) (p := p) (A := A) (l := l) i
    have vv := pV_of pw hp hi
    obtain ⟨x1, x2⟩ := L.2.2.2.2.2 _ vv
    obtain ⟨v1, v2, v3'⟩ := sw _ vv
    have e1 : nI i + 1 = nI (i + 1) := i_add _ 1
    have hH : ∀ x, isH (stepsA Pl p A (i + 1)).2 x ↔ if aS A (12 * p + i) / 16 < 4 then isH (stepsA Pl p A i).2 x ∨ x = aS A (12 * p + i) % 16 else if aS A (12 * p + i) / 16 = 4 then isH (stepsA Pl p A i).2 x ∧ x ≠ aS A (12 * p + i) % 16 else isH (stepsA Pl p A i).2 x := fun x => by
      have := isH_step (Pl := Pl) (p := p) (s := i) (A := (stepsA Pl p A i).1) (H := (stepsA Pl p A i).2) a2 (x := x)
      rw [a3] at this
      exact this
    have eo : ∀ {Q : Int32 → Prop}, wp (gX12_opOf m (nI p) (nI i)) Q = Q (nI (aS A (12 * p + i) / 16)) := fun {Q} => w_opOf (by omega) (by omega) x1
    simp only [gbX12_spell_56]
    rw [wp_bind, w_stepsOf f pw hp, wp_f (fun z => by have := (nI_leI (by omega) (by omega)).mp z; omega), wp_bind, w_lockOf (by omega) (by omega) x2, wp_bind, eo, L_4]
    by_cases c4 : aS A (12 * p + i) / 16 ≤ 4
    · have hlk := v2 c4
      have w188 : ∀ {v4 v5 v6 v8 : Int32} {Q : (Int32 × Int32 × Int32 × Int32 × Int32 × Int32) ⊕ (Int32 × Int32 × Int32 × Int32) → Prop}, wp (gjX12_spell_188 (nI p) (nI l) v3 v4 v5 v6 (bsI (stepsA Pl p A i).2 32) v8 (nI i) (nI (aS A (12 * p + i) % 16)) m) Q = Q (.inl (v4, v5, v6, bsI (stepsA Pl p A (i + 1)).2 32, v8, nI (i + 1))) := fun {v4 v5 v6 v8 Q} => w_188 (by omega) (by omega) x1 c4 (by omega) hH
      rw [if_pos c4, wp_t (nI_le c4 (by omega)), wp_bind, eo]
      by_cases d4 : 4 ≤ aS A (12 * p + i) / 16
      · have e4 : aS A (12 * p + i) / 16 = 4 := by omega
        rw [wp_t (nI_le d4 (by omega))]
        simp only [gjX12_spell_114, gjX12_spell_115]
        rw [wp_t trivial]
        simp only [gjX12_spell_149]
        rw [wp_bind, eo, L_4, wp_t (by rw [e4])]
        by_cases el : aS A (12 * p + i) % 16 = l
        · rw [wp_t (by rw [el])]
          by_cases h1 : isH (stepsA Pl p A i).2 l
          · have h2 : ¬ isH (stepsA Pl p A (i + 1)).2 l := by rw [hH, if_neg (by omega), if_pos e4]; exact fun z => z.2 el.symm
            obtain ⟨f0, z1, z2, _⟩ : ∃ f, (spl Pl p A l i).2.1 = some f ∧ f < i ∧ isH (stepsA Pl p A i).2 l := ok1.resolve_left (fun z => z.2 h1)
            have eM : nI i - bI (spl Pl p A l i).2.1 + 1 = nI (i - f0 + 1) := by
              rw [z1]
              show nI i - nI f0 + 1 = _
              rw [i_sub (by omega)]; exact i_add _ 1
            rw [wp_f (by rw [z1]; exact nI_pos (by omega)), wp_bind, eM, w_more (by omega) (by omega), w188, lq_l]
            refine ⟨(), ?_, trivial⟩
            rw [spl_b h1 h2, z1]
            rfl
          · have h2 : ¬ isH (stepsA Pl p A (i + 1)).2 l := by rw [hH, if_neg (by omega), if_pos e4]; exact fun z => z.2 el.symm
            have z1 : (spl Pl p A l i).2.1 = none := by
              rcases ok1 with z | ⟨f, _, _, z⟩
              · exact z.1
              · exact absurd z h1
            rw [wp_t (by rw [z1]; decide), w188, lq_l]
            exact ⟨(), by rw [spl_c ⟨fun z => absurd z h1, fun z => absurd z h2⟩], trivial⟩
        · rw [wp_f (by rw [i_eq (by omega) (by omega)]; exact el), w188, lq_l]
          refine ⟨(), ?_, trivial⟩
          rw [spl_c (by rw [hH, if_neg (by omega), if_pos e4]; exact ⟨fun z => ⟨z, fun e => el e.symm⟩, fun z => z.1⟩)]
      · rw [wp_f (fun z => d4 ((nI_leI (by omega) (by omega)).mp z)), wp_bind, w_hasR (by omega)]
        have d3 : aS A (12 * p + i) / 16 < 4 := by omega
        have n149 : ∀ {v4 v5 v6 v8 : Int32} {Q : (Int32 × Int32 × Int32 × Int32 × Int32 × Int32) ⊕ (Int32 × Int32 × Int32 × Int32) → Prop}, wp (gjX12_spell_149 (nI p) (nI l) v3 v4 v5 v6 (bsI (stepsA Pl p A i).2 32) v8 (nI i) (nI (aS A (12 * p + i) % 16)) m) Q = Q (.inl (v4, v5, v6, bsI (stepsA Pl p A (i + 1)).2 32, v8, nI (i + 1))) := fun {v4 v5 v6 v8 Q} => by
          unfold gjX12_spell_149
          rw [wp_bind, eo, L_4, wp_f (by rw [i_eq (by omega) (by decide)]; omega), w188]
        have same : isH (stepsA Pl p A i).2 (aS A (12 * p + i) % 16) ∨ ¬ aS A (12 * p + i) % 16 = l → spl Pl p A l (i + 1) = spl Pl p A l i := fun z => spl_c (by
          rw [hH, if_pos d3]
          refine ⟨Or.inl, fun y => y.elim id (fun e => ?_)⟩
          rcases z with z | z
          · rw [e]; exact z
          · exact absurd e.symm z)
        by_cases hk : isH (stepsA Pl p A i).2 (aS A (12 * p + i) % 16)
        · rw [b01_t ((bsI_t (by omega)).mpr hk), wp_f (by decide)]
          simp only [gjX12_spell_114, gjX12_spell_115]
          rw [wp_t trivial, n149, lq_l]
          exact ⟨(), by rw [same (Or.inl hk)], trivial⟩
        · rw [b01_n (fun z => hk ((bsI_t (by omega)).mp z)), wp_t rfl]
          simp only [gjX12_spell_115]
          rw [wp_f (by decide)]
          by_cases el : aS A (12 * p + i) % 16 = l
          · rw [wp_t (by rw [el])]
            have h1 : ¬ isH (stepsA Pl p A i).2 l := fun z => hk (by rw [el]; exact z)
            have h2 : isH (stepsA Pl p A (i + 1)).2 l := by rw [hH, if_pos d3]; exact Or.inr el.symm
            have e2 : nI (spl Pl p A l i).1 + 1 = nI ((spl Pl p A l i).1 + 1) := i_add _ 1
            simp only [gjX12_spell_140]
            by_cases h3 : (spl Pl p A l i).1 = 0
            · rw [wp_t ((nI_z (by omega)).mpr h3), wp_bind, wp_some, n149, lq_l, e2]
              refine ⟨(), ?_, trivial⟩
              rw [spl_a h1 h2, if_pos h3]; rfl
            · rw [wp_f (fun z => h3 ((nI_z (by omega)).mp z)), wp_bind, wp_some, n149, lq_l, e2]
              refine ⟨(), ?_, trivial⟩
              rw [spl_a h1 h2, if_neg h3]; rfl
          · rw [wp_f (by rw [i_eq (by omega) (by omega)]; exact el), n149, lq_l]
            exact ⟨(), by rw [same (Or.inr el)], trivial⟩
    · have eH : ∀ x, isH (stepsA Pl p A (i + 1)).2 x ↔ isH (stepsA Pl p A i).2 x := fun x => by rw [hH, if_neg (by omega), if_neg (by omega)]
      rw [wp_f (fun z => c4 ((nI_leI (by omega) (by omega)).mp z))]
      simp only [gjX12_spell_220]
      rw [wp_bind, wp_some, wp_some, lq_l, e1]
      refine ⟨(), ?_, trivial⟩
      rw [spl_c (eH l).symm, bsI_eq (H := (stepsA Pl p A (i + 1)).2) (x := bsI (stepsA Pl p A i).2 32) (fun x hx => by rw [bsI_t hx, eH])]
  · simp only [gbX12_spell_56]
    rw [wp_bind, w_stepsOf f pw hp, wp_t (nI_le (Nat.le_refl _) (by omega)), wp_some, lq_r]
noncomputable def sV (v : Int32) (x : Nat × Option Nat × Nat × Int32) (n : Nat) : Int32 := if v = 0 then nI x.1 else if v = 1 then nI (lgn x n) else if v = 2 then x.2.2.2 else mI
theorem r_spl {l : Nat} {v3 : Int32} (L : LF (pV Pl) (m 1) A) (f : PF m Pl) (pw : PW Pl) (hp : p < pP Pl) (sw : SW Pl (aS A)) (lw : LW A) (hA : aK A + 12 ≤ 4000) (hl : l < pL Pl) : wp (gX12_spell m (nI p) (nI l) v3) (fun r => r = sV v3 (spl Pl p A l (pN Pl p)) (pN Pl p)) := by
  have h12 := (pw.2.2.2.2 p hp).2.2
  have h6 := pw.2.2.1
  have h10 := pw.2.1
  obtain ⟨ok1, ok2, ok3⟩ := spl_ok (Pl := Pl) (p := p) (A := A) (l := l) (pN Pl p)
  have isin : ∀ {Q : Int32 → Prop}, wp (gX12_isIn v3 0 2) Q = Q (b01 (inN v3 3)) := fun {Q} => w_isInK (K := 2) (by decide)
  have f' := f
  obtain ⟨k, hk, e9, e2, e3, e4, e5, e6⟩ := f
  unfold gX12_spell gjX12_spell_36
  rw [wp_bind, w_isProgram f' pw, b01_t ((inN_nI (by omega)).mpr hp), wp_f (by decide), wp_bind, e9, w_rd (by omega) (by decide), e3, wp_bind, w_isIn (by omega), b01_t ((inN_nI (by omega)).mpr hl), wp_f (by decide), wp_bind, isin]
  by_cases hu : inN v3 3
  · rw [b01_t hu, wp_f (by decide), wp_bind]
    refine wp_mono (r_splL L f' pw hp sw lw hA (by omega)) ?_
    rintro r rfl
    have fin : ∀ {Q : Int32 → Prop}, Q (sV v3 (spl Pl p A l (pN Pl p)) (pN Pl p)) → wp (gjX12_spell_246 v3 (nI (spl Pl p A l (pN Pl p)).1) (nI (lgn (spl Pl p A l (pN Pl p)) (pN Pl p))) (spl Pl p A l (pN Pl p)).2.2.2 m) Q := by
      intro Q hQ
      unfold sV at hQ
      unfold gjX12_spell_246 gjX12_spell_267
      obtain ⟨t, ht, e⟩ := inN_ex hu
      subst e
      rcases (by omega : t = 0 ∨ t = 1 ∨ t = 2) with rfl | rfl | rfl
      · rw [if_pos (show nI 0 = 0 from rfl)] at hQ; rw [wp_t (show nI 0 = 0 from rfl), wp_some]; exact hQ
      · rw [if_neg (show ¬ nI 1 = 0 by decide), if_pos (show nI 1 = 1 from rfl)] at hQ; rw [wp_f (show ¬ nI 1 = 0 by decide), wp_t (show nI 1 = 1 from rfl), wp_some]; exact hQ
      · rw [if_neg (show ¬ nI 2 = 0 by decide), if_neg (show ¬ nI 2 = 1 by decide), if_pos (show nI 2 = 2 from rfl)] at hQ; rw [wp_f (show ¬ nI 2 = 0 by decide), wp_f (show ¬ nI 2 = 1 by decide), wp_some]; exact hQ
    rcases ok1 with ⟨z, _⟩ | ⟨f0, z1, z2, _⟩
    · have fin' := @fin
      rw [lgn_n z] at fin'
      rw [wp_t (by rw [z]; exact (show mI < 0 by decide))]
      exact fin' (by unfold sV; rw [lgn_n z])
    · have fin' := @fin
      rw [lgn_s z1] at fin'
      rw [wp_f (by rw [z1]; exact nI_pos (by omega)), wp_bind, w_stepsOf f' pw hp, wp_bind, z1]
      show wp (gX12_more (nI (spl Pl p A l (pN Pl p)).2.2.1) (nI (pN Pl p) - nI f0)) _
      rw [i_sub (by omega), w_more (by omega) (by omega)]
      exact fin' (by unfold sV; rw [lgn_s z1])
  · rw [b01_n hu, wp_t rfl, wp_some]
    have n0 : ¬ v3 = 0 := fun e => hu (by rw [e]; decide)
    have n1 : ¬ v3 = 1 := fun e => hu (by rw [e]; decide)
    have n2 : ¬ v3 = 2 := fun e => hu (by rw [e]; decide)
    unfold sV
    rw [if_neg n0, if_neg n1, if_neg n2]; rfl
theorem o_spell (I : IC h g own ad) (J : IR m g) (ok : okG g) (hA : aK (sH g (sA g)) + 12 ≤ 4000) (v u q : Int32) : ∃ r h1, fX11_spell h 0 v u q = some (r, h1) ∧ gX12_spell m v u q = some r ∧ AFT h h1 m own g := by
  have I' := I
  have J' := J
  have ok' := ok
  obtain ⟨cs, ow, ⟨t1, t2⟩, ⟨f1, f2⟩, ⟨P, hP, p1, p2, pc⟩, ⟨a1, a2⟩, r52, r19, r36, r15, sl, li, bx⟩ := I
  obtain ⟨⟨j1, j2⟩, ⟨j3, j4⟩, jp, ⟨j5, j6⟩, jl, jw, ju, jb, jx⟩ := J
  obtain ⟨o1, pw, o2, o3, o4, o5⟩ := ok
  have pc' : PC (wI h (hI h)) P (sP g) := pc
  have s5 : Sh5 h P := pc.1
  obtain ⟨b, n, hb, L⟩ := li (sA g) o2
  have rb : hR h 19 (sA g) = some b := by rw [r19 _ (by omega)]; exact hb
  have pr : ∀ {Q : Nat → Prop}, wp (fX2_present (wI h (hI h)) 18) Q = Q b := fun {Q} => cs.present a1 (by omega) rb
  have s2 := cs.s2
  have okA0 := o4 (sA g) o2
  suffices hh : wp (fX11_spell (wI h (hI h)) 0 v u q) (fun r => wp (gX12_spell m v u q) (fun r' => r' = r.1 ∧ AFT h r.2 m own g)) by
    obtain ⟨⟨r, h1⟩, e1, r', e2, e3, e4⟩ := hh
    exact ⟨r, h1, e1, by rw [e2, e3], e4⟩
  unfold fX11_spell jX11_spell_22
  rw [wp_bind, cs.gr p1, wp_bind, s5.o, wp_bind, w_hasProgram pc' pw]
  have h6 := pw.2.2.1
  have h10 := pw.2.1
  by_cases hv : inN v (pP (sP g))
  · obtain ⟨p, hp, e⟩ := inN_ex hv
    subst e
    rw [b01_t hv, wp_f (by decide), wp_bind, cs.gr p1, wp_bind, s5.o, wp_bind, w_hasLock pc' pw]
    by_cases hu : inN u (pL (sP g))
    · obtain ⟨l, hl, e⟩ := inN_ex hu
      subst e
      have Sb := sl (sA g) b (by omega) hb
      have b14 := L.1.1
      have n41 := Sb.ne ow (a := 41) (by decide) (by decide) (by decide)
      have n45 := Sb.ne ow (a := 45) (by decide) (by decide) (by decide)
      have n46 := Sb.ne ow (a := 46) (by decide) (by decide) (by decide)
      rw [b01_t hu, wp_f (by decide), wp_bind, cs.gr cs.r9, wp_bind, cs.gr p1, wp_bind, cs.gr cs.r5, wp_bind, s2.o, wp_bind, pr, wp_bind, L.1.r0, wp_bind, cs.s9.o]
      unfold fX9_spellOf
      rw [wp_bind, wp_bind, cs.s9.o, wp_bind]
      refine wp_mono (c_wbegin cs.s9 pc' (by omega) pw hp) ?_
      rintro r ⟨m2, rfl, f2, e3, e5, k2⟩
      have x1 : XX h (sR h 41 1 (some P)) := XX.sR (by intro c hc; rw [cs.s9.2.1] at hc; cases hc; rfl)
      rw [wp_bind]
      refine wp_mono (c_splL (A := sH g (sA g)) (q := b + 1) (l := l) (v5 := q) (cs.s9.x x1) (by rw [hR_s, if_pos ⟨rfl, rfl⟩]) (PC.congr (h := h) (m := hI h) pc x1 (fun a z1 z2 => f2 a (by omega))) (by omega) pw hp okA0.2 okA0.1 hA e3 e5 k2 (by show b + 1 < hN h; omega) (by show hS h (b + 1) = _; exact L.1.2.2.1.2) (by omega) (fun j hj => by rw [f2 _ (by omega)]; exact L.2.2.2.2.2.1 j hj) (by omega)) ?_
      rintro r ⟨m3, rfl, f3⟩
      obtain ⟨IC2, NF2⟩ := ic_w (P := P) (m' := m3) I' o3 (fun a z1 z2 => by rw [f3 a (by omega) (by omega) (by omega), f2 a (by omega)])
      have key : AFT h (wI (sR h 41 1 (some P)) m3) m own g := ⟨J', ok', own, ad, IC2, NF2, fun _ _ z => z, fun _ z => z, by show hN h ≤ hN h + 20; omega, by show hZ h ≤ hZ h + 10200; omega⟩
      have rs := r_spl (v3 := q) jl jp pw hp okA0.2 okA0.1 hA hl
      have cl : wp (if q = 0 then some (nI (spl (sP g) p (sH g (sA g)) l (pN (sP g) p)).1, wI (sR h 41 1 (some P)) m3) else if q = 1 then some (nI (lgn (spl (sP g) p (sH g (sA g)) l (pN (sP g) p)) (pN (sP g) p)), wI (sR h 41 1 (some P)) m3) else if q = 2 then some ((spl (sP g) p (sH g (sA g)) l (pN (sP g) p)).2.2.2, wI (sR h 41 1 (some P)) m3) else some ((-1 : Int32), wI (sR h 41 1 (some P)) m3)) (fun r => r.1 = sV q (spl (sP g) p (sH g (sA g)) l (pN (sP g) p)) (pN (sP g) p) ∧ r.2 = wI (sR h 41 1 (some P)) m3) := by
        unfold sV
        by_cases z0 : q = 0
        · rw [wp_t z0, wp_some, if_pos z0]; exact ⟨rfl, rfl⟩
        · rw [wp_f z0, if_neg z0]
          by_cases z1 : q = 1
          · rw [wp_t z1, wp_some, if_pos z1]; exact ⟨rfl, rfl⟩
          · rw [wp_f z1, if_neg z1]
            by_cases z2 : q = 2
            · rw [wp_t z2, wp_some, if_pos z2]; exact ⟨rfl, rfl⟩
            · rw [wp_f z2, wp_some, if_neg z2]; exact ⟨rfl, rfl⟩
      refine wp_mono cl ?_
      rintro ⟨r1, r2⟩ ⟨er1, er2⟩
      rw [wp_some]
      refine wp_mono rs ?_
      rintro r' er'
      exact ⟨by rw [er']; exact er1.symm, by show AFT h r2 m own g; rw [show r2 = wI (sR h 41 1 (some P)) m3 from er2]; exact key⟩
    · have f' := jp
      obtain ⟨k, hk, e9, e2, e3, e4, e5, e6⟩ := jp
      unfold gX12_spell gjX12_spell_36
      rw [b01_n hu, wp_t rfl, wp_some, wp_bind, w_isProgram f' pw, b01_t hv, wp_f (by decide), wp_bind, e9, w_rd (by omega) (by decide), e3, wp_bind, w_isIn (by omega), b01_n hu, wp_t rfl, wp_some]
      exact ⟨rfl, AFT.same I' J' ok'⟩
  · unfold gX12_spell gjX12_spell_36
    rw [b01_n hv, wp_t rfl, wp_some, wp_bind, w_isProgram jp pw, b01_n hv, wp_t rfl, wp_some]
    exact ⟨rfl, AFT.same I' J' ok'⟩
end SPL

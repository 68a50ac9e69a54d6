/-! what is kept by the spec's steps; the class learns an order -/
section SPW
variable {D : RD} {G : GD}
theorem once_W (w : RW D) {st p s x : Nat} (h1 : 1 ≤ st) (h2 : st ≤ 9) (h5 : p < 6) (h6 : s ≤ 12) (hx : x < 16) : RW (once D st p s x) := by
  unfold once
  by_cases ht : tD D st x x
  · rw [ci_t ht]; exact w
  · rw [ci_f ht]; exact w.add h1 h2 (by decide) (by decide) h5 h6 (fun _ _ => hx)
theorem cons_lt {h n : Nat} {x : Nat → Nat} (hh : h < 16) (hx : ∀ i, i ≤ n → x i < 16) : ∀ i, i < n + 2 → cons h x i < 16 := by
  intro i hi
  cases i with
  | zero => exact hh
  | succ i => exact hx i (by omega)
theorem learn1_W (w : RW D) (g : GW G) {p s f x : Nat} (h5 : p < 6) (h6 : s < 12) (hf : f < 16) (hx : x < 16) : RW (learn1 (D, G) p s f x).1 ∧ GW (learn1 (D, G) p s f x).2 := by
  unfold learn1
  by_cases h : f = x
  · rw [if_pos h]; exact ⟨once_W w (by decide) (by decide) h5 (by omega) hx, g⟩
  · rw [if_neg h]
    by_cases hE : gE G f x
    · rw [ci_t hE]; exact ⟨w, g⟩
    · rw [ci_f hE]
      refine ⟨?_, upG_W g (by show 12 * p + s < 72; omega)⟩
      by_cases hr : Rc 16 (gE (upG G f x (12 * p + s))) x f
      · show RW (ci _ _ _)
        rw [ci_t hr]
        have way := w_ok hf hr
        have := way.ltN hx hf (Ne.symm h)
        show RW (addR D 3 p s (wK (upG G f x (12 * p + s)) x f + 2) (cons f (wX (upG G f x (12 * p + s)) x f)))
        exact w.add (by decide) (by decide) (by omega) (by omega) h5 (by omega) (cons_lt hf (way.lt hx))
      · show RW (ci _ _ _)
        rw [ci_f hr]; exact w
theorem learnN_W (w : RW D) (g : GW G) {p s x : Nat} {nd : Nat → Nat} (h5 : p < 6) (h6 : s < 12) (hx : x < 16) : ∀ k, (∀ i, i < k → nd i < 16) → RW (learnN (D, G) p s nd x k).1 ∧ GW (learnN (D, G) p s nd x k).2 := by
  intro k
  induction k with
  | zero => intro _; exact ⟨w, g⟩
  | succ k ih =>
    intro hn
    have h1 := ih (fun i hi => hn i (by omega))
    exact learn1_W h1.1 h1.2 h5 h6 (hn k (by omega)) hx
theorem useD_W (w : RW D) {u p s x : Nat} (h5 : p < 6) (h6 : s ≤ 12) (hx : x < 16) : RW (useD D u p s x) := by
  unfold useD
  have h1 : RW (if u &&& 1 = 0 ∨ u &&& 4 = 0 then D else once D 4 p s x) := by
    split
    · exact w
    · exact once_W w (by decide) (by decide) h5 h6 hx
  generalize (if u &&& 1 = 0 ∨ u &&& 4 = 0 then D else once D 4 p s x) = D1 at h1
  show RW (if _ then _ else _)
  split
  · exact h1
  · exact once_W h1 (by decide) (by decide) h5 h6 hx
theorem uns1_W (w : RW D) {U : Nat → Nat} {its bi bo p s a c : Nat} (h1 : 1 ≤ its) (h2 : its ≤ 9) (h5 : p < 6) (h6 : s ≤ 12) (ha : a < 16) (hc : c < 16) : RW (uns1 D G U its bi bo p s a c) := by
  unfold uns1
  by_cases h : a = c ∨ U a &&& bi = 0 ∨ U c &&& bo = 0 ∨ tD D its a c ∨ ¬ Rc 16 (gE G) a c
  · rw [ci_t h]; exact w
  · rw [ci_f h]
    have hr : Rc 16 (gE G) a c := Classical.byContradiction fun z => h (Or.inr (Or.inr (Or.inr (Or.inr z))))
    have hne : a ≠ c := fun z => h (Or.inl z)
    have way := w_ok hc hr
    have := way.ltN ha hc hne
    exact w.add h1 h2 (by omega) (by omega) h5 h6 (fun i hi => way.lt ha i (by omega))
theorem unsN_W (w : RW D) {U : Nat → Nat} {its bi bo p s a : Nat} (h1 : 1 ≤ its) (h2 : its ≤ 9) (h5 : p < 6) (h6 : s ≤ 12) (ha : a < 16) : ∀ c, c ≤ 16 → RW (unsN D G U its bi bo p s a c) := by
  intro c
  induction c with
  | zero => intro _; exact w
  | succ c ih => intro hc; exact uns1_W (ih (by omega)) h1 h2 h5 h6 ha (by omega)
theorem unsA_W (w : RW D) {U : Nat → Nat} {its bi bo p s : Nat} (h1 : 1 ≤ its) (h2 : its ≤ 9) (h5 : p < 6) (h6 : s ≤ 12) : ∀ a, a ≤ 16 → RW (unsA D G U its bi bo p s a) := by
  intro a
  induction a with
  | zero => intro _; exact w
  | succ a ih => intro ha; exact unsN_W (ih (by omega)) h1 h2 h5 h6 (by omega) 16 (Nat.le_refl _)
end SPW
section LO
variable {h : Hp} {m : Mem} {w P b : Nat} {D : RD} {G : GD}
theorem c_learnOrder (W : WH h w P b) (R : RRc m (b + 8) D) (wD : RW D) (Rg : GRc m (b + 4) G) (wG : GW G) {p s f x : Nat} (e3 : m w 3 = nI p) (e4 : m w 4 = nI s) (h5 : p < 6) (h6 : s < 12) (hf : f < 16) (hx : x < 16) : wp (fX9_learnOrder (wI h m) w (nI f) (nI x)) (fun r => ∃ m', r = wI h m' ∧ (∀ a, ¬ (b + 4 ≤ a ∧ a ≤ b + 14) → ¬ (w + 1 ≤ a ∧ a ≤ w + 3) → m' a = m a) ∧ RRc m' (b + 8) (learn1 (D, G) p s f x).1 ∧ GRc m' (b + 4) (learn1 (D, G) p s f x).2) := by
  have s9 := W.1
  have s3 := W.2.2.2.2.1
  have s7 := s3.s4
  have s1 := s3.s3
  have W' := W
  obtain ⟨_, _, _, _, _, d1, d2, d3⟩ := W
  unfold learn1
  by_cases hfx : f = x
  · simp (disch := omega) only [fX9_learnOrder, wp_bind, W'.le, s3.r3, i_eq, wp_t, s9.o, L_2]
    refine wp_mono (c_tellOnce W' R wD e3 e4 (by decide) (by decide) hx) ?_
    rintro r ⟨m', rfl, f', R'⟩
    simp only [jX9_learnOrder_98, wp_some]
    rw [if_pos hfx]
    exact ⟨m', rfl, fun a ha hb => f' a (by omega), R', Rg.congr (fun a h1 h2 => f' a (by omega))⟩
  · rw [if_neg hfx]
    simp (disch := omega) only [fX9_learnOrder, wp_bind, W'.le, s3.r3, i_eq, wp_f, s1.o]
    refine wp_mono (c_leads s1 Rg hf hx) ?_
    rintro r (⟨rfl, hE⟩ | ⟨rfl, hE⟩)
    · rw [wp_f (by decide), ci_t hE]
      simp only [jX9_learnOrder_98, wp_some]
      exact ⟨m, rfl, fun _ _ _ => rfl, R, Rg⟩
    · rw [wp_t rfl, ci_f hE]
      simp (disch := omega) only [wp_bind, s9.g3, s9.g4, e3, e4, s1.o, L_12, i_mul, i_add]
      rw [show p * 12 + s = 12 * p + s by omega]
      refine wp_mono (c_learn s1 Rg wG hf hx (show 12 * p + s < 72 by omega) hE) ?_
      rintro r ⟨m1, rfl, f1, Rg1⟩
      have R1 : RRc m1 (b + 8) D := R.congr (fun a h1 h2 => f1 a (by omega))
      have e31 : m1 w 3 = nI p := by rw [f1 w (by omega)]; exact e3
      have e41 : m1 w 4 = nI s := by rw [f1 w (by omega)]; exact e4
      have hb := (Rg1.2 x hx).2.1 f (by omega)
      simp (disch := omega) only [wp_bind, s1.r2, s1.l2, w_has, b01_z]
      by_cases hr : Rc 16 (gE (upG G f x (12 * p + s))) x f
      · rw [wp_f (fun z => z (hb.mpr ⟨hf, hr⟩)), ci_t hr]
        have way := w_ok hf hr
        have hl := way.ltN hx hf (Ne.symm hfx)
        simp (disch := omega) only [wp_bind, W'.le, s3.r4, s9.g3, s9.g4, e31, e41, s7.o, L_3]
        refine wp_mono (q_open s7 R1 wD 3 p s (cons f (wX (upG G f x (12 * p + s)) x f))) ?_
        rintro r ⟨m2, rfl, f2, O2⟩
        simp (disch := omega) only [wp_bind, W'.le, s3.r4, s7.o]
        have QA := q_add (x := cons f (wX (upG G f x (12 * p + s)) x f)) (n := 0) s7 O2 wD (by decide) hf
        refine wp_mono QA ?_
        rintro r ⟨m3, rfl, f3, O3⟩
        simp (disch := omega) only [wp_bind, s9.o]
        have Rg3 : GRc m3 (b + 4) (upG G f x (12 * p + s)) := Rg1.congr (fun a h1 h2 => by rw [f3 a (by omega), f2 a (by omega)])
        refine wp_mono (c_tellWay W' Rg3 wD hx hf (Ne.symm hfx) hr (Nat.le_refl _) O3 (by decide) (by decide) (fun i hi => by rw [show 0 + 1 + i = i + 1 by omega]; rfl) (fun i hi => by rw [show i = 0 by omega]; exact hf)) ?_
        rintro r ⟨m4, rfl, f4, R4⟩
        simp only [jX9_learnOrder_98, wp_some]
        refine ⟨m4, rfl, fun a ha hb => ?_, ?_, Rg3.congr (fun a h1 h2 => f4 a (by omega) (by omega))⟩
        · rw [f4 a (by omega) hb, f3 a (by omega), f2 a (by omega), f1 a (by omega)]
        · rw [show wK (upG G f x (12 * p + s)) x f + 2 = 0 + 1 + wK (upG G f x (12 * p + s)) x f + 1 by omega]; exact R4
      · rw [wp_t (show ¬ bt (m1 (b + 4 + 2) x) f = true from fun z => hr (hb.mp z).2), ci_f hr]
        simp only [jX9_learnOrder_98, wp_some]
        exact ⟨m1, rfl, fun a ha hb => f1 a (by omega), R1, Rg1⟩
end LO

/-! the class tells: once, a way -/
def WH (h : Hp) (w P b : Nat) : Prop := Sh9 h w ∧ hR h w 1 = some P ∧ hR h w 2 = some b ∧ Sh5 h P ∧ Sh3 h b ∧ P + 4 < w ∧ (b + 14 < w ∨ w + 5 < b) ∧ P + 4 < b
section TE
variable {h : Hp} {m : Mem} {w P b : Nat} {D : RD} {G : GD}
theorem WH.pl (W : WH h w P b) {Q : Nat → Prop} : wp (gR (wI h m) 9 w 1) Q = Q P := by rw [W.1.q1, W.2.1, wp_some]
theorem WH.le (W : WH h w P b) {Q : Nat → Prop} : wp (gR (wI h m) 9 w 2) Q = Q b := by rw [W.1.q2, W.2.2.1, wp_some]
theorem c_tell (W : WH h w P b) (R : RRc m (b + 8) D) (wD : RW D) {st p s x : Nat} (e3 : m w 3 = nI p) (e4 : m w 4 = nI s) (h1 : 1 ≤ st) (h2 : st ≤ 9) (hx : x < 16) : wp (fX9_tell (wI h m) w (nI st) (nI x)) (fun r => ∃ m', r = wI h m' ∧ (∀ a, ¬ (b + 8 ≤ a ∧ a ≤ b + 14) → m' a = m a) ∧ RRc m' (b + 8) (addR D st p s 1 (fun _ => x))) := by
  have s9 := W.1
  have s3 := W.2.2.2.2.1
  have s7 := s3.s4
  simp (disch := omega) only [fX9_tell, wp_bind, W.le, s3.r4, s9.g3, s9.g4, e3, e4, s7.o]
  refine wp_mono (q_open s7 R wD st p s (fun _ => x)) ?_
  rintro r ⟨m1, rfl, f1, O1⟩
  simp (disch := omega) only [wp_bind, W.le, s3.r4, s7.o]
  have QA := q_add (x := fun _ => x) (n := 0) s7 O1 wD (by decide) hx
  refine wp_mono QA ?_
  rintro r ⟨m2, rfl, f2, O2⟩
  simp (disch := omega) only [wp_bind, W.le, s3.r4, s7.o]
  have QC := q_close (x := fun _ => x) (n := 0 + 1) s7 O2 wD h1 h2 (by decide) (by decide) (fun i hi => hx)
  refine wp_mono QC ?_
  rintro r ⟨m3, rfl, f3, R3⟩
  rw [wp_some]
  refine ⟨m3, rfl, fun a ha => ?_, R3⟩
  rw [f3 a (by omega), f2 a (by omega), f1 a (by omega)]
theorem c_told (s7 : Sh7 h b) (R : RRc m b D) {st x : Nat} (h2 : st < 10) (hx : x < 16) : wp (fX7_toldBehind (wI h m) b (nI st) (nI x)) (fun r => ∀ y, y < 32 → (bt r y = true ↔ tD D st x y)) := by
  simp (disch := omega) only [fX7_toldBehind, wp_bind, s7.r6, L_16, i_mul, i_add, s7.l6, wp_some]
  intro y hy
  rw [show st * 16 + x = 16 * st + x by omega]
  exact R.2.2 st x y h2 hx hy
theorem c_tellOnce (W : WH h w P b) (R : RRc m (b + 8) D) (wD : RW D) {st p s x : Nat} (e3 : m w 3 = nI p) (e4 : m w 4 = nI s) (h1 : 1 ≤ st) (h2 : st ≤ 9) (hx : x < 16) : wp (fX9_tellOnce (wI h m) w (nI st) (nI x)) (fun r => ∃ m', r = wI h m' ∧ (∀ a, ¬ (b + 8 ≤ a ∧ a ≤ b + 14) → m' a = m a) ∧ RRc m' (b + 8) (once D st p s x)) := by
  have s9 := W.1
  have s3 := W.2.2.2.2.1
  have s7 := s3.s4
  simp (disch := omega) only [fX9_tellOnce, wp_bind, W.le, s3.r4, s7.o]
  refine wp_mono (c_told s7 R (by omega) hx) (fun r hr => ?_)
  simp (disch := omega) only [w_has, b01_z]
  by_cases ht : tD D st x x
  · rw [wp_f (fun z => z ((hr x (by omega)).mpr ht))]
    simp only [jX9_tellOnce_25, wp_some]
    exact ⟨m, rfl, fun _ _ => rfl, by unfold once; rw [ci_t ht]; exact R⟩
  · rw [wp_t (show ¬ bt r x = true from fun z => ht ((hr x (by omega)).mp z))]
    simp (disch := omega) only [wp_bind, s9.o]
    refine wp_mono (c_tell W R wD e3 e4 h1 h2 hx) ?_
    rintro r ⟨m', rfl, f, R'⟩
    simp only [jX9_tellOnce_25, wp_some]
    exact ⟨m', rfl, f, by unfold once; rw [ci_f ht]; exact R'⟩
theorem c_tellWay (W : WH h w P b) (R : GRc m (b + 4) G) (wD : RW D) {st p s n f t : Nat} {xs : Nat → Nat} (hf : f < 16) (ht : t < 16) (hne : f ≠ t) (hr : Rc 16 (gE G) f t) (hn : n ≤ 1) (O : OQ m (b + 8) D st p s n xs) (h1 : 1 ≤ st) (h2 : st ≤ 9) (hxs : ∀ i, i ≤ wK G f t → xs (n + i) = wX G f t i) (hx0 : ∀ i, i < n → xs i < 16) : wp (fX9_tellWay (wI h m) w (nI f) (nI t)) (fun r => ∃ m', r = wI h m' ∧ (∀ a, ¬ (b + 8 ≤ a ∧ a ≤ b + 14) → ¬ (w + 1 ≤ a ∧ a ≤ w + 3) → m' a = m a) ∧ RRc m' (b + 8) (addR D st p s (n + wK G f t + 1) xs)) := by
  have s9 := W.1
  have s3 := W.2.2.2.2.1
  have s7 := s3.s4
  have s1 := s3.s3
  have s10 := s9.s0
  have W' := W
  obtain ⟨_, _, _, _, _, d1, d2, d3⟩ := W
  have way0 := w_ok ht hr
  have hE : ∀ a c, a < 16 → c < 16 → (nE (m (b + 4 + 1)) a c ↔ gE G a c) := fun a c ha hc => R.E ha hc
  simp (disch := omega) only [fX9_tellWay, wp_bind, s9.r0, W'.le, s3.r3, s1.r1, s10.o]
  refine wp_mono (c_find s10 (show b + 4 + 1 < hN h by have := s3.1; omega) s1.2.2.1.2 (by decide) (by omega) (by omega) (by omega) hf ht) ?_
  rintro ⟨r1, r2⟩ ⟨m1, e1, f1, H⟩
  simp only at e1 H ⊢
  subst e1
  rcases H with ⟨rfl, K, x, way, eK, ex⟩ | ⟨_, no, _⟩
  · have way1 := Way_congr hE hf way
    have hK : K = wK G f t := way1.K way0
    subst hK
    have hnod := way1.nodes way0
    have hlt := way0.lt hf
    have hK15 := way0.ltN hf ht hne
    have ne1 : ¬ (1 : Int32) = 0 := by decide
    rw [wp_f ne1, wp_bind]
    have O1 : OQ m1 (b + 8) D st p s n xs := O.congr (fun a h1 h2 => f1 a (by omega) (by omega) (by omega))
    refine wp_mono (Q := fun r => ∃ m', r = wI h m' ∧ (∀ a, ¬ (b + 8 ≤ a ∧ a ≤ b + 14) → m' a = m1 a) ∧ OQ m' (b + 8) D st p s (n + wK G f t + 1) xs) ?_ ?_
    · refine wp_for (κ := Mem) (fun i c => (nI i, wI h c)) (wK G f t + 1) (fun i m' => (∀ a, ¬ (b + 8 ≤ a ∧ a ≤ b + 14) → m' a = m1 a) ∧ OQ m' (b + 8) D st p s (n + i) xs) (fun i c hi H => ?_) (fun c H => ?_) 0 m1 (by omega) ⟨fun _ _ => rfl, O1⟩ (by omega)
      · have ew : c (w + 1) 1 = nI (wK G f t) := by rw [H.1 _ (by omega)]; exact eK
        have en : c (w + 1 + 1) i = nI (xs (n + i)) := by rw [H.1 _ (by omega), ex i (by omega), hxs i (by omega), hnod i (by omega)]
        simp (disch := omega) only [bX9_tellWay_24, wp_bind, s9.r0, s10.g1, ew, i_lt, wp_f, W'.le, s3.r4, s10.r0, s10.l0, en, s7.o]
        refine wp_mono (q_add s7 H.2 wD (by omega) (by rw [hxs i (by omega)]; exact hlt i (by omega))) ?_
        rintro r ⟨m', rfl, f', O'⟩
        rw [wp_some, wp_some, lq_l, nI_1]
        exact ⟨m', rfl, fun a ha => by rw [f' a (by omega)]; exact H.1 a ha, O'⟩
      · have ew : c (w + 1) 1 = nI (wK G f t) := by rw [H.1 _ (by omega)]; exact eK
        simp (disch := omega) only [bX9_tellWay_24, wp_bind, s9.r0, s10.g1, ew, i_lt, wp_t, wp_some, lq_r]
        exact ⟨c, rfl, H.1, H.2⟩
    · rintro r ⟨m2, rfl, f2, O2⟩
      simp (disch := omega) only [wp_bind, W'.le, s3.r4, s7.o]
      refine wp_mono (q_close s7 O2 wD h1 h2 (by omega) (by omega) (fun i hi => ?_)) ?_
      · rcases Nat.lt_or_ge i n with z | z
        · exact hx0 i z
        · rw [show i = n + (i - n) by omega, hxs _ (by omega)]; exact hlt _ (by omega)
      · rintro r ⟨m3, rfl, f3, R3⟩
        simp only [jX9_tellWay_70, wp_some]
        exact ⟨m3, rfl, fun a ha hb => by rw [f3 a (by omega), f2 a ha, f1 a (by omega) (by omega) (by omega)], R3⟩
  · exact absurd no (Rc_iff.mp ((Rc_iff.mpr fun z => Rc_iff.mp hr ((noWay_congr hE hf).mp z))))
end TE

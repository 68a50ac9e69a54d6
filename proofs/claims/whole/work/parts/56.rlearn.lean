/-! the reference learns an order -/
section RL
variable {m : Mem} {D : RD} {G : GD} {p s : Nat}
theorem r_reportOnce (R : RRr (m 1) D) (w : RW D) {st x : Nat} (h1 : st < 10) (hx : x < 16) : wp (gX12_reportOnce m (nI st) (nI p) (nI s) (nI x)) (fun m' => (∀ o, o ≠ 1 → o ≠ 17 → m' o = m o) ∧ (∀ j, (j < 272 ∨ 1533 ≤ j) → m' 1 j = m 1 j) ∧ RRr (m' 1) (once D st p s x)) := by
  unfold gX12_reportOnce gjX12_reportOnce_21
  rw [wp_bind]
  refine wp_mono (r_isReported R w h1 hx hx) ?_
  rintro r (⟨rfl, ht⟩ | ⟨rfl, ht⟩)
  · rw [wp_f (by decide), wp_some]
    exact ⟨fun _ _ _ => rfl, fun _ _ => rfl, by unfold once; rw [ci_t (show tD D st x x from ht)]; exact R⟩
  · rw [wp_t rfl, wp_bind]
    refine wp_mono (r_reportOne R w) (fun m' H => ?_)
    rw [wp_some]
    exact ⟨H.1, H.2.1, by unfold once; rw [ci_f (show ¬ tD D st x x from ht)]; exact H.2.2⟩
theorem shift_way {n : Nat} {y : Nat → Nat} (hn : n ≤ 17) (hy : ∀ i, i < n → m 17 i = nI (y i)) {u1 u2 u3 u5 : Int32} : wp (lp (gbX12_learnEdge_41 u1 u2 u3 u5) FU (nI n, m)) (fun m' => (∀ o, o ≠ 17 → m' o = m o) ∧ ∀ i, 1 ≤ i → i ≤ n → m' 17 i = nI (y (i - 1))) := by
  refine wp_lp (fun k st => ∃ m', st = (nI k, m') ∧ k ≤ n ∧ (∀ o, o ≠ 17 → m' o = m o) ∧ (∀ i, i < k → m' 17 i = nI (y i)) ∧ ∀ i, k < i → i ≤ n → m' 17 i = nI (y (i - 1))) (fun k st H => ?_) (n := n) ⟨m, rfl, Nat.le_refl _, fun _ _ => rfl, hy, fun i h1 h2 => by omega⟩ (by omega)
  obtain ⟨m', rfl, hk, H1, H2, H3⟩ := H
  cases k with
  | zero =>
    unfold gbX12_learnEdge_41
    rw [wp_t (show nI 0 ≤ 0 by decide), wp_some, lq_r]
    exact ⟨H1, fun i h1 h2 => H3 i (by omega) h2⟩
  | succ k =>
    have e := H2 k (by omega)
    simp (disch := omega) only [↓mI_e, gbX12_learnEdge_41, z_le, wp_f, wp_bind, L_1, i_sub, Nat.add_sub_cancel, w_rd, e, w_wr, i_dec, wp_some, lq_l]
    refine ⟨k, by omega, up m' 17 (k + 1) (nI (y k)), rfl, by omega, fun o ho => by rw [up_r ho]; exact H1 o ho, fun i hi => ?_, fun i h1 h2 => ?_⟩
    · rw [up_a, if_neg (by omega)]; exact H2 i (by omega)
    · rw [up_a]
      by_cases z : i = k + 1
      · rw [if_pos z, z, Nat.add_sub_cancel]
      · rw [if_neg z]; exact H3 i (by omega) h2
theorem r_learnEdge (R : RRr (m 1) D) (w : RW D) (Rg : GRr (m 1) G) (g : GW G) (h5 : p < 6) (h6 : s < 12) {f x : Nat} (hf : f < 16) (hx : x < 16) (hne : f ≠ x) (hE : ¬ gE G f x) : wp (gX12_learnEdge m (nI p) (nI s) (nI f) (nI x)) (fun m' => (∀ o, o ≠ 1 → o ≠ 16 → o ≠ 17 → m' o = m o) ∧ (∀ j, (256 ≤ j ∧ j < 272 ∨ 1533 ≤ j) → m' 1 j = m 1 j) ∧ RRr (m' 1) (learn1 (D, G) p s f x).1 ∧ GRr (m' 1) (learn1 (D, G) p s f x).2) := by
  have el : learn1 (D, G) p s f x = (ci (Rc 16 (gE (upG G f x (12 * p + s))) x f) (addR D 3 p s (wK (upG G f x (12 * p + s)) x f + 2) (cons f (wX (upG G f x (12 * p + s)) x f))) D, upG G f x (12 * p + s)) := by
    unfold learn1
    rw [if_neg hne, ci_f hE]
  rw [el]
  generalize hG' : upG G f x (12 * p + s) = G'
  have g' : GW G' := by rw [← hG']; exact upG_W g (by omega)
  simp (disch := omega) only [gX12_learnEdge, wp_bind, z_add, L_16, L_1, i_mul, i_add, w_wr]
  generalize hm1 : up m 1 (16 * f + x) (nI (1 + 16 * p + s)) = m1
  have f1 : ∀ o, o ≠ 1 → m1 o = m o := fun o ho => by rw [← hm1, up_r ho]
  have a1 : ∀ j, 256 ≤ j → m1 1 j = m 1 j := fun j hj => by rw [← hm1, up_a, if_neg (by omega)]
  have Rg1 : GRr (m1 1) G' := by
    intro a c ha hc
    rw [← hm1, up_a, ← hG']
    unfold upG
    by_cases z : a = f ∧ c = x
    · rw [if_pos (by omega), if_pos z]
      show _ = nI (1 + 16 * ((12 * p + s) / 12) + (12 * p + s) % 12)
      rw [show (12 * p + s) / 12 = p by omega, show (12 * p + s) % 12 = s by omega]
    · rw [if_neg (by omega), if_neg z]; exact Rg a c ha hc
  have R1 : RRr (m1 1) D := R.congr w (fun j h1 h2 => a1 j (by omega))
  have hEE : ∀ a c, a < 16 → c < 16 → (rE (m1 1) a c ↔ gE G' a c) := fun a c ha hc => Rg1.E g' ha hc
  refine wp_mono (r_layWay (m := m1) hx hf) ?_
  rintro ⟨r1, m2⟩ ⟨f2, H⟩
  simp only at f2 H ⊢
  have e21 : m2 1 = m1 1 := f2 1 (by decide) (by decide)
  rcases H with ⟨K, y, way, rfl, hy⟩ | ⟨rfl, no⟩
  · have way1 := Way_congr hEE hx way
    have hr : Rc 16 (gE G') x f := Rc_iff.mpr (fun z => way1.no z)
    have way0 := w_ok hf hr
    have hK := way1.K way0
    subst hK
    have hnod := way1.nodes way0
    have hK15 := way0.ltN hx hf (Ne.symm hne)
    simp (disch := omega) only [z_eq, wp_f, wp_bind]
    refine wp_mono (shift_way (n := wK G' x f + 1) (y := y) (by omega) (fun i hi => hy i (by omega))) (fun m3 ⟨f3, h3⟩ => ?_)
    rw [show (0 : Int32) = nI 0 from rfl]
    simp (disch := omega) only [w_wr, wp_bind, L_3, i_add]
    have e31 : up m3 17 0 (nI f) 1 = m1 1 := by rw [up_r (by decide), f3 1 (by decide), e21]
    refine wp_mono (r_report (m := up m3 17 0 (nI f)) (D := D) (st := 3) (p := p) (t := s) (n := wK G' x f + 1 + 1) (x := cons f (wX G' x f)) (by rw [e31]; exact R1) w (by omega) (fun i hi => ?_)) (fun m4 H => ?_)
    · cases i with
      | zero => rw [up_at]; rfl
      | succ i =>
        rw [up_a, if_neg (by omega), h3 (i + 1) (by omega) (by omega), Nat.add_sub_cancel, hnod i (by omega)]
        rfl
    · rw [wp_some]
      rw [ci_t hr]
      refine ⟨fun o h1 h2 h3' => by rw [H.1 o h1, up_r h3', f3 o h3', f2 o h2 h3', f1 o h1], fun j hj => ?_, H.2.2, ?_⟩
      · rw [H.2.1 j (by omega), e31]; exact a1 j (by omega)
      · exact Rg1.congr (fun j hj => by rw [H.2.1 j (by omega), e31])
  · have hr : ¬ Rc 16 (gE G') x f := fun z => Rc_iff.mp z ((noWay_congr hEE hx).mp no)
    rw [wp_t rfl, wp_some, ci_f hr]
    refine ⟨fun o h1 h2 h3 => by rw [f2 o h2 h3, f1 o h1], fun j hj => by rw [e21]; exact a1 j (by omega), ?_, ?_⟩
    · rw [e21]; exact R1
    · rw [e21]; exact Rg1
/-- what the reference holds -/
def WKr (m : Mem) (H : HD) : Prop := m 0 31 = nI (hK H) ∧ ∀ i, i < hK H → m 18 i = nI (hL H i) ∧ m 19 i = nI (hD H i)
theorem WKr.congr {m' : Mem} {H : HD} (k : WKr m H) (e0 : m' 0 31 = m 0 31) (e1 : m' 18 = m 18) (e2 : m' 19 = m 19) : WKr m' H := by
  unfold WKr at k ⊢
  rw [e0, e1, e2]; exact k
theorem r_learn {H : HD} (R : RRr (m 1) D) (w : RW D) (Rg : GRr (m 1) G) (g : GW G) (h5 : p < 6) (h6 : s < 12) {x : Nat} (hx : x < 16) (k : WKr m H) (hw : HW H) : wp (gX12_learn m (nI p) (nI s) (nI x)) (fun m' => (∀ o, o ≠ 1 → o ≠ 16 → o ≠ 17 → m' o = m o) ∧ (∀ j, (256 ≤ j ∧ j < 272 ∨ 1533 ≤ j) → m' 1 j = m 1 j) ∧ RRr (m' 1) (learnN (D, G) p s (hD H) x (hK H)).1 ∧ GRr (m' 1) (learnN (D, G) p s (hD H) x (hK H)).2) := by
  have hk10 := hw.1
  unfold gX12_learn
  rw [wp_bind]
  refine wp_for (κ := Mem) (fun i c => (nI i, c)) (hK H) (fun i m' => (∀ o, o ≠ 1 → o ≠ 16 → o ≠ 17 → m' o = m o) ∧ (∀ j, (256 ≤ j ∧ j < 272 ∨ 1533 ≤ j) → m' 1 j = m 1 j) ∧ RRr (m' 1) (learnN (D, G) p s (hD H) x i).1 ∧ GRr (m' 1) (learnN (D, G) p s (hD H) x i).2) (fun i c hi HH => ?_) (fun c HH => ?_) 0 m (Nat.zero_le _) ⟨fun _ _ _ _ => rfl, fun _ _ => rfl, R, Rg⟩ (by omega)
  · obtain ⟨fr, fa, Ri, Rgi⟩ := HH
    have wi := learnN_W w g (nd := hD H) h5 h6 hx i (fun j hj => (hw.2.1 j (by omega)).2)
    have e0 : c 0 31 = nI (hK H) := by rw [fr 0 (by decide) (by decide) (by decide)]; exact k.1
    have e19 : c 19 i = nI (hD H i) := by rw [fr 19 (by decide) (by decide) (by decide)]; exact (k.2 i hi).2
    have hd := (hw.2.1 i hi).2
    show wp (gbX12_learn_3 (nI p) (nI s) (nI x) (nI i, c)) _
    simp (disch := omega) only [gbX12_learn_3, e0, i_le, wp_f, wp_bind, w_rd, e19, i_eq]
    by_cases hfx : hD H i = x
    · rw [wp_t hfx, wp_bind, L_2]
      refine wp_mono (r_reportOnce Ri wi.1 (by decide) hx) (fun m' HZ => ?_)
      simp only [gjX12_learn_57, wp_bind, wp_some, lq_l, L_1, i_add]
      have el : learnN (D, G) p s (hD H) x (i + 1) = (once (learnN (D, G) p s (hD H) x i).1 2 p s x, (learnN (D, G) p s (hD H) x i).2) := by
        show learn1 _ p s (hD H i) x = _
        unfold learn1
        rw [if_pos hfx]
      refine ⟨m', rfl, fun o h1 h2 h3 => by rw [HZ.1 o h1 h3]; exact fr o h1 h2 h3, fun j hj => by rw [HZ.2.1 j (by omega)]; exact fa j hj, ?_, ?_⟩
      · rw [el]; exact HZ.2.2
      · rw [el]; exact Rgi.congr (fun j hj => HZ.2.1 j (by omega))
    · rw [wp_f hfx]
      simp (disch := omega) only [wp_bind, w_isEdge, b01_z]
      have hE := Rgi.E wi.2 hd hx
      by_cases hg : gE (learnN (D, G) p s (hD H) x i).2 (hD H i) x
      · rw [wp_f (fun z => z (hE.mpr hg))]
        simp only [gjX12_learn_57, wp_bind, wp_some, lq_l, L_1, i_add]
        have el : learnN (D, G) p s (hD H) x (i + 1) = learnN (D, G) p s (hD H) x i := by
          show learn1 _ p s (hD H i) x = _
          unfold learn1
          rw [if_neg hfx, ci_t hg]
        exact ⟨c, rfl, fr, fa, by rw [el]; exact Ri, by rw [el]; exact Rgi⟩
      · rw [wp_t (show ¬ rE (c 1) (hD H i) x from fun z => hg (hE.mp z)), wp_bind]
        refine wp_mono (r_learnEdge Ri wi.1 Rgi wi.2 h5 h6 hd hx hfx hg) (fun m' HZ => ?_)
        simp only [gjX12_learn_57, wp_bind, wp_some, lq_l, L_1, i_add]
        exact ⟨m', rfl, fun o h1 h2 h3 => by rw [HZ.1 o h1 h2 h3]; exact fr o h1 h2 h3, fun j hj => by rw [HZ.2.1 j hj]; exact fa j hj, HZ.2.2.1, HZ.2.2.2⟩
  · have e0 : c 0 31 = nI (hK H) := by rw [HH.1 0 (by decide) (by decide) (by decide)]; exact k.1
    simp (disch := omega) only [gbX12_learn_3, e0, i_le, wp_t, wp_some, lq_r]
    exact HH
end RL

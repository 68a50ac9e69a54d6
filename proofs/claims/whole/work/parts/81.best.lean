/-! the best swap: both sides -/
section BS2
variable {h h' : Hp} {m m' : Mem} {g g' : GS} {own : Nat → Nat} {ad : Nat → Option Nat} {Pl : PD} {S : Nat → Nat}
def bI (o : Option Nat) : Int32 := match o with
  | none => mI
  | some j => nI j
def bV (v : Int32) (B : Nat × Option Nat) : Int32 := match B.2 with
  | none => mI
  | some j => if v = 0 then nI B.1 else if v = 1 then nI (j / 12) else nI (j % 12)
theorem d12 : ∀ j, j < 80 → nI j / 12 = nI (j / 12) ∧ nI j - nI (j / 12) * 12 = nI (j % 12) := by decide +kernel
theorem sj_sj {j i : Nat} : sj j (sj j i) = i := by
  unfold sj
  by_cases z : i = j
  · rw [if_pos z, if_neg (by omega), if_pos rfl, z]
  · by_cases y : i = j + 1
    · rw [if_neg z, if_pos y, if_pos rfl, y]
    · rw [if_neg z, if_neg y, if_neg z, if_neg y]
theorem SW_sw (sw : SW Pl S) {j : Nat} (v1 : pV Pl j) (v2 : pV Pl (j + 1)) : SW Pl (fun i => S (sj j i)) := fun i hi => by
  have hv : pV Pl (sj j i) := by
    unfold sj; split
    · exact v2
    · split
      · exact v1
      · exact hi
  exact sw _ hv
theorem LX_ce {b n : Nat} {A : LA} (L : LX h m b A n) : CE h b n := by
  obtain ⟨_, _, _, _, _, _, _, _, c1, c2, _, ρ, c3, c4, c5, _⟩ := L
  exact ⟨c1, c2, ρ, c3, c4, c5⟩
theorem prP_q (pw : PW Pl) {j : Nat} (hj : j < 72) : (inN (nI (j / 12)) (pP Pl) ∧ inN (nI (j % 12)) (pN Pl (nI (j / 12)).toNatClampNeg - 1)) ↔ prP Pl j := by
  rw [nI_clamp (by omega), inN_nI (by omega), inN_nI (by omega)]
  exact ⟨fun z => ⟨z.1, by have := z.2; omega⟩, fun z => ⟨z.1, by have := z.2; omega⟩⟩
theorem c_bestL {P n : Nat} {v1 : Int32} {A0 : LA} (cs : CS h) (hP : P = 8 ∨ P = 13) (p1 : hR h 0 3 = some P) (pc : PC (wI h m) P Pl) (pw : PW Pl) (L0 : LX h m 57 A0 n) (hS : ∀ j, j < 72 → m 73 j = nI (S j)) (sw : SW Pl S) (s : ∀ j, j < 72 → S j < 160) : wp (lp (bX11_bestSwap_53 0 v1) FU (nI (bst Pl S 0).1, mI, 0, wI h m)) (fun r => ∃ h' m' n' A', r = (nI (bst Pl S 72).1, bI (bst Pl S 72).2, wI h' m') ∧ XD 41 57 h h' ∧ (∀ a, a < hN h → ¬ (41 ≤ a ∧ a ≤ 46) → ¬ (57 ≤ a ∧ a ≤ 71) → a ≠ 73 → m' a = m a) ∧ LX h' m' 57 A' n' ∧ GRW n h n' h') := by
  have h120 := cs.1
  refine wp_for (κ := Hp × Mem × Nat) (fun j c => (nI (bst Pl S j).1, bI (bst Pl S j).2, nI j, wI c.1 c.2.1)) 72 (fun j c => XD 41 57 h c.1 ∧ (∀ a, a < hN h → ¬ (41 ≤ a ∧ a ≤ 46) → ¬ (57 ≤ a ∧ a ≤ 71) → a ≠ 73 → c.2.1 a = m a) ∧ (∀ j, j < 72 → c.2.1 73 j = nI (S j)) ∧ (∃ A', LX c.1 c.2.1 57 A' c.2.2) ∧ GRW n h c.2.2 c.1) (fun j c hj HH => ?_) (fun c HH => ?_) 0 (h, m, n) (Nat.zero_le _) ⟨XD.rfl' 41 57 h, fun _ _ _ _ _ => rfl, hS, ⟨A0, L0⟩, GRW.rfl' n h⟩ (by decide)
  all_goals
    obtain ⟨h2, m2, n2⟩ := c
    obtain ⟨X2, f2, S2, ⟨A2, L2⟩, G2⟩ := HH
    simp only at X2 f2 S2 L2 G2
    have cs2 := cs.x X2.1
    have h120' := cs2.1
    have p2 : hR h2 0 3 = some P := by rw [X2.2.1 0 3 (by omega) (Or.inl (by decide)) (Or.inl (by decide))]; exact p1
    have pc2 : PC (wI h2 m2) P Pl := PC.congr (h := h) (m := m) pc X2.1 (fun a q1 q2 => f2 a (by omega) (by omega) (by omega) (by omega))
    have s5 : Sh5 h2 P := pc2.1
    simp only [bX11_bestSwap_53]
    rw [wp_bind, cs2.gr cs2.r12, wp_bind, x_aL (by omega) cs2.t73]
  · have b60 := bst_le pw sw s j
    obtain ⟨d1, d2⟩ := d12 j (by omega)
    have hq := prP_q pw hj
    rw [wp_f (fun z => by have := (nI_leI (by omega) (by omega)).mp z; omega), wp_bind, cs2.gr p2, wp_bind, s5.o, d1, d2, wp_bind, w_hasPair pc2 pw]
    by_cases hp : prP Pl j
    · obtain ⟨v1', v2', j71⟩ := prP_V pw hp
      have ej : 12 * (j / 12) + j % 12 = j := by omega
      have swj := SW_sw sw v1' v2'
      have sj' : ∀ i, i < 72 → (fun i => S (sj j i)) i < 160 := fun i hi => s _ (sj_lt j71 hi)
      have pc2' : PC (wI h2 (xcM m2 73 j)) P Pl := PC.congr (h := h2) (m := m2) pc2 (XX.rfl' h2) (fun a q1 q2 => xcM_r (by omega))
      have hSj : ∀ i, i < 72 → xcM m2 73 j 73 i = nI ((fun i => S (sj j i)) i) := fun i hi => by rw [xcM_a]; exact S2 _ (sj_lt j71 hi)
      rw [b01_t (hq.mpr hp), wp_f (by decide), wp_bind, cs2.gr cs2.r12, wp_bind, c_exch (by omega) cs2.t73 (by omega), ej, wp_bind, cs2.gr cs2.r12, wp_bind, cs2.o, wp_bind]
      refine wp_mono (c_every (S := fun i => S (sj j i)) cs2 L2.1 hP p2 pc2' pw (LX_ce L2) (by omega) cs2.t73 (by omega) hSj swj sj') ?_
      rintro r ⟨h3, m3, n3, rfl, X3, f3, L3, G3⟩
      obtain ⟨w1, w2, w3⟩ := runsA_W pw swj sj' (pP Pl) (Nat.le_refl _)
      have s7 : Sh7 h3 65 := L3.1.s4
      have cs3 := cs2.x X3.1
      have h120'' := cs3.1
      have hle := X2.1.1
      show wp ((gO (wI h3 m3) 7 65).bind _) _
      rw [wp_bind, s7.o, wp_bind]
      refine wp_mono (c_countOf (s := 3) s7 L3.2.1 w1.1 (by decide)) ?_
      rintro r rfl
      show wp ((gR (wI h3 m3) 11 0 12).bind _) _
      rw [wp_bind, cs3.gr cs3.r12, wp_bind, c_exch (by omega) cs3.t73 (by omega), ej]
      have c60 := cnt3_le pw swj sj'
      have e1 : nI j + 1 = nI (j + 1) := i_add _ 1
      have fin : XD 41 57 h h3 ∧ (∀ a, a < hN h → ¬ (41 ≤ a ∧ a ≤ 46) → ¬ (57 ≤ a ∧ a ≤ 71) → a ≠ 73 → xcM m3 73 j a = m a) ∧ (∀ i, i < 72 → xcM m3 73 j 73 i = nI (S i)) ∧ (∃ A', LX h3 (xcM m3 73 j) 57 A' n3) ∧ GRW n h n3 h3 := by
        refine ⟨XD.trans X2 X3, fun a q1 q2 q3 q4 => ?_, fun i hi => ?_, ⟨_, L3.congr (fun a q1 q2 => xcM_r (by omega))⟩, G2.trans G3⟩
        · rw [xcM_r q4, f3 a (by omega) q2 q3, xcM_r q4]; exact f2 a q1 q2 q3 q4
        · rw [xcM_a, f3 73 (by omega) (by omega) (by omega), xcM_a, sj_sj]; exact S2 i hi
      show wp (if nI (bst Pl S j).1 ≤ nI (cnt3 Pl (fun i => S (sj j i))) then _ else _) _
      by_cases hc : cnt3 Pl (fun i => S (sj j i)) < (bst Pl S j).1
      · rw [wp_f (fun z => by have := (nI_leI (by omega) (by omega)).mp z; omega)]
        simp only [jX11_bestSwap_143]
        rw [wp_bind, wp_some, wp_some, lq_l, e1]
        exact ⟨(h3, xcM m3 73 j, n3), by rw [bst_t hp hc]; rfl, fin⟩
      · rw [wp_t (nI_le (by omega) (by omega))]
        simp only [jX11_bestSwap_143]
        rw [wp_bind, wp_some, wp_some, lq_l, e1]
        exact ⟨(h3, xcM m3 73 j, n3), by rw [bst_f hp hc], fin⟩
    · rw [b01_n (fun z => hp (hq.mp z)), wp_t rfl]
      simp only [jX11_bestSwap_143]
      rw [wp_bind, wp_some, wp_some, lq_l, show nI j + 1 = nI (j + 1) from i_add _ 1]
      exact ⟨(h2, m2, n2), by rw [bst_n hp], X2, f2, S2, ⟨A2, L2⟩, G2⟩
  · rw [wp_t (nI_le (Nat.le_refl _) (by decide)), wp_some, lq_r]
    exact ⟨h2, m2, n2, A2, rfl, X2, f2, L2, G2⟩
/-- what the reference leaves when it has tried things out -/
def FB (m m' : Mem) : Prop := (∀ o, o ≠ 0 → o ≠ 1 → o ≠ 16 → o ≠ 17 → o ≠ 18 → o ≠ 19 → o ≠ 20 → m' o = m o) ∧ (∀ j, j ≠ 31 → m' 0 j = m 0 j) ∧ ∀ j, j < 9685 → m' 1 j = m 1 j
theorem FB.pf (x : FB m m') (f : PF m Pl) : PF m' Pl := f.congr (x.2.1 9 (by decide)) (x.1 2 (by decide) (by decide) (by decide) (by decide) (by decide) (by decide) (by decide)) (x.1 3 (by decide) (by decide) (by decide) (by decide) (by decide) (by decide) (by decide)) (x.1 4 (by decide) (by decide) (by decide) (by decide) (by decide) (by decide) (by decide)) (x.1 5 (by decide) (by decide) (by decide) (by decide) (by decide) (by decide) (by decide)) (x.1 6 (by decide) (by decide) (by decide) (by decide) (by decide) (by decide) (by decide)) (x.1 7 (by decide) (by decide) (by decide) (by decide) (by decide) (by decide) (by decide))
theorem FB.rfl' (m : Mem) : FB m m := ⟨fun _ _ _ _ _ _ _ _ => rfl, fun _ _ => rfl, fun _ _ => rfl⟩
theorem FB.trans {m1 m2 m3 : Mem} (x : FB m1 m2) (y : FB m2 m3) : FB m1 m3 := ⟨fun o h0 h1 h2 h3 h4 h5 h6 => (y.1 o h0 h1 h2 h3 h4 h5 h6).trans (x.1 o h0 h1 h2 h3 h4 h5 h6), fun j hj => (y.2.1 j hj).trans (x.2.1 j hj), fun j hj => (y.2.2 j hj).trans (x.2.2 j hj)⟩
theorem ir_fb (J : IR m g) (ok : okG g) (x : FB m m') : IR m' g := by
  obtain ⟨eo, e0, e1⟩ := x
  obtain ⟨⟨j1, j2⟩, ⟨j3, j4⟩, jp, ⟨j5, j6⟩, jl, jw, ju, jb, jx⟩ := J
  obtain ⟨o1, pw, o2, o3, o4, o5⟩ := ok
  unfold IR
  rw [e0 11 (by decide), e0 19 (by decide), e0 20 (by decide), e0 56 (by decide), e0 57 (by decide), eo 10 (by decide) (by decide) (by decide) (by decide) (by decide) (by decide) (by decide), eo 36 (by decide) (by decide) (by decide) (by decide) (by decide) (by decide) (by decide), eo 37 (by decide) (by decide) (by decide) (by decide) (by decide) (by decide) (by decide), eo 38 (by decide) (by decide) (by decide) (by decide) (by decide) (by decide) (by decide), eo 11 (by decide) (by decide) (by decide) (by decide) (by decide) (by decide) (by decide)]
  exact ⟨⟨j1, j2⟩, ⟨j3, j4⟩, FB.pf ⟨eo, e0, e1⟩ jp, ⟨j5, j6⟩, jl.congr (o4 _ o2).1 (fun j hj => pV_lt pw hj) e1, jw, ju, jb, jx⟩
/-- swapped, tried, and swapped back -/
theorem fb_sw {j : Nat} {m2 : Mem} (hj : j + 1 < 72) (x : FB (xcM (xcM m 1 (1541 + j)) 1 (1613 + j)) m2) : FB m (xcM (xcM m2 1 (1541 + j)) 1 (1613 + j)) := by
  obtain ⟨eo, e0, e1⟩ := x
  refine ⟨fun o h0 h1 h2 h3 h4 h5 h6 => ?_, fun i hi => ?_, fun i hi => ?_⟩
  · rw [xcM_r h1, xcM_r h1, eo o h0 h1 h2 h3 h4 h5 h6, xcM_r h1, xcM_r h1]
  · rw [xcM_r (by decide), xcM_r (by decide), e0 i hi, xcM_r (by decide), xcM_r (by decide)]
  · by_cases z : 1541 ≤ i ∧ i < 1685
    · by_cases y : i < 1613
      · obtain ⟨k, rfl⟩ : ∃ k, i = 1541 + k := ⟨i - 1541, by omega⟩
        have hk := sj_lt hj (show k < 72 by omega)
        rw [(xc2 (show k < 72 by omega) hj).1, e1 _ (by omega), (xc2 hk hj).1, sj_sj]
      · obtain ⟨k, rfl⟩ : ∃ k, i = 1613 + k := ⟨i - 1613, by omega⟩
        have hk := sj_lt hj (show k < 72 by omega)
        rw [(xc2 (show k < 72 by omega) hj).2, e1 _ (by omega), (xc2 hk hj).2, sj_sj]
    · rw [xc3 hj z, e1 i hi, xc3 hj z]
theorem r_bestI {p : Nat} {A : LA} {v : Int32} {m0 : Mem} (L : LF (pV Pl) (m 1) A) (ok : okA Pl A) (f : PF m Pl) (pw : PW Pl) (hp : p < pP Pl) (x0 : FB m m0) : wp (lp (gbX12_bestSwap_39 v (nI p)) FU (nI (bst Pl (aS A) (12 * p)).1, bI (bst Pl (aS A) (12 * p)).2, 0, m0)) (fun r => ∃ m', r = (nI (bst Pl (aS A) (12 * (p + 1))).1, bI (bst Pl (aS A) (12 * (p + 1))).2, m') ∧ FB m m') := by
  have h6 := pw.2.2.1
  have n12 := (pw.2.2.2.2 p hp).2
  have eP : ∀ s, s < 12 → (prP Pl (12 * p + s) ↔ s + 1 < pN Pl p) := fun s hs => by
    unfold prP
    rw [show (12 * p + s) / 12 = p by omega, show (12 * p + s) % 12 = s by omega]
    exact ⟨fun z => z.2, fun z => ⟨hp, z⟩⟩
  refine wp_for (κ := Mem) (fun s c => (nI (bst Pl (aS A) (12 * p + s)).1, bI (bst Pl (aS A) (12 * p + s)).2, nI s, c)) (pN Pl p - 1) (fun s c => FB m c) (fun s c hs x => ?_) (fun c x => ?_) 0 m0 (Nat.zero_le _) x0 (by omega)
  · have pq := (eP s (by omega)).mpr (by omega)
    obtain ⟨v1, v2, hj⟩ := prP_V pw pq
    have b60 := bst_le pw ok.2 ok.1.2.2.2.2.2 (12 * p + s)
    simp only [gbX12_bestSwap_39]
    have e1 : nI s + 1 = nI (s + 1) := i_add _ 1
    rw [wp_bind, w_stepsOf (x.pf f) pw hp, e1, wp_f (fun z => by have := (nI_leI (by omega) (by omega)).mp z; omega), wp_bind, r_swapSteps hj, wp_bind]
    have Lc : LF (pV Pl) (c 1) A := L.congr ok.1 (fun j hj => pV_lt pw hj) x.2.2
    have L2 := LF.sw (a := c 1) (a' := xcM (xcM c 1 (1541 + (12 * p + s))) 1 (1613 + (12 * p + s)) 1) Lc ok.1 (fun j hj => pV_lt pw hj) v1 v2 (fun i _ hi => xc3 hj hi) (fun i hi => xc2 hi hj)
    have ok2 := okA_sw ok hj v1 v2
    have f2 : PF (xcM (xcM c 1 (1541 + (12 * p + s))) 1 (1613 + (12 * p + s))) Pl := (x.pf f).congr (by rw [xcM_r (by decide), xcM_r (by decide)]) (by rw [xcM_r (by decide), xcM_r (by decide)]) (by rw [xcM_r (by decide), xcM_r (by decide)]) (by rw [xcM_r (by decide), xcM_r (by decide)]) (by rw [xcM_r (by decide), xcM_r (by decide)]) (by rw [xcM_r (by decide), xcM_r (by decide)]) (by rw [xcM_r (by decide), xcM_r (by decide)])
    refine wp_mono (r_all3 L2 ok2.1 f2 pw ok2.2) ?_
    rintro ⟨r, m3⟩ ⟨er, y⟩
    have er' : r = nI (cnt3 Pl (fun i => aS A (sj (12 * p + s) i))) := er
    subst er'
    have y' : FB m (xcM (xcM m3 1 (1541 + (12 * p + s))) 1 (1613 + (12 * p + s))) := x.trans (fb_sw hj y)
    have c60 := cnt3_le pw ok2.2 ok2.1.2.2.2.2.2
    have c60' : cnt3 Pl (fun i => aS A (sj (12 * p + s) i)) ≤ 60 := c60
    simp only
    rw [wp_bind, r_swapSteps hj]
    by_cases hc : cnt3 Pl (fun i => aS A (sj (12 * p + s) i)) < (bst Pl (aS A) (12 * p + s)).1
    · rw [wp_t ((nI_ltI (by omega) (by omega)).mpr hc)]
      simp only [gjX12_bestSwap_96]
      rw [wp_bind, wp_some, wp_bind, wp_some, wp_some, lq_l, e1]
      refine ⟨_, ?_, y'⟩
      rw [show 12 * p + (s + 1) = 12 * p + s + 1 from rfl, bst_t pq hc, L_12, i_mul, i_add]
      rfl
    · rw [wp_f (fun z => hc ((nI_ltI (by omega) (by omega)).mp z))]
      simp only [gjX12_bestSwap_96]
      rw [wp_bind, wp_some, wp_some, lq_l, e1]
      refine ⟨_, ?_, y'⟩
      rw [show 12 * p + (s + 1) = 12 * p + s + 1 from rfl, bst_f pq hc]
  · simp only [gbX12_bestSwap_39]
    rw [wp_bind, w_stepsOf (x.pf f) pw hp, show nI (pN Pl p - 1) + 1 = nI (pN Pl p - 1 + 1) from i_add _ 1, wp_t (nI_le (by omega) (by omega)), wp_some, lq_r]
    refine ⟨c, ?_, x⟩
    have sk := bst_skip (Pl := Pl) (S := aS A) (j := 12 * p + (pN Pl p - 1)) (12 - (pN Pl p - 1)) (fun i hi z => by
      have := (eP (pN Pl p - 1 + i) (by omega)).mp (by rw [← Nat.add_assoc]; exact z)
      omega)
    rw [show 12 * p + (pN Pl p - 1) + (12 - (pN Pl p - 1)) = 12 * (p + 1) by omega] at sk
    rw [sk]
theorem r_best {A : LA} {v : Int32} (L : LF (pV Pl) (m 1) A) (ok : okA Pl A) (f : PF m Pl) (pw : PW Pl) (h0 : ¬ v < 0) (h2 : v ≤ 2) : wp (gX12_bestSwap m v) (fun r => r.1 = bV v (bst Pl (aS A) 72) ∧ FB m r.2) := by
  have h6 := pw.2.2.1
  unfold gX12_bestSwap
  rw [wp_bind, wp_eq (r_isIn v 0 2), b01_t ⟨k2_le h0, h2⟩, wp_f (by decide), wp_bind]
  refine wp_mono (r_all3 L ok.1 f pw ok.2) ?_
  rintro ⟨r, m1⟩ ⟨er, y⟩
  have er' : r = nI (bst Pl (aS A) (12 * 0)).1 := er
  subst er'
  have y' : FB m m1 := y
  rw [wp_bind]
  refine wp_mono (Q := fun r => ∃ m', r = (nI (bst Pl (aS A) 72).1, bI (bst Pl (aS A) 72).2, m') ∧ FB m m') ?_ ?_
  · refine wp_for (κ := Mem) (fun p c => (nI (bst Pl (aS A) (12 * p)).1, bI (bst Pl (aS A) (12 * p)).2, nI p, c)) (pP Pl) (fun p c => FB m c) (fun p c hp x => ?_) (fun c x => ?_) 0 m1 (Nat.zero_le _) y' (by omega)
    · have fc := x.pf f
      obtain ⟨k, hk, e9, _, _, e4, _⟩ := fc
      simp only [gbX12_bestSwap_22]
      rw [wp_bind, e9, w_rd (by omega) (by decide), e4, wp_f (fun z => by have := (nI_leI (by omega) (by omega)).mp z; omega), wp_bind]
      refine wp_mono (r_bestI L ok f pw hp x) ?_
      rintro r ⟨m2, rfl, x2⟩
      rw [wp_bind, wp_some, wp_some, lq_l, show nI p + 1 = nI (p + 1) from i_add _ 1]
      exact ⟨m2, rfl, x2⟩
    · have fc := x.pf f
      obtain ⟨k, hk, e9, _, _, e4, _⟩ := fc
      simp only [gbX12_bestSwap_22]
      rw [wp_bind, e9, w_rd (by omega) (by decide), e4, wp_t (nI_le (Nat.le_refl _) (by omega)), wp_some, lq_r]
      refine ⟨c, ?_, x⟩
      have sk := bst_skip (Pl := Pl) (S := aS A) (j := 12 * pP Pl) (72 - 12 * pP Pl) (fun i hi z => by
        have := z.1
        omega)
      rw [show 12 * pP Pl + (72 - 12 * pP Pl) = 72 by omega] at sk
      rw [sk]
  · rintro r ⟨m2, rfl, x2⟩
    unfold bV
    cases hb : (bst Pl (aS A) 72).2 with
    | none =>
      rw [wp_f (show ¬ 0 ≤ bI none from by decide), wp_some]
      exact ⟨rfl, x2⟩
    | some j =>
      have hj := bst_at 72 j hb
      obtain ⟨d1, d2⟩ := d12 j (by omega)
      rw [wp_t (show 0 ≤ bI (some j) from nI_pos' (by omega))]
      simp only [gjX12_bestSwap_138]
      show wp (if v = 0 then some (nI (bst Pl (aS A) 72).1, m2) else if v = 1 then some (nI j / 12, m2) else some (nI j - nI j / 12 * 12, m2)) _
      rw [d1, d2]
      by_cases z : v = 0
      · rw [wp_t z, wp_some, if_pos z]; exact ⟨rfl, x2⟩
      · rw [wp_f z, if_neg z]
        by_cases y : v = 1
        · rw [wp_t y, wp_some, if_pos y]; exact ⟨rfl, x2⟩
        · rw [wp_f y, wp_some, if_neg y]; exact ⟨rfl, x2⟩
theorem o_bestSwap (I : IC h g own ad) (J : IR m g) (ok : okG g) (v : Int32) : ∃ r h1 m1, fX11_bestSwap h 0 v = some (r, h1) ∧ gX12_bestSwap m v = some (r, m1) ∧ AFT h h1 m1 own g := by
  have I' := I
  have J' := J
  have ok' := ok
  obtain ⟨cs, ow, ⟨t1, t2⟩, ⟨f1, f2⟩, ⟨P, hP, p1, p2, pc⟩, ⟨a1, a2⟩, r52, r19, r36, r15, sl, li, bx⟩ := I
  obtain ⟨⟨j1, j2⟩, ⟨j3, j4⟩, jp, ⟨j5, j6⟩, jl, jw, ju, jb, jx⟩ := J
  obtain ⟨o1, pw, o2, o3, o4, o5⟩ := ok
  obtain ⟨b, n, hb, L⟩ := li (sA g) o2
  have rb : hR h 19 (sA g) = some b := by rw [r19 _ (by omega)]; exact hb
  have pr : ∀ {Q : Nat → Prop}, wp (fX2_present (wI h (hI h)) 18) Q = Q b := fun {Q} => cs.present a1 (by omega) rb
  have s2 := cs.s2
  have okA0 := o4 (sA g) o2
  have isin : ∀ {Q : Int32 → Prop}, wp (gX12_isIn v 0 2) Q = Q (b01 (0 ≤ v ∧ v ≤ 2)) := fun {Q} => wp_eq (r_isIn v 0 2)
  refine bo2 (R := fun h1 m1 => AFT h h1 m1 own g) ?_
  show wp (fX11_bestSwap (wI h (hI h)) 0 v) _
  unfold fX11_bestSwap jX11_bestSwap_9
  by_cases h1 : v < 0
  · unfold gX12_bestSwap
    rw [wp_t h1, wp_some, wp_bind, isin, b01_n (fun z => k2_nle h1 z.1), wp_t rfl, wp_some]
    exact ⟨rfl, AFT.same I' J' ok'⟩
  · rw [wp_f h1]
    by_cases h9 : v ≤ 2
    · have S15 := sl 15 57 (by decide) r15
      have Sb := sl (sA g) b (by omega) hb
      obtain ⟨n', C'⟩ := S15.CE
      have b14 := L.1.1
      have h120 := cs.1
      have hb73 := Sb.ne ow (a := 73) (by decide) (by decide) (by decide)
      have pc' : PC (wI h (cpM (hI h) (b + 1) 73 72)) P (sP g) := PC.congr (h := h) (m := hI h) pc (XX.rfl' h) (fun a q1 q2 => cpM_r (by omega))
      have hS : ∀ j, j < 72 → cpM (hI h) (b + 1) 73 72 73 j = nI (aS (sH g (sA g)) j) := fun j hj => by rw [cpM_a hj]; exact L.2.2.2.2.2.1 j hj
      rw [wp_t h9, wp_bind, cs.gr cs.r5, wp_bind, s2.o, wp_bind, pr, wp_bind, L.1.r0, wp_bind, cs.gr cs.r12, wp_bind, cs.gr cs.r12, wp_bind, x_aL (by omega) cs.t73, wp_bind, w_kI (by omega) L.1.2.2.1.2 (by omega) cs.t73 (by decide) (by decide) (by decide), wp_bind, cs.gr cs.r12, wp_bind, cs.o, wp_bind]
      refine wp_mono (c_every cs S15.2.1 hP p1 pc' pw C' (by omega) cs.t73 (by omega) hS okA0.2 okA0.1.2.2.2.2.2) ?_
      rintro r ⟨h2, m2, n2, rfl, X2, fr2, L2, G2⟩
      obtain ⟨w1, w2, w3⟩ := runsA_W pw okA0.2 okA0.1.2.2.2.2.2 (pP (sP g)) (Nat.le_refl _)
      have s7 : Sh7 h2 65 := L2.1.s4
      show wp ((gO (wI h2 m2) 7 65).bind _) _
      rw [wp_bind, s7.o, wp_bind]
      refine wp_mono (c_countOf (s := 3) s7 L2.2.1 w1.1 (by decide)) ?_
      rintro r rfl
      have cs2 := cs.x X2.1
      have p12 : hR h2 0 3 = some P := by rw [X2.2.1 0 3 (by omega) (Or.inl (by decide)) (Or.inl (by decide))]; exact p1
      have pc2 : PC (wI h2 m2) P (sP g) := PC.congr (h := h) (m := cpM (hI h) (b + 1) 73 72) pc' X2.1 (fun a q1 q2 => fr2 a (by omega) (by omega) (by omega))
      rw [wp_bind]
      refine wp_mono (c_bestL (v1 := v) cs2 hP p12 pc2 pw L2 (fun j hj => by rw [fr2 73 (by omega) (by omega) (by omega)]; exact hS j hj) okA0.2 okA0.1.2.2.2.2.2) ?_
      rintro r ⟨h3, m3, n3, A3, rfl, X3, fr3, L3, G3⟩
      have hle := X2.1.1
      obtain ⟨own', IC2, NF2, oe2, o17⟩ := I'.tr o3 (XD.trans X2 X3) (fun a q1 q2 q3 q4 => by rw [fr3 a (by omega) q2 q3 q4, fr2 a q1 q2 q3, cpM_r q4]) L3
      have rm := (G2.trans G3).room C'.1.le.1
      have key : ∀ m1, FB m m1 → AFT h (wI h3 m3) m1 own g := fun m1 x => ⟨ir_fb J' ok' x, ok', own', ad, IC2, NF2, fun a ha ho => by rw [oe2 a ha]; exact ho, o17, by show hN h3 ≤ hN h + 20; omega, by show hZ h3 ≤ hZ h + 10200; omega⟩
      have cl : ∀ {Q : Int32 × Hp → Prop}, Q (bV v (bst (sP g) (aS (sH g (sA g))) 72), wI h3 m3) → wp (if bI (bst (sP g) (aS (sH g (sA g))) 72).2 = (-1 : Int32) then some ((-1 : Int32), wI h3 m3) else if v = 0 then some (nI (bst (sP g) (aS (sH g (sA g))) 72).1, wI h3 m3) else if v = 1 then some (bI (bst (sP g) (aS (sH g (sA g))) 72).2 / 12, wI h3 m3) else some (bI (bst (sP g) (aS (sH g (sA g))) 72).2 - bI (bst (sP g) (aS (sH g (sA g))) 72).2 / 12 * 12, wI h3 m3)) Q := by
        intro Q hQ
        unfold bV at hQ
        cases hb : (bst (sP g) (aS (sH g (sA g))) 72).2 with
        | none =>
          rw [hb] at hQ
          rw [wp_t (show bI none = -1 from rfl), wp_some]; exact hQ
        | some j =>
          rw [hb] at hQ
          have hj := bst_at 72 j hb
          obtain ⟨d1, d2⟩ := d12 j (by omega)
          rw [wp_f (show ¬ bI (some j) = -1 from nI_m1 (by omega)), show bI (some j) = nI j from rfl, d1, d2]
          by_cases z : v = 0
          · rw [wp_t z, wp_some]; simp only [if_pos z] at hQ; exact hQ
          · rw [wp_f z]
            by_cases y : v = 1
            · rw [wp_t y, wp_some]; simp only [if_neg z, if_pos y] at hQ; exact hQ
            · rw [wp_f y, wp_some]; simp only [if_neg z, if_neg y] at hQ; exact hQ
      refine cl ?_
      refine wp_mono (r_best jl okA0 jp pw h1 h9) ?_
      rintro ⟨r, m1⟩ ⟨er, x⟩
      exact ⟨er, key m1 x⟩
    · unfold gX12_bestSwap
      rw [wp_f h9, wp_some, wp_bind, isin, b01_n (fun z => h9 z.2), wp_t rfl, wp_some]
      exact ⟨rfl, AFT.same I' J' ok'⟩
end BS2

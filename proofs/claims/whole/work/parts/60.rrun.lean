/-! the reference: a step, a run -/
section RG
variable {m : Mem} {A : LA} {H : HD} {Pl : PD} {p s : Nat}
def fr0 (m m' : Mem) : Prop := (∀ o, o ≠ 0 → o ≠ 1 → o ≠ 16 → o ≠ 17 → o ≠ 18 → o ≠ 19 → m' o = m o) ∧ ∀ j, j ≠ 31 → m' 0 j = m 0 j
theorem fr0.rfl' (m : Mem) : fr0 m m := ⟨fun _ _ _ _ _ _ _ => rfl, fun _ _ => rfl⟩
theorem fr0.trans {m1 m2 m3 : Mem} (x : fr0 m1 m2) (y : fr0 m2 m3) : fr0 m1 m3 := ⟨fun o h1 h2 h3 h4 h5 h6 => by rw [y.1 o h1 h2 h3 h4 h5 h6, x.1 o h1 h2 h3 h4 h5 h6], fun j hj => by rw [y.2 j hj, x.2 j hj]⟩
theorem PF.congr {m' : Mem} (f : PF m Pl) (e0 : m' 0 9 = m 0 9) (e2 : m' 2 = m 2) (e3 : m' 3 = m 3) (e4 : m' 4 = m 4) (e5 : m' 5 = m 5) (e6 : m' 6 = m 6) (e7 : m' 7 = m 7) : PF m' Pl := by
  unfold PF at f ⊢
  rw [e0, e2, e3, e4, e5, e6, e7]; exact f
theorem PF.fr {m' : Mem} (f : PF m Pl) (x : fr0 m m') : PF m' Pl := f.congr (x.2 9 (by decide)) (x.1 2 (by decide) (by decide) (by decide) (by decide) (by decide) (by decide)) (x.1 3 (by decide) (by decide) (by decide) (by decide) (by decide) (by decide)) (x.1 4 (by decide) (by decide) (by decide) (by decide) (by decide) (by decide)) (x.1 5 (by decide) (by decide) (by decide) (by decide) (by decide) (by decide)) (x.1 6 (by decide) (by decide) (by decide) (by decide) (by decide) (by decide)) (x.1 7 (by decide) (by decide) (by decide) (by decide) (by decide) (by decide))
/-- the reference within a run -/
def RF (m : Mem) (Pl : PD) (A : LA) (H : HD) : Prop := LF (pV Pl) (m 1) A ∧ PF m Pl ∧ WKr m H
theorem LF.CF (V : Nat → Prop) {a : Nat → Int32} (L : LF V a A) : CF a A := L.2.2.2.2.1
theorem LF.setD {V : Nat → Prop} {a a' : Nat → Int32} {D : RD} (L : LF V a A) (R : RRr a' D) (e : ∀ j, (j < 272 ∨ 1533 ≤ j) → a' j = a j) (hV : ∀ j, V j → j < 72) : LF V a' (setD A D) := by
  obtain ⟨L1, L2, L3, L4, ⟨L5, L6, L7⟩, L8⟩ := L
  refine ⟨R, L2.congr (fun j hj => e j (by omega)), fun x hx => by rw [e _ (by omega)]; exact L3 x hx, fun q hq => by rw [e _ (by omega)]; exact L4 q hq, ⟨by rw [e _ (by omega)]; exact L5, by rw [e _ (by omega)]; exact L6, fun i hi => ?_⟩, fun j hj => ?_⟩
  · rw [e _ (by omega), e _ (by omega)]; exact L7 i hi
  · have := hV j hj
    rw [e _ (by omega), e _ (by omega)]; exact L8 j hj
theorem pV_lt (pw : PW Pl) {j : Nat} (h : pV Pl j) : j < 72 := by
  obtain ⟨h1, h2⟩ := h
  have h6 := pw.2.2.1
  omega
theorem r_tell (F : RF m Pl A H) (pw : PW Pl) (lw : LW A) {st x : Nat} : wp (gX12_reportOne m (nI st) (nI p) (nI s) (nI x)) (fun m' => fr0 m m' ∧ RF m' Pl (setD A (addR (aD A) st p s 1 (fun _ => x))) H) := by
  obtain ⟨L, f, k⟩ := F
  refine wp_mono (r_reportOne L.1 lw.1) (fun m' HH => ?_)
  have x : fr0 m m' := ⟨fun o h1 h2 h3 h4 h5 h6 => HH.1 o h2 h4, fun j _ => by rw [HH.1 0 (by decide) (by decide)]⟩
  exact ⟨x, L.setD HH.2.2 HH.2.1 (fun j hj => pV_lt pw hj), f.fr x, k.congr (by rw [HH.1 0 (by decide) (by decide)]) (HH.1 18 (by decide) (by decide)) (HH.1 19 (by decide) (by decide))⟩
theorem r_take83 {d x l : Nat} {A1 : LA} {DG : RD × GD} (f : PF m Pl) (k : WKr m H) (pw : PW Pl) (hp : p < pP Pl) (hs : s < pN Pl p) (hw : HW H) (hk : hK H < 10) (hx : x < 16) (wD : RW DG.1) (wG : GW DG.2) (R : RRr (m 1) DG.1) (Rg : GRr (m 1) DG.2) (hU : ∀ y, y < 16 → m 1 (256 + y) = nI (aU A1 y) ∧ aU A1 y < 16) (hop : ∀ i, i < s → m 1 (1541 + (12 * p + i)) = nI (aS A (12 * p + i) / 16) ∧ aS A (12 * p + i) / 16 ≤ 8) : wp (gjX12_doTake_83 (nI p) (nI s) (nI l) (nI x) m) (fun m' => fr0 m m' ∧ (∀ j, 1533 ≤ j → m' 1 j = m 1 j) ∧ WKr m' (push H l x) ∧ (∀ y, y < 16 → m' 1 (256 + y) = nI (sbf (aU A1) x (aU A1 x ||| useB (pS Pl p) (cx (pS Pl p) (fun i => aS A (12 * p + i)) s)) y)) ∧ GRr (m' 1) DG.2 ∧ RRr (m' 1) (unsA (unsA (useD DG.1 (aU A1 x ||| useB (pS Pl p) (cx (pS Pl p) (fun i => aS A (12 * p + i)) s)) p s x) DG.2 (sbf (aU A1) x (aU A1 x ||| useB (pS Pl p) (cx (pS Pl p) (fun i => aS A (12 * p + i)) s))) 6 1 4 p s 16) DG.2 (sbf (aU A1) x (aU A1 x ||| useB (pS Pl p) (cx (pS Pl p) (fun i => aS A (12 * p + i)) s))) 7 2 8 p s 16)) := by
  have h12 := (pw.2.2.2.2 p hp).2.2
  have h6 : p < 6 := Nat.lt_of_lt_of_le hp pw.2.2.1
  have hu0 := hU x hx
  unfold gjX12_doTake_83
  rw [wp_bind]
  refine wp_mono (r_use (S := fun i => aS A (12 * p + i)) f pw hp (by omega) hop R wD hx hu0.1 hu0.2) (fun m1 ⟨f1, a1, g1, R1⟩ => ?_)
  generalize hub : aU A1 x ||| useB (pS Pl p) (cx (pS Pl p) (fun i => aS A (12 * p + i)) s) = u at *
  have hu16 : u < 16 := by rw [← hub]; exact or16 hu0.2 (useB_lt _ _)
  have w1 := useD_W wD (u := u) (p := p) (s := s) (x := x) h6 (by omega) hx
  have hU1 : ∀ y, y < 16 → m1 1 (256 + y) = nI (sbf (aU A1) x u y) ∧ sbf (aU A1) x u y < 16 := by
    intro y hy
    rw [g1 y hy]
    by_cases z : y = x
    · rw [if_pos z, z, sbf_at]; exact ⟨rfl, hu16⟩
    · rw [if_neg z, sbf_ne z]; exact hU y hy
  have Rg1 : GRr (m1 1) DG.2 := Rg.congr (fun j hj => a1 j (by omega))
  rw [wp_bind, L_6, L_1, L_4]
  refine wp_mono (r_lookUnsafe R1 w1 Rg1 wG hU1 (by decide) (by decide) h6 (by omega)) (fun m2 ⟨f2, a2, R2⟩ => ?_)
  have w2 := unsA_W (G := DG.2) (U := sbf (aU A1) x u) (its := 6) (bi := 1) (bo := 4) w1 (by decide) (by decide) h6 (by omega : s ≤ 12) 16 (Nat.le_refl _)
  have hU2 : ∀ y, y < 16 → m2 1 (256 + y) = nI (sbf (aU A1) x u y) ∧ sbf (aU A1) x u y < 16 := fun y hy => by rw [a2 _ (by omega)]; exact hU1 y hy
  have Rg2 : GRr (m2 1) DG.2 := Rg1.congr (fun j hj => a2 j (by omega))
  rw [wp_bind, L_7, L_2, L_8]
  refine wp_mono (r_lookUnsafe R2 w2 Rg2 wG hU2 (by decide) (by decide) h6 (by omega)) (fun m3 ⟨f3, a3, R3⟩ => ?_)
  have F3 : ∀ o, o ≠ 1 → o ≠ 16 → o ≠ 17 → m3 o = m o := fun o h1 h2 h3 => by rw [f3 o h1 h2 h3, f2 o h1 h2 h3, f1 o h1 h3]
  have e0 : m3 0 31 = nI (hK H) := by rw [F3 0 (by decide) (by decide) (by decide)]; exact k.1
  have e18 : m3 18 = m 18 := F3 18 (by decide) (by decide) (by decide)
  have e19 : m3 19 = m 19 := F3 19 (by decide) (by decide) (by decide)
  simp (disch := omega) only [wp_bind, e0, w_wr, up_r, L_1, i_add, wp_some]
  refine ⟨⟨fun o h0 h1 h2 h3 h4 h5 => by rw [up_r h0, up_r h5, up_r h4]; exact F3 o h1 h2 h3, fun j hj => by rw [up_a, if_neg hj, up_r (by decide), up_r (by decide), F3 0 (by decide) (by decide) (by decide)]⟩, fun j hj => ?_, ⟨?_, fun i hi => ?_⟩, fun y hy => ?_, ?_, ?_⟩
  · rw [a3 j (by omega), a2 j (by omega), a1 j (by omega)]
  · rw [up_at]; rfl
  · change i < hK H + 1 at hi
    rw [up_r (by decide), up_r (by decide), up_a, up_r (by decide), up_a, up_r (by decide), e18, e19]
    show _ = nI (sbf (hL H) (hK H) l i) ∧ _ = nI (sbf (hD H) (hK H) x i)
    by_cases z : i = hK H
    · rw [if_pos z, if_pos z, z, sbf_at, sbf_at]; exact ⟨rfl, rfl⟩
    · rw [if_neg z, if_neg z, sbf_ne z, sbf_ne z]; exact k.2 i (by omega)
  · rw [a3 _ (by omega)]; exact (hU2 y hy).1
  · exact Rg2.congr (fun j hj => a3 j (by omega))
  · exact R3
theorem r_doTake (F : RF m Pl A H) (pw : PW Pl) (hp : p < pP Pl) (hs : s < pN Pl p) (sw : SW Pl (aS A)) (lw : LW A) (hw : HW H) (hA : aK A < 4000) (hd : aS A (12 * p + s) / 16 < 4) : wp (gX12_doTake m (nI p) (nI s)) (fun m' => fr0 m m' ∧ RF m' Pl (stepA Pl p s (A, H)).1 (stepA Pl p s (A, H)).2) := by
  have h12 := (pw.2.2.2.2 p hp).2.2
  have h6 : p < 6 := Nat.lt_of_lt_of_le hp pw.2.2.1
  have h10 := pw.2.1
  obtain ⟨v1, v2, v3⟩ := sw _ (pV_of pw hp hs)
  have hl := v2 (by omega)
  have F' := F
  obtain ⟨L, f, k⟩ := F
  obtain ⟨L1, L2, L3, L4, L5, L8⟩ := L
  have st := L8 _ (pV_of pw hp hs)
  rw [if_pos (by omega)] at st
  have hx := nodeOf_lt pw (d := aS A (12 * p + s) / 16) hl
  unfold gX12_doTake
  rw [wp_bind, w_lockOf h6 (by omega) st.2, wp_bind]
  refine wp_mono (r_placeHeld k hw (by omega)) ?_
  rintro r (⟨c2, rfl⟩ | ⟨c2, rfl⟩)
  · have pl := plc_ok c2
    have hk10 := hw.1
    simp (disch := omega) only [nI_lt0, wp_f, if_false, wp_bind, w_rd, (k.2 _ pl.1).2, L_1]
    refine wp_mono (r_tell F' pw lw) (fun m' HH => ?_)
    rw [wp_some]
    refine step_cases (fun r => fr0 m m' ∧ RF m' Pl r.1 r.2) (fun _ _ => HH) (fun _ z => absurd c2 z) (fun z _ => by omega) (fun z _ => by omega) (fun z => by omega)
  · have hk := hw.lt (l := aS A (12 * p + s) % 16) (by omega) c2
    rw [wp_t (by decide), wp_bind, w_kind f pw hl, wp_bind, w_opOf h6 (by omega) st.1]
    refine step_cases (fun r => wp _ (fun m' => fr0 m m' ∧ RF m' Pl r.1 r.2)) (fun _ z => absurd z c2) (fun _ _ => ?_) (fun z _ => by omega) (fun z _ => by omega) (fun z => by omega)
    generalize hcode : aS A (12 * p + s) = code at *
    have j56 : ∀ y0 : Int32, nI (2 * pk Pl (code % 16)) + y0 = nI (nodeOf Pl (code / 16) (code % 16)) → wp (gjX12_doTake_56 (nI p) (nI s) (nI (code % 16)) y0 (nI (2 * pk Pl (code % 16))) m) (fun m' => fr0 m m' ∧ RF m' Pl (takeA Pl p s (code / 16) (nodeOf Pl (code / 16) (code % 16)) A H) (push H (code % 16) (nodeOf Pl (code / 16) (code % 16)))) := by
      intro y0 hy
      generalize hxn : nodeOf Pl (code / 16) (code % 16) = x at *
      unfold gjX12_doTake_56
      rw [wp_bind, wp_some, hy, wp_bind]
      refine wp_mono (r_keepChain k hw hk hx L5 lw.2.2.2.1 hA) (fun m1 ⟨f1, a1, C1⟩ => ?_)
      have x1 : fr0 m m1 := ⟨fun o h0 h1 h2 h3 h4 h5 => f1 o h1, fun j _ => by rw [f1 0 (by decide)]⟩
      have k1 : WKr m1 H := k.congr (by rw [f1 0 (by decide)]) (f1 18 (by decide)) (f1 19 (by decide))
      have R1 : RRr (m1 1) (aD (keepC A (chn H x))) := by rw [keep_D]; exact L1.congr lw.1 (fun j h1 h2 => a1 j (by omega))
      have Rg1 : GRr (m1 1) (aG (keepC A (chn H x))) := by rw [keep_G]; exact L2.congr (fun j hj => a1 j (by omega))
      have wD1 : RW (aD (keepC A (chn H x))) := by rw [keep_D]; exact lw.1
      have wG1 : GW (aG (keepC A (chn H x))) := by rw [keep_G]; exact lw.2.1
      have st1 : m1 1 (1541 + (12 * p + s)) = nI (code / 16) := by rw [a1 _ (by omega)]; exact st.1
      rw [wp_bind, w_opOf h6 (by omega) st1, L_3]
      have fin : ∀ (m2 : Mem) (DG : RD × GD), DG = (if code / 16 = 3 then (aD (keepC A (chn H x)), aG (keepC A (chn H x))) else learnN (aD (keepC A (chn H x)), aG (keepC A (chn H x))) p s (hD H) x (hK H)) → RW DG.1 → GW DG.2 → RRr (m2 1) DG.1 → GRr (m2 1) DG.2 → fr0 m1 m2 → WKr m2 H → (∀ j, (256 ≤ j ∧ j < 272 ∨ 1533 ≤ j) → m2 1 j = m1 1 j) → wp (gjX12_doTake_83 (nI p) (nI s) (nI (code % 16)) (nI x) m2) (fun m' => fr0 m m' ∧ RF m' Pl (takeA Pl p s (code / 16) x A H) (push H (code % 16) x)) := by
        intro m2 DG hDG wDG wGG R2 Rg2 x2 k2 a2
        refine wp_mono (r_take83 (A := A) (A1 := keepC A (chn H x)) (DG := DG) (d := code / 16) (f.fr (x1.trans x2)) k2 pw hp hs hw hk hx wDG wGG R2 Rg2 (fun y hy => ?_) (fun i hi => ?_)) (fun m3 ⟨x3, a3, k3, u3, Rg3, R3⟩ => ?_)
        · rw [a2 _ (by omega), a1 _ (by omega), keep_U]
          exact ⟨L3 y hy, lw.2.2.1 y hy⟩
        · have hv := pV_of pw hp (show i < pN Pl p by omega)
          rw [a2 _ (by omega), a1 _ (by omega)]
          exact ⟨(L8 _ hv).1, (sw _ hv).1⟩
        · have xx := (x1.trans x2).trans x3
          refine ⟨xx, ⟨?_, ?_, ?_, ?_, ?_, ?_⟩, f.fr xx, k3⟩
          · unfold takeA
            simp only
            rw [← hDG]
            exact R3
          · unfold takeA
            simp only
            rw [← hDG]
            exact Rg3
          · exact u3
          · intro q hq
            rw [a3 _ (by omega), a2 _ (by omega), a1 _ (by omega), L4 q hq]
            exact (congrFun keep_R q).symm
          · obtain ⟨c1, c2, c3⟩ := C1
            have kk := (keep_K (A := A) (c := chn H x)).2
            refine ⟨by rw [a3 _ (by omega), a2 _ (by omega)]; exact c1, by rw [a3 _ (by omega), a2 _ (by omega)]; exact c2, fun i hi => ?_⟩
            rw [a3 _ (by omega), a2 _ (by omega), a3 _ (by omega), a2 _ (by omega)]
            exact c3 i hi
          · intro j hj
            have := pV_lt pw hj
            rw [a3 _ (by omega), a2 _ (by omega), a1 _ (by omega), a3 _ (by omega), a2 _ (by omega), a1 _ (by omega), take_S]
            exact L8 j hj
      by_cases hd3 : code / 16 = 3
      · rw [wp_t (by rw [hd3])]
        exact fin m1 (aD (keepC A (chn H x)), aG (keepC A (chn H x))) (by rw [if_pos hd3]) wD1 wG1 R1 Rg1 (fr0.rfl' _) k1 (fun _ _ => rfl)
      · rw [wp_f (by rw [i_eq (by omega) (by decide)]; exact hd3), wp_bind]
        refine wp_mono (r_learn R1 wD1 Rg1 wG1 h6 (by omega) hx k1 hw) (fun m2 ⟨f2, a2, R2, Rg2⟩ => ?_)
        have wl := learnN_W wD1 wG1 (nd := hD H) (p := p) (s := s) h6 (by omega) hx (hK H) (fun j hj => (hw.2.1 j hj).2)
        exact fin m2 _ (by rw [if_neg hd3]) wl.1 wl.2 R2 Rg2 ⟨fun o h0 h1 h2 h3 h4 h5 => f2 o h1 h2 h3, fun j _ => by rw [f2 0 (by decide) (by decide) (by decide)]⟩ (k1.congr (by rw [f2 0 (by decide) (by decide) (by decide)]) (f2 18 (by decide) (by decide) (by decide)) (f2 19 (by decide) (by decide) (by decide))) a2
    have hk8 := pw.2.2.2.1 _ hl
    have hkk := pw.1
    rw [L_1, L_2, i_mul]
    by_cases hd1 : code / 16 = 1
    · rw [wp_t (by rw [hd1])]
      exact j56 _ (by unfold nodeOf; rw [if_pos hd1, i_add])
    · rw [wp_f (by rw [i_eq (by omega) (by decide)]; exact hd1)]
      exact j56 0 (by unfold nodeOf; rw [if_neg hd1, z_add0, Nat.add_zero])
theorem r_doDrop (F : RF m Pl A H) (pw : PW Pl) (hp : p < pP Pl) (hs : s < pN Pl p) (sw : SW Pl (aS A)) (lw : LW A) (hw : HW H) (hd : aS A (12 * p + s) / 16 = 4) : wp (gX12_doDrop m (nI p) (nI s)) (fun m' => fr0 m m' ∧ RF m' Pl (stepA Pl p s (A, H)).1 (stepA Pl p s (A, H)).2) := by
  have h12 := (pw.2.2.2.2 p hp).2.2
  have h6 : p < 6 := Nat.lt_of_lt_of_le hp pw.2.2.1
  have h10 := pw.2.1
  obtain ⟨v1, v2, v3⟩ := sw _ (pV_of pw hp hs)
  have hl := v2 (by omega)
  have F' := F
  obtain ⟨L, f, k⟩ := F
  have st := L.2.2.2.2.2 _ (pV_of pw hp hs)
  rw [if_pos (by omega)] at st
  have hk10 := hw.1
  unfold gX12_doDrop
  rw [wp_bind, w_lockOf h6 (by omega) st.2, wp_bind]
  refine wp_mono (r_placeHeld k hw (by omega)) ?_
  rintro r (⟨c2, rfl⟩ | ⟨c2, rfl⟩)
  · obtain ⟨q1, q2⟩ := plc_ok c2
    refine step_cases (fun r => wp _ (fun m' => fr0 m m' ∧ RF m' Pl r.1 r.2)) (fun z _ => by omega) (fun z _ => by omega) (fun _ _ => ?_) (fun _ z => absurd c2 z) (fun z => by omega)
    generalize plc H (aS A (12 * p + s) % 16) = q at q1 q2
    rw [wp_t (nI_pos' (by omega)), wp_bind, wp_some, k.1, L_1, i_sub (by omega), wp_bind]
    refine wp_mono (Q := fun m' => (∀ o, o ≠ 0 → o ≠ 18 → o ≠ 19 → m' o = m o) ∧ (∀ j, j ≠ 31 → m' 0 j = m 0 j) ∧ m' 0 31 = nI (hK H - 1) ∧ ∀ j, j < hK H - 1 → m' 18 j = nI (if j < q then hL H j else hL H (j + 1)) ∧ m' 19 j = nI (if j < q then hD H j else hD H (j + 1))) ?_ ?_
    · refine wp_for (κ := Mem) (fun i c => (nI i, c)) (hK H - 1) (fun i m' => q ≤ i ∧ (∀ o, o ≠ 0 → o ≠ 18 → o ≠ 19 → m' o = m o) ∧ (∀ j, j ≠ 31 → m' 0 j = m 0 j) ∧ m' 0 31 = nI (hK H - 1) ∧ (∀ j, i ≤ j → m' 18 j = m 18 j ∧ m' 19 j = m 19 j) ∧ ∀ j, j < i → m' 18 j = nI (if j < q then hL H j else hL H (j + 1)) ∧ m' 19 j = nI (if j < q then hD H j else hD H (j + 1))) (fun i c hi HH => ?_) (fun c HH => ?_) q _ (by omega) ⟨Nat.le_refl _, fun o h0 _ _ => up_r h0, fun j hj => by rw [up_a, if_neg hj], up_at, fun j hj => by rw [up_r (by decide), up_r (by decide)]; exact ⟨rfl, rfl⟩, fun j hj => ?_⟩ (by omega)
      · obtain ⟨hqi, g1, g2, g3, g4, g5⟩ := HH
        have ei := g4 (i + 1) (by omega)
        rw [(k.2 (i + 1) (by omega)).1, (k.2 (i + 1) (by omega)).2] at ei
        simp (disch := omega) only [gbX12_doDrop_49, g3, i_le, wp_f, L_1, i_add, wp_bind, w_rd, ei.1, w_wr, up_r, ei.2, wp_some, lq_l]
        refine ⟨up (up c 18 i (nI (hL H (i + 1)))) 19 i (nI (hD H (i + 1))), rfl, by omega, fun o h0 h1 h2 => by rw [up_r h2, up_r h1]; exact g1 o h0 h1 h2, fun j hj => by rw [up_r (by decide), up_r (by decide)]; exact g2 j hj, by rw [up_r (by decide), up_r (by decide)]; exact g3, fun j hj => ?_, fun j hj => ?_⟩
        · rw [up_r (by decide), up_a, if_neg (by omega), up_a, if_neg (by omega), up_r (by decide)]
          exact g4 j (by omega)
        · rw [up_r (by decide), up_a, up_a, up_r (by decide)]
          by_cases z : j = i
          · rw [if_pos z, if_pos z, if_neg (by omega), if_neg (by omega), z]; exact ⟨rfl, rfl⟩
          · rw [if_neg z, if_neg z]; exact g5 j (by omega)
      · obtain ⟨_, g1, g2, g3, g4, g5⟩ := HH
        simp (disch := omega) only [gbX12_doDrop_49, g3, i_le, wp_t, wp_some, lq_r]
        exact ⟨g1, g2, trivial, g5⟩
      · rw [up_r (by decide), up_r (by decide), if_pos hj, if_pos hj]
        exact k.2 j (by omega)
    · rintro m' ⟨g1, g2, g3, g5⟩
      rw [wp_some]
      have x : fr0 m m' := ⟨fun o h0 h1 h2 h3 h4 h5 => g1 o h0 h4 h5, g2⟩
      refine ⟨x, by rw [show m' 1 = m 1 from g1 1 (by decide) (by decide) (by decide)]; exact L, f.fr x, g3, g5⟩
  · refine step_cases (fun r => wp _ (fun m' => fr0 m m' ∧ RF m' Pl r.1 r.2)) (fun z _ => by omega) (fun z _ => by omega) (fun _ z => absurd z c2) (fun _ _ => ?_) (fun z => by omega)
    have hk8 := pw.2.2.2.1 _ hl
    have hkk := pw.1
    rw [wp_f (by decide), wp_bind, w_lockOf h6 (by omega) st.2, wp_bind, w_kind f pw hl, wp_bind, L_8, L_2, i_mul]
    refine wp_mono (r_tell F' pw lw) (fun m' HH => ?_)
    rw [wp_some]; exact HH
theorem r_step (F : RF m Pl A H) (pw : PW Pl) (hp : p < pP Pl) (hs : s < pN Pl p) (sw : SW Pl (aS A)) (lw : LW A) (hw : HW H) (hA : aK A < 4000) {Q : Mem → Prop} : wp (gbX12_goRun_7 (nI p) (nI s, m)) (lq (fun r => ∃ m', r = (nI (s + 1), m') ∧ fr0 m m' ∧ RF m' Pl (stepA Pl p s (A, H)).1 (stepA Pl p s (A, H)).2) Q) := by
  have h12 := (pw.2.2.2.2 p hp).2.2
  have h6 : p < 6 := Nat.lt_of_lt_of_le hp pw.2.2.1
  obtain ⟨v1, v2, v3⟩ := sw _ (pV_of pw hp hs)
  have F' := F
  obtain ⟨L, f, k⟩ := F
  have st := L.2.2.2.2.2 _ (pV_of pw hp hs)
  have e : ∀ {Q : Int32 → Prop}, wp (gX12_opOf m (nI p) (nI s)) Q = Q (nI (aS A (12 * p + s) / 16)) := fun {Q} => w_opOf h6 (by omega) st.1
  simp (disch := omega) only [gbX12_goRun_7, wp_bind, w_stepsOf f pw hp, i_le, wp_f, e, L_4]
  by_cases c1 : 4 ≤ aS A (12 * p + s) / 16
  · rw [wp_t c1]
    simp (disch := omega) only [wp_bind, e, L_4, i_eq]
    by_cases c2 : aS A (12 * p + s) / 16 = 4
    · rw [wp_t c2, wp_bind]
      refine wp_mono (r_doDrop F' pw hp hs sw lw hw c2) (fun m' HH => ?_)
      simp only [gjX12_goRun_51, wp_bind, wp_some, lq_l, L_1, i_add]
      exact ⟨m', rfl, HH⟩
    · rw [wp_f c2]
      simp only [gjX12_goRun_51, wp_bind, wp_some, lq_l, L_1, i_add]
      refine ⟨m, rfl, fr0.rfl' m, ?_⟩
      exact step_cases (fun r => RF m Pl r.1 r.2) (fun z _ => by omega) (fun z _ => by omega) (fun z _ => by omega) (fun z _ => by omega) (fun _ => F')
  · rw [wp_f c1, wp_bind]
    refine wp_mono (r_doTake F' pw hp hs sw lw hw hA (by omega)) (fun m' HH => ?_)
    simp only [gjX12_goRun_51, wp_bind, wp_some, lq_l, L_1, i_add]
    exact ⟨m', rfl, HH⟩
theorem r_goRun (L : LF (pV Pl) (m 1) A) (f : PF m Pl) (pw : PW Pl) (hp : p < pP Pl) (sw : SW Pl (aS A)) (lw : LW A) (hA : aK A + 12 ≤ 4000) : wp (gX12_goRun m (nI p)) (fun m' => fr0 m m' ∧ LF (pV Pl) (m' 1) (runA Pl p A)) := by
  have h12 := (pw.2.2.2.2 p hp).2.2
  have h6 : p < 6 := Nat.lt_of_lt_of_le hp pw.2.2.1
  unfold gX12_goRun
  rw [wp_bind, wp_some, wp_bind]
  have x0 : fr0 m (up m 0 31 0) := ⟨fun o h0 _ _ _ _ _ => up_r h0, fun j hj => by rw [up_a, if_neg hj]⟩
  have F0 : RF (up m 0 31 0) Pl A (0, fun _ => 0, fun _ => 0) := ⟨by rw [up_r (by decide)]; exact L, f.fr x0, up_at, fun i hi => absurd hi (Nat.not_lt_zero _)⟩
  refine wp_mono (Q := fun m' => fr0 m m' ∧ RF m' Pl (stepsA Pl p A (pN Pl p)).1 (stepsA Pl p A (pN Pl p)).2) ?_ ?_
  · refine wp_for (κ := Mem) (fun i c => (nI i, c)) (pN Pl p) (fun i m' => fr0 m m' ∧ RF m' Pl (stepsA Pl p A i).1 (stepsA Pl p A i).2) (fun i c hi HH => ?_) (fun c HH => ?_) 0 _ (Nat.zero_le _) ⟨x0, F0⟩ (by omega)
    · obtain ⟨a1, a2, a3, a4, a5, a6⟩ := stepsA_W pw hp sw lw hA i (by omega)
      refine wp_mono (r_step (Q := fun _ => False) HH.2 pw hp hi (by rw [a3]; exact sw) a1 a2 (by omega)) ?_
      intro r hr
      cases r with
      | inr e => exact hr.elim
      | inl e =>
        obtain ⟨m', e, x, F⟩ := hr
        exact ⟨m', e, HH.1.trans x, F⟩
    · simp (disch := omega) only [gbX12_goRun_7, wp_bind, w_stepsOf HH.2.2.1 pw hp, i_le, wp_t, wp_some, lq_r]
      exact HH
  · rintro m1 ⟨x1, F1⟩
    obtain ⟨a1, a2, a3, a4, a5, a6⟩ := stepsA_W pw hp sw lw hA (pN Pl p) (Nat.le_refl _)
    have hk10 := a2.1
    rw [wp_bind]
    have eB : runA Pl p A = (keptN (aD (stepsA Pl p A (pN Pl p)).1) p (pN Pl p) (hD (stepsA Pl p A (pN Pl p)).2) (hK (stepsA Pl p A (pN Pl p)).2), aG (stepsA Pl p A (pN Pl p)).1, aU (stepsA Pl p A (pN Pl p)).1, sbf (aR (stepsA Pl p A (pN Pl p)).1) p (aR (stepsA Pl p A (pN Pl p)).1 p + 1), (stepsA Pl p A (pN Pl p)).1.2.2.2.2) := rfl
    rw [eB]
    generalize stepsA Pl p A (pN Pl p) = B at *
    refine wp_mono (Q := fun m' => fr0 m m' ∧ RF m' Pl (setD B.1 (keptN (aD B.1) p (pN Pl p) (hD B.2) (hK B.2))) B.2) ?_ ?_
    · refine wp_for (κ := Mem) (fun i c => (nI i, c)) (hK B.2) (fun i m' => fr0 m m' ∧ RF m' Pl (setD B.1 (keptN (aD B.1) p (pN Pl p) (hD B.2) i)) B.2) (fun i c hi HH => ?_) (fun c HH => ?_) 0 m1 (Nat.zero_le _) ⟨x1, F1⟩ (by omega)
      · obtain ⟨x2, F2⟩ := HH
        have k2 := F2.2.2
        simp (disch := omega) only [gbX12_goRun_59, k2.1, i_le, wp_f, wp_bind, w_stepsOf F2.2.1 pw hp, w_rd, (k2.2 i hi).2, L_9]
        refine wp_mono (r_tell (A := setD B.1 (keptN (aD B.1) p (pN Pl p) (hD B.2) i)) F2 pw (setD_W a1 (keptN_W a1.1 h6 h12 i (fun j hj => (a2.2.1 j (by omega)).2)))) (fun m' HH => ?_)
        simp only [wp_some, lq_l, L_1, i_add]
        exact ⟨m', rfl, x2.trans HH.1, HH.2⟩
      · simp (disch := omega) only [gbX12_goRun_59, HH.2.2.2.1, i_le, wp_t, wp_some, lq_r]
        exact HH
    · rintro m2 ⟨x2, ⟨L1, L2, L3, L4, L5, L8⟩, f2, k2⟩
      have er := L4 p h6
      simp (disch := omega) only [wp_bind, L_1533, i_add, w_rd, er, w_wr, wp_some]
      have u : ∀ j, j ≠ 1533 + p → up m2 1 (1533 + p) (aR (setD B.1 (keptN (aD B.1) p (pN Pl p) (hD B.2) (hK B.2))) p + 1) 1 j = m2 1 j := fun j hj => by rw [up_a, if_neg hj]
      have wk := keptN_W a1.1 (p := p) (s := pN Pl p) h6 h12 (hK B.2) (fun j hj => (a2.2.1 j hj).2)
      refine ⟨⟨fun o h0 h1 h2 h3 h4 h5 => by rw [up_r h1]; exact x2.1 o h0 h1 h2 h3 h4 h5, fun j hj => by rw [up_r (by decide)]; exact x2.2 j hj⟩, ?_, ?_, ?_, ?_, ⟨?_, ?_, ?_⟩, ?_⟩
      · exact L1.congr wk (fun j h1 h2 => u j (by omega))
      · exact L2.congr (fun j hj => u j (by omega))
      · intro x hx; rw [u _ (by omega)]; exact L3 x hx
      · intro q hq
        show _ = sbf (aR B.1) p (aR B.1 p + 1) q
        by_cases z : q = p
        · rw [z, sbf_at, up_at]; rfl
        · rw [sbf_ne z, u _ (by omega)]; exact L4 q hq
      · rw [u _ (by omega)]; exact L5.1
      · rw [u _ (by omega)]; exact L5.2.1
      · intro i hi
        rw [u _ (by omega), u _ (by omega)]; exact L5.2.2 i hi
      · intro j hj
        rw [u _ (by omega), u _ (by omega)]; exact L8 j hj
end RG

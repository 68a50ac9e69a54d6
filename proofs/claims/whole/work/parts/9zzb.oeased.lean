/-! eased, on both sides: the class -/
section OEB
variable {h : Hp} {m m' : Mem} {g : GS} {own own' : Nat → Nat} {ad : Nat → Option Nat} {Pl : PD}
theorem vst_all (pw : PW Pl) : vst Pl (2 ^ pP Pl - 1) ↔ ∃ t, t < pP Pl ∧ pS Pl t = 0 := by
  have hp0 : 0 < 2 ^ pP Pl := Nat.two_pow_pos _
  constructor
  · rintro ⟨_, _, t, t1, _, t3⟩; exact ⟨t, t1, t3⟩
  · rintro ⟨t, t1, t3⟩
    exact vst_of pw (by omega) ⟨t, t1, by rw [Nat.testBit_two_pow_sub_one]; exact decide_eq_true t1, t3⟩
theorem o_eased (I : IC h g own ad) (F : FI h own (sP g)) (J : IR m g) (ok : okG g) (v u : Int32) : ∃ r h1 m1, fX11_eased h 0 v u = some (r, h1) ∧ gX12_eased m v u = some (r, m1) ∧ PST h h1 m1 g := by
  obtain ⟨b, n, rb, L, ob, hc, c74, hT, sw⟩ := ic_at I ok
  obtain ⟨cs, ow, _, _, ⟨P, hP, p1, p2, pc⟩, ⟨a1, a2⟩, _⟩ := id I
  have o3 := ok.2.2.2.1
  have pw := ok.2.1
  have p6 := pw.2.2.1
  have h64 := p64 pw
  have hp0 : 0 < 2 ^ pP (sP g) := Nat.two_pow_pos _
  have pc' : PC (wI h (hI h)) P (sP g) := pc
  have s5 : Sh5 h P := pc.1
  have s3 := L.1
  have s2 := cs.s2
  have s0 := cs.s0
  have pr : ∀ {Q : Nat → Prop}, wp (fX2_present (wI h (hI h)) 18) Q = Q b := fun {Q} => cs.present a1 (by have := ok.2.2.1; omega) rb
  have keep : ∀ m1, IR m1 g → PST h h m1 g := fun m1 J1 => ⟨J1, ok, ⟨own, ad, I, F⟩, by omega, by omega, fun _ _ _ _ => rfl⟩
  refine bo2 (R := fun h1 m1 => PST h h1 m1 g) ?_
  by_cases hv : inN v (pP (sP g)) ∧ inN u (pN (sP g) v.toNatClampNeg - 1)
  · obtain ⟨p, hp, rfl⟩ := inN_ex hv.1
    have hu := hv.2
    rw [nI_clamp (by omega)] at hu
    obtain ⟨s, hs, rfl⟩ := inN_ex hu
    have n12 := (pw.2.2.2.2 p hp).2.2
    have hj : 12 * p + s + 1 < 72 := by omega
    have v1 : pV (sP g) (12 * p + s) := by
      have e1 : (12 * p + s) / 12 = p := by omega
      have e2 : (12 * p + s) % 12 = s := by omega
      unfold pV
      rw [e1, e2]; exact ⟨hp, by omega⟩
    have v2 : pV (sP g) (12 * p + s + 1) := by
      have e1 : (12 * p + s + 1) / 12 = p := by omega
      have e2 : (12 * p + s + 1) % 12 = s + 1 := by omega
      unfold pV
      rw [e1, e2]; exact ⟨hp, by omega⟩
    have rr := r_eased J ok hp (show s + 1 < pN (sP g) p by omega)
    show wp (fX11_eased (wI h (hI h)) 0 (nI p) (nI s)) _
    unfold fX11_eased jX11_eased_22
    rw [wp_bind, cs.gr p1, wp_bind, s5.o, wp_bind, w_hasPair pc' pw, b01_t hv, wp_f (by decide), wp_bind, cs.gr p1, wp_bind, s5.o, wp_bind]
    refine wp_mono (c_tasks pc' pw) ?_
    intro tk7 htk
    by_cases vX : vst (sP g) (2 ^ pP (sP g) - 1)
    · rw [wp_f ?_]
      · rw [wp_bind, cs.gr cs.r13, wp_bind, cs.gr p1, wp_bind, cs.gr cs.r5, wp_bind, s2.o, wp_bind, pr, wp_bind, s3.r0, wp_bind, cs.gr p1, wp_bind, s5.o, wp_bind, w_everyone pc' pw, wp_bind, s0.o, wp_bind]
        show wp (fX0_outcomeOf h 74 P (b + 1) (nI (2 ^ pP (sP g) - 1))) _
        refine wp_mono (a_out I F ok p1 rb vX) ?_
        rintro ⟨r1, h1⟩ ⟨own1, g1, g2, g3, g4⟩
        change r1 = nI (oc (sP g) (cS (gT g)) (2 ^ pP (sP g) - 1)) at g4
        change FN h h1 own own1 at g1
        change FZ h1 own1 (sP g) (gT g) at g2
        have oc3 := oc_lt g3.2.2.1
        have fi := fi_z (fun j hj => (hT j hj).2) g2
        have I1 := ic_f I o3 g1
        have sz1 := g1.2.2.2.2.2.2.2
        subst g4
        show wp (if nI (oc (sP g) (cS (gT g)) (2 ^ pP (sP g) - 1)) = 2 then _ else _) _
        by_cases a2' : oc (sP g) (cS (gT g)) (2 ^ pP (sP g) - 1) = 2
        · rw [wp_t (by rw [a2']; rfl), wp_some]
          refine wp_mono rr ?_
          rintro ⟨r', m1⟩ ⟨q1, q2⟩
          refine ⟨?_, q1, ok, ⟨own1, ad, I1, fi⟩, by have := sz1.1; show hN h1 + sd h1 ≤ _; omega, by have := sz1.2; show hZ h1 + sz h1 ≤ _; omega, fn_mo ow cs.1 g1⟩
          change r' = _ at q2
          show r' = -1
          rw [q2]
          unfold eaV
          rw [ci_t vX, if_pos a2']; rfl
        · rw [wp_f (by rw [L_2, i_eq (by omega) (by decide)]; exact a2')]
          obtain ⟨b1, n1, rb1, L1, ob1, hc1, c741, hT1, sw1⟩ := ic_at I1 ok
          obtain ⟨cs1, ow1, _, _, ⟨P1, hP1, p11, p21, pc1⟩, ⟨a11, a21⟩, _⟩ := id I1
          have s31 := L1.1
          have s21 := cs1.s2
          have c120 := cs1.1
          have pr1 : ∀ {Q : Nat → Prop}, wp (fX2_present (wI h1 (hI h1)) 18) Q = Q b1 := fun {Q} => cs1.present a11 (by have := ok.2.2.1; omega) rb1
          have b73 : b1 + 1 ≠ 73 := fun z => by
            have := ow1.1 73 (by decide) (by decide) (by decide)
            rw [z] at ob1; omega
          show wp ((gR (wI h1 (hI h1)) 11 0 5).bind _) _
          rw [wp_bind, cs1.gr cs1.r5, wp_bind]
          show wp (gO (wI h1 (hI h1)) 2 18) _
          rw [s21.o, wp_bind]
          show wp (fX2_present (wI h1 (hI h1)) 18) _
          rw [pr1, wp_bind]
          show wp (gR (wI h1 (hI h1)) 3 b1 0) _
          rw [s31.r0, wp_bind]
          show wp (gR (wI h1 (hI h1)) 11 0 12) _
          rw [cs1.gr cs1.r12, wp_bind]
          show wp (gR (wI h1 (hI h1)) 11 0 12) _
          rw [cs1.gr cs1.r12, wp_bind]
          show wp (aL (wI h1 (hI h1)) .int 73) _
          rw [x_aL (by omega) cs1.t73, wp_bind]
          show wp (kI (wI h1 (hI h1)) .int (b1 + 1) 0 73 0 (nI 72)) _
          rw [w_kI hc1.1 hc1.2 (by omega) cs1.t73 (Nat.le_refl _) (Nat.le_refl _) (by decide), wp_bind, cs1.gr cs1.r12, wp_bind, c_exch (by omega) cs1.t73 hj]
          generalize hm2 : xcM (cpM (hI h1) (b1 + 1) 73 72) 73 (12 * p + s) = m2
          have m2o : ∀ a, a ≠ 73 → m2 a = hI h1 a := fun a ha => by rw [← hm2, xcM_r ha, cpM_r ha]
          have m273 : ∀ i, i < 72 → m2 73 i = nI (gT (gsw g (12 * p + s)) i) := fun i hi => by
            rw [← hm2, xcM_a, cpM_a (sj_lt hj hi), gsw_T]; exact (hT1 _ (sj_lt hj hi)).1
          have I2 := (I1.sc o3 (m' := m2) (fun a _ ha => m2o a ha)).1
          have fi2 : FI (wI h1 m2) own1 (sP g) := fi_k fi (XX.wI h1 m2) (fun a ha ho => ⟨fun j => by
            show m2 a j = _
            rw [m2o a (fun z => by rw [z, ow1.1 73 (by decide) (by decide) (by decide)] at ho; cases ho)], fun _ => rfl, fun _ => rfl⟩) (fun a h74 h120 j => by show m2 a j = _; rw [m2o a (by omega)]) rfl (fun _ _ q => q)
          have cs2 := I2.1
          have pc2 : PC (wI h1 m2) P1 (sP g) := PC.congr (h := h1) (m := hI h1) (m' := m2) pc1 (XX.rfl' h1) (fun y y1 y2 => m2o y (by omega))
          have s52 : Sh5 h1 P1 := pc1.1
          rw [wp_bind, cs1.gr cs1.r13, wp_bind, cs1.gr p11, wp_bind, cs1.gr cs1.r12, wp_bind, cs1.gr p11, wp_bind, s52.o, wp_bind, w_everyone pc2 pw, wp_bind, cs1.s0.o, wp_bind]
          have ok2 := ok_sw ok hj v1 v2
          have sw2 : SW (sP g) (gT (gsw g (12 * p + s))) := (ok2.2.2.2.2.1 (sA g) ok.2.2.1).2
          refine wp_mono (c_try (h := wI h1 m2) cs2.s0 ow1 cs2.1 fi2 pc2 hP1 pw sw2 cs2.t73 m273 vX) ?_
          rintro ⟨r3, h3⟩ ⟨own3, q1, q2, q3, q4⟩
          change r3 = nI _ at q3
          change FN (wI h1 m2) h3 own1 own3 at q1
          change FI h3 own3 (sP g) at q2
          have I3 := ic_f I2 o3 q1
          have sz3 := q1.2.2.2.2.2.2.2
          have e1 : sd (wI h1 m2) = sd h1 := rfl
          have e2 : sz (wI h1 m2) = sz h1 := rfl
          have e3 : hN (wI h1 m2) = hN h1 := rfl
          have e4 : hZ (wI h1 m2) = hZ h1 := rfl
          have fin : ∀ r, r = (if oc (sP g) (cS (gT (gsw g (12 * p + s)))) (2 ^ pP (sP g) - 1) = 2 then mI else if oc (sP g) (cS (gT g)) (2 ^ pP (sP g) - 1) = 1 ∧ oc (sP g) (cS (gT (gsw g (12 * p + s)))) (2 ^ pP (sP g) - 1) = 0 then 1 else 0) → wp (some (r, h3)) (fun r => wp (gX12_eased m (nI p) (nI s)) (fun r' => r'.1 = r.1 ∧ PST h r.2 r'.2 g)) := fun r hr => by
            rw [wp_some]
            refine wp_mono rr ?_
            rintro ⟨r', m1⟩ ⟨w1, w2⟩
            refine ⟨?_, w1, ok, ⟨own3, ad, I3, q2⟩, by have := sz1.1; have := sz3.1; show hN h3 + sd h3 ≤ _; omega, by have := sz1.2; have := sz3.2; show hZ h3 + sz h3 ≤ _; omega, fun a j h81 h120 => by show hI h3 a j = _; rw [fn_mo (h := wI h1 m2) ow1 cs2.1 q1 a j h81 h120]; show m2 a j = _; rw [m2o a (by omega)]; exact fn_mo ow cs.1 g1 a j h81 h120⟩
            change r' = _ at w2
            show r' = r
            rw [w2, hr]
            unfold eaV
            rw [ci_t vX, if_neg a2']
          subst q3
          show wp (if nI (oc (sP g) (cS (gT (gsw g (12 * p + s)))) (2 ^ pP (sP g) - 1)) = 2 then _ else _) _
          by_cases b2 : oc (sP g) (cS (gT (gsw g (12 * p + s)))) (2 ^ pP (sP g) - 1) = 2
          · rw [wp_t (by rw [b2]; rfl)]
            exact fin _ (by rw [if_pos b2]; rfl)
          · rw [wp_f (by rw [L_2, i_eq (by omega) (by decide)]; exact b2)]
            unfold jX11_eased_139 jX11_eased_140
            by_cases a1' : oc (sP g) (cS (gT g)) (2 ^ pP (sP g) - 1) = 1
            · rw [wp_t (by show nI _ = 1; rw [a1']; rfl)]
              by_cases b0 : oc (sP g) (cS (gT (gsw g (12 * p + s)))) (2 ^ pP (sP g) - 1) = 0
              · rw [wp_t (by show nI _ = 0; rw [b0]; rfl)]
                exact fin _ (by rw [if_neg b2, if_pos ⟨a1', b0⟩])
              · rw [wp_f (by show ¬ nI _ = 0; rw [z_eq (by omega)]; exact b0)]
                exact fin _ (by rw [if_neg b2, if_neg (fun q => b0 q.2)])
            · rw [wp_f (by show ¬ nI _ = 1; rw [L_1, i_eq (by omega) (by decide)]; exact a1')]
              exact fin _ (by rw [if_neg b2, if_neg (fun q => a1' q.1)])
      · intro e
        obtain ⟨t, t1, t2⟩ := (vst_all pw).mp vX
        have := (htk t (by omega)).mpr ⟨t1, t2⟩
        rw [e, b_0] at this
        cases this
    · rw [wp_t ?_]
      · rw [wp_some]
        refine wp_mono rr ?_
        rintro ⟨r', m1⟩ ⟨q1, q2⟩
        change r' = _ at q2
        refine ⟨?_, keep m1 q1⟩
        show r' = -1
        rw [q2]
        unfold eaV
        rw [ci_f vX]; rfl
      · refine b_ext fun t ht => ?_
        rw [b_0]
        cases hh : bt tk7 t
        · rfl
        · exact absurd ((vst_all pw).mpr ⟨t, (htk t ht).mp hh⟩) vX
  · show wp (fX11_eased (wI h (hI h)) 0 v u) _
    unfold fX11_eased jX11_eased_22 gX12_eased
    rw [wp_bind, cs.gr p1, wp_bind, s5.o, wp_bind, w_hasPair pc' pw, b01_n hv, wp_t rfl, wp_some, wp_bind, w_isPair J.2.2.1 pw, b01_n hv, wp_t rfl, wp_some]
    exact ⟨rfl, keep m J⟩
end OEB

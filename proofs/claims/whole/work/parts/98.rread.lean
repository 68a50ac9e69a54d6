/-! how the reference reads a text: lines, and all -/
section RR3
variable {m m' m1 m2 : Mem} {B : Nat → Int32} {n k w : Nat} {t : TT} {N : NT} {q : QT} {e : Nat × Nat}
theorem r_kind (R : RSr m k B n t N q (pP q.1)) (W : WF n t N q) (t9 : t.1 = 9) : wp (gX12_readLine m (nI k)) (fun m' => outc (sKind B n t N q) (fun e => FltR k m e m') (fun a => OkR k m B n a.1 a.2.1 a.2.2 (pP a.2.2.1) m')) := by
  obtain ⟨w1, w2, w3, w4, w5, w6⟩ := W
  have q1 := w3.1
  have q2 := w3.2.1
  have q3 := w3.2.2.1
  have k1 := R.2.2.2.2.2.2
  obtain ⟨p1, p2, p3, p4, p5, p6⟩ := R.2.2.2.1
  obtain ⟨x1, x2⟩ := nxt_W (B := B) w1
  have iw : ∀ {Q : Int32 → Prop}, wp (gX12_isWord m 9) Q = Q (b01 (t.1 = 9)) := fun {Q} => r_isWordT (v := 9) R (by decide) w1
  unfold gX12_readLine sKind gjX12_readLine_25 gjX12_readLine_36 gjX12_readLine_124
  rw [wp_bind, iw, b01_t t9, wp_f (by decide), wp_bind, w_rd (by omega) (by decide), p1, L_8]
  by_cases z : pK q.1 = 8
  · rw [wp_t (by rw [z]), if_pos z, wp_bind]
    refine wp_mono (r_failT (f := 4) R) (fun m1 f1 => ?_)
    have fe := FE_of w1 (show 1 ≤ 4 by decide) (by decide)
    rw [wp_f (nz_e f1.2.1 fe).2, wp_bind, w_rd (by omega) (by decide), wp_bind, r_newF f1 fe, wp_bind, w_rd (by omega) (by decide), wp_bind, w_wr (by omega) (by decide), wp_some]
    exact flt_up f1 (by omega)
  · rw [wp_f (fun y => z ((nI_eq (by omega) (by decide)).mp y)), if_neg z, R.2.2.2.2.1, wp_t rfl, wp_bind]
    refine wp_mono (r_scanT R w1 (by omega)) (fun m1 h1 => ?_)
    obtain ⟨f1, R1⟩ := h1
    rw [wp_bind, w_rd (by omega) (by decide), R1.2.2.2.1.1, wp_bind]
    refine wp_mono (r_newT (so := 0) (nu := pK q.1) R1 x1 w2 (by omega)) (fun m2 hr => ?_)
    cases e : sNew B n 0 (pK q.1) (nxt B n t) N with
    | inl f =>
      rw [e] at hr
      have hr' : FltR k m1 f m2 := hr
      rw [wp_bind, w_rd (by omega) (by decide), wp_bind, w_wr (by omega) (by decide), wp_some]
      exact flt_up (FltR.go f1 hr') (by omega)
    | inr a =>
      rw [e] at hr
      obtain ⟨f2, R2⟩ := hr
      obtain ⟨_, _, rfl⟩ := sNew_i e
      obtain ⟨o1, o2, o3, o4, o5, o6⟩ := R2.2.2.2.1
      rw [wp_bind, w_rd (by omega) (by decide), o1, wp_bind, w_wr (by omega) (by decide), wp_some, show nI (pK q.1) + 1 = nI (pK q.1 + 1) from i_add _ 1, obi_r]
      refine ⟨(f1.trans f2).trans (frr_w (by omega)), R2.pl (fun o ho => up_r (by omega)) ⟨up_at, by rw [up_r (by decide)]; exact o2, by rw [up_r (by decide)]; exact o3, by rw [up_r (by decide)]; exact o4, by rw [up_r (by decide), up_r (by decide)]; exact o5, by rw [up_r (by decide), up_r (by decide)]; exact o6⟩⟩
theorem r_lock (R : RSr m k B n t N q (pP q.1)) (W : WF n t N q) (h18 : t.1 ≠ 18) : wp (gX12_readLock m (nI k)) (fun m' => outc (sLock B n t N q) (fun e => FltR k m e m') (fun a => OkR k m B n a.1 a.2.1 a.2.2 (pP a.2.2.1) m')) := by
  obtain ⟨w1, w2, w3, w4, w5, w6⟩ := W
  have q1 := w3.1
  have q2 := w3.2.1
  have q3 := w3.2.2.1
  have k1 := R.2.2.2.2.2.2
  obtain ⟨p1, p2, p3, p4, p5, p6⟩ := R.2.2.2.1
  obtain ⟨x1, x2⟩ := nxt_W (B := B) w1
  have dead : ∀ {mm : Mem} {e : Nat × Nat}, FltR k m e mm → FE n e → wp (gjX12_readLock_60 (nI k) mm) (fun m' => FltR k m e m') := fun {mm e} f fe => by
    unfold gjX12_readLock_60
    rw [wp_bind, r_oldF f fe, wp_f (nz_e f.2.1 fe).1, wp_some]; exact f
  unfold gX12_readLock sLock gjX12_readLock_16
  rw [wp_bind, w_rd (by omega) (by decide), p2, L_10]
  by_cases z : pL q.1 = 10
  · rw [wp_t (by rw [z]), if_pos z, wp_bind]
    refine wp_mono (r_failT (f := 4) R) (fun m1 f1 => ?_)
    rw [wp_f (nz_e f1.2.1 (FE_of w1 (by decide) (by decide))).1, wp_some]
    exact f1
  · rw [wp_f (fun y => z ((nI_eq (by omega) (by decide)).mp y)), if_neg z, R.2.2.2.2.1, wp_t (by decide), wp_bind]
    refine wp_mono (r_scanT R w1 h18) (fun m1 h1 => ?_)
    obtain ⟨f1, R1⟩ := h1
    rw [wp_bind, w_rd (by omega) (by decide), R1.2.2.2.1.2.1, wp_bind]
    refine wp_mono (r_newT (so := 1) (nu := pL q.1) R1 x1 w2 (by omega)) (fun m2 hr => ?_)
    cases e : sNew B n 1 (pL q.1) (nxt B n t) N with
    | inl f =>
      rw [e] at hr
      have fe := sNew_e x1 e
      have hr' : FltR k m f m2 := FltR.go f1 hr
      rw [wp_bind, r_isWordF hr' fe, wp_t rfl, wp_bind, r_failF hr' fe]
      exact dead hr' fe
    | inr a =>
      rw [e] at hr
      obtain ⟨f2, R2⟩ := hr
      obtain ⟨_, _, rfl⟩ := sNew_i e
      obtain ⟨y1, y2⟩ := nxt_W (B := B) x1
      have nw := addN_W (so := 1) (nu := pL q.1) x1 w2 (by omega) (by decide) (by omega)
      have f12 := f1.trans f2
      have iw : ∀ {Q : Int32 → Prop}, wp (gX12_isWord m2 11) Q = Q (b01 ((nxt B n (nxt B n t)).1 = 11)) := fun {Q} => r_isWordT (v := 11) R2 (by decide) y1
      simp only [obi_r]
      rw [wp_bind, iw]
      cases e2 : sPass B n 11 (nxt B n (nxt B n t)) with
      | inl f =>
        have fe := sPass_e y1 e2
        have ne : ¬ (nxt B n (nxt B n t)).1 = 11 := fun c => by unfold sPass at e2; rw [if_pos c] at e2; cases e2
        have ef : f = (1, (nxt B n (nxt B n t)).2.1) := by unfold sPass at e2; rw [if_neg ne] at e2; cases e2; rfl
        rw [b01_n ne, wp_t rfl, wp_bind]
        refine wp_mono (r_failT (f := 1) R2) (fun m3 f3 => ?_)
        rw [ef] at fe ⊢
        exact dead (FltR.go f12 f3) fe
      | inr t2 =>
        obtain ⟨c11, rfl⟩ := sPass_i e2
        obtain ⟨y4, y5⟩ := nxt_W (B := B) y1
        rw [b01_t c11, wp_f (by decide), wp_bind]
        refine wp_mono (r_scanT R2 y1 (fun c => by have c' : (nxt B n (nxt B n t)).1 = 18 := c; rw [c11] at c'; cases c')) (fun m3 h3 => ?_)
        obtain ⟨f3, R3⟩ := h3
        have f13 := f12.trans f3
        simp only [obi_r]
        unfold gjX12_readLock_60
        rw [wp_bind]
        refine wp_mono (r_oldT (so := 0) R3 y4 nw (by decide)) ?_
        rintro ⟨r1, m4⟩ ⟨_, hr⟩
        cases e3 : sOld B n 0 (nxt B n (nxt B n (nxt B n t))) (addN N (nxt B n t) 1 (pL q.1)) with
        | inl f =>
          rw [e3] at hr
          have fe := sOld_e y4 e3
          have hr' : FltR k m3 f m4 := hr.2
          rw [wp_f (nz_e hr'.2.1 fe).1, wp_some]
          exact FltR.go f13 hr'
        | inr b =>
          rw [e3] at hr
          obtain ⟨z1, f4, R4⟩ := hr
          obtain ⟨_, i, i1, i2, rfl⟩ := sOld_i e3
          have z1' : r1 = nI (ntU (addN N (nxt B n t) 1 (pL q.1)) i) := z1
          have R4' : RSr m4 k B n (nxt B n (nxt B n (nxt B n (nxt B n t)))) (addN N (nxt B n t) 1 (pL q.1)) q (pP q.1) := R4
          have f4' : FRr k m3 m4 := f4
          obtain ⟨o1, o2, o3, o4, o5, o6⟩ := R4'.2.2.2.1
          have e10 : (10 : Int32) * nI k + nI (pL q.1) = nI (10 * k + pL q.1) := by rw [L_10, i_mul, i_add]
          simp only
          rw [z1']
          generalize ntU (addN N (nxt B n t) 1 (pL q.1)) i = kk
          rw [R4'.2.2.2.2.1, wp_t (by decide), wp_bind, w_rd (by omega) (by decide), o2, e10, wp_bind, w_wr (by omega) (by decide), wp_bind, w_rd (by omega) (by decide), up_r (show (3 : Nat) ≠ 5 by decide), o2, wp_bind, w_wr (by omega) (by decide), wp_some, show nI (pL q.1) + 1 = nI (pL q.1 + 1) from i_add _ 1, obi_r]
          refine ⟨((f13.trans f4').trans (frr_w (by omega))).trans (frr_w (by omega)), R4'.pl (fun o ho => by rw [up_r (by omega), up_r (by omega)]) ⟨by rw [up_r (by decide), up_r (by decide)]; exact o1, up_at, by rw [up_r (by decide), up_r (by decide)]; exact o3, fun l hl => ?_, by rw [up_r (by decide), up_r (by decide), up_r (by decide), up_r (by decide)]; exact o5, by rw [up_r (by decide), up_r (by decide), up_r (by decide), up_r (by decide)]; exact o6⟩⟩
          have hl' : l < pL q.1 + 1 := hl
          rw [up_r (by decide), up_a]
          show _ = nI (sbf (pk q.1) (pL q.1) kk l)
          by_cases y : l = pL q.1
          · rw [if_pos (by omega), y, sbf_at]
          · rw [if_neg (by omega), sbf_ne y]; exact o4 l (by omega)
theorem r_stepT (R : RSr m k B n t N q (pP q.1 + 1)) (W : TW n t) (x : NW n N) (qw : QW q (pP q.1 + 1)) (hP : pP q.1 < 6) : wp (gX12_readStep m (nI (6 * k + pP q.1))) (fun m' => outc (sStep B n t N q) (fun e => FltR k m e m') (fun a => OkR k m B n a.1 N a.2 (pP q.1 + 1) m')) := by
  have k1 := R.2.2.2.2.2.2
  have t18 := W.2.2.1
  obtain ⟨p1, p2, p3, p4, p5, p6⟩ := R.2.2.2.1
  have n12 := (qw.2.2.2.2.1 (pP q.1) (Nat.lt_succ_self _)).2
  obtain ⟨x1, x2⟩ := nxt_W (B := B) W
  have e7 := (p5 (pP q.1) (Nat.lt_succ_self _)).2
  have bad : ∀ f, 1 ≤ f → f ≤ 4 → wp ((gX12_fail m (nI f)).bind fun x => gjX12_readStep_55 (nI (6 * k + pP q.1)) x) (fun m' => FltR k m (f, t.2.1) m') := fun f h1 h4 => by
    rw [wp_bind]
    refine wp_mono (r_failT (f := f) R) (fun m1 f1 => ?_)
    unfold gjX12_readStep_55
    rw [wp_f (nz_e f1.2.1 (FE_of W h1 h4)).1, wp_some]
    exact f1
  have no : ¬ t.1 ≤ 8 → wp (gjX12_readStep_25 (nI (6 * k + pP q.1)) m) (fun m' => outc (sStep B n t N q) (fun e => FltR k m e m') (fun a => OkR k m B n a.1 N a.2 (pP q.1 + 1) m')) := fun z => by
    unfold sStep gjX12_readStep_25 gjX12_readStep_26
    rw [if_neg z, wp_t rfl]
    exact bad 1 (by decide) (by decide)
  have is8 : ∀ {v : Int32} {Q : Int32 → Prop}, wp (gX12_isIn v 0 8) Q = Q (b01 (inN v 9)) := fun {v Q} => w_isInK (K := 8) (by decide)
  unfold gX12_readStep
  have K := R.2.1.2.2
  rcases K with ⟨z, y⟩ | ⟨z, y⟩ | ⟨z, y⟩ | ⟨z, y, x16⟩
  · rw [y, wp_f (by decide)]; exact no (by omega)
  · rw [y, wp_f (by decide)]; exact no (by omega)
  · rw [y, wp_f (by decide)]; exact no (by omega)
  · rw [y, wp_t rfl, x16, wp_bind, is8]
    by_cases c15 : t.1 = 15
    · rw [if_pos c15, b01_n (fun c => c.1 (show mI < 0 by decide)), wp_t rfl]; exact no (by omega)
    · rw [if_neg c15]
      rw [if_neg c15] at x16
      by_cases c8 : t.1 ≤ 8
      · rw [b01_t ((inN_nI (by omega)).mpr (by omega)), wp_f (by decide)]
        unfold sStep gjX12_readStep_26
        rw [if_pos c8, wp_f (by decide), wp_bind, w_rd (by omega) (by decide), e7, L_12]
        by_cases c12 : pN q.1 (pP q.1) = 12
        · rw [wp_t (by rw [c12]), if_pos c12]
          exact bad 4 (by decide) (by decide)
        · rw [wp_f (fun c => c12 ((nI_eq (by omega) (by decide)).mp c)), if_neg c12]
          have ex : (12 : Int32) * nI (6 * k + pP q.1) + nI (pN q.1 (pP q.1)) = nI (72 * k + (12 * pP q.1 + pN q.1 (pP q.1))) := by rw [L_12, i_mul, i_add]; congr 1; omega
          unfold gjX12_readStep_55
          rw [R.2.2.2.2.1, wp_t (by decide), wp_bind, w_rd (by omega) (by decide), e7, wp_bind, wp_some, ex, wp_bind, w_wr (by omega) (by decide), wp_bind, w_wr (by omega) (by decide), x16, wp_bind]
          generalize hj : 72 * k + (12 * pP q.1 + pN q.1 (pP q.1)) = j
          generalize hm1 : up (up m 8 j (nI t.1)) 9 j (-1) = m1
          have f01 : FRr k m m1 := by rw [← hm1]; exact (frr_w (by omega)).trans (frr_w (by omega))
          have e8 : m1 8 j = nI t.1 := by rw [← hm1, up_r (by decide), up_at]
          have R1 : RSr m1 k B n t N q (pP q.1 + 1) := by
            refine R.pl (fun o ho => by rw [← hm1, up_r (by omega), up_r (by omega)]) ⟨by rw [← hm1, up_r (by decide), up_r (by decide)]; exact p1, by rw [← hm1, up_r (by decide), up_r (by decide)]; exact p2, by rw [← hm1, up_r (by decide), up_r (by decide)]; exact p3, by rw [← hm1, up_r (by decide), up_r (by decide)]; exact p4, by rw [← hm1, up_r (by decide), up_r (by decide), up_r (by decide), up_r (by decide)]; exact p5, fun p s hp hs => ?_⟩
            have p12 := (qw.2.2.2.2.1 p hp).2
            have ne : 72 * k + (12 * p + s) ≠ j := fun c => by
              by_cases c2 : p = pP q.1
              · rw [c2] at hs c; omega
              · omega
            rw [← hm1, up_r (by decide), up_j ne, up_j ne, up_r (by decide)]
            exact p6 p s hp hs
          refine wp_mono (wp_and (r_scanT R1 W (by omega)) (r_scan0 R1 W (by omega))) (fun m2 h2 => ?_)
          obtain ⟨⟨f2, R2⟩, g2⟩ := h2
          have f02 := f01.trans f2
          have e82 : m2 8 j = nI t.1 := by rw [g2 8 (by decide)]; exact e8
          have e92 : m2 9 j = mI := by rw [g2 9 (by decide), ← hm1, up_at]; rfl
          -- one step more stands
          have fin : ∀ (mm : Mem) (t' : TT) (l : Nat), FRr k m mm → RSr mm k B n t' N q (pP q.1 + 1) → mm 8 j = nI t.1 → (l < 16 ∧ mm 9 j = if (16 * t.1 + l) / 16 ≤ 4 then nI ((16 * t.1 + l) % 16) else mI) → wp (gjX12_readStep_117 (nI (6 * k + pP q.1)) mm) (fun m' => OkR k m B n t' N (stepQ q (16 * t.1 + l)) (pP q.1 + 1) m') := fun mm t' l fm Rm g8 g9 => by
            obtain ⟨o1, o2, o3, o4, o5, o6⟩ := Rm.2.2.2.1
            unfold gjX12_readStep_117
            rw [wp_bind, w_rd (by omega) (by decide), (o5 (pP q.1) (Nat.lt_succ_self _)).2, wp_bind, w_wr (by omega) (by decide), wp_some, show nI (pN q.1 (pP q.1)) + 1 = nI (pN q.1 (pP q.1) + 1) from i_add _ 1]
            refine ⟨fm.trans (frr_w (by omega)), Rm.pl (fun o ho => up_r (by omega)) ⟨by rw [up_r (by decide)]; exact o1, by rw [up_r (by decide)]; exact o2, by rw [up_r (by decide)]; exact o3, by rw [up_r (by decide)]; exact o4, fun p hp => ⟨by rw [up_r (by decide)]; exact (o5 p hp).1, ?_⟩, fun p s hp hs => ?_⟩⟩
            · rw [up_a]
              show _ = nI (sbf (pN q.1) (pP q.1) (pN q.1 (pP q.1) + 1) p)
              by_cases c : p = pP q.1
              · rw [if_pos (by omega), c, sbf_at]
              · rw [if_neg (by omega), sbf_ne c]; exact (o5 p hp).2
            · rw [up_r (by decide), up_r (by decide)]
              change s < sbf (pN q.1) (pP q.1) (pN q.1 (pP q.1) + 1) p at hs
              have p12 := (qw.2.2.2.2.1 p hp).2
              have q2e : (stepQ q (16 * t.1 + l)).2 = sbf q.2 (12 * pP q.1 + pN q.1 (pP q.1)) (16 * t.1 + l) := rfl
              rw [q2e]
              by_cases c : 12 * p + s = 12 * pP q.1 + pN q.1 (pP q.1)
              · have g9' := g9.2
                rw [c, sbf_at, hj, g8, g9', show (16 * t.1 + l) / 16 = t.1 by have := g9.1; omega]
                exact ⟨rfl, rfl⟩
              · rw [sbf_ne c]
                refine o6 p s hp ?_
                by_cases c2 : p = pP q.1
                · rw [c2, sbf_at] at hs
                  rw [c2] at c ⊢; omega
                · rw [sbf_ne c2] at hs; exact hs
          rw [wp_bind, w_rd (by omega) (by decide), e82, L_4]
          by_cases c4 : t.1 ≤ 4
          · rw [wp_f (fun c => by have := (nI_ltI (by decide) (by omega)).mp c; omega), if_pos c4, wp_bind]
            refine wp_mono (r_oldT (so := 1) R2 x1 x (by decide)) ?_
            rintro ⟨r1, m3⟩ ⟨g3, hr⟩
            have g3' : ∀ o, o ≠ 0 → m3 o = m2 o := g3
            rw [wp_bind]
            show wp (wr m3 9 144 (nI j) r1) _
            rw [w_wr (by omega) (by decide)]
            cases e3 : sOld B n 1 (nxt B n t) N with
            | inl f =>
              rw [e3] at hr
              have fe := sOld_e x1 e3
              have hr' : FltR k m f m3 := FltR.go f02 hr.2
              unfold gjX12_readStep_117
              rw [wp_bind, w_rd (by omega) (by decide), wp_bind, w_wr (by omega) (by decide), wp_some]
              exact flt_up (flt_up hr' (by omega)) (by omega)
            | inr b =>
              rw [e3] at hr
              obtain ⟨z1, f3, R3⟩ := hr
              obtain ⟨_, i, i1, i2, rfl⟩ := sOld_i e3
              have k0 := (x.2 i i1).2.2
              have z1' : r1 = nI (ntU N i) := z1
              have f3' : FRr k m2 m3 := f3
              have R3' : RSr m3 k B n (nxt B n (nxt B n t)) N q (pP q.1 + 1) := R3
              obtain ⟨o1, o2, o3, o4, o5, o6⟩ := R3'.2.2.2.1
              subst z1'
              rw [obi_r]
              refine fin (up m3 9 j (nI (ntU N i))) _ (ntU N i) ((f02.trans f3').trans (frr_w (by omega))) (R3'.pl (fun o ho => up_r (by omega)) ⟨by rw [up_r (by decide)]; exact o1, by rw [up_r (by decide)]; exact o2, by rw [up_r (by decide)]; exact o3, by rw [up_r (by decide)]; exact o4, by rw [up_r (by decide), up_r (by decide)]; exact o5, fun p s hp hs => ?_⟩) (by rw [up_r (by decide), g3' 8 (by decide)]; exact e82) ⟨by omega, by rw [up_at, if_pos (by omega), show (16 * t.1 + ntU N i) % 16 = ntU N i by omega]⟩
              have p12 := (qw.2.2.2.2.1 p hp).2
              have ne : 72 * k + (12 * p + s) ≠ j := fun c => by
                by_cases c2 : p = pP q.1
                · rw [c2] at hs c; omega
                · omega
              rw [up_r (by decide), up_j ne]
              exact o6 p s hp hs
          · rw [wp_t ((nI_ltI (by decide) (by omega)).mpr (by omega)), if_neg c4]
            exact fin m2 _ 0 f02 R2 e82 ⟨by decide, by rw [if_neg (by omega)]; exact e92⟩
      · rw [b01_n (fun c => c8 (by have := (inN_nI (by omega)).mp c; omega)), wp_t rfl]; exact no c8
theorem r_steps (R : RSr m k B n t N q (pP q.1 + 1)) (W : TW n t) (x : NW n N) (qw : QW q (pP q.1 + 1)) (n1 : NQ N 1 (pL q.1)) (hP : pP q.1 < 6) (h0 : pN q.1 (pP q.1) = 0) : wp (lp (gbX12_readProgram_65 (nI k) (nI (6 * k + pP q.1))) FU m) (fun m' => outc (sSteps B n N 13 t q) (fun e => FltR k m e m') (fun a => OkR k m B n a.1 N a.2 (pP q.1 + 1) m')) := by
  have k1 := R.2.2.2.2.2.2
  refine wp_for (κ := Mem × OT (TT × QT)) (fun _ c => c.1) 13 (fun i c => outc c.2 (fun e => FE n e ∧ FltR k m e c.1 ∧ sSteps B n N 13 t q = .inl e) (fun a => FRr k m c.1 ∧ RSr c.1 k B n a.1 N a.2 (pP q.1 + 1) ∧ TW n a.1 ∧ QW a.2 (pP a.2.1 + 1) ∧ (pL a.2.1 = pL q.1 ∧ pP a.2.1 = pP q.1) ∧ pN a.2.1 (pP q.1) = i ∧ sSteps B n N 13 t q = if 1 ≤ i ∧ a.1.1 = 16 then .inr a else sSteps B n N (13 - i) a.1 a.2)) (fun i c hi HH => ?_) (fun c HH => ?_) 0 (m, .inr (t, q)) (Nat.zero_le _) ⟨FRr.rfl' k m, R, W, qw, ⟨rfl, rfl⟩, h0, by rw [if_neg (fun c => absurd c.1 (by decide))]⟩ (by decide)
  · obtain ⟨mm, o⟩ := c
    unfold gbX12_readProgram_65 gjX12_readProgram_88
    simp only
    cases o with
    | inl e =>
      obtain ⟨fe, f, hTe⟩ := HH
      rw [wp_f (nz_e f.2.1 fe).2, wp_some, lq_r, hTe]
      exact f
    | inr a =>
      obtain ⟨f1, Ra, Wa, qa, ⟨eL, eP⟩, hpn, hTa⟩ := HH
      simp only at f1 Ra Wa qa eL eP hpn hTa
      have t18 := Wa.2.2.1
      have nq1 : NQ N 1 (pL a.2.1) := by rw [eL]; exact n1
      have swa := sStep_W (B := B) Wa x qa nq1
      have e7 := (Ra.2.2.2.1.2.2.2.2.1 (pP q.1) (Nat.lt_succ_self _)).2
      rw [hpn] at e7
      have go : ¬ (1 ≤ i ∧ a.1.1 = 16) → wp ((gX12_readStep mm (nI (6 * k + pP q.1))).bind fun x14 => some (.inl x14)) (lq (fun s' => ∃ c' : Mem × OT (TT × QT), s' = c'.1 ∧ outc c'.2 (fun e => FE n e ∧ FltR k m e c'.1 ∧ sSteps B n N 13 t q = .inl e) (fun a => FRr k m c'.1 ∧ RSr c'.1 k B n a.1 N a.2 (pP q.1 + 1) ∧ TW n a.1 ∧ QW a.2 (pP a.2.1 + 1) ∧ (pL a.2.1 = pL q.1 ∧ pP a.2.1 = pP q.1) ∧ pN a.2.1 (pP q.1) = i + 1 ∧ sSteps B n N 13 t q = if 1 ≤ i + 1 ∧ a.1.1 = 16 then .inr a else sSteps B n N (13 - (i + 1)) a.1 a.2)) (fun m' => outc (sSteps B n N 13 t q) (fun e => FltR k m e m') (fun a => OkR k m B n a.1 N a.2 (pP q.1 + 1) m'))) := fun z => by
        rw [if_neg z, show 13 - i = (13 - (i + 1)) + 1 by omega, sSteps_s (t := a.1)] at hTa
        have st := r_stepT (m := mm) (k := k) (t := a.1) (q := a.2) (by rw [eP]; exact Ra) Wa x qa (by rw [eP]; exact hP)
        rw [eP] at st
        rw [wp_bind]
        refine wp_mono st (fun m3 hr => ?_)
        rw [wp_some, lq_l]
        cases e : sStep B n a.1 N a.2 with
        | inl f =>
          rw [e] at hr swa hTa
          exact ⟨(m3, .inl f), rfl, swa, FltR.go f1 hr, hTa⟩
        | inr b =>
          rw [e] at hr swa hTa
          obtain ⟨e2, R'⟩ := hr
          obtain ⟨s1, s2, s3, ⟨s4, s5, s6⟩, s7⟩ := swa
          rw [eP] at s7
          refine ⟨(m3, .inr b), rfl, f1.trans e2, R', s1, s2, ⟨s5.trans eL, s6.trans eP⟩, by omega, ?_⟩
          rw [hTa, obi_r]
          by_cases c : b.1.1 = 16
          · rw [if_pos c, if_pos ⟨by omega, c⟩]
          · rw [if_neg c, if_neg (fun c2 => c c2.2)]
      rw [Ra.2.2.2.2.1, wp_t rfl, wp_bind, w_rd (by omega) (by decide), e7]
      by_cases z0 : i = 0
      · rw [wp_t ((nI_z (by omega)).mpr z0)]
        exact go (by omega)
      · rw [wp_f (fun c => z0 ((nI_z (by omega)).mp c)), wp_bind, r_isStopT Ra Wa]
        by_cases z : a.1.1 = 16
        · rw [b01_t z, wp_f (by decide), wp_some, lq_r, hTa, if_pos ⟨by omega, z⟩]
          exact ⟨f1, Ra⟩
        · rw [b01_n z, wp_t rfl]
          exact go (fun c => z c.2)
  · obtain ⟨mm, o⟩ := c
    cases o with
    | inl e =>
      obtain ⟨fe, f, hTe⟩ := HH
      unfold gbX12_readProgram_65
      simp only
      rw [wp_f (nz_e f.2.1 fe).2, wp_some, lq_r, hTe]
      exact f
    | inr a =>
      obtain ⟨f1, Ra, Wa, qa, ⟨eL, eP⟩, hpn, hTa⟩ := HH
      have := (qa.2.2.2.2.1 (pP a.2.1) (Nat.lt_succ_self _)).2
      rw [eP] at this
      omega
theorem r_prog (R : RSr m k B n t N q (pP q.1)) (W : WF n t N q) (t12 : 12 ≤ t.1) (t14 : t.1 ≤ 14) : wp (gX12_readProgram m (nI k) (nI (t.1 - 12))) (fun m' => outc (sProg B n t N q) (fun e => FltR k m e m') (fun a => OkR k m B n a.1 a.2.1 a.2.2 (pP a.2.2.1) m')) := by
  obtain ⟨w1, w2, w3, w4, w5, w6⟩ := W
  have q1 := w3.1
  have q2 := w3.2.1
  have q3 := w3.2.2.1
  have k1 := R.2.2.2.2.2.2
  obtain ⟨p1, p2, p3, p4, p5, p6⟩ := R.2.2.2.1
  obtain ⟨x1, x2⟩ := nxt_W (B := B) w1
  unfold gX12_readProgram sProg gjX12_readProgram_16
  rw [wp_bind, w_rd (by omega) (by decide), p3, L_6]
  by_cases z : pP q.1 = 6
  · rw [wp_t (by rw [z]), if_pos z, wp_bind]
    refine wp_mono (r_failT (f := 4) R) (fun m1 f1 => ?_)
    rw [wp_f (nz_e f1.2.1 (FE_of w1 (by decide) (by decide))).1, wp_some]
    exact f1
  · have hP : pP q.1 < 6 := by omega
    have e6 : nI 6 * nI k + nI (pP q.1) = nI (6 * k + pP q.1) := by rw [i_mul, i_add]
    rw [wp_f (fun y => z ((nI_eq (by omega) (by decide)).mp y)), if_neg z, R.2.2.2.2.1, wp_t (by decide), wp_bind]
    refine wp_mono (r_scanT R w1 (by omega)) (fun m1 h1 => ?_)
    obtain ⟨f1, R1⟩ := h1
    rw [wp_bind, w_rd (by omega) (by decide), R1.2.2.2.1.2.2.1, wp_bind, wp_some, e6, wp_bind, w_rd (by omega) (by decide), R1.2.2.2.1.2.2.1, wp_bind]
    refine wp_mono (r_newT (so := 2) (nu := pP q.1) R1 x1 w2 (by omega)) (fun m2 hr => ?_)
    rw [wp_bind, w_wr (by omega) (by decide), wp_bind, w_wr (by omega) (by decide), wp_bind]
    cases e : sNew B n 2 (pP q.1) (nxt B n t) N with
    | inl f =>
      rw [e] at hr
      have fe := sNew_e x1 e
      have hr' : FltR k m f m2 := FltR.go f1 hr
      have hr2 : FltR k m f (up (up m2 6 (6 * k + pP q.1) (nI (t.1 - 12))) 7 (6 * k + pP q.1) 0) := flt_up (flt_up hr' (by omega)) (by omega)
      rw [obi_l]
      refine wp_mono (Q := fun m' => FltR k m f m') ?_ (fun m3 f3 => ?_)
      · refine wp_lp (fun k' s => s = up (up m2 6 (6 * k + pP q.1) (nI (t.1 - 12))) 7 (6 * k + pP q.1) 0) (fun k' s es => ?_) (n := 0) rfl (by decide)
        subst es
        unfold gbX12_readProgram_65
        rw [wp_f (nz_e hr2.2.1 fe).2, wp_some, lq_r]
        exact hr2
      · unfold gjX12_readProgram_113
        rw [wp_f (nz_e f3.2.1 fe).2, wp_some]
        exact f3
    | inr a =>
      rw [e] at hr
      obtain ⟨f2, R2⟩ := hr
      obtain ⟨_, _, rfl⟩ := sNew_i e
      obtain ⟨y1, y2⟩ := nxt_W (B := B) x1
      have nw := addN_W (so := 2) (nu := pP q.1) x1 w2 (by omega) (by decide) (by omega)
      have nq1 : NQ (addN N (nxt B n t) 2 (pP q.1)) 1 (pL q.1) := NQ_add w5 (Nat.le_refl _) (fun z => by cases z)
      have qw1 := progQ_W w3 z (show t.1 - 12 ≤ 2 by omega)
      have R2' : RSr m2 k B n (nxt B n (nxt B n t)) (addN N (nxt B n t) 2 (pP q.1)) q (pP q.1) := R2
      have f2' : FRr k m1 m2 := f2
      obtain ⟨o1, o2, o3, o4, o5, o6⟩ := R2'.2.2.2.1
      generalize hm3 : up (up m2 6 (6 * k + pP q.1) (nI (t.1 - 12))) 7 (6 * k + pP q.1) 0 = m3
      have f3 : FRr k m m3 := by rw [← hm3]; exact ((f1.trans f2').trans (frr_w (by omega))).trans (frr_w (by omega))
      have R3 : RSr m3 k B n (nxt B n (nxt B n t)) (addN N (nxt B n t) 2 (pP q.1)) (progQ q (t.1 - 12)) (pP (progQ q (t.1 - 12)).1 + 1) := by
        refine R2'.pl (fun o ho => by rw [← hm3, up_r (by omega), up_r (by omega)]) ⟨by rw [← hm3, up_r (by decide), up_r (by decide)]; exact o1, by rw [← hm3, up_r (by decide), up_r (by decide)]; exact o2, by rw [← hm3, up_r (by decide), up_r (by decide)]; exact o3, by rw [← hm3, up_r (by decide), up_r (by decide)]; exact o4, fun p hp => ?_, fun p s hp hs => ?_⟩
        · have hp' : p < pP q.1 + 1 := hp
          show _ = nI (sbf (pS q.1) (pP q.1) (t.1 - 12) p) ∧ _ = nI (sbf (pN q.1) (pP q.1) 0 p)
          rw [← hm3, up_r (show (6 : Nat) ≠ 7 by decide), up_a, up_a, up_r (show (7 : Nat) ≠ 6 by decide)]
          by_cases c : p = pP q.1
          · rw [if_pos (by omega), if_pos (by omega), c, sbf_at, sbf_at]; exact ⟨rfl, rfl⟩
          · rw [if_neg (by omega), if_neg (by omega), sbf_ne c, sbf_ne c]; exact o5 p (by omega)
        · have hp' : p < pP q.1 + 1 := hp
          change s < sbf (pN q.1) (pP q.1) 0 p at hs
          rw [← hm3, up_r (by decide), up_r (by decide), up_r (by decide), up_r (by decide)]
          by_cases c : p = pP q.1
          · rw [c, sbf_at] at hs; exact absurd hs (Nat.not_lt_zero _)
          · rw [sbf_ne c] at hs; exact o6 p s (by omega) hs
      simp only [obi_r]
      refine wp_mono (r_steps (q := progQ q (t.1 - 12)) R3 y1 nw qw1 nq1 hP sbf_at) (fun m4 he => ?_)
      have sw := sSteps_W (B := B) nw 13 (nxt B n (nxt B n t)) (progQ q (t.1 - 12)) y1 qw1 nq1
      unfold gjX12_readProgram_113
      cases e2 : sSteps B n (addN N (nxt B n t) 2 (pP q.1)) 13 (nxt B n (nxt B n t)) (progQ q (t.1 - 12)) with
      | inl f =>
        rw [e2] at he sw
        have he' : FltR k m3 f m4 := he
        have sw' : FE n f := sw
        rw [wp_f (nz_e he'.2.1 sw').2, wp_some]
        exact FltR.go f3 he'
      | inr b =>
        rw [e2] at he sw
        obtain ⟨f4, R4⟩ := he
        obtain ⟨i1, i2, i3, ⟨i4, i5, i6⟩, i7, i8⟩ := sw
        have i6' : pP b.2.1 = pP q.1 := i6
        have R4' : RSr m4 k B n b.1 (addN N (nxt B n t) 2 (pP q.1)) b.2 (pP q.1 + 1) := R4
        have f4' : FRr k m3 m4 := f4
        obtain ⟨u1, u2, u3, u4, u5, u6⟩ := R4'.2.2.2.1
        rw [i6'] at u3
        rw [R4'.2.2.2.2.1, wp_t rfl, wp_bind, w_rd (by omega) (by decide), u3, wp_bind, w_wr (by omega) (by decide), wp_some, show nI (pP q.1) + 1 = nI (pP q.1 + 1) from i_add _ 1]
        refine ⟨(f3.trans f4').trans (frr_w (by omega)), R4'.pl (fun o ho => up_r (by omega)) ⟨by rw [up_r (by decide)]; exact u1, by rw [up_r (by decide)]; exact u2, by rw [up_at]; show _ = nI (pP b.2.1 + 1); rw [i6'], by rw [up_r (by decide)]; exact u4, fun p hp => ?_, fun p s hp hs => ?_⟩⟩
        · have hp' : p < pP b.2.1 + 1 := hp
          rw [up_r (by decide), up_r (by decide)]; exact u5 p (by omega)
        · have hp' : p < pP b.2.1 + 1 := hp
          rw [up_r (by decide), up_r (by decide)]; exact u6 p s (by omega) hs
theorem r_line (R : RSr m k B n t N q (pP q.1)) (W : WF n t N q) : wp (gX12_readLine m (nI k)) (fun m' => outc (sLine B n t N q) (fun e => FltR k m e m') (fun a => OkR k m B n a.1 a.2.1 a.2.2 (pP a.2.2.1) m')) := by
  have w1 := W.1
  have iw : ∀ (v : Nat) {Q : Int32 → Prop}, v < 15 → wp (gX12_isWord m (nI v)) Q = Q (b01 (t.1 = v)) := fun v {Q} hv => r_isWordT R hv w1
  unfold sLine
  by_cases z1 : t.1 = 9
  · rw [if_pos z1]; exact r_kind R W z1
  · have c9 : ∀ {Q : Int32 → Prop}, wp (gX12_isWord m 9) Q = Q 0 := fun {Q} => (iw 9 (by decide)).trans (by rw [b01_n z1])
    rw [if_neg z1]
    unfold gX12_readLine gjX12_readLine_124 gjX12_readLine_104 gjX12_readLine_124
    rw [wp_bind, c9, wp_t rfl]
    by_cases z2 : t.1 = 10
    · have c10 : ∀ {Q : Int32 → Prop}, wp (gX12_isWord m 10) Q = Q 1 := fun {Q} => (iw 10 (by decide)).trans (by rw [b01_t z2])
      rw [if_pos z2, wp_bind, c10, wp_f (by decide), wp_bind]
      refine wp_mono (r_lock R W (by omega)) (fun m' hr => ?_)
      rw [wp_some]; exact hr
    · have c10 : ∀ {Q : Int32 → Prop}, wp (gX12_isWord m 10) Q = Q 0 := fun {Q} => (iw 10 (by decide)).trans (by rw [b01_n z2])
      have c12 : ∀ {Q : Int32 → Prop}, wp (gX12_isWord m 12) Q = Q (b01 (t.1 = 12)) := fun {Q} => iw 12 (by decide)
      have c13 : ∀ {Q : Int32 → Prop}, wp (gX12_isWord m 13) Q = Q (b01 (t.1 = 13)) := fun {Q} => iw 13 (by decide)
      have c14 : ∀ {Q : Int32 → Prop}, wp (gX12_isWord m 14) Q = Q (b01 (t.1 = 14)) := fun {Q} => iw 14 (by decide)
      rw [if_neg z2, wp_bind, c10, wp_t rfl, wp_bind, c12]
      by_cases z3 : 12 ≤ t.1 ∧ t.1 ≤ 14
      · rw [if_pos z3]
        have e16 : m 0 16 - 12 = nI (t.1 - 12) := by
          obtain ⟨_, ⟨_, _, K⟩, _⟩ := R
          rcases K with ⟨z, y⟩ | ⟨z, y⟩ | ⟨z, y⟩ | ⟨z, y, x⟩
          · omega
          · omega
          · omega
          · rw [x, if_neg (by omega), L_12, i_sub z3.1]
        have pr : wp ((gX12_readProgram m (nI k) (m 0 16 - 12)).bind fun x7 => some x7) (fun m' => outc (sProg B n t N q) (fun e => FltR k m e m') (fun a => OkR k m B n a.1 a.2.1 a.2.2 (pP a.2.2.1) m')) := by
          rw [e16, wp_bind]
          refine wp_mono (r_prog R W z3.1 z3.2) (fun m' hr => ?_)
          rw [wp_some]; exact hr
        by_cases y1 : t.1 = 12
        · rw [b01_t y1, wp_f (by decide)]; exact pr
        · rw [b01_n y1, wp_t rfl, wp_bind, c13]
          by_cases y2 : t.1 = 13
          · rw [b01_t y2, wp_f (by decide)]; exact pr
          · rw [b01_n y2, wp_t rfl, wp_bind, c14, b01_t (show t.1 = 14 by omega), wp_f (by decide)]; exact pr
      · rw [if_neg z3, b01_n (show ¬ t.1 = 12 by omega), wp_t rfl, wp_bind, c13, b01_n (show ¬ t.1 = 13 by omega), wp_t rfl, wp_bind, c14, b01_n (show ¬ t.1 = 14 by omega), wp_t rfl, wp_bind]
        refine wp_mono (r_failT (f := 1) R) (fun m' hr => ?_)
        rw [wp_some]; exact hr
theorem r_readAll (T : TXr m B n) (e13 : m 0 13 = nI 0) (M : NMr m N0) (p : PLr m k Q0 0) (f0 : m 0 17 = 0) (f1 : m 0 18 = mI) (k1 : k ≤ 1) : wp (gX12_readAll m (nI k)) (fun m' => outc (sAll B n (n + 1) (tok B n 0) N0 Q0) (fun e => FltR k m e m') (fun a => OkR k m B n a.1 a.2.1 a.2.2 (pP a.2.2.1) m')) := by
  have n9 := T.2.1
  obtain ⟨t1', t2', t3', t4', t5'⟩ := tok_ok (B := B) (n := n) (p := 0) (Nat.zero_le _)
  have W0 : WF n (tok B n 0) N0 Q0 := WF_0 ⟨t2', t3', t4', t5'⟩
  unfold gX12_readAll
  rw [wp_bind]
  refine wp_mono (r_scan T (Nat.zero_le _) e13) ?_
  rintro m0 ⟨g1, g2, K⟩
  have fr0' : FRr k m m0 := ⟨fun o h => g1 o (by omega), fun j h => g2 j (by omega) (by omega) (by omega) (by omega), fun o j h1 _ => by rw [g1 o (by omega)], fun j _ => by rw [g1 5 (by decide)], fun o j h1 _ => by rw [g1 o (by omega)]⟩
  have R0 : RSr m0 k B n (tok B n 0) N0 Q0 (pP Q0.1) := by
    refine ⟨T.go (g2 12 (by decide) (by decide) (by decide) (by decide)) (g1 10 (by decide)) (g1 11 (by decide)), K, ⟨by rw [g2 26 (by decide) (by decide) (by decide) (by decide)]; exact M.1, fun i hi => absurd hi (Nat.not_lt_zero _)⟩, ?_, by rw [g2 17 (by decide) (by decide) (by decide) (by decide)]; exact f0, by rw [g2 18 (by decide) (by decide) (by decide) (by decide)]; exact f1, k1⟩
    show PLr m0 k Q0 0
    unfold PLr
    rw [g1 2 (by decide), g1 3 (by decide), g1 4 (by decide), g1 5 (by decide), g1 6 (by decide), g1 7 (by decide), g1 8 (by decide), g1 9 (by decide)]; exact p
  rw [wp_bind]
  refine wp_mono (Q := fun m' => outc (sAll B n (n + 1) (tok B n 0) N0 Q0) (fun e => FltR k m e m') (fun a => OkR k m B n a.1 a.2.1 a.2.2 (pP a.2.2.1) m')) ?_ (fun m' hr => by rw [wp_some]; exact hr)
  refine wp_for (κ := Mem × OT (TT × NT × QT)) (fun _ c => c.1) (n + 1) (fun i c => outc c.2 (fun e => FE n e ∧ FltR k m e c.1 ∧ sAll B n (n + 1) (tok B n 0) N0 Q0 = .inl e) (fun a => FRr k m c.1 ∧ RSr c.1 k B n a.1 a.2.1 a.2.2 (pP a.2.2.1) ∧ WF n a.1 a.2.1 a.2.2 ∧ i ≤ a.1.2.2 ∧ sAll B n (n + 1) (tok B n 0) N0 Q0 = sAll B n (n + 1 - i) a.1 a.2.1 a.2.2)) (fun i c hi HH => ?_) (fun c HH => ?_) 0 (m0, .inr (tok B n 0, N0, Q0)) (Nat.zero_le _) ⟨fr0', R0, W0, Nat.zero_le _, rfl⟩ (by omega)
  · obtain ⟨mm, o⟩ := c
    unfold gbX12_readAll_4
    simp only
    cases o with
    | inl e =>
      obtain ⟨fe, f, hTe⟩ := HH
      rw [wp_f (nz_e f.2.1 fe).2, wp_some, lq_r, hTe]
      exact f
    | inr a =>
      obtain ⟨fm, Ra, Wa, hen, hTa⟩ := HH
      simp only at fm Ra Wa hen hTa
      rw [show n + 1 - i = (n - i) + 1 by omega, sAll_s (t := a.1)] at hTa
      have t15 : mm 0 15 = 0 ↔ a.1.1 = 17 := by
        obtain ⟨_, ⟨_, _, K⟩, _⟩ := Ra
        rcases K with ⟨z, y⟩ | ⟨z, y⟩ | ⟨z, y⟩ | ⟨z, y, _⟩
        · exact ⟨fun _ => z, fun _ => y⟩
        · exact ⟨fun c => by rw [y] at c; exact absurd c (by decide), fun c => by omega⟩
        · exact ⟨fun c => by rw [y] at c; exact absurd c (by decide), fun c => by omega⟩
        · exact ⟨fun c => by rw [y] at c; exact absurd c (by decide), fun c => by omega⟩
      rw [Ra.2.2.2.2.1, wp_t rfl]
      by_cases z : a.1.1 = 17
      · rw [wp_t (t15.mpr z), wp_some, lq_r, hTa, if_pos z]
        exact ⟨fm, Ra⟩
      · rw [wp_f (fun c => z (t15.mp c)), wp_bind]
        rw [if_neg z] at hTa
        have swl := sLine_W (B := B) Wa
        have sw := sStop_W (B := B) swl
        refine wp_mono (r_line Ra Wa) (fun m2 hr => ?_)
        rw [wp_bind]
        cases e : sLine B n a.1 a.2.1 a.2.2 with
        | inl f =>
          rw [e] at hr swl sw hTa
          have fe : FE n f := swl
          have hr' : FltR k m f m2 := FltR.go fm hr
          rw [r_isStopF hr' fe, wp_t rfl, wp_bind, r_failF hr' fe, wp_some, lq_l]
          exact ⟨(m2, .inl f), rfl, fe, hr', hTa⟩
        | inr b =>
          rw [e] at hr swl sw hTa
          obtain ⟨f2, R2⟩ := hr
          obtain ⟨W2, _⟩ := swl
          have f02 := fm.trans f2
          rw [r_isStopT R2 W2.1]
          by_cases y : b.1.1 = 16
          · have ep : sStop B n (.inr b) = .inr (nxt B n b.1, b.2) := by unfold sStop sPass; rw [obi_r, if_pos y]; rfl
            rw [ep] at sw hTa
            rw [b01_t y, wp_f (by decide), wp_bind]
            refine wp_mono (r_scanT R2 W2.1 (by omega)) (fun m3 hr => ?_)
            obtain ⟨f3, R3⟩ := hr
            rw [wp_some, lq_l]
            refine ⟨(m3, .inr (nxt B n b.1, b.2)), rfl, f02.trans f3, R3, sw.1, by have := sw.2; omega, ?_⟩
            rw [show n + 1 - (i + 1) = n - i by omega]; exact hTa
          · have ep : sStop B n (.inr b) = .inl (1, b.1.2.1) := by unfold sStop sPass; rw [obi_r, if_neg y]; rfl
            rw [ep] at sw hTa
            rw [b01_n y, wp_t rfl, wp_bind]
            refine wp_mono (r_failT (f := 1) R2) (fun m3 hr => ?_)
            rw [wp_some, lq_l]
            exact ⟨(m3, .inl (1, b.1.2.1)), rfl, sw, FltR.go f02 hr, hTa⟩
  · obtain ⟨mm, o⟩ := c
    cases o with
    | inl e =>
      obtain ⟨fe, f, hTe⟩ := HH
      unfold gbX12_readAll_4
      simp only
      rw [wp_f (nz_e f.2.1 fe).2, wp_some, lq_r, hTe]
      exact f
    | inr a =>
      obtain ⟨fm, Ra, Wa, hen, hTa⟩ := HH
      have := Wa.1.2.1
      omega
end RR3

/-! how the class reads a text: programs, and all -/
section CR2
variable {h : Hp} {m m' : Mem} {B : Nat → Int32} {n Q w : Nat} {t : TT} {N : NT} {q : QT}
theorem sSteps_s {f : Nat} : sSteps B n N (f + 1) t q = obi (sStep B n t N q) fun a => if a.1.1 = 16 then .inr a else sSteps B n N f a.1 a.2 := by rw [sSteps]
theorem sAll_s {f : Nat} : sAll B n (f + 1) t N q = if t.1 = 17 then .inr (t, N, q) else obi (sStop B n (sLine B n t N q)) fun a => sAll B n f a.1 a.2.1 a.2.2 := by rw [sAll]
theorem pack_ok : ∀ d, d < 9 → ∀ l, l < 16 → (nI d <<< ((4 : Int32) &&& 31)) ||| nI l = nI (16 * d + l) := by decide +kernel
theorem c_58 {d l : Nat} (R : RSc h m Q B n t N q (pP q.1 + 1)) (hP : pP q.1 < 6) (hN : pN q.1 (pP q.1) < 12) (hd : d ≤ 8) (hl : l < 16) : wp (jX6_readStep_58 2 (nI (pP q.1)) (nI d) (nI l) (wI h m)) (fun r => Okc h m Q B n t N (stepQ q (16 * d + l)) (pP q.1 + 1) r) := by
  have s5 : Sh5 h Q := R.2.2.2.1.1
  have q8 := R.2.2.2.2.2.2.2
  obtain ⟨p0, p1, p2, p3, p4, p5, p6, p7⟩ := R.2.2.2.1
  have e12 : nI (pP q.1) * 12 + nI (pN q.1 (pP q.1)) = nI (12 * pP q.1 + pN q.1 (pP q.1)) := by rw [L_12, i_mul, i_add, Nat.mul_comm]
  unfold jX6_readStep_58 jX6_readStep_104
  rw [wp_f (nI_m1 (by omega)), wp_bind, R.gp, wp_bind, s5.r6, wp_bind, R.gp, wp_bind, s5.r5, wp_bind, s5.l5 hP, p6 _ hP, wp_bind]
  unfold fX11_packStep
  rw [wp_some, pack_ok d (by omega) l hl, wp_bind, e12, s5.t6 (by omega), wp_bind, R.gp, wp_bind, s5.r5, wp_bind, s5.l5 hP, up_r (show Q + 3 ≠ Q + 4 by omega), p6 _ hP, wp_bind, s5.t5 hP, wp_some, show nI (pN q.1 (pP q.1)) + 1 = nI (pN q.1 (pP q.1) + 1) from i_add _ 1]
  refine ⟨_, rfl, fun a h1 h2 h3 => by rw [up_r (by omega), up_r (by omega)], R.pl (fun a ha => by rw [up_r (by omega), up_r (by omega)]) ⟨p0, by rw [up_r (by omega), up_r (by omega)]; exact p1, by rw [up_r (by omega), up_r (by omega)]; exact p2, by rw [up_r (by omega), up_r (by omega)]; exact p3, by rw [up_r (by omega), up_r (by omega)]; exact p4, by rw [up_r (by omega), up_r (by omega)]; exact p5, fun p hp => ?_, fun j hj => ?_⟩⟩
  · rw [up_a, up_r (show Q + 3 ≠ Q + 4 by omega)]
    show _ = nI (sbf (pN q.1) (pP q.1) (pN q.1 (pP q.1) + 1) p)
    by_cases y : p = pP q.1
    · rw [if_pos y, y, sbf_at]
    · rw [if_neg y, sbf_ne y]; exact p6 p hp
  · rw [up_r (show Q + 4 ≠ Q + 3 by omega), up_a]
    show _ = nI (sbf q.2 (12 * pP q.1 + pN q.1 (pP q.1)) (16 * d + l) j)
    by_cases y : j = 12 * pP q.1 + pN q.1 (pP q.1)
    · rw [if_pos y, y, sbf_at]
    · rw [if_neg y, sbf_ne y]; exact p7 j hj
theorem c_stepT (R : RSc h m Q B n t N q (pP q.1 + 1)) (W : TW n t) (x : NW n N) (qw : QW q (pP q.1 + 1)) (hP : pP q.1 < 6) : wp (fX6_readStep (wI h m) 2 (nI (pP q.1))) (fun r => outc (sStep B n t N q) (fun e => Flt h m Q e r) (fun a => Okc h m Q B n a.1 N a.2 (pP q.1 + 1) r)) := by
  have s6 := R.1.1
  have s5 : Sh5 h Q := R.2.2.2.1.1
  have t18 := W.2.2.1
  have k1 := R.2.1.1
  have p6 := R.2.2.2.1.2.2.2.2.2.2.1
  have n12 := (qw.2.2.2.2.1 (pP q.1) (Nat.lt_succ_self _)).2
  obtain ⟨x1, x2⟩ := nxt_W (B := B) W
  unfold fX6_readStep sStep
  rw [wp_bind, s6.g5, k1, L_8]
  by_cases z : t.1 ≤ 8
  · rw [wp_t (nI_le z (by decide)), if_pos z, wp_bind, R.gp, wp_bind, s5.r5, wp_bind, s5.l5 hP, p6 _ hP, L_12]
    by_cases z2 : pN q.1 (pP q.1) = 12
    · rw [wp_t (by rw [z2]), if_pos z2, wp_bind, s6.o, wp_bind]
      refine wp_mono (c_failT (f := 4) R) (fun r hr => ?_)
      rw [wp_some]; exact hr
    · rw [wp_f (fun y => z2 ((nI_eq (by omega) (by decide)).mp y)), if_neg z2, wp_bind, s6.g5, k1, wp_bind, s6.o, wp_bind]
      refine wp_mono (c_nextT R W) ?_
      rintro r ⟨m1, rfl, f1, R1⟩
      rw [L_4]
      by_cases z4 : t.1 ≤ 4
      · rw [wp_f (fun y => by have := (nI_ltI (by decide) (by omega)).mp y; omega), if_pos z4, wp_bind, s6.o, wp_bind]
        refine wp_mono (c_knownT (so := 1) R1 x1 x (by decide)) ?_
        rintro ⟨r1, r2⟩ hr
        cases e3 : sOld B n 1 (nxt B n t) N with
        | inl f =>
          rw [e3] at hr
          obtain ⟨z1, z2'⟩ := hr
          have z1' : r1 = mI := z1
          subst z1'
          unfold jX6_readStep_58 jX6_readStep_104
          rw [wp_t (show mI = -1 from rfl), wp_some, obi_l]
          exact Flt.go f1 z2'
        | inr b =>
          rw [e3] at hr
          obtain ⟨z1, m2, z2', f2, R2⟩ := hr
          obtain ⟨_, i, i1, i2, rfl⟩ := sOld_i e3
          have k0 := (x.2 i i1).2.2
          have z1' : r1 = nI (ntU N i) := z1
          have z3 : r2 = wI h m2 := z2'
          subst z1'
          subst z3
          rw [obi_r]
          refine wp_mono (c_58 R2 hP (by omega) z (by omega)) (fun r hr => ?_)
          exact Okc.go (f1.trans f2) hr
      · rw [wp_t ((nI_ltI (by decide) (by omega)).mpr (by omega)), if_neg z4]
        refine wp_mono (c_58 (l := 0) R1 hP (by omega) z (by decide)) (fun r hr => ?_)
        exact Okc.go f1 hr
  · rw [wp_f (fun y => z ((nI_leI (by omega) (by decide)).mp y)), if_neg z, wp_bind, s6.o, wp_bind]
    refine wp_mono (c_failT (f := 1) R) (fun r hr => ?_)
    rw [wp_some]; exact hr
theorem c_steps (R : RSc h m Q B n t N q (pP q.1 + 1)) (W : TW n t) (x : NW n N) (qw : QW q (pP q.1 + 1)) (n1 : NQ N 1 (pL q.1)) (hP : pP q.1 < 6) : wp (fX6_readStep (wI h m) 2 (nI (pP q.1))) (fun x16 => wp (lp (bX6_readProgram_63 2 (nI (pP q.1))) FU (0, x16)) (fun r => outc (sSteps B n N 13 t q) (fun e => Flt h m Q e r) (fun a => Okc h m Q B n a.1 N a.2 (pP q.1 + 1) r))) := by
  have s6 := R.1.1
  refine wp_mono (c_stepT R W x qw hP) (fun r hr => ?_)
  have sw := sStep_W (B := B) W x qw n1
  have hT : sSteps B n N 13 t q = obi (sStep B n t N q) fun a => if a.1.1 = 16 then .inr a else sSteps B n N 12 a.1 a.2 := by rw [sSteps]
  have start : ∃ c : Mem × OT (TT × QT), r = wI h c.1 ∧ outc c.2 (fun e => FE n e ∧ (FRc Q m c.1 ∧ c.1 2 0 = nI e.1 ∧ c.1 2 1 = nI e.2) ∧ sSteps B n N 13 t q = .inl e) (fun a => FRc Q m c.1 ∧ RSc h c.1 Q B n a.1 N a.2 (pP q.1 + 1) ∧ TW n a.1 ∧ QW a.2 (pP a.2.1 + 1) ∧ (pL a.2.1 = pL q.1 ∧ pP a.2.1 = pP q.1) ∧ 0 + 1 ≤ pN a.2.1 (pP q.1) ∧ sSteps B n N 13 t q = if a.1.1 = 16 then .inr a else sSteps B n N (12 - 0) a.1 a.2) := by
    cases e : sStep B n t N q with
    | inl f =>
      rw [e] at hr sw
      obtain ⟨m', e1, e2, e3, e4⟩ := hr
      refine ⟨(m', .inl f), e1, sw, ⟨e2, e3, e4⟩, ?_⟩
      rw [hT, e]; rfl
    | inr a =>
      rw [e] at hr sw
      obtain ⟨m', e1, e2, R'⟩ := hr
      obtain ⟨s1, s2, s3, ⟨s4, s5, s6⟩, s7⟩ := sw
      refine ⟨(m', .inr a), e1, e2, R', s1, s2, ⟨s5, s6⟩, by omega, ?_⟩
      rw [hT, e]; rfl
  obtain ⟨c0, rfl, hc0⟩ := start
  refine wp_for (κ := Mem × OT (TT × QT)) (fun i c => (nI i, wI h c.1)) 12 (fun i c => outc c.2 (fun e => FE n e ∧ (FRc Q m c.1 ∧ c.1 2 0 = nI e.1 ∧ c.1 2 1 = nI e.2) ∧ sSteps B n N 13 t q = .inl e) (fun a => FRc Q m c.1 ∧ RSc h c.1 Q B n a.1 N a.2 (pP q.1 + 1) ∧ TW n a.1 ∧ QW a.2 (pP a.2.1 + 1) ∧ (pL a.2.1 = pL q.1 ∧ pP a.2.1 = pP q.1) ∧ i + 1 ≤ pN a.2.1 (pP q.1) ∧ sSteps B n N 13 t q = if a.1.1 = 16 then .inr a else sSteps B n N (12 - i) a.1 a.2)) (fun i c hi HH => ?_) (fun c HH => ?_) 0 c0 (Nat.zero_le _) hc0 (by decide)
  · obtain ⟨mm, o⟩ := c
    unfold bX6_readProgram_63
    simp only
    rw [L_12, wp_f (fun y => by have := (nI_ltI (by decide) (by omega)).mp y; omega), wp_bind, s6.g0]
    cases o with
    | inl e =>
      obtain ⟨fe, ⟨f1, f2, f3⟩, hTe⟩ := HH
      simp only at f1 f2 f3
      rw [f2, wp_f (fun y => by have := fe.1; have := fe.2.1; have := (nI_z (by omega)).mp y; omega), wp_some, lq_r, hTe]
      exact ⟨mm, rfl, f1, f2, f3⟩
    | inr a =>
      obtain ⟨f1, Ra, Wa, qa, ⟨eL, eP⟩, hpn, hTa⟩ := HH
      simp only at f1 Ra Wa qa eL eP hpn hTa
      have t18 := Wa.2.2.1
      rw [Ra.2.2.2.2.2.1, wp_t rfl, wp_bind, s6.g5, Ra.2.1.1, L_16]
      by_cases z : a.1.1 = 16
      · rw [wp_t (by rw [z]), wp_some, lq_r, hTa, if_pos z]
        exact ⟨mm, rfl, f1, Ra⟩
      · rw [wp_f (fun y => z ((nI_eq (by omega) (by decide)).mp y)), wp_bind, s6.o, wp_bind]
        rw [if_neg z, show 12 - i = (12 - (i + 1)) + 1 by omega, sSteps_s (t := a.1)] at hTa
        have nq1 : NQ N 1 (pL a.2.1) := by rw [eL]; exact n1
        have swa := sStep_W (B := B) Wa x qa nq1
        have st := c_stepT (h := h) (m := mm) (Q := Q) (t := a.1) (q := a.2) (by rw [eP]; exact Ra) Wa x qa (by rw [eP]; exact hP)
        rw [eP] at st
        refine wp_mono st (fun r hr => ?_)
        rw [wp_bind, wp_some, wp_some, lq_l, show nI i + 1 = nI (i + 1) from i_add _ 1]
        cases e : sStep B n a.1 N a.2 with
        | inl f =>
          rw [e] at hr swa hTa
          obtain ⟨m', e1, e2, e3, e4⟩ := hr
          exact ⟨(m', .inl f), by rw [e1], swa, ⟨f1.trans e2, e3, e4⟩, hTa⟩
        | inr b =>
          rw [e] at hr swa hTa
          obtain ⟨m', e1, e2, R'⟩ := hr
          obtain ⟨s1, s2, s3, ⟨s4, s5, s6'⟩, s7⟩ := swa
          rw [eP] at s7
          exact ⟨(m', .inr b), by rw [e1], f1.trans e2, R', s1, s2, ⟨s5.trans eL, s6'.trans eP⟩, by omega, hTa⟩
  · obtain ⟨mm, o⟩ := c
    unfold bX6_readProgram_63
    simp only
    rw [L_12, wp_f (fun y => by have := (nI_ltI (by decide) (by decide)).mp y; omega), wp_bind, s6.g0]
    cases o with
    | inl e =>
      obtain ⟨fe, ⟨f1, f2, f3⟩, hTe⟩ := HH
      simp only at f1 f2 f3
      rw [f2, wp_f (fun y => by have := fe.1; have := fe.2.1; have := (nI_z (by omega)).mp y; omega), wp_some, lq_r, hTe]
      exact ⟨mm, rfl, f1, f2, f3⟩
    | inr a =>
      obtain ⟨f1, Ra, Wa, qa, ⟨eL, eP⟩, hpn, hTa⟩ := HH
      have := (qa.2.2.2.2.1 (pP a.2.1) (Nat.lt_succ_self _)).2
      rw [eP] at this
      omega
theorem c_prog (R : RSc h m Q B n t N q (pP q.1)) (W : WF n t N q) (t12 : 12 ≤ t.1) (t14 : t.1 ≤ 14) : wp (fX6_readProgram (wI h m) 2) (fun r => outc (sStop B n (sProg B n t N q)) (fun e => Flt h m Q e r) (fun a => Okc h m Q B n a.1 a.2.1 a.2.2 (pP a.2.2.1) r)) := by
  obtain ⟨w1, w2, w3, w4, w5, w6⟩ := W
  have s6 := R.1.1
  have s5 : Sh5 h Q := R.2.2.2.1.1
  have q1 := w3.1
  have q2 := w3.2.1
  have q3 := w3.2.2.1
  have q8 := R.2.2.2.2.2.2.2
  obtain ⟨p0, p1, p2, p3, p4, p5, p6, p7⟩ := R.2.2.2.1
  obtain ⟨x1, x2⟩ := nxt_W (B := B) w1
  unfold fX6_readProgram sStop sProg jX6_readProgram_123
  rw [wp_bind, R.gp, wp_bind, s5.g2, p3, L_6]
  by_cases z : pP q.1 = 6
  · rw [wp_t (by rw [z]), if_pos z, wp_bind, s6.o, wp_bind]
    refine wp_mono (c_failT (f := 4) R) (fun r hr => ?_)
    rw [wp_some]; exact hr
  · have hP : pP q.1 < 6 := by omega
    rw [wp_f (fun y => z ((nI_eq (by omega) (by decide)).mp y)), if_neg z, wp_bind, R.gp, wp_bind, s5.g2, p3, wp_bind, R.gp, wp_bind, s5.r4, wp_bind, s6.g5, R.2.1.1, L_12, i_sub t12, wp_bind, s5.t4 hP]
    generalize hm1 : up m (Q + 2) (pP q.1) (nI (t.1 - 12)) = m1
    have f1 : FRc Q m m1 := fun a h1 h2 h3 => by rw [← hm1, up_r (by omega)]
    have R1 : RSc h m1 Q B n t N (progQ q (t.1 - 12)) (pP q.1 + 1) := by
      refine R.pl (fun a ha => by rw [← hm1, up_r (by omega)]) ⟨p0, by rw [← hm1, up_r (by omega)]; exact p1, by rw [← hm1, up_r (by omega)]; exact p2, by rw [← hm1, up_r (by omega)]; exact p3, by rw [← hm1, up_r (by omega)]; exact p4, fun p hp => ?_, fun p hp => ?_, by rw [← hm1, up_r (by omega)]; exact p7⟩
      · rw [← hm1, up_a]
        show _ = nI (sbf (pS q.1) (pP q.1) (t.1 - 12) p)
        by_cases y : p = pP q.1
        · rw [if_pos y, y, sbf_at]
        · rw [if_neg y, sbf_ne y]; exact p5 p (by omega)
      · rw [← hm1, up_r (by omega), p6 p hp]
        show _ = nI (sbf (pN q.1) (pP q.1) 0 p)
        by_cases y : p = pP q.1
        · rw [y, sbf_at, w3.2.2.2.2.2.2.1 (pP q.1) (Nat.le_refl _)]
        · rw [sbf_ne y]
    have qw1 := progQ_W w3 z (show t.1 - 12 ≤ 2 by omega)
    rw [wp_bind, s6.o, wp_bind]
    refine wp_mono (c_nextT R1 w1) ?_
    rintro r ⟨m2, rfl, f2, R2⟩
    rw [wp_bind, s6.o, wp_bind]
    refine wp_mono (c_tellT (so := 2) (nu := pP q.1) R2 x1 w2 (by omega)) ?_
    rintro ⟨r1, r2⟩ hr
    have f12 := f1.trans f2
    cases e : sNew B n 2 (pP q.1) (nxt B n t) N with
    | inl f =>
      rw [e] at hr
      obtain ⟨z1, z2⟩ := hr
      have z1' : r1 = 0 := z1
      subst z1'
      rw [wp_t rfl, wp_some]
      exact Flt.go f12 z2
    | inr a =>
      rw [e] at hr
      obtain ⟨z1, m3, z2, f3, R3⟩ := hr
      have z1' : r1 = 1 := z1
      have z2' : r2 = wI h m3 := z2
      subst z1'
      subst z2'
      obtain ⟨_, _, rfl⟩ := sNew_i e
      obtain ⟨y1, y2⟩ := nxt_W (B := B) x1
      have nw := addN_W (so := 2) (nu := pP q.1) x1 w2 (by omega) (by decide) (by omega)
      have nq1 : NQ (addN N (nxt B n t) 2 (pP q.1)) 1 (pL q.1) := NQ_add w5 (Nat.le_refl _) (fun z => by cases z)
      have f13 := f12.trans f3
      simp only [obi_r]
      rw [wp_f (show ¬ (1 : Int32) = 0 by decide), wp_bind, s6.o, wp_bind]
      refine wp_mono (c_steps (q := progQ q (t.1 - 12)) R3 y1 nw qw1 nq1 hP) (fun x16 hx => ?_)
      rw [wp_bind]
      refine wp_mono hx (fun e25 he => ?_)
      have sw := sSteps_W (B := B) nw 13 (nxt B n (nxt B n t)) (progQ q (t.1 - 12)) y1 qw1 nq1
      cases e2 : sSteps B n (addN N (nxt B n t) 2 (pP q.1)) 13 (nxt B n (nxt B n t)) (progQ q (t.1 - 12)) with
      | inl f =>
        rw [e2] at he sw
        obtain ⟨m4, rfl, e3, e4, e5⟩ := he
        rw [wp_bind, s6.g0, e4, wp_f (fun y => by have := sw.1; have := sw.2.1; have := (nI_z (by omega)).mp y; omega), wp_some]
        exact Flt.go f13 ⟨m4, rfl, e3, e4, e5⟩
      | inr b =>
        rw [e2] at he sw
        obtain ⟨m4, rfl, f4, R4⟩ := he
        obtain ⟨i1, i2, i3, ⟨i4, i5, i6⟩, i7, i8⟩ := sw
        have i6' : pP b.2.1 = pP q.1 := i6
        have R4' : RSc h m4 Q B n b.1 (addN N (nxt B n t) 2 (pP q.1)) b.2 (pP q.1 + 1) := R4
        obtain ⟨o0, o1, o2, o3, o4, o5, o6, o7⟩ := R4'.2.2.2.1
        rw [i6'] at o3
        rw [wp_bind, s6.g0, R4'.2.2.2.2.2.1, wp_t rfl, wp_bind, R4'.gp, wp_bind, s5.g2, o3, wp_bind, s5.p2, show nI (pP q.1) + 1 = nI (pP q.1 + 1) from i_add _ 1, wp_bind, s6.o, wp_bind, L_16]
        have R5 : RSc h (up m4 Q 2 (nI (pP q.1 + 1))) Q B n b.1 (addN N (nxt B n t) 2 (pP q.1)) (doneQ b.2) (pP (doneQ b.2).1) := by
          refine R4'.pl (fun a ha => up_r (by omega)) ⟨o0, by rw [up_j (show (0 : Nat) ≠ 2 by decide)]; exact o1, by rw [up_j (show (1 : Nat) ≠ 2 by decide)]; exact o2, ?_, by rw [up_r (by omega)]; exact o4, fun p hp => ?_, by rw [up_r (by omega)]; exact o6, by rw [up_r (by omega)]; exact o7⟩
          · rw [up_at]; show _ = nI (pP b.2.1 + 1); rw [i6']
          · have hp' : p < pP b.2.1 + 1 := hp
            rw [up_r (by omega)]; exact o5 p (by omega)
        have f5 : FRc Q m (up m4 Q 2 (nI (pP q.1 + 1))) := fun a h1 h2 h3 => by rw [up_r (by omega), f4 a h1 h2 h3, f13 a h1 h2 h3]
        refine wp_mono (c_passT (v := 16) R5 i1 (by decide)) ?_
        rintro ⟨r1, r2⟩ hr
        rw [wp_some]
        simp only [obi_r]
        cases e4 : sPass B n 16 b.1 with
        | inl f => rw [e4] at hr; exact Flt.go f5 hr.2
        | inr t' => rw [e4] at hr; exact Okc.go f5 hr.2
def N0 : NT := (0, fun _ => 0, fun _ => 0, fun _ => 0, fun _ => 0)
def Q0 : QT := ((0, 0, 0, fun _ => 0, fun _ => 0, fun _ => 0), fun _ => 0)
theorem WF_0 (W : TW n t) : WF n t N0 Q0 := ⟨W, ⟨Nat.zero_le _, fun i hi => absurd hi (Nat.not_lt_zero _)⟩, ⟨Nat.zero_le _, Nat.zero_le _, ⟨Nat.le_refl _, Nat.zero_le _, Nat.zero_le _⟩, fun l hl => absurd hl (Nat.not_lt_zero _), fun p hp => absurd hp (Nat.not_lt_zero _), fun p hp => absurd hp (Nat.not_lt_zero _), fun _ _ => rfl, fun p _ hp => absurd hp (Nat.not_lt_zero _), fun _ => (by show (0 : Nat) < 160; decide)⟩, fun i hi => absurd hi (Nat.not_lt_zero _), fun i hi => absurd hi (Nat.not_lt_zero _), rfl⟩
theorem c_readL (R : RSc h m Q B n t N q (pP q.1)) (W : WF n t N q) : wp (lp (bX6_read_54 2) FU (0, wI h m)) (fun r => outc (sAll B n (n + 1) t N q) (fun e => FE n e ∧ Flt h m Q e r) (fun a => WF n a.1 a.2.1 a.2.2 ∧ Okc h m Q B n a.1 a.2.1 a.2.2 (pP a.2.2.1) r)) := by
  have s6 := R.1.1
  have n9 := R.1.2.2.2.1
  have q8 := R.2.2.2.2.2.2.2
  have bad : ∀ (i : Nat) (mm : Mem) (e : Nat × Nat) {P : Int32 × Hp → Prop}, FE n e → FRc Q m mm → mm 2 0 = nI e.1 → mm 2 1 = nI e.2 → sAll B n (n + 1) t N q = .inl e → wp (bX6_read_54 2 (nI i, wI h mm)) (lq P (fun r => outc (sAll B n (n + 1) t N q) (fun e => FE n e ∧ Flt h m Q e r) (fun a => WF n a.1 a.2.1 a.2.2 ∧ Okc h m Q B n a.1 a.2.1 a.2.2 (pP a.2.2.1) r))) := fun i mm e {P} fe f1 f2 f3 hTe => by
    unfold bX6_read_54
    simp only
    rw [wp_bind, s6.g3]
    by_cases y : mm 2 3 < nI i
    · rw [wp_t y, wp_some, lq_r, hTe]
      exact ⟨fe, mm, rfl, f1, f2, f3⟩
    · rw [wp_f y, wp_bind, s6.g0, f2, wp_f (fun y => by have := fe.1; have := fe.2.1; have := (nI_z (by omega)).mp y; omega), wp_some, lq_r, hTe]
      exact ⟨fe, mm, rfl, f1, f2, f3⟩
  refine wp_for (κ := Mem × OT (TT × NT × QT)) (fun i c => (nI i, wI h c.1)) (n + 1) (fun i c => FRc Q m c.1 ∧ outc c.2 (fun e => FE n e ∧ (c.1 2 0 = nI e.1 ∧ c.1 2 1 = nI e.2) ∧ sAll B n (n + 1) t N q = .inl e) (fun a => RSc h c.1 Q B n a.1 a.2.1 a.2.2 (pP a.2.2.1) ∧ WF n a.1 a.2.1 a.2.2 ∧ i ≤ a.1.2.2 ∧ sAll B n (n + 1) t N q = sAll B n (n + 1 - i) a.1 a.2.1 a.2.2)) (fun i c hi HH => ?_) (fun c HH => ?_) 0 (m, .inr (t, N, q)) (Nat.zero_le _) ⟨fun _ _ _ _ => rfl, R, W, Nat.zero_le _, rfl⟩ (by omega)
  · obtain ⟨mm, o⟩ := c
    obtain ⟨f1, HH⟩ := HH
    simp only at f1
    cases o with
    | inl e =>
      obtain ⟨fe, ⟨f2, f3⟩, hTe⟩ := HH
      exact bad i mm e fe f1 f2 f3 hTe
    | inr a =>
      obtain ⟨Ra, Wa, hen, hTa⟩ := HH
      simp only at Ra Wa hen hTa
      have t18 := Wa.1.2.2.1
      have tI' := Ra.2.1.1
      rw [show n + 1 - i = (n - i) + 1 by omega, sAll_s (t := a.1)] at hTa
      have fin : a.1.1 ≠ 17 → ∀ r, outc (sStop B n (sLine B n a.1 a.2.1 a.2.2)) (fun e => Flt h mm Q e r) (fun b => Okc h mm Q B n b.1 b.2.1 b.2.2 (pP b.2.2.1) r) → wp (jX6_read_141 2 (nI i) r) (lq (fun s' => ∃ c' : Mem × OT (TT × NT × QT), s' = (nI (i + 1), wI h c'.1) ∧ FRc Q m c'.1 ∧ outc c'.2 (fun e => FE n e ∧ (c'.1 2 0 = nI e.1 ∧ c'.1 2 1 = nI e.2) ∧ sAll B n (n + 1) t N q = .inl e) (fun a => RSc h c'.1 Q B n a.1 a.2.1 a.2.2 (pP a.2.2.1) ∧ WF n a.1 a.2.1 a.2.2 ∧ i + 1 ≤ a.1.2.2 ∧ sAll B n (n + 1) t N q = sAll B n (n + 1 - (i + 1)) a.1 a.2.1 a.2.2)) (fun r => outc (sAll B n (n + 1) t N q) (fun e => FE n e ∧ Flt h m Q e r) (fun a => WF n a.1 a.2.1 a.2.2 ∧ Okc h m Q B n a.1 a.2.1 a.2.2 (pP a.2.2.1) r))) := fun z r hr => by
        rw [if_neg z] at hTa
        have sw := sStop_W (B := B) (sLine_W (B := B) Wa)
        unfold jX6_read_141
        rw [wp_bind, wp_some, wp_some, lq_l, show nI i + 1 = nI (i + 1) from i_add _ 1]
        cases e : sStop B n (sLine B n a.1 a.2.1 a.2.2) with
        | inl f =>
          rw [e] at hr sw hTa
          obtain ⟨m', e1, e2, e3', e4⟩ := hr
          exact ⟨(m', .inl f), by rw [e1], f1.trans e2, sw, ⟨e3', e4⟩, hTa⟩
        | inr b =>
          rw [e] at hr sw hTa
          obtain ⟨m', e1, e2, R'⟩ := hr
          refine ⟨(m', .inr b), by rw [e1], f1.trans e2, R', sw.1, by have := sw.2; omega, ?_⟩
          rw [show n + 1 - (i + 1) = n - i by omega]; exact hTa
      have wrong : ¬ a.1.1 = 9 → ¬ a.1.1 = 10 → ¬ (12 ≤ a.1.1 ∧ a.1.1 ≤ 14) → wp (fX6_fail (wI h mm) 2 1) (fun r => outc (sStop B n (sLine B n a.1 a.2.1 a.2.2)) (fun e => Flt h mm Q e r) (fun b => Okc h mm Q B n b.1 b.2.1 b.2.2 (pP b.2.2.1) r)) := fun z1 z2 z3 => by
        unfold sLine
        rw [if_neg z1, if_neg z2, if_neg z3]
        exact c_failT (f := 1) Ra
      unfold bX6_read_54 jX6_read_136
      simp only
      rw [wp_bind, s6.g3, Ra.1.2.2.2.2.1, wp_f (fun y => by have := (nI_ltI (by omega) (by omega)).mp y; omega), wp_bind, s6.g0, Ra.2.2.2.2.2.1, wp_t rfl, wp_bind, s6.g5, tI', L_17]
      by_cases z : a.1.1 = 17
      · rw [wp_t (by rw [z]), wp_some, lq_r, hTa, if_pos z]
        exact ⟨Wa, mm, rfl, f1, Ra⟩
      · rw [wp_f (fun y => z ((nI_eq (by omega) (by decide)).mp y)), wp_bind, s6.g5, tI', L_9]
        by_cases z1 : a.1.1 = 9
        · rw [wp_t (by rw [z1]), wp_bind, s6.o, wp_bind]
          refine wp_mono (c_kind Ra Wa) (fun r hr => fin z r ?_)
          unfold sLine
          rw [if_pos z1]; exact hr
        · rw [wp_f (fun y => z1 ((nI_eq (by omega) (by decide)).mp y)), wp_bind, s6.g5, tI', L_10]
          by_cases z2 : a.1.1 = 10
          · rw [wp_t (by rw [z2]), wp_bind, s6.o, wp_bind]
            refine wp_mono (c_lock Ra Wa) (fun r hr => fin z r ?_)
            unfold sLine
            rw [if_neg z1, if_pos z2]; exact hr
          · rw [wp_f (fun y => z2 ((nI_eq (by omega) (by decide)).mp y)), wp_bind, s6.g5, tI', L_12]
            by_cases z3 : a.1.1 < 12
            · rw [wp_t ((nI_ltI (by omega) (by decide)).mpr z3), wp_bind, s6.o, wp_bind]
              exact wp_mono (wrong z1 z2 (by omega)) (fun r hr => fin z r hr)
            · rw [wp_f (fun y => z3 ((nI_ltI (by omega) (by decide)).mp y)), wp_bind, s6.g5, tI', L_14]
              by_cases z4 : 14 < a.1.1
              · rw [wp_t ((nI_ltI (by decide) (by omega)).mpr z4), wp_bind, s6.o, wp_bind]
                exact wp_mono (wrong z1 z2 (by omega)) (fun r hr => fin z r hr)
              · rw [wp_f (fun y => z4 ((nI_ltI (by decide) (by omega)).mp y)), wp_bind, s6.o, wp_bind]
                refine wp_mono (c_prog Ra Wa (by omega) (by omega)) (fun r hr => fin z r ?_)
                unfold sLine
                rw [if_neg z1, if_neg z2, if_pos ⟨by omega, by omega⟩]; exact hr
  · obtain ⟨mm, o⟩ := c
    obtain ⟨f1, HH⟩ := HH
    simp only at f1
    cases o with
    | inl e =>
      obtain ⟨fe, ⟨f2, f3⟩, hTe⟩ := HH
      exact bad (n + 1) mm e fe f1 f2 f3 hTe
    | inr a =>
      obtain ⟨Ra, Wa, hen, hTa⟩ := HH
      have := Wa.1.2.1
      omega
/-- the class reads a text into its spare plan -/
theorem c_read (s6 : Sh6 h 2) (s5 : Sh5 h Q) (hQ : 8 ≤ Q) (t1 : hS h 1 = .inr (.byte, 900)) (n9 : n ≤ 900) (eB : ∀ j, j < n → m 1 j = B j) : wp (fX6_read (wI h m) 2 1 (nI n) Q) (fun r => outc (sAll B n (n + 1) (tok B n 0) N0 Q0) (fun e => FE n e ∧ ∃ m', r = wI (sR (sR h 2 2 (some 1)) 2 4 (some Q)) m' ∧ FRc Q m m' ∧ m' 2 0 = nI e.1 ∧ m' 2 1 = nI e.2) (fun a => WF n a.1 a.2.1 a.2.2 ∧ ∃ m', r = wI (sR (sR h 2 2 (some 1)) 2 4 (some Q)) m' ∧ FRc Q m m' ∧ m' 2 0 = 0 ∧ m' 2 1 = mI ∧ PLc (sR (sR h 2 2 (some 1)) 2 4 (some Q)) m' Q a.2.2 (pP a.2.2.1))) := by
  have x1 : XX h (sR h 2 2 (some 1)) := XX.sR (by intro c hc; rw [s6.2.1] at hc; cases hc; rfl)
  have s61 := s6.x x1
  have x2 : XX (sR h 2 2 (some 1)) (sR (sR h 2 2 (some 1)) 2 4 (some Q)) := XX.sR (by intro c hc; rw [s61.2.1] at hc; cases hc; rfl)
  have s62 := s61.x x2
  have s52 : Sh5 (sR (sR h 2 2 (some 1)) 2 4 (some Q)) Q := (s5.x x1).x x2
  generalize hh2 : sR (sR h 2 2 (some 1)) 2 4 (some Q) = h2 at x2 s62 s52
  have r22 : hR h2 2 2 = some 1 := by rw [← hh2, hR_s, if_neg (by omega), hR_s, if_pos ⟨rfl, rfl⟩]
  have r24 : hR h2 2 4 = some Q := by rw [← hh2, hR_s, if_pos ⟨rfl, rfl⟩]
  have t12 : hS h2 1 = .inr (.byte, 900) := by rw [← hh2]; exact t1
  have d2 : ∀ {P : Hp → Prop}, wp (pR (wI h m) 6 2 2 1) P = P (wI (sR h 2 2 (some 1)) m) := fun {P} => s6.d2
  have d4 : ∀ {m1 : Mem} {P : Hp → Prop}, wp (pR (wI (sR h 2 2 (some 1)) m1) 6 2 4 Q) P = P (wI h2 m1) := fun {m1 P} => by rw [s61.d4, hh2]
  have l1 : ∀ {P : Int32 → Prop}, wp (aL (wI (sR h 2 2 (some 1)) m) .byte 1) P = P (nI 900) := fun {P} => x_aL (by have := s61.1; omega) t1
  have g4 : ∀ {m1 : Mem} {P : Nat → Prop}, wp (gR (wI h2 m1) 6 2 4) P = P Q := fun {m1 P} => by rw [s62.q4, r24, wp_some]
  have en : (if nI 900 < nI n then nI 900 else nI n) = nI n := if_neg (fun y => by have := (nI_ltI (by decide) (by omega)).mp y; omega)
  have Q4 := s52.1
  unfold fX6_read
  rw [wp_bind, d2, wp_bind, l1, wp_bind, s61.p3, en, wp_bind, d4, wp_bind, g4, wp_bind, s52.o, wp_bind]
  unfold fX5_clear
  rw [wp_bind, s52.p0, wp_bind, s52.p1, wp_bind, s52.p2, wp_bind, s52.r5, wp_bind, w_fill (by omega) s52.2.2.2.2.1.2 (by decide), wp_bind, s52.r6, wp_bind, w_fill (by omega) s52.2.2.2.2.2.2 (by decide), wp_some, wp_bind, s62.p0, wp_bind, s62.p1, wp_bind, s62.p8, wp_bind, s62.p7, wp_bind, s62.o, wp_bind]
  generalize hm1 : up (up (up (up (flM (flM (up (up (up (up m 2 3 (nI n)) Q 0 0) Q 1 0) Q 2 0) (Q + 3) 6 0) (Q + 4) 72 0) 2 0 0) 2 1 (-1)) 2 8 0) 2 7 0 = m1
  have fa : ∀ a, a ≠ 2 → ¬ (Q ≤ a ∧ a ≤ Q + 4) → m1 a = m a := fun a h1 h2 => by
    rw [← hm1, up_r h1, up_r h1, up_r h1, up_r h1, flM_r (by omega), flM_r (by omega), up_r (by omega), up_r (by omega), up_r (by omega), up_r h1]
  have T1 : TX h2 m1 B n := ⟨s62, r22, t12, n9, by rw [← hm1, up_j (show (3 : Nat) ≠ 7 by decide), up_j (show (3 : Nat) ≠ 8 by decide), up_j (show (3 : Nat) ≠ 1 by decide), up_j (show (3 : Nat) ≠ 0 by decide), flM_r (by omega), flM_r (by omega), up_r (by omega), up_r (by omega), up_r (by omega), up_at], fun j hj => by rw [fa 1 (by decide) (by omega)]; exact eB j hj⟩
  have e7 : m1 2 7 = nI 0 := by rw [← hm1, up_at]; rfl
  have z0 : m1 2 0 = 0 := by rw [← hm1, up_j (show (0 : Nat) ≠ 7 by decide), up_j (show (0 : Nat) ≠ 8 by decide), up_j (show (0 : Nat) ≠ 1 by decide), up_at]
  have z1 : m1 2 1 = mI := by rw [← hm1, up_j (show (1 : Nat) ≠ 7 by decide), up_j (show (1 : Nat) ≠ 8 by decide), up_at]; rfl
  have z8 : m1 2 8 = nI 0 := by rw [← hm1, up_j (show (8 : Nat) ≠ 7 by decide), up_at]; rfl
  have PL1 : PLc h2 m1 Q Q0 0 := by
    have eQ : ∀ j, m1 Q j = up (up (up m Q 0 0) Q 1 0) Q 2 0 Q j := fun j => by
      rw [← hm1, up_r (by omega), up_r (by omega), up_r (by omega), up_r (by omega), flM_r (by omega), flM_r (by omega)]
      rw [up_a, up_a, up_a, up_a, up_a, up_a, up_r (by omega)]
    refine ⟨s52, ?_, ?_, ?_, fun l hl => absurd hl (Nat.not_lt_zero _), fun p hp => absurd hp (Nat.not_lt_zero _), fun p hp => ?_, fun j hj => ?_⟩
    · rw [eQ, up_j (show (0 : Nat) ≠ 2 by decide), up_j (show (0 : Nat) ≠ 1 by decide), up_at]; rfl
    · rw [eQ, up_j (show (1 : Nat) ≠ 2 by decide), up_at]; rfl
    · rw [eQ, up_at]; rfl
    · rw [← hm1, up_r (by omega), up_r (by omega), up_r (by omega), up_r (by omega), flM_r (by omega), flM_a hp]; rfl
    · rw [← hm1, up_r (by omega), up_r (by omega), up_r (by omega), up_r (by omega), flM_a hj]; rfl
  refine wp_mono (c_next T1 (Nat.zero_le _) e7) ?_
  rintro r ⟨m2, rfl, f1, f2, k⟩
  obtain ⟨t1', t2', t3', t4', t5'⟩ := tok_ok (B := B) (n := n) (p := 0) (Nat.zero_le _)
  have W0 : WF n (tok B n 0) N0 Q0 := WF_0 ⟨t2', t3', t4', t5'⟩
  have R2 : RSc h2 m2 Q B n (tok B n 0) N0 Q0 (pP Q0.1) := ⟨⟨s62, r22, t12, n9, by rw [f2 3 (by decide) (by decide) (by decide)]; exact T1.2.2.2.2.1, by rw [f1 1 (by decide)]; exact T1.2.2.2.2.2⟩, k, ⟨by rw [f2 8 (by decide) (by decide) (by decide)]; exact z8, fun i hi => absurd hi (Nat.not_lt_zero _)⟩, PL1.congr (fun a h1 h2 => f1 a (by omega)), r24, by rw [f2 0 (by decide) (by decide) (by decide)]; exact z0, by rw [f2 1 (by decide) (by decide) (by decide)]; exact z1, hQ⟩
  have fr : FRc Q m m2 := fun a h1 h2 h3 => by rw [f1 a h1, fa a h1 h3]
  rw [wp_bind]
  refine wp_mono (c_readL R2 W0) (fun r hr => ?_)
  rw [wp_some]
  cases e : sAll B n (n + 1) (tok B n 0) N0 Q0 with
  | inl f =>
    rw [e] at hr
    obtain ⟨fe, m', e1, e2, e3, e4⟩ := hr
    exact ⟨fe, m', e1, fr.trans e2, e3, e4⟩
  | inr a =>
    rw [e] at hr
    obtain ⟨wa, m', e1, e2, R'⟩ := hr
    exact ⟨wa, m', e1, fr.trans e2, R'.2.2.2.2.2.1, R'.2.2.2.2.2.2.1, R'.2.2.2.1⟩
end CR2

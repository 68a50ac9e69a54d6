/-! what is only read: both sides answer alike -/
theorem bo {α : Type} {A B : Option α} (h : wp A (fun r => wp B (fun r' => r' = r))) : ∃ r, A = some r ∧ B = some r := by
  obtain ⟨r, e, r', e', rfl⟩ := h
  exact ⟨r', e, e'⟩
theorem c_nodeAt {h : Hp} {m : Mem} {b : Nat} {D : RD} (s7 : Sh7 h b) (R : RRc m b D) (w : RW D) {v u : Int32} {Q : Int32 → Prop} : wp (fX7_nodeAt (wI h m) b v u) Q = Q (if inN v (rC D) ∧ inN u (rN D v.toNatClampNeg) then nI (rX D v.toNatClampNeg u.toNatClampNeg) else mI) := by
  have h60 := w.1
  have q0 := R.1
  unfold fX7_nodeAt jX7_nodeAt_26
  by_cases hv : v < 0
  · rw [wp_t hv, wp_some, if_neg (fun z => z.1.1 hv)]; rfl
  · rw [wp_f hv]
    obtain ⟨r, hr, e⟩ := nI_of hv
    subst e
    rw [wp_bind, s7.g0, q0]
    by_cases z : rC D ≤ r
    · rw [wp_t (nI_le z hr), wp_some, if_neg (fun q => by have := (inN_nI hr).mp q.1; omega)]; rfl
    · rw [wp_f (nI_ge (by omega) (by omega))]
      have hr' : r < rC D := by omega
      obtain ⟨⟨g1, g2, g3, g4⟩, g5⟩ := R.2.1 r hr'
      have hN := (w.2 r hr').1
      by_cases hu : u < 0
      · rw [wp_t hu, wp_some, if_neg (fun q => q.2.1 hu)]; rfl
      · rw [wp_f hu]
        obtain ⟨i, hi, e⟩ := nI_of hu
        subst e
        rw [wp_bind, s7.r4, wp_bind, s7.l4 (by omega), g4]
        by_cases z2 : i < rN D r
        · rw [wp_t (nI_lt z2 (by omega)), wp_bind, s7.r5, L_17, i_mul, i_add, wp_bind, s7.l5 (by omega), wp_some, show r * 17 + i = 17 * r + i by omega, g5 i z2, if_pos]
          · rw [nI_clamp hr, nI_clamp hi]
          · rw [nI_clamp hr]; exact ⟨(inN_nI hr).mpr hr', (inN_nI hi).mpr z2⟩
        · rw [wp_f (nI_nlt (by omega) hi), wp_some, if_neg (fun q => by
            have := q.2
            rw [nI_clamp hr] at this
            have := (inN_nI hi).mp this
            omega)]; rfl
section OPS
variable {h : Hp} {m : Mem} {g : GS} {own : Nat → Nat} {ad : Nat → Option Nat}
theorem L_m2 : (-2 : Int32) = -2 := rfl
theorem o_fault (I : IC h g own ad) (J : IR m g) (ok : okG g) (v : Int32) : ∃ r, fX11_fault h 0 v = some r ∧ gX12_fault m v = some r := by
  obtain ⟨cs, ow, ⟨t1, t2⟩, ⟨f1, f2⟩, ⟨P, hP, p1, p2, pc⟩, ⟨a1, a2⟩, r52, r19, r36, r15, sl, li, bx⟩ := I
  obtain ⟨⟨j1, j2⟩, ⟨j3, j4⟩, jp, ⟨j5, j6⟩, jl, jw, ju, jb, jx⟩ := J
  obtain ⟨o1, pw, o2, o3, o4, o5⟩ := ok
  have pc' : PC (wI h (hI h)) P (sP g) := pc
  have s5 : Sh5 h P := pc.1
  obtain ⟨b, n, hb, L⟩ := li (sA g) o2
  have rb : hR h 19 (sA g) = some b := by rw [r19 _ (by omega)]; exact hb
  have pr : ∀ {Q : Nat → Prop}, wp (fX2_present (wI h (hI h)) 18) Q = Q b := fun {Q} => cs.present a1 (by omega) rb
  obtain ⟨s3, L1, L2, L3, L4, L5, L6⟩ := L
  obtain ⟨F1, F2, F3, F4, F5, F8⟩ := jl
  obtain ⟨lw, sw⟩ := o4 (sA g) o2
  have s2 := cs.s2
  have s7 := s3.s4
  have s1 := s3.s3
  refine bo ?_
  show wp (fX11_fault (wI h (hI h)) 0 v) _
  have s6 := cs.s6
  unfold fX11_fault gX12_fault gjX12_fault_24
  by_cases z0 : v = 0
  · rw [wp_t z0, wp_bind, cs.gr cs.r2, wp_bind, s6.g0, wp_some, wp_t z0, wp_some, f1, j3]
  · rw [wp_f z0]
    by_cases z1 : v = 1
    · rw [wp_t z1, wp_bind, cs.gr cs.r2, wp_bind, s6.g1, wp_some, wp_f z0, wp_t z1, wp_some, f2, j4]
    · rw [wp_f z1, wp_some, wp_f z0, wp_f z1, wp_some]

theorem o_lock (I : IC h g own ad) (J : IR m g) (ok : okG g) (v : Int32) : ∃ r, fX11_lock h 0 v = some r ∧ gX12_lock m v = some r := by
  obtain ⟨cs, ow, ⟨t1, t2⟩, ⟨f1, f2⟩, ⟨P, hP, p1, p2, pc⟩, ⟨a1, a2⟩, r52, r19, r36, r15, sl, li, bx⟩ := I
  obtain ⟨⟨j1, j2⟩, ⟨j3, j4⟩, jp, ⟨j5, j6⟩, jl, jw, ju, jb, jx⟩ := J
  obtain ⟨o1, pw, o2, o3, o4, o5⟩ := ok
  have pc' : PC (wI h (hI h)) P (sP g) := pc
  have s5 : Sh5 h P := pc.1
  obtain ⟨b, n, hb, L⟩ := li (sA g) o2
  have rb : hR h 19 (sA g) = some b := by rw [r19 _ (by omega)]; exact hb
  have pr : ∀ {Q : Nat → Prop}, wp (fX2_present (wI h (hI h)) 18) Q = Q b := fun {Q} => cs.present a1 (by omega) rb
  obtain ⟨s3, L1, L2, L3, L4, L5, L6⟩ := L
  obtain ⟨F1, F2, F3, F4, F5, F8⟩ := jl
  obtain ⟨lw, sw⟩ := o4 (sA g) o2
  have s2 := cs.s2
  have s7 := s3.s4
  have s1 := s3.s3
  refine bo ?_
  show wp (fX11_lock (wI h (hI h)) 0 v) _
  have jp' := jp
  obtain ⟨k, hk, e9, e2, e3, e4, e5, e6⟩ := jp
  have h10 := pw.2.1
  unfold fX11_lock gX12_lock jX11_lock_24 gjX12_lock_28
  rw [wp_bind, cs.gr p1, wp_bind, s5.o, wp_bind, w_hasLock pc' pw, e9]
  by_cases hv : inN v (pL (sP g))
  · obtain ⟨l, hl, e⟩ := inN_ex hv
    subst e
    have ek : hI h (P + 1) l = nI (pk (sP g) l) := pc.2.2.2.2.1 l hl
    rw [b01_t hv, wp_f (by decide), wp_bind, cs.gr p1, wp_bind, s5.r3, wp_bind, s5.l3 (by omega), wp_some, wp_bind, w_rd (by omega) (by decide), e3, wp_bind, w_isIn (by omega), b01_t hv, wp_f (by decide), wp_bind, w_kind jp' pw hl, wp_some, ek]
  · rw [b01_n hv, wp_t rfl, wp_some, wp_bind, w_rd (by omega) (by decide), e3, wp_bind, w_isIn (by omega), b01_n hv, wp_t rfl, wp_some]

theorem o_program (I : IC h g own ad) (J : IR m g) (ok : okG g) (v u : Int32) : ∃ r, fX11_program h 0 v u = some r ∧ gX12_program m v u = some r := by
  obtain ⟨cs, ow, ⟨t1, t2⟩, ⟨f1, f2⟩, ⟨P, hP, p1, p2, pc⟩, ⟨a1, a2⟩, r52, r19, r36, r15, sl, li, bx⟩ := I
  obtain ⟨⟨j1, j2⟩, ⟨j3, j4⟩, jp, ⟨j5, j6⟩, jl, jw, ju, jb, jx⟩ := J
  obtain ⟨o1, pw, o2, o3, o4, o5⟩ := ok
  have pc' : PC (wI h (hI h)) P (sP g) := pc
  have s5 : Sh5 h P := pc.1
  obtain ⟨b, n, hb, L⟩ := li (sA g) o2
  have rb : hR h 19 (sA g) = some b := by rw [r19 _ (by omega)]; exact hb
  have pr : ∀ {Q : Nat → Prop}, wp (fX2_present (wI h (hI h)) 18) Q = Q b := fun {Q} => cs.present a1 (by omega) rb
  obtain ⟨s3, L1, L2, L3, L4, L5, L6⟩ := L
  obtain ⟨F1, F2, F3, F4, F5, F8⟩ := jl
  obtain ⟨lw, sw⟩ := o4 (sA g) o2
  have s2 := cs.s2
  have s7 := s3.s4
  have s1 := s3.s3
  refine bo ?_
  show wp (fX11_program (wI h (hI h)) 0 v u) _
  have h6 := pw.2.2.1
  unfold fX11_program gX12_program gjX12_program_54
  rw [wp_bind, cs.gr p1, wp_bind, s5.o, wp_bind, w_hasProgram pc' pw]
  by_cases hv : inN v (pP (sP g))
  · obtain ⟨p, hp, e⟩ := inN_ex hv
    subst e
    have eS : hI h (P + 2) p = nI (pS (sP g) p) := (pc.2.2.2.2.2 p hp).1
    have eN : hI h (P + 3) p = nI (pN (sP g) p) := (pc.2.2.2.2.2 p hp).2
    rw [b01_t hv, wp_f (by decide)]
    by_cases z0 : u = 0
    · rw [wp_t z0, wp_bind, cs.gr p1, wp_bind, s5.r4, wp_bind, s5.l4 (by omega), wp_some, wp_bind, w_isProgram jp pw, b01_t hv, wp_f (by decide), wp_t z0, wp_bind, w_sortOf jp pw hp, wp_some, eS]
    · rw [wp_f z0]
      by_cases z1 : u = 1
      · rw [wp_t z1, wp_bind, cs.gr p1, wp_bind, s5.r5, wp_bind, s5.l5 (by omega), wp_some, wp_bind, w_isProgram jp pw, b01_t hv, wp_f (by decide), wp_f z0, wp_t z1, wp_bind, w_stepsOf jp pw hp, wp_some, eN]
      · rw [wp_f z1]
        by_cases z2 : u = 2
        · have eR := F4 p (by omega)
          rw [wp_t z2, wp_bind, cs.gr cs.r5, wp_bind, s2.o, wp_bind, pr, wp_bind, s3.r1, wp_bind, s3.l1 (by omega), wp_some, wp_bind, w_isProgram jp pw, b01_t hv, wp_f (by decide), wp_f z0, wp_f z1, wp_t z2, L_1533, i_add, wp_bind, w_rd (by omega) (by decide), wp_some, L4 p (by omega), eR]
        · rw [wp_f z2, wp_some, wp_bind, w_isProgram jp pw, b01_t hv, wp_f (by decide), wp_f z0, wp_f z1, wp_f z2, wp_some]
  · rw [b01_n hv, wp_t rfl, wp_some, wp_bind, w_isProgram jp pw, b01_n hv, wp_t rfl, wp_some]

theorem o_step (I : IC h g own ad) (J : IR m g) (ok : okG g) (v u q : Int32) : ∃ r, fX11_step h 0 v u q = some r ∧ gX12_step m v u q = some r := by
  obtain ⟨cs, ow, ⟨t1, t2⟩, ⟨f1, f2⟩, ⟨P, hP, p1, p2, pc⟩, ⟨a1, a2⟩, r52, r19, r36, r15, sl, li, bx⟩ := I
  obtain ⟨⟨j1, j2⟩, ⟨j3, j4⟩, jp, ⟨j5, j6⟩, jl, jw, ju, jb, jx⟩ := J
  obtain ⟨o1, pw, o2, o3, o4, o5⟩ := ok
  have pc' : PC (wI h (hI h)) P (sP g) := pc
  have s5 : Sh5 h P := pc.1
  obtain ⟨b, n, hb, L⟩ := li (sA g) o2
  have rb : hR h 19 (sA g) = some b := by rw [r19 _ (by omega)]; exact hb
  have pr : ∀ {Q : Nat → Prop}, wp (fX2_present (wI h (hI h)) 18) Q = Q b := fun {Q} => cs.present a1 (by omega) rb
  obtain ⟨s3, L1, L2, L3, L4, L5, L6⟩ := L
  obtain ⟨F1, F2, F3, F4, F5, F8⟩ := jl
  obtain ⟨lw, sw⟩ := o4 (sA g) o2
  have s2 := cs.s2
  have s7 := s3.s4
  have s1 := s3.s3
  refine bo ?_
  show wp (fX11_step (wI h (hI h)) 0 v u q) _
  have h6 := pw.2.2.1
  unfold fX11_step gX12_step gjX12_step_32 gjX12_step_54
  rw [wp_bind, cs.gr p1, wp_bind, s5.o, wp_bind, w_hasStep pc' pw]
  by_cases hv : inN v (pP (sP g))
  · obtain ⟨p, hp, e⟩ := inN_ex hv
    subst e
    have h12 := (pw.2.2.2.2 p hp).2
    have ec : (nI p).toNatClampNeg = p := nI_clamp (by omega)
    by_cases hu : inN u (pN (sP g) p)
    · obtain ⟨s, hs, e⟩ := inN_ex hu
      subst e
      have vv := pV_of pw hp hs
      obtain ⟨x1, x2⟩ := F8 _ vv
      have c160 := lw.2.2.2.2.2 (12 * p + s) (by omega)
      have eC := L5 (12 * p + s) (by omega)
      obtain ⟨v1, v2, v3⟩ := sw _ vv
      rw [b01_t (by rw [ec]; exact ⟨hv, hu⟩), wp_f (by decide)]
      rw [show 12 * p + s = p * 12 + s by omega] at eC
      simp (disch := omega) only [wp_bind, cs.gr cs.r5, s2.o, pr, s3.r0, L_12, i_mul, i_add, s3.l0, eC]
      rw [show p * 12 + s = 12 * p + s by omega]
      have ref : wp ((gX12_isProgram m (nI p)).bind fun x1 => if x1 = 0 then some (-2) else (gX12_stepsOf m (nI p)).bind fun x3 => (gX12_isIn (nI s) 0 (x3 - 1)).bind fun x4 => if x4 = 0 then some (-2) else (gX12_isIn q 0 1).bind fun x6 => if x6 = 0 then some (-2) else if q = 0 then (gX12_opOf m (nI p) (nI s)).bind fun x10 => some x10 else (gX12_lockOf m (nI p) (nI s)).bind fun x9 => some x9) = fun Q : Int32 → Prop => (if q = 0 then Q (nI (aS (sH g (sA g)) (12 * p + s) / 16)) else if q = 1 then Q (if aS (sH g (sA g)) (12 * p + s) / 16 ≤ 4 then nI (aS (sH g (sA g)) (12 * p + s) % 16) else mI) else Q (-2)) := by
        funext Q
        rw [wp_bind, w_isProgram jp pw, b01_t hv, wp_f (by decide), wp_bind, w_stepsOf jp pw hp, wp_bind, w_isIn (by omega), b01_t hu, wp_f (by decide), wp_bind, show (gX12_isIn q 0 1) = gX12_isIn q 0 (nI 1) from rfl, w_isInK (by decide)]
        by_cases hq : inN q 2
        · rw [b01_t hq, wp_f (by decide)]
          obtain ⟨t, ht, e⟩ := inN_ex hq
          subst e
          rcases (by omega : t = 0 ∨ t = 1) with rfl | rfl
          · rw [wp_t (show nI 0 = 0 from rfl), if_pos (show nI 0 = 0 from rfl), wp_bind, w_opOf (by omega) (by omega) x1, wp_some]
          · rw [wp_f (show ¬ nI 1 = 0 by decide), if_neg (show ¬ nI 1 = 0 by decide), if_pos (show nI 1 = 1 from rfl), wp_bind, w_lockOf (by omega) (by omega) x2, wp_some]
        · rw [b01_n hq, wp_t rfl, wp_some]
          have n0 : ¬ q = 0 := fun e => hq (by rw [e]; decide)
          have n1 : ¬ q = 1 := fun e => hq (by rw [e]; decide)
          rw [if_neg n0, if_neg n1]
      by_cases z0 : q = 0
      · rw [wp_t z0, wp_bind, w_deed (by omega), wp_some, ← wp_bind, ref]
        simp only [if_pos z0]
      · rw [wp_f z0]
        by_cases z1 : q = 1
        · rw [wp_t z1, wp_bind, w_deed (by omega), L_4]
          unfold jX11_step_84
          by_cases z4 : 4 < aS (sH g (sA g)) (12 * p + s) / 16
          · rw [wp_t (by rw [i_lt (by decide) (by omega)]; exact z4), wp_some, ← wp_bind, ref]
            simp only [if_neg z0, if_pos z1]
            rw [if_neg (by omega)]; rfl
          · rw [wp_f (by rw [i_lt (by decide) (by omega)]; exact z4), wp_bind, w_lock (by omega), wp_some, ← wp_bind, ref]
            simp only [if_neg z0, if_pos z1]
            rw [if_pos (by omega)]
        · rw [wp_f z1, wp_some, ← wp_bind, ref]
          simp only [if_neg z0, if_neg z1]
    · rw [b01_n (by rw [ec]; exact fun z => hu z.2), wp_t rfl, wp_some, wp_bind, w_isProgram jp pw, b01_t hv, wp_f (by decide), wp_bind, w_stepsOf jp pw hp, wp_bind, w_isIn (by omega), b01_n hu, wp_t rfl, wp_some]
  · rw [b01_n (fun z => hv z.1), wp_t rfl, wp_some, wp_bind, w_isProgram jp pw, b01_n hv, wp_t rfl, wp_some]

theorem o_uses (I : IC h g own ad) (J : IR m g) (ok : okG g) (v : Int32) : ∃ r, fX11_uses h 0 v = some r ∧ gX12_uses m v = some r := by
  obtain ⟨cs, ow, ⟨t1, t2⟩, ⟨f1, f2⟩, ⟨P, hP, p1, p2, pc⟩, ⟨a1, a2⟩, r52, r19, r36, r15, sl, li, bx⟩ := I
  obtain ⟨⟨j1, j2⟩, ⟨j3, j4⟩, jp, ⟨j5, j6⟩, jl, jw, ju, jb, jx⟩ := J
  obtain ⟨o1, pw, o2, o3, o4, o5⟩ := ok
  have pc' : PC (wI h (hI h)) P (sP g) := pc
  have s5 : Sh5 h P := pc.1
  obtain ⟨b, n, hb, L⟩ := li (sA g) o2
  have rb : hR h 19 (sA g) = some b := by rw [r19 _ (by omega)]; exact hb
  have pr : ∀ {Q : Nat → Prop}, wp (fX2_present (wI h (hI h)) 18) Q = Q b := fun {Q} => cs.present a1 (by omega) rb
  obtain ⟨s3, L1, L2, L3, L4, L5, L6⟩ := L
  obtain ⟨F1, F2, F3, F4, F5, F8⟩ := jl
  obtain ⟨lw, sw⟩ := o4 (sA g) o2
  have s2 := cs.s2
  have s7 := s3.s4
  have s1 := s3.s3
  refine bo ?_
  show wp (fX11_uses (wI h (hI h)) 0 v) _
  unfold fX11_uses gX12_uses jX11_uses_23 gjX12_uses_21
  rw [wp_bind, w_isNodeC]
  by_cases hv : inN v 16
  · obtain ⟨x, hx, e⟩ := inN_ex hv
    subst e
    rw [b01_t hv, wp_f (by decide), wp_bind, cs.gr cs.r5, wp_bind, s2.o, wp_bind, pr, wp_bind, s3.r2, wp_bind, s3.l2 hx, wp_some, wp_bind, w_isNodeR, b01_t hv, wp_f (by decide), L_256, i_add, wp_bind, w_rd (by omega) (by decide), wp_some, L3 x hx, F3 x hx]
  · rw [b01_n hv, wp_t rfl, wp_some, wp_bind, w_isNodeR, b01_n hv, wp_t rfl, wp_some]

theorem o_chain (I : IC h g own ad) (J : IR m g) (ok : okG g) (v u : Int32) : ∃ r, fX11_chain h 0 v u = some r ∧ gX12_chain m v u = some r := by
  obtain ⟨cs, ow, ⟨t1, t2⟩, ⟨f1, f2⟩, ⟨P, hP, p1, p2, pc⟩, ⟨a1, a2⟩, r52, r19, r36, r15, sl, li, bx⟩ := I
  obtain ⟨⟨j1, j2⟩, ⟨j3, j4⟩, jp, ⟨j5, j6⟩, jl, jw, ju, jb, jx⟩ := J
  obtain ⟨o1, pw, o2, o3, o4, o5⟩ := ok
  have pc' : PC (wI h (hI h)) P (sP g) := pc
  have s5 : Sh5 h P := pc.1
  obtain ⟨b, n, hb, L⟩ := li (sA g) o2
  have rb : hR h 19 (sA g) = some b := by rw [r19 _ (by omega)]; exact hb
  have pr : ∀ {Q : Nat → Prop}, wp (fX2_present (wI h (hI h)) 18) Q = Q b := fun {Q} => cs.present a1 (by omega) rb
  obtain ⟨s3, L1, L2, L3, L4, L5, L6⟩ := L
  obtain ⟨F1, F2, F3, F4, F5, F8⟩ := jl
  obtain ⟨lw, sw⟩ := o4 (sA g) o2
  have s2 := cs.s2
  have s7 := s3.s4
  have s1 := s3.s3
  refine bo ?_
  show wp (fX11_chain (wI h (hI h)) 0 v u) _
  have h60 := lw.1.1
  have q0 : hI h (b + 8) 0 = nI (rC (aD (sH g (sA g)))) := L1.1
  unfold fX11_chain gX12_chain gjX12_chain_43 gjX12_chain_44
  rw [wp_bind, cs.gr cs.r5, wp_bind, s2.o, wp_bind, pr, wp_bind, s3.r4, wp_bind, s7.o, wp_bind]
  rw [c_nodeAt s7 L1 lw.1, wp_some, wp_bind, w_isReport F1 lw.1]
  by_cases hv : inN v (rC (aD (sH g (sA g))))
  · obtain ⟨r, hr, e⟩ := inN_ex hv
    subst e
    obtain ⟨⟨g1, g2, g3, g4⟩, g5⟩ := F1.2 r hr
    have hN := (lw.1.2 r hr).1
    have ec : (nI r).toNatClampNeg = r := nI_clamp (by omega)
    rw [b01_t hv, wp_f (by decide), wp_bind, L_3, w_atReport, wp_bind, w_rd (by omega) (by decide), show 273 + 21 * r + 3 = 276 + 21 * r by omega, g4, wp_bind, w_isIn (by omega)]
    by_cases hu : inN u (rN (aD (sH g (sA g))) r)
    · obtain ⟨i, hi, e⟩ := inN_ex hu
      subst e
      rw [b01_t hu, wp_f (by decide), wp_bind, L_4, i_add, w_atReport, wp_bind, w_rd (by omega) (by decide), wp_some, show 273 + 21 * r + (4 + i) = 277 + 21 * r + i by omega, g5 i hi, if_pos (show inN (nI r) (rC (aD (sH g (sA g)))) ∧ inN (nI i) (rN (aD (sH g (sA g))) (nI r).toNatClampNeg) from ⟨hv, by rw [ec]; exact hu⟩), ec, nI_clamp (by omega)]
    · rw [b01_n hu, wp_t rfl, wp_some, if_neg (fun z => hu (by have := z.2; rw [ec] at this; exact this))]; rfl
  · rw [b01_n hv, wp_t rfl, wp_some, if_neg (fun z => hv z.1)]; rfl

end OPS

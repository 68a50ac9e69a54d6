/-! more that is read, with rows for the search of ways -/
/-- what was found of sets, and the reference, stay as they were -/
def NF (h h' : Hp) (own : Nat → Nat) : Prop := XX h h' ∧ KEEP h h' own 17 ∧ (∀ a, 74 ≤ a → a < 120 → ∀ j, hI h' a j = hI h a j) ∧ hR h' 74 8 = hR h 74 8 ∧ hR h' 0 3 = hR h 0 3
section OP2
variable {h : Hp} {m : Mem} {g : GS} {own : Nat → Nat} {ad : Nat → Option Nat}
theorem IC.sc (I : IC h g own ad) (hl : sL g ≤ 12) {m' : Mem} (e : ∀ a, ¬ (38 ≤ a ∧ a ≤ 56) → a ≠ 73 → m' a = hI h a) : IC (wI h m') g own ad ∧ NF h (wI h m') own := by
  have o := I.2.1
  have r15 := I.2.2.2.2.2.2.2.2.2.1
  have sl := I.2.2.2.2.2.2.2.2.2.2.1
  have kp : ∀ s, KEEP h (wI h m') own (1 + s) := by
    intro s a ha ho
    have hna : ¬ (38 ≤ a ∧ a ≤ 56) := fun z => by
      have := o.1 a (by omega) (by omega) (by omega)
      omega
    have hn2 : a ≠ 73 := fun z => by
      have := o.1 a (by omega) (by omega) (by omega)
      omega
    exact ⟨fun j => by rw [wI_I, e a hna hn2], fun _ => rfl, fun _ => rfl⟩
  refine ⟨I.go hl (XX.wI h m') o (fun _ _ => rfl) (fun s _ => kp s) ((sl 15 57 (by decide) r15).keep (XX.wI h m') (kp 15)) (fun a ha => ⟨fun h0 j _ => by rw [wI_I, e 0 (by omega) (by omega)], fun h2 j _ => by rw [wI_I, e 2 (by omega) (by omega)], fun _ _ j => by rw [wI_I, e a (by omega) (by omega)]⟩) (fun _ _ _ => rfl), XX.wI h m', kp 16, fun a h1 h2 j => by rw [wI_I, e a (by omega) (by omega)], rfl, rfl⟩
theorem IR.go {m' : Mem} (J : IR m g) (e : ∀ o, o = 1 ∨ (2 ≤ o ∧ o ≤ 7) ∨ o = 10 ∨ o = 11 ∨ (36 ≤ o ∧ o ≤ 38) → m' o = m o) (e0 : ∀ j, j = 9 ∨ j = 11 ∨ j = 19 ∨ j = 20 ∨ j = 56 ∨ j = 57 → m' 0 j = m 0 j) : IR m' g := by
  obtain ⟨⟨j1, j2⟩, ⟨j3, j4⟩, jp, ⟨j5, j6⟩, jl, jw, ju, jb, jx⟩ := J
  unfold IR
  rw [e0 11 (by decide), e0 19 (by decide), e0 20 (by decide), e0 56 (by decide), e0 57 (by decide), e 10 (by decide), e 1 (by decide), e 36 (by decide), e 37 (by decide), e 38 (by decide), e 11 (by decide)]
  exact ⟨⟨j1, j2⟩, ⟨j3, j4⟩, jp.congr (e0 9 (by decide)) (e 2 (by decide)) (e 3 (by decide)) (e 4 (by decide)) (e 5 (by decide)) (e 6 (by decide)) (e 7 (by decide)), ⟨j5, j6⟩, jl, jw, ju, jb, jx⟩
theorem bo2 {α β : Type} {A : Option (Int32 × α)} {B : Option (Int32 × β)} {R : α → β → Prop} (h : wp A (fun r => wp B (fun r' => r'.1 = r.1 ∧ R r.2 r'.2))) : ∃ r a b, A = some (r, a) ∧ B = some (r, b) ∧ R a b := by
  obtain ⟨⟨r, a⟩, e, ⟨r', b⟩, e', e1, hR⟩ := h
  simp only at e1
  subst e1
  exact ⟨r', a, b, e, e', hR⟩
theorem o_edge (I : IC h g own ad) (J : IR m g) (ok : okG g) (v u q : Int32) : ∃ r, fX11_edge h 0 v u q = some r ∧ gX12_edge m v u q = some r := by
  obtain ⟨cs, ow, ⟨t1, t2⟩, ⟨f1, f2⟩, ⟨P, hP, p1, p2, pc⟩, ⟨a1, a2⟩, r52, r19, r36, r15, sl, li, bx⟩ := I
  obtain ⟨⟨j1, j2⟩, ⟨j3, j4⟩, jp, ⟨j5, j6⟩, jl, jw, ju, jb, jx⟩ := J
  obtain ⟨o1, pw, o2, o3, o4, o5⟩ := ok
  have pc' : PC (wI h (hI h)) P (sP g) := pc
  have s5 : Sh5 h P := pc.1
  obtain ⟨b, n, hb, L⟩ := li (sA g) o2
  have rb : hR h 19 (sA g) = some b := by rw [r19 _ (by omega)]; exact hb
  have pr : ∀ {Q : Nat → Prop}, wp (fX2_present (wI h (hI h)) 18) Q = Q b := fun {Q} => cs.present a1 (by omega) rb
  obtain ⟨s3, L1, L2, L3, L4, L5, L6⟩ := L
  obtain ⟨F1, F2, F3, F4, F5, F8⟩ := jl
  obtain ⟨lw, sw⟩ := o4 (sA g) o2
  have s2 := cs.s2
  have s7 := s3.s4
  have s1 := s3.s3
  refine bo ?_
  show wp (fX11_edge (wI h (hI h)) 0 v u q) _
  unfold fX11_edge gX12_edge jX11_edge_36 gjX12_edge_32 gjX12_edge_68
  rw [wp_bind, cs.gr cs.r5, wp_bind, s2.o, wp_bind, pr, wp_bind, s3.r3, wp_bind, w_isNodeC]
  by_cases hv : inN v 16
  · obtain ⟨x, hx, e⟩ := inN_ex hv
    subst e
    rw [b01_t hv, wp_f (by decide), wp_bind, w_isNodeC]
    by_cases hu : inN u 16
    · obtain ⟨y, hy, e⟩ := inN_ex hu
      subst e
      rw [b01_t hu, wp_f (by decide), wp_bind, s1.o, wp_bind]
      have hE := F2.E lw.2.1 hx hy
      refine wp_mono (c_leads s1 L2 hx hy) ?_
      rintro r (⟨rfl, hg⟩ | ⟨rfl, hg⟩)
      · obtain ⟨pl, hpl⟩ : ∃ pl, aG (sH g (sA g)) x y = some pl := by
          cases hz : aG (sH g (sA g)) x y with
          | none => exact absurd hz hg
          | some pl => exact ⟨pl, rfl⟩
        have h72 := lw.2.1 x y pl hpl
        have ec := (L2.2 x hx).2.2 y pl hy hpl
        have er := F2 x y hx hy
        rw [hpl] at er
        have er' : m 1 (16 * x + y) = nI (1 + 16 * (pl / 12) + pl % 12) := er
        rw [wp_f (by decide), wp_bind, s1.r3, L_16, i_mul, i_add, wp_bind, s1.l3 (by omega), show x * 16 + y = 16 * x + y by omega, ec]
        have ref : ∀ Q : Int32 → Prop, wp ((gX12_isNode (nI x)).bind fun x1 => if x1 = 0 then some (-1) else (gX12_isNode (nI y)).bind fun x3 => if x3 = 0 then some (-1) else (gX12_isEdge m (nI x) (nI y)).bind fun x5 => if x5 = 0 then some (-1) else (gX12_isIn q 0 1).bind fun x7 => if x7 = 0 then some (-1) else (rd m 1 9685 (((0 : Int32) + ((16 : Int32) * nI x)) + nI y)).bind fun x9 => (some (x9 - (1 : Int32))).bind fun x10 => if q = 0 then some (x10 / (16 : Int32)) else some (x10 - x10 / (16 : Int32) * (16 : Int32))) Q = (if q = 0 then Q (nI (pl / 12)) else if q = 1 then Q (nI (pl % 12)) else Q (-1)) := by
          intro Q
          rw [wp_bind, w_isNodeR, b01_t hv, wp_f (by decide), wp_bind, w_isNodeR, b01_t hu, wp_f (by decide), wp_bind, w_isEdge hx hy, b01_t (hE.mpr hg), wp_f (by decide), wp_bind, show (gX12_isIn q 0 1) = gX12_isIn q 0 (nI 1) from rfl, w_isInK (by decide)]
          by_cases hq : inN q 2
          · rw [b01_t hq, wp_f (by decide), z_add, L_16, i_mul, i_add, wp_bind, w_rd (by omega) (by decide), er', wp_bind, wp_some, L_1, i_sub (by omega), show 1 + 16 * (pl / 12) + pl % 12 - 1 = 16 * (pl / 12) + pl % 12 by omega]
            obtain ⟨t, ht, e⟩ := inN_ex hq
            subst e
            rcases (by omega : t = 0 ∨ t = 1) with rfl | rfl
            · rw [wp_t (show nI 0 = 0 from rfl), if_pos (show nI 0 = 0 from rfl), wp_some, pk_div (by omega) (by decide) (by decide), show (16 * (pl / 12) + pl % 12) / 16 = pl / 12 by omega]
            · rw [wp_f (show ¬ nI 1 = 0 by decide), if_neg (show ¬ nI 1 = 0 by decide), if_pos (show nI 1 = nI 1 from rfl), wp_some, pk_rem (by omega) (by decide) (by decide), show (16 * (pl / 12) + pl % 12) % 16 = pl % 12 by omega]
          · rw [b01_n hq, wp_t rfl, wp_some]
            have n0 : ¬ q = 0 := fun e => hq (by rw [e]; decide)
            have n1 : ¬ q = 1 := fun e => hq (by rw [e]; decide)
            rw [if_neg n0, if_neg n1]
        by_cases z0 : q = 0
        · rw [wp_t z0, wp_some, ← L_16, ref, if_pos z0, L_12, pk_div (by omega) (by decide) (by decide)]
        · rw [wp_f z0]
          by_cases z1 : q = 1
          · rw [wp_t z1, wp_some, ← L_16, ref, if_neg z0, if_pos z1, L_12, pk_rem (by omega) (by decide) (by decide)]
          · rw [wp_f z1, wp_some, ← L_16, ref, if_neg z0, if_neg z1]
      · rw [wp_t rfl, wp_some, wp_bind, w_isNodeR, b01_t hv, wp_f (by decide), wp_bind, w_isNodeR, b01_t hu, wp_f (by decide), wp_bind, w_isEdge hx hy, b01_n (fun z => hg (hE.mp z)), wp_t rfl, wp_some]
    · rw [b01_n hu, wp_t rfl, wp_some, wp_bind, w_isNodeR, b01_t hv, wp_f (by decide), wp_bind, w_isNodeR, b01_n hu, wp_t rfl, wp_some]
  · rw [b01_n hv, wp_t rfl, wp_some, wp_bind, w_isNodeR, b01_n hv, wp_t rfl, wp_some]

theorem o_report (I : IC h g own ad) (J : IR m g) (ok : okG g) (v u : Int32) : ∃ r, fX11_report h 0 v u = some r ∧ gX12_report_ m v u = some r := by
  obtain ⟨cs, ow, ⟨t1, t2⟩, ⟨f1, f2⟩, ⟨P, hP, p1, p2, pc⟩, ⟨a1, a2⟩, r52, r19, r36, r15, sl, li, bx⟩ := I
  obtain ⟨⟨j1, j2⟩, ⟨j3, j4⟩, jp, ⟨j5, j6⟩, jl, jw, ju, jb, jx⟩ := J
  obtain ⟨o1, pw, o2, o3, o4, o5⟩ := ok
  have pc' : PC (wI h (hI h)) P (sP g) := pc
  have s5 : Sh5 h P := pc.1
  obtain ⟨b, n, hb, L⟩ := li (sA g) o2
  have rb : hR h 19 (sA g) = some b := by rw [r19 _ (by omega)]; exact hb
  have pr : ∀ {Q : Nat → Prop}, wp (fX2_present (wI h (hI h)) 18) Q = Q b := fun {Q} => cs.present a1 (by omega) rb
  obtain ⟨s3, L1, L2, L3, L4, L5, L6⟩ := L
  obtain ⟨F1, F2, F3, F4, F5, F8⟩ := jl
  obtain ⟨lw, sw⟩ := o4 (sA g) o2
  have s2 := cs.s2
  have s7 := s3.s4
  have s1 := s3.s3
  refine bo ?_
  show wp (fX11_report (wI h (hI h)) 0 v u) _
  have h60 := lw.1.1
  have q0 : hI h (b + 8) 0 = nI (rC (aD (sH g (sA g)))) := L1.1
  unfold fX11_report gX12_report_ jX11_report_23 gjX12_report__57
  rw [wp_bind, cs.gr cs.r5, wp_bind, s2.o, wp_bind, pr, wp_bind, s3.r4]
  by_cases hv : inN v (rC (aD (sH g (sA g))))
  · obtain ⟨r, hr, e⟩ := inN_ex hv
    subst e
    obtain ⟨⟨g1, g2, g3, g4⟩, g5⟩ := F1.2 r hr
    obtain ⟨⟨c1, c2, c3, c4⟩, c5⟩ := L1.2.1 r hr
    have hN := (lw.1.2 r hr).1
    have x0 := g5 0 (by omega)
    have xn := g5 (rN (aD (sH g (sA g))) r - 1) (by omega)
    have nb0 := (lw.1.2 r hr).2 0 (by omega)
    have nbn := (lw.1.2 r hr).2 (rN (aD (sH g (sA g))) r - 1) (by omega)
    have ec : (nI r).toNatClampNeg = r := nI_clamp (by omega)
    have ref : ∀ Q : Int32 → Prop, wp ((gX12_isReport m (nI r)).bind fun x1 => if x1 = 0 then some (-1) else (gX12_isIn u 0 3).bind fun x3 => if x3 = 0 then (if u = 4 then (gX12_firstOf m (nI r)).bind fun x8 => some x8 else (if u = 5 then (gX12_lastOf m (nI r)).bind fun x7 => some x7 else some (-1))) else (gX12_atReport (nI r) u).bind fun x9 => (rd m 1 9685 x9).bind fun x10 => some x10) Q = (if u = 0 then Q (nI (rS (aD (sH g (sA g))) r)) else if u = 1 then Q (nI (rP (aD (sH g (sA g))) r)) else if u = 2 then Q (nI (rT (aD (sH g (sA g))) r)) else if u = 3 then Q (nI (rN (aD (sH g (sA g))) r)) else if u = 4 then Q (nI (rX (aD (sH g (sA g))) r 0)) else if u = 5 then Q (nI (rX (aD (sH g (sA g))) r (rN (aD (sH g (sA g))) r - 1))) else Q (-1)) := by
      intro Q
      rw [wp_bind, w_isReport F1 lw.1, b01_t hv, wp_f (by decide), wp_bind, show (gX12_isIn u 0 3) = gX12_isIn u 0 (nI 3) from rfl, w_isInK (by decide)]
      by_cases hq : inN u 4
      · obtain ⟨t, ht, e⟩ := inN_ex hq
        subst e
        rw [b01_t hq, wp_f (by decide), wp_bind, w_atReport, wp_bind, w_rd (by omega) (by decide), wp_some]
        rcases (by omega : t = 0 ∨ t = 1 ∨ t = 2 ∨ t = 3) with rfl | rfl | rfl | rfl
        · rw [if_pos (show nI 0 = 0 from rfl), Nat.add_zero, g1]
        · rw [if_neg (show ¬ nI 1 = 0 by decide), if_pos (show nI 1 = 1 from rfl), show 273 + 21 * r + 1 = 274 + 21 * r by omega, g2]
        · rw [if_neg (show ¬ nI 2 = 0 by decide), if_neg (show ¬ nI 2 = 1 by decide), if_pos (show nI 2 = 2 from rfl), show 273 + 21 * r + 2 = 275 + 21 * r by omega, g3]
        · rw [if_neg (show ¬ nI 3 = 0 by decide), if_neg (show ¬ nI 3 = 1 by decide), if_neg (show ¬ nI 3 = 2 by decide), if_pos (show nI 3 = 3 from rfl), show 273 + 21 * r + 3 = 276 + 21 * r by omega, g4]
      · have n0 : ¬ u = 0 := fun e => hq (by rw [e]; decide)
        have n1 : ¬ u = 1 := fun e => hq (by rw [e]; decide)
        have n2 : ¬ u = 2 := fun e => hq (by rw [e]; decide)
        have n3 : ¬ u = 3 := fun e => hq (by rw [e]; decide)
        rw [b01_n hq, wp_t rfl, if_neg n0, if_neg n1, if_neg n2, if_neg n3]
        by_cases z4 : u = 4
        · rw [wp_t z4, if_pos z4]
          simp (disch := omega) only [gX12_firstOf, wp_bind, L_4, w_atReport, w_rd, wp_some]
          rw [show 273 + 21 * r + 4 = 277 + 21 * r + 0 by omega, x0]
        · rw [wp_f z4, if_neg z4]
          by_cases z5 : u = 5
          · rw [wp_t z5, if_pos z5]
            simp (disch := omega) only [gX12_lastOf, wp_bind, L_3, L_4, L_1, w_atReport, w_rd, wp_some]
            rw [show 273 + 21 * r + 3 = 276 + 21 * r by omega, g4]
            simp (disch := omega) only [i_add, i_sub, w_atReport, w_rd, wp_some]
            rw [show 273 + 21 * r + (4 + rN (aD (sH g (sA g))) r - 1) = 277 + 21 * r + (rN (aD (sH g (sA g))) r - 1) by omega, xn]
          · rw [wp_f z5, if_neg z5, wp_some]
    rw [wp_f (nI_pos (by omega)), wp_bind, s7.g0, q0, wp_t (nI_lt hr (by omega))]
    by_cases z0 : u = 0
    · rw [wp_t z0, wp_bind, s7.r1, wp_bind, s7.l1 (by omega), wp_some, ref, if_pos z0, c1]
    · rw [wp_f z0]
      by_cases z1 : u = 1
      · rw [wp_t z1, wp_bind, s7.r2, wp_bind, s7.l2 (by omega), wp_some, ref, if_neg z0, if_pos z1, c2]
      · rw [wp_f z1]
        by_cases z2 : u = 2
        · rw [wp_t z2, wp_bind, s7.r3, wp_bind, s7.l3 (by omega), wp_some, ref, if_neg z0, if_neg z1, if_pos z2, c3]
        · rw [wp_f z2]
          by_cases z3 : u = 3
          · rw [wp_t z3, wp_bind, s7.r4, wp_bind, s7.l4 (by omega), wp_some, ref, if_neg z0, if_neg z1, if_neg z2, if_pos z3, c4]
          · rw [wp_f z3]
            by_cases z4 : u = 4
            · rw [wp_t z4, wp_bind, s7.o, wp_bind, c_nodeAt s7 L1 lw.1, wp_some, ref, if_neg z0, if_neg z1, if_neg z2, if_neg z3, if_pos z4, if_pos ⟨hv, by rw [ec]; exact (inN_nI (j := 0) (by decide)).mpr (by omega)⟩, ec]
              rfl
            · rw [wp_f z4]
              by_cases z5 : u = 5
              · rw [wp_t z5, wp_bind, s7.r4, wp_bind, s7.l4 (by omega), wp_bind, s7.o, c4, show nI (rN (aD (sH g (sA g))) r) - 1 = nI (rN (aD (sH g (sA g))) r - 1) from i_sub (b := 1) (by omega), wp_bind, c_nodeAt s7 L1 lw.1, wp_some, ref, if_neg z0, if_neg z1, if_neg z2, if_neg z3, if_neg z4, if_pos z5, if_pos ⟨hv, by rw [ec]; exact (inN_nI (by omega)).mpr (by omega)⟩, ec, nI_clamp (by omega)]
              · rw [wp_f z5, wp_some, ref, if_neg z0, if_neg z1, if_neg z2, if_neg z3, if_neg z4, if_neg z5]
  · have ref : ∀ Q : Int32 → Prop, wp ((gX12_isReport m v).bind fun x1 => if x1 = 0 then some (-1) else (gX12_isIn u 0 3).bind fun x3 => if x3 = 0 then (if u = 4 then (gX12_firstOf m v).bind fun x8 => some x8 else (if u = 5 then (gX12_lastOf m v).bind fun x7 => some x7 else some (-1))) else (gX12_atReport v u).bind fun x9 => (rd m 1 9685 x9).bind fun x10 => some x10) Q = Q (-1) := by
      intro Q
      rw [wp_bind, w_isReport F1 lw.1, b01_n hv, wp_t rfl, wp_some]
    by_cases h0 : v < 0
    · rw [wp_t h0, wp_some, ref]
    · rw [wp_f h0, wp_bind, s7.g0, q0, wp_f (fun z => hv ⟨h0, ?_⟩), wp_some, ref]
      obtain ⟨j, hj, e⟩ := nI_of h0
      subst e
      rw [nI_clamp hj]
      exact (nI_ltI hj (by omega)).mp z

theorem o_way (I : IC h g own ad) (J : IR m g) (ok : okG g) (v u q : Int32) : ∃ r h1 m1, fX11_way h 0 v u q = some (r, h1) ∧ gX12_way m v u q = some (r, m1) ∧ (IC h1 g own ad ∧ NF h h1 own ∧ hN h1 = hN h ∧ hZ h1 = hZ h) ∧ IR m1 g := by
  have I' := I
  have J' := J
  obtain ⟨cs, ow, ⟨t1, t2⟩, ⟨f1, f2⟩, ⟨P, hP, p1, p2, pc⟩, ⟨a1, a2⟩, r52, r19, r36, r15, sl, li, bx⟩ := I
  obtain ⟨⟨j1, j2⟩, ⟨j3, j4⟩, jp, ⟨j5, j6⟩, jl, jw, ju, jb, jx⟩ := J
  obtain ⟨o1, pw, o2, o3, o4, o5⟩ := ok
  have pc' : PC (wI h (hI h)) P (sP g) := pc
  have s5 : Sh5 h P := pc.1
  obtain ⟨b, n, hb, L⟩ := li (sA g) o2
  have rb : hR h 19 (sA g) = some b := by rw [r19 _ (by omega)]; exact hb
  have pr : ∀ {Q : Nat → Prop}, wp (fX2_present (wI h (hI h)) 18) Q = Q b := fun {Q} => cs.present a1 (by omega) rb
  obtain ⟨s3, L1, L2, L3, L4, L5, L6⟩ := L
  obtain ⟨F1, F2, F3, F4, F5, F8⟩ := jl
  obtain ⟨lw, sw⟩ := o4 (sA g) o2
  have s2 := cs.s2
  have s7 := s3.s4
  have s1 := s3.s3
  refine bo2 (R := fun h1 m1 => (IC h1 g own ad ∧ NF h h1 own ∧ hN h1 = hN h ∧ hZ h1 = hZ h) ∧ IR m1 g) ?_
  show wp (fX11_way (wI h (hI h)) 0 v u q) _
  have h16 : (16 : Nat) ≤ 16 := Nat.le_refl _
  have s10 := cs.s10
  have b14 := s3.1
  have ob : ∀ a, b ≤ a → a ≤ b + 14 → own a = 1 + sA g := (sl (sA g) b (by omega) hb).1
  have ne : ∀ a, 38 ≤ a → a ≤ 40 → b + 4 + 1 ≠ a := by
    intro a h1 h2 e
    have := ob (b + 4 + 1) (by omega) (by omega)
    have := ow.1 a (by omega) (by omega) (by omega)
    rw [← e] at this
    omega
  have base : IC h g own ad ∧ NF h h own ∧ hN h = hN h ∧ hZ h = hZ h := ⟨I', (I'.sc o3 (m' := hI h) (fun _ _ _ => rfl)).2, rfl, rfl⟩
  have w23 : ∀ Q : Int32 × Mem → Prop, wp (gjX12_way_23 q m) Q = Q (-1, m) := by
    intro Q
    unfold gjX12_way_23 gjX12_way_24
    rw [wp_t rfl, wp_some]
  unfold fX11_way gX12_way jX11_way_39
  rw [wp_bind, w_isNodeC]
  by_cases hv : inN v 16
  · obtain ⟨x, hx, e⟩ := inN_ex hv
    subst e
    rw [b01_t hv, wp_f (by decide), wp_bind, w_isNodeC]
    by_cases hu : inN u 16
    · obtain ⟨y, hy, e⟩ := inN_ex hu
      subst e
      rw [b01_t hu, wp_f (by decide), wp_bind, cs.gr cs.r8, wp_bind, cs.gr cs.r5, wp_bind, s2.o, wp_bind, pr, wp_bind, s3.r3, wp_bind, s1.r1, wp_bind, s10.o, wp_bind]
      have hE : ∀ a c, a < 16 → c < 16 → (nE (hI h (b + 4 + 1)) a c ↔ gE (aG (sH g (sA g))) a c) := fun a c ha hc => L2.E ha hc
      have hE2 : ∀ a c, a < 16 → c < 16 → (rE (m 1) a c ↔ gE (aG (sH g (sA g))) a c) := fun a c ha hc => F2.E lw.2.1 ha hc
      refine wp_mono (c_find s10 (show b + 4 + 1 < hN h by omega) s1.2.2.1.2 (by decide) (ne 38 (by decide) (by decide)) (ne 39 (by decide) (by decide)) (ne 40 (by decide) (by decide)) hx hy) ?_
      rintro ⟨r1, h1⟩ ⟨m1, rfl, fr1, H1⟩
      have I1 := I'.sc o3 (m' := m1) (fun a h1 h2 => fr1 a (by omega) (by omega) (by omega))
      have fin : ∀ (r : Int32) (Q : Int32 × Mem → Prop), True := fun _ _ => trivial
      have ref : ∀ (R : Int32 → Mem → Prop), (∀ m2 : Mem, (∀ o, o ≠ 16 → o ≠ 17 → m2 o = m o) → (∀ (K : Nat) (z : Nat → Nat), Way 16 (gE (aG (sH g (sA g)))) x y K z → (∀ i, i ≤ K → m2 17 i = nI (z i)) → ∀ Q : Int32 × Mem → Prop, (∀ r, R r m2 → Q (r, m2)) → wp (gjX12_way_24 q (nI (K + 1)) m2) Q) ∧ (noWay 16 (gE (aG (sH g (sA g)))) x y → R (-1) m2)) → wp ((gX12_isNode (nI x)).bind fun x1 => if x1 = 0 then gjX12_way_23 q m else (gX12_isNode (nI y)).bind fun x8 => if x8 = 0 then gjX12_way_23 q m else (gX12_layWay m (nI x) (nI y)).bind fun x10 => gjX12_way_24 q x10.1 x10.2) (fun r' => R r'.1 r'.2) := by
        intro R hR
        rw [wp_bind, w_isNodeR, b01_t hv, wp_f (by decide), wp_bind, w_isNodeR, b01_t hu, wp_f (by decide), wp_bind]
        refine wp_mono (r_layWay (m := m) hx hy) ?_
        rintro ⟨r2, m2⟩ ⟨fr2, H2⟩
        rcases H2 with ⟨K, z, way, e, hz⟩ | ⟨e, no⟩
        · simp only at e; subst e
          exact (hR m2 fr2).1 K z (Way_congr hE2 hx way) hz _ (fun r hr => hr)
        · simp only at e; subst e
          show wp (gjX12_way_24 q 0 m2) _
          unfold gjX12_way_24
          rw [wp_t rfl, wp_some]
          exact (hR m2 fr2).2 ((noWay_congr hE2 hx).mp no)
      rcases H1 with ⟨e, K, z, way, eK, ez⟩ | ⟨e, no, _⟩
      · simp only at e; subst e
        have wayG := Way_congr hE hx way
        have hK := wayG.leK hy
        have hz16 := wayG.lt hx
        simp only
        rw [wp_f (by decide)]
        have fin : ∀ r, (∀ (m2 : Mem) (z2 : Nat → Nat), (∀ i, i ≤ K → m2 17 i = nI (z2 i)) → (∀ i, i ≤ K → z2 i = z i) → ∀ Q : Int32 × Mem → Prop, Q (r, m2) → wp (gjX12_way_24 q (nI (K + 1)) m2) Q) → wp ((gX12_isNode (nI x)).bind fun x1 => if x1 = 0 then gjX12_way_23 q m else (gX12_isNode (nI y)).bind fun x8 => if x8 = 0 then gjX12_way_23 q m else (gX12_layWay m (nI x) (nI y)).bind fun x10 => gjX12_way_24 q x10.1 x10.2) (fun r' => r'.1 = r ∧ (IC (wI h m1) g own ad ∧ NF h (wI h m1) own ∧ hN (wI h m1) = hN h ∧ hZ (wI h m1) = hZ h) ∧ IR r'.2 g) := by
          intro r hr
          refine ref (fun r' m2 => r' = r ∧ (IC (wI h m1) g own ad ∧ NF h (wI h m1) own ∧ hN (wI h m1) = hN h ∧ hZ (wI h m1) = hZ h) ∧ IR m2 g) (fun m2 fr2 => ⟨fun K2 z2 way2 ez2 Q hQ => ?_, fun no => absurd no (fun q => wayG.no q)⟩)
          have e2 : K2 = K := way2.K wayG
          subst e2
          refine hr m2 z2 ez2 (way2.nodes wayG) Q (hQ r ⟨rfl, ⟨I1.1, I1.2, rfl, rfl⟩, J'.go (fun o ho => fr2 o (by omega) (by omega)) (fun j _ => by rw [fr2 0 (by decide) (by decide)])⟩)
        by_cases zq : q = -1
        · rw [wp_t zq, wp_bind, cs.gr cs.r8, wp_bind, s10.g1, eK, wp_some]
          refine fin (nI K) (fun m2 z2 _ _ Q hQ => ?_)
          unfold gjX12_way_24 gjX12_way_67
          rw [wp_f (nI_ne0 (by omega) (by omega)), wp_t zq, wp_some, nI_pred]; exact hQ
        · rw [wp_f zq]
          by_cases hq0 : q < 0
          · rw [wp_t hq0]
            unfold jX11_way_81 jX11_way_82
            rw [wp_some]
            refine fin (-1) (fun m2 z2 _ _ Q hQ => ?_)
            unfold gjX12_way_24 gjX12_way_67
            rw [wp_f (nI_ne0 (by omega) (by omega)), wp_f zq, wp_bind, w_isIn (by omega), b01_n (fun z => z.1 hq0), wp_t rfl, wp_some]; exact hQ
          · rw [wp_f hq0]
            obtain ⟨i, hi, e⟩ := nI_of hq0
            subst e
            rw [wp_bind, cs.gr cs.r8, wp_bind, s10.g1, eK]
            by_cases hiK : K < i
            · rw [wp_t (nI_lt hiK hi)]
              unfold jX11_way_81 jX11_way_82
              rw [wp_some]
              refine fin (-1) (fun m2 z2 _ _ Q hQ => ?_)
              unfold gjX12_way_24 gjX12_way_67
              rw [wp_f (nI_ne0 (by omega) (by omega)), wp_f zq, wp_bind, w_isIn (by omega), b01_n (fun z => by have := (inN_nI hi).mp z; omega), wp_t rfl, wp_some]; exact hQ
            · rw [wp_f (nI_nlt (by omega) (by omega)), wp_bind, cs.gr cs.r8, wp_bind, s10.r0, wp_bind, s10.l0 (by omega), ez i (by omega)]
              unfold jX11_way_82
              rw [wp_some]
              refine fin (nI (z i)) (fun m2 z2 h2 h3 Q hQ => ?_)
              unfold gjX12_way_24 gjX12_way_67
              rw [wp_f (nI_ne0 (by omega) (by omega)), wp_f zq, wp_bind, w_isIn (by omega), b01_t ((inN_nI hi).mpr (by omega)), wp_f (by decide), wp_bind, w_rd (by omega) (by decide), wp_some, h2 i (by omega), h3 i (by omega)]; exact hQ
      · simp only at e; subst e
        simp only
        rw [wp_t trivial, wp_some]
        have noG := (noWay_congr hE hx).mp no
        exact ref (fun r' m2 => r' = -1 ∧ (IC (wI h m1) g own ad ∧ NF h (wI h m1) own ∧ hN (wI h m1) = hN h ∧ hZ (wI h m1) = hZ h) ∧ IR m2 g) (fun m2 fr2 => ⟨fun K2 z2 way2 _ _ _ => absurd noG (fun q => way2.no q), fun _ => ⟨rfl, ⟨I1.1, I1.2, rfl, rfl⟩, J'.go (fun o ho => fr2 o (by omega) (by omega)) (fun j _ => by rw [fr2 0 (by decide) (by decide)])⟩⟩)
    · rw [b01_n hu, wp_t rfl, wp_some, wp_bind, w_isNodeR, b01_t hv, wp_f (by decide), wp_bind, w_isNodeR, b01_n hu, wp_t rfl, w23]
      exact ⟨rfl, base, J'⟩
  · rw [b01_n hv, wp_t rfl, wp_some, wp_bind, w_isNodeR, b01_n hv, wp_t rfl, w23]
    exact ⟨rfl, base, J'⟩

end OP2

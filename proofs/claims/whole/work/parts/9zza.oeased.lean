/-! eased, on both sides -/
/-- after a call -/
def PST (h h1 : Hp) (m1 : Mem) (g' : GS) : Prop := IR m1 g' ∧ okG g' ∧ (∃ own' ad', IC h1 g' own' ad' ∧ FI h1 own' (sP g')) ∧ hN h1 + sd h1 ≤ hN h + sd h + 20 ∧ hZ h1 + sz h1 ≤ hZ h + sz h + 10200 ∧ ∀ a j, 81 ≤ a → a < 120 → hI h1 a j = hI h a j
/-- the state with two steps of the present changed -/
def gsw (g : GS) (j : Nat) : GS := (g.1, g.2.1, g.2.2.1, (sA g, sL g, sbf (sH g) (sA g) (swA (sH g (sA g)) j)), g.2.2.2.2)
section OEA
variable {h : Hp} {m m' : Mem} {g : GS} {own own' : Nat → Nat} {ad : Nat → Option Nat} {X P : Nat} {Pl : PD} {T : Nat → Nat}
theorem fn_mo {h1 : Hp} (o : OWN own (hN h)) (N120 : 120 ≤ hN h) (f : FN h h1 own own') : ∀ a j, 81 ≤ a → a < 120 → hI h1 a j = hI h a j := fun a j h1 h2 => f.2.2.2.2.1 a (by omega) (by rw [o.1 a (by omega) (by omega) (by omega)]; decide) (by omega) j
theorem ask_pst {h1 : Hp} {m1 : Mem} (I : IC h g own ad) (ok : okG g) (a : ASK h h1 m1 own g) : PST h h1 m1 g := by
  obtain ⟨⟨own', f, fi⟩, J⟩ := a
  exact ⟨J, ok, ⟨own', ad, ic_f I ok.2.2.2.1 f, fi⟩, by have := f.2.2.2.2.2.2.2.1; omega, by have := f.2.2.2.2.2.2.2.2; omega, fn_mo I.2.1 I.1.1 f⟩
theorem sw_sw (A : LA) (j : Nat) : swA (swA A j) j = A := by
  obtain ⟨a1, a2, a3, a4, ⟨a5, a6⟩, a7, a8⟩ := A
  show (a1, a2, a3, a4, (a5, a6), a7, fun i => a8 (sj j (sj j i))) = _
  have : (fun i => a8 (sj j (sj j i))) = a8 := funext fun i => by rw [sj_sj]
  rw [this]
theorem gsw_gsw (g : GS) (j : Nat) : gsw (gsw g j) j = g := by
  obtain ⟨g1, g2, g3, ⟨a, l, H⟩, x⟩ := g
  show (g1, g2, g3, (a, l, sbf (sbf H a (swA (H a) j)) a (swA (sbf H a (swA (H a) j) a) j)), x) = _
  rw [sbf_at, sw_sw]
  have : sbf (sbf H a (swA (H a) j)) a (H a) = H := funext fun i => by
    by_cases z : i = a
    · rw [z, sbf_at]
    · rw [sbf_ne z, sbf_ne z]
  rw [this]
theorem gsw_T (g : GS) (j : Nat) : gT (gsw g j) = fun i => gT g (sj j i) := by
  show aS (sbf (sH g) (sA g) (swA (sH g (sA g)) j) (sA g)) = _
  rw [sbf_at]; rfl
theorem ok_sw {j : Nat} (ok : okG g) (hj : j + 1 < 72) (v1 : pV (sP g) j) (v2 : pV (sP g) (j + 1)) : okG (gsw g j) := by
  obtain ⟨o1, pw, o2, o3, o4, o5⟩ := ok
  refine ⟨o1, pw, o2, o3, fun i hi => ?_, o5⟩
  show okA (sP g) (sbf (sH g) (sA g) (swA (sH g (sA g)) j) i)
  by_cases z : i = sA g
  · rw [z, sbf_at]; exact okA_sw (o4 (sA g) o2) hj v1 v2
  · rw [sbf_ne z]; exact o4 i hi
theorem pv_lt {Pl : PD} (pw : PW Pl) {i : Nat} (v : pV Pl i) : i < 72 := by
  have := v.1
  have := pw.2.2.1
  have := v.2
  have := (pw.2.2.2.2 (i / 12) v.1).2.2
  omega
theorem ir_sw {j : Nat} (J : IR m g) (ok : okG g) (hj : j + 1 < 72) (v1 : pV (sP g) j) (v2 : pV (sP g) (j + 1)) : IR (xcM (xcM m 1 (1541 + j)) 1 (1613 + j)) (gsw g j) := by
  obtain ⟨⟨j1, j2⟩, ⟨j3, j4⟩, jp, ⟨j5, j6⟩, jl, jw, ju, jb, jx⟩ := J
  obtain ⟨o1, pw, o2, o3, o4, o5⟩ := ok
  have e : ∀ o, o ≠ 1 → xcM (xcM m 1 (1541 + j)) 1 (1613 + j) o = m o := fun o ho => by rw [xcM_r ho, xcM_r ho]
  refine ⟨⟨by rw [e 0 (by decide)]; exact j1, fun i hi => by rw [e 10 (by decide)]; exact j2 i hi⟩, ⟨by rw [e 0 (by decide)]; exact j3, by rw [e 0 (by decide)]; exact j4⟩, jp.congr (by rw [e 0 (by decide)]) (e 2 (by decide)) (e 3 (by decide)) (e 4 (by decide)) (e 5 (by decide)) (e 6 (by decide)) (e 7 (by decide)), ⟨by rw [e 0 (by decide)]; exact j5, by rw [e 0 (by decide)]; exact j6⟩, ?_, fun i hi => ?_, fun i h1 h2 => ?_, ?_, ?_⟩
  · show LF (pV (sP g)) _ (sbf (sH g) (sA g) (swA (sH g (sA g)) j) (sA g))
    rw [sbf_at]
    exact LF.sw jl (o4 (sA g) o2).1 (fun i v => pv_lt pw v) v1 v2 (fun i _ hn => xc3 hj hn) (fun i hi => xc2 hi hj)
  · have hi : i < sA g := hi
    show LF (pV (sP g)) _ (sbf (sH g) (sA g) (swA (sH g (sA g)) j) i)
    rw [sbf_ne (by omega), e 36 (by decide)]; exact jw i hi
  · have h1 : sA g < i := h1
    show LF (pV (sP g)) _ (sbf (sH g) (sA g) (swA (sH g (sA g)) j) i)
    rw [sbf_ne (by omega), e 36 (by decide)]; exact ju i h1 h2
  · rw [e 37 (by decide), e 38 (by decide)]; exact jb
  · rw [e 11 (by decide)]; exact jx
/-- the class tries other steps -/
theorem c_try (s : Sh0 h 74) (o : OWN own (hN h)) (N120 : 120 ≤ hN h) (f : FI h own Pl) (pc : PC h P Pl) (hP : P = 8 ∨ P = 13) (pw : PW Pl) (sw : SW Pl T) (h73 : hS h 73 = .inr (.int, 72)) (hT : ∀ j, j < 72 → hI h 73 j = nI (T j)) (vX : vst Pl X) : wp (fX0_tryOut h 74 P 73 (nI X)) (fun r => ∃ own', FN h r.2 own own' ∧ FI r.2 own' Pl ∧ r.1 = nI (oc Pl (cS T) X) ∧ oc Pl (cS T) X < 3) := by
  obtain ⟨sd, f⟩ := f
  unfold fX0_tryOut
  rw [wp_bind]
  show wp (gO (wI h (hI h)) 0 74) _
  rw [s.o, wp_bind]
  refine wp_mono (c_ready s o N120 sd) ?_
  rintro ⟨a, h1⟩ ⟨own', turn, fn, r8, a120, oa, s8, sdt, i120, ready⟩
  change FN h h1 own own' at fn
  change hR h1 74 8 = some a at r8
  change 120 ≤ a at a120
  change ∀ x, a ≤ x → x ≤ a + 11 → own' x = 17 at oa
  change Sh8 h1 a at s8
  change SDT (hI h1) a turn at sdt
  change ∀ x j, x < 120 → hI h1 x j = hI h x j at i120
  have x1 := fn.1
  have s01 := s.x x1
  have nl := x1.1
  show wp ((pI (wI h1 (hI h1)) 0 74 7 mI).bind _) _
  rw [wp_bind, s01.p7, wp_bind, s8.o, wp_bind]
  have fk : FN h1 (wI h1 (up (hI h1) 74 7 mI)) own' own' := fn_w fn.2.2.2.1 (fun x hx => up_r (by omega))
  have pc1 : PC (wI h1 (up (hI h1) 74 7 mI)) P Pl := PC.congr (h := h) (m := hI h) (m' := up (hI h1) 74 7 mI) pc x1 (fun y y1 y2 => by rw [up_r (by omega)]; exact funext fun j => i120 y j (by omega))
  have sdt1 : SDT (hI (wI h1 (up (hI h1) 74 7 mI))) a turn := ⟨by show up (hI h1) 74 7 mI a 14 = _; rw [up_r (by omega)]; exact sdt.1, sdt.2.1, fun t ht => by show ∃ v, up (hI h1) 74 7 mI (a + 5) t = nI v ∧ _; rw [up_r (by omega)]; exact sdt.2.2 t ht⟩
  refine wp_mono (c_se (h1 := wI h1 (up (hI h1) 74 7 mI)) (c := 73) (T := T) fk.2.2.2.1 r8 a120 oa (s8.x fk.1) sdt1 pc1 hP pw ⟨by decide, by show hS h1 73 = _; rw [x1.2.1 73 (by omega)]; exact h73⟩ sw (fun j hj => by show up (hI h1) 74 7 mI 73 j = _; rw [up_r (by decide), i120 73 j (by decide)]; exact hT j hj) vX) ?_
  rintro h2 ⟨g1, g2, g3, g4, g5, g6⟩
  have l2 := g3.1
  rw [wp_bind]
  show wp (gI (wI h2 (hI h2)) 8 a 0) _
  rw [g3.g0, wp_some]
  have e7 : hI h2 74 7 = mI := by rw [g5 74 7 (by decide)]; show up (hI h1) 74 7 mI 74 7 = mI; exact up_at
  have ei : ∀ x j, x < 120 → (x ≠ 74 ∨ j ≠ 7) → hI h2 x j = hI h x j := fun x j hx hn => by
    rw [g5 x j hx]
    show up (hI h1) 74 7 mI x j = _
    rw [up_ne hn, i120 x j hx]
  refine ⟨own', (fn.tr fk).tr g1, ⟨g4, ?_⟩, g6.1, oc_lt g6.2.2.1⟩
  rcases f with f | ⟨U, u1, u2, u3, u4, u5, u6⟩
  · exact Or.inl (by rw [ei 74 6 (by decide) (by decide)]; exact f)
  · refine Or.inr ⟨U, u1, g4, by rw [ei 74 6 (by decide) (by decide)]; exact u3, fun j hj => by rw [ei 80 j (by decide) (Or.inl (by decide))]; exact u4 j hj, fun Y vY => ?_, fun Y vY hl => ?_⟩
    · rw [ei 79 Y (by decide) (Or.inl (by decide)), ei 75 Y (by decide) (Or.inl (by decide)), ei 76 Y (by decide) (Or.inl (by decide)), ei 77 Y (by decide) (Or.inl (by decide)), ei 78 Y (by decide) (Or.inl (by decide))]; exact u5 Y vY
    · have := vY.1
      rw [e7, m_eq' (by omega)] at hl
      exact hl.elim
/-- what eased answers -/
noncomputable def eaV (Pl : PD) (S S' : Nat → Nat) : Int32 := ci (vst Pl (2 ^ pP Pl - 1)) (if oc Pl S (2 ^ pP Pl - 1) = 2 then mI else if oc Pl S' (2 ^ pP Pl - 1) = 2 then mI else if oc Pl S (2 ^ pP Pl - 1) = 1 ∧ oc Pl S' (2 ^ pP Pl - 1) = 0 then 1 else 0) mI
theorem r_eased {p s : Nat} (J : IR m g) (ok : okG g) (hp : p < pP (sP g)) (hs : s + 1 < pN (sP g) p) : wp (gX12_eased m (nI p) (nI s)) (fun y => IR y.2 g ∧ y.1 = eaV (sP g) (cS (gT g)) (cS (gT (gsw g (12 * p + s))))) := by
  have pw := ok.2.1
  have p6 := pw.2.2.1
  have n12 := (pw.2.2.2.2 p hp).2.2
  have h64 := p64 pw
  have hp0 : 0 < 2 ^ pP (sP g) := Nat.two_pow_pos _
  have hj : 12 * p + s + 1 < 72 := by omega
  have v1 : pV (sP g) (12 * p + s) := by
    have e1 : (12 * p + s) / 12 = p := by omega
    have e2 : (12 * p + s) % 12 = s := by omega
    unfold pV
    rw [e1, e2]; exact ⟨hp, by omega⟩
  have v2 : pV (sP g) (12 * p + s + 1) := by
    have e1 : (12 * p + s + 1) / 12 = p := by omega
    have e2 : (12 * p + s + 1) % 12 = s + 1 := by omega
    unfold pV
    rw [e1, e2]; exact ⟨hp, hs⟩
  have hv : inN (nI p) (pP (sP g)) ∧ inN (nI s) (pN (sP g) (nI p).toNatClampNeg - 1) := ⟨(inN_nI (by omega)).mpr hp, by rw [nI_clamp (by omega)]; exact (inN_nI (by omega)).mpr (by omega)⟩
  unfold gX12_eased gjX12_eased_63 gjX12_eased_80 gjX12_eased_81
  rw [wp_bind, w_isPair J.2.2.1 pw, b01_t hv, wp_f (by decide), wp_bind, rd4 J.2.2.1, wp_bind, wp_some, shl_p pw, show (nI (2 ^ pP (sP g)) - (1 : Int32)) = nI (2 ^ pP (sP g) - 1) from i_sub (a := 2 ^ pP (sP g)) (b := 1) (by omega), wp_bind]
  refine wp_mono (r_stuck0 J ok (by omega)) ?_
  rintro ⟨ya, m1⟩ ⟨J1, ha⟩
  change IR m1 g at J1
  rw [wp_bind]
  show wp (gX12_swapSteps m1 (nI p) (nI s)) _
  rw [r_swapSteps hj, wp_bind]
  have J2 := ir_sw J1 ok hj v1 v2
  have ok2 := ok_sw ok hj v1 v2
  refine wp_mono (r_stuck0 J2 ok2 (by omega)) ?_
  rintro ⟨yb, m3⟩ ⟨J3, hb⟩
  change IR m3 (gsw g (12 * p + s)) at J3
  rw [wp_bind]
  show wp (gX12_swapSteps m3 (nI p) (nI s)) _
  rw [r_swapSteps hj]
  have J4 := ir_sw J3 ok2 hj v1 v2
  rw [gsw_gsw] at J4
  show wp (if ya < 0 then _ else _) _
  change (vst (sP g) (2 ^ pP (sP g) - 1) ∧ yb = _ ∧ RAF (sP g) (cS (gT (gsw g (12 * p + s)))) (2 ^ pP (sP g) - 1) _ m3) ∨ (¬ vst (sP g) (2 ^ pP (sP g) - 1) ∧ yb = _ ∧ _) at hb
  rcases ha with ⟨vX, ea, _⟩ | ⟨nv, ea, _⟩
  · change ya = _ at ea
    obtain ⟨_, eb, rb⟩ := hb.resolve_right (fun q => q.1 vX)
    have b3 := oc_lt rb.2.2.2
    unfold eaV
    rw [ci_t vX]
    by_cases a2 : oc (sP g) (cS (gT g)) (2 ^ pP (sP g) - 1) = 2
    · rw [if_pos a2] at ea
      rw [wp_t (by rw [ea]; decide), wp_some, if_pos a2]
      exact ⟨J4, rfl⟩
    · rw [if_neg a2] at ea
      rw [wp_f (by rw [ea]; split <;> decide), if_neg a2]
      show wp (if 0 ≤ yb then _ else _) _
      change yb = (if oc (sP g) (cS (gT (gsw g (12 * p + s)))) (2 ^ pP (sP g) - 1) = 2 then mI else if oc (sP g) (cS (gT (gsw g (12 * p + s)))) (2 ^ pP (sP g) - 1) = 1 then 1 else 0) at eb
      by_cases b2 : oc (sP g) (cS (gT (gsw g (12 * p + s)))) (2 ^ pP (sP g) - 1) = 2
      · rw [if_pos b2] at eb
        rw [wp_f (by rw [eb]; decide), wp_some, if_pos b2]
        exact ⟨J4, rfl⟩
      · rw [if_neg b2] at eb
        rw [wp_t (by rw [eb]; split <;> decide), if_neg b2]
        show wp (if ya = 1 then _ else _) _
        by_cases a1 : oc (sP g) (cS (gT g)) (2 ^ pP (sP g) - 1) = 1
        · rw [if_pos a1] at ea
          rw [wp_t ea]
          show wp (if yb = 0 then _ else _) _
          by_cases b1 : oc (sP g) (cS (gT (gsw g (12 * p + s)))) (2 ^ pP (sP g) - 1) = 1
          · rw [if_pos b1] at eb
            rw [wp_f (by rw [eb]; decide), wp_some, if_neg (by omega)]
            exact ⟨J4, rfl⟩
          · rw [if_neg b1] at eb
            have b0 : oc (sP g) (cS (gT (gsw g (12 * p + s)))) (2 ^ pP (sP g) - 1) = 0 := by
              have b3' : oc (sP g) (cS (gT (gsw g (12 * p + s)))) (2 ^ pP (sP g) - 1) < 3 := b3
              omega
            rw [wp_t eb, wp_some, if_pos ⟨a1, b0⟩]
            exact ⟨J4, rfl⟩
        · rw [if_neg a1] at ea
          rw [wp_f (by rw [ea]; decide), wp_some, if_neg (fun q => a1 q.1)]
          exact ⟨J4, rfl⟩
  · change ya = -1 at ea
    unfold eaV
    rw [ci_f nv, wp_t (by rw [ea]; decide), wp_some]
    exact ⟨J4, rfl⟩
end OEA

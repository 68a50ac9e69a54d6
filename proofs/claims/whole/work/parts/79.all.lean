/-! all: both sides -/
section ALL
variable {h h' : Hp} {m m' : Mem} {g g' : GS} {own : Nat → Nat} {ad : Nat → Option Nat} {Pl : PD} {S : Nat → Nat}
theorem c_countOf {b s : Nat} {D : RD} (s7 : Sh7 h b) (R : RRc m b D) (w : RW D) (hs : s < 100) : wp (fX7_countOf (wI h m) b (nI s)) (fun r => r = nI (cn (fun i => rS D i = s) (rC D))) := by
  have h60 := w.1
  unfold fX7_countOf
  rw [wp_bind]
  refine wp_mono (Q := fun r => r = nI (cn (fun i => rS D i = s) (rC D))) ?_ (fun r e => by rw [wp_some]; exact e)
  refine wp_for (κ := Unit) (fun i _ => (nI (cn (fun r => rS D r = s) i), nI i)) (rC D) (fun _ _ => True) (fun i _ hi _ => ?_) (fun _ _ => ?_) 0 () (Nat.zero_le _) trivial (by omega)
  · have e1 := ((R.2.1 i hi).1).1
    have b9 := (w.2 i hi).1.2.1
    simp only [bX7_countOf_4, jX7_countOf_25]
    rw [wp_bind, s7.g0, R.1, wp_f (fun z => by have := (nI_leI (by omega) (by omega)).mp z; omega), wp_bind, s7.r1, wp_bind, s7.l1 (by omega), e1]
    by_cases z : rS D i = s
    · rw [wp_t (by rw [z]), wp_bind, wp_some, wp_bind, wp_some, wp_some, lq_l]
      exact ⟨(), by rw [cn_t (P := fun r => rS D r = s) z, nI_1, nI_1], trivial⟩
    · rw [wp_f (fun e => z ((nI_eq (by omega) (by omega)).mp e)), wp_bind, wp_some, wp_some, lq_l]
      exact ⟨(), by rw [cn_f (P := fun r => rS D r = s) z, nI_1], trivial⟩
  · simp only [bX7_countOf_4]
    rw [wp_bind, s7.g0, R.1, wp_t (nI_le (Nat.le_refl _) (by omega)), wp_some, lq_r]
theorem r_countOf {s : Nat} {D : RD} (R : RRr (m 1) D) (w : RW D) (hs : s < 100) : wp (lp (gbX12_all_20 (nI s) m) FU (0, 0)) (fun r => r = nI (cn (fun i => rS D i = s) (rC D))) := by
  have h60 := w.1
  refine wp_for (κ := Unit) (fun i _ => (nI (cn (fun r => rS D r = s) i), nI i)) (rC D) (fun _ _ => True) (fun i _ hi _ => ?_) (fun _ _ => ?_) 0 () (Nat.zero_le _) trivial (by omega)
  · have e1 := ((R.2 i hi).1).1
    have b9 := (w.2 i hi).1.2.1
    simp only [gbX12_all_20, gjX12_all_52]
    have ea : ∀ {Q : Int32 → Prop}, wp (gX12_atReport (nI i) 0) Q = Q (nI (273 + 21 * i)) := fun {Q} => w_atReport (k := 0)
    rw [wp_bind, L_272, w_rd (by decide) (by decide), R.1, wp_f (fun z => by have := (nI_leI (by omega) (by omega)).mp z; omega), wp_bind, ea, wp_bind, w_rd (by omega) (by decide), e1]
    by_cases z : rS D i = s
    · rw [wp_t (by rw [z]), wp_bind, wp_some, wp_bind, wp_some, wp_some, lq_l]
      exact ⟨(), by rw [cn_t (P := fun r => rS D r = s) z, nI_1, nI_1], trivial⟩
    · rw [wp_f (fun e => z ((nI_eq (by omega) (by omega)).mp e)), wp_bind, wp_some, wp_bind, wp_some, wp_some, lq_l]
      exact ⟨(), by rw [cn_f (P := fun r => rS D r = s) z, nI_1, z_add0], trivial⟩
  · simp only [gbX12_all_20]
    rw [wp_bind, L_272, w_rd (by decide) (by decide), R.1, wp_t (nI_le (Nat.le_refl _) (by omega)), wp_some, lq_r]
theorem o_all (I : IC h g own ad) (J : IR m g) (ok : okG g) (v : Int32) : ∃ r h1 m1, fX11_all h 0 v = some (r, h1) ∧ gX12_all m v = some (r, m1) ∧ AFT h h1 m1 own g := by
  have I' := I
  have J' := J
  have ok' := ok
  obtain ⟨cs, ow, ⟨t1, t2⟩, ⟨f1, f2⟩, ⟨P, hP, p1, p2, pc⟩, ⟨a1, a2⟩, r52, r19, r36, r15, sl, li, bx⟩ := I
  obtain ⟨⟨j1, j2⟩, ⟨j3, j4⟩, jp, ⟨j5, j6⟩, jl, jw, ju, jb, jx⟩ := J
  obtain ⟨o1, pw, o2, o3, o4, o5⟩ := ok
  have pc' : PC (wI h (hI h)) P (sP g) := pc
  obtain ⟨b, n, hb, L⟩ := li (sA g) o2
  have rb : hR h 19 (sA g) = some b := by rw [r19 _ (by omega)]; exact hb
  have pr : ∀ {Q : Nat → Prop}, wp (fX2_present (wI h (hI h)) 18) Q = Q b := fun {Q} => cs.present a1 (by omega) rb
  have s2 := cs.s2
  have okA0 := o4 (sA g) o2
  have isin : ∀ {Q : Int32 → Prop}, wp (gX12_isIn v 1 9) Q = Q (b01 (1 ≤ v ∧ v ≤ 9)) := fun {Q} => wp_eq (r_isIn v 1 9)
  refine bo2 (R := fun h1 m1 => AFT h h1 m1 own g) ?_
  show wp (fX11_all (wI h (hI h)) 0 v) _
  unfold fX11_all gX12_all jX11_all_11
  by_cases h1 : v < 1
  · rw [wp_t h1, wp_some, wp_bind, isin, b01_n (fun z => k2_nle h1 z.1), wp_t rfl, wp_some]
    exact ⟨rfl, AFT.same I' J' ok'⟩
  · rw [wp_f h1]
    by_cases h9 : v ≤ 9
    · have h0 : ¬ v < 0 := fun z => h1 (Int32.lt_trans z (by decide))
      obtain ⟨s, hs, e⟩ := nI_of h0
      subst e
      have s9 : s ≤ 9 := (nI_leI (b := 9) hs (by decide)).mp h9
      have S15 := sl 15 57 (by decide) r15
      have Sb := sl (sA g) b (by omega) hb
      obtain ⟨n', C'⟩ := S15.CE
      have b14 := L.1.1
      have hqb : ¬ (57 ≤ b + 1 ∧ b + 1 ≤ 71) := fun z => by
        have e1 := Sb.1 (b + 1) (by omega) (by omega)
        have e2 := ow.2.1 (b + 1) z.1 z.2
        omega
      have o11 : ∀ {Q : Unit → Prop}, wp (gO (wI h (hI h)) 11 0) Q = Q () := fun {Q} => w_gO (h := wI h (hI h)) (show 0 < hN h by have := cs.1; omega) cs.2.1
      rw [wp_t h9, wp_bind, cs.gr cs.r5, wp_bind, s2.o, wp_bind, pr, wp_bind, L.1.r0, wp_bind, o11, wp_bind]
      refine wp_mono (c_every cs S15.2.1 hP p1 pc' pw C' (by omega) L.1.2.2.1.2 hqb L.2.2.2.2.2.1 okA0.2 okA0.1.2.2.2.2.2) ?_
      rintro r ⟨h2, m2, n2, rfl, X2, fr2, L2, G2⟩
      obtain ⟨w1, w2, w3⟩ := runsA_W pw okA0.2 okA0.1.2.2.2.2.2 (pP (sP g)) (Nat.le_refl _)
      have s7 : Sh7 h2 65 := L2.1.s4
      show wp ((gO (wI h2 m2) 7 65).bind _) _
      rw [wp_bind, s7.o, wp_bind]
      refine wp_mono (c_countOf s7 L2.2.1 w1.1 (show s < 100 by omega)) ?_
      rintro r rfl
      rw [wp_some, wp_bind, isin, b01_t ⟨k2_le h1, h9⟩, wp_f (by decide), wp_bind]
      refine wp_mono (r_goAll jl okA0.1 jp pw okA0.2) ?_
      rintro m4 ⟨m3, g3, b3, x4, L4⟩
      rw [wp_bind]
      refine wp_mono (r_countOf L4.1 w1.1 (show s < 100 by omega)) ?_
      rintro r rfl
      rw [wp_bind]
      refine wp_mono r_bringBack (fun m5 ⟨g5, b5⟩ => ?_)
      rw [wp_some]
      obtain ⟨own', IC2, NF2, oe2, o17⟩ := I'.tr o3 X2 (fun a q1 q2 q3 _ => fr2 a q1 q2 q3) L2
      have rm := G2.room C'.1.le.1
      refine ⟨rfl, J'.try ok' g3 b3 x4 g5 b5, ok', own', ad, IC2, NF2, fun a ha ho => by rw [oe2 a ha]; exact ho, o17, ?_, ?_⟩
      · show hN h2 ≤ hN h + 20; omega
      · show hZ h2 ≤ hZ h + 10200; omega
    · rw [wp_f h9, wp_some, wp_bind, isin, b01_n (fun z => h9 z.2), wp_t rfl, wp_some]
      exact ⟨rfl, AFT.same I' J' ok'⟩
end ALL

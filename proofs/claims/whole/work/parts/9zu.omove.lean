/-! move, on both sides -/
section OMV
variable {h : Hp} {m m' : Mem} {g : GS} {own : Nat → Nat} {ad : Nat → Option Nat} {X : Nat} {Pl : PD} {T : Nat → Nat}
/-- the move's number, as the class has it -/
noncomputable def mvN (Pl : PD) (S : Nat → Nat) (X i : Nat) : Nat := zB (srch Pl S X) (anc (zB (srch Pl S X)) (zN (srch Pl S X) - 1) (dep (lastM Pl S X) 6 - 1 - i)) % 64
def MVP (Pl : PD) (S : Nat → Nat) (X : Nat) (v r : Int32) : Prop := (r = mI ∧ ¬ (oc Pl S X = 1 ∧ inN v (dep (lastM Pl S X) 6))) ∨ (oc Pl S X = 1 ∧ ∃ i, i < dep (lastM Pl S X) 6 ∧ i < 100 ∧ v = nI i ∧ r = nI (mvN Pl S X i))
theorem c_mv39 {own' : Nat → Nat} {h2 : Hp} {v : Int32} (s : Sh0 h2 74) (o : OWN own' (hN h2)) (N120 : 120 ≤ hN h2) (z : FZ h2 own' Pl T) (pw : PW Pl) (vX : vst Pl X) (k : KN Pl (cS T) X (hI h2 79 X) (hI h2 75 X) (hI h2 76 X) (hI h2 77 X) (hI h2 78 X)) (lt : oc Pl (cS T) X = 1 → hI h2 74 7 = nI X) : wp (jX0_moveOf_39 74 (nI X) v h2) (fun r => r.2 = h2 ∧ MVP Pl (cS T) X v r.1) := by
  have X64 := vX.1
  have o3 := oc_lt k.2.2.1
  show wp (jX0_moveOf_39 74 (nI X) v (wI h2 (hI h2))) _
  unfold jX0_moveOf_39 jX0_moveOf_65
  rw [wp_bind, s.r4, wp_bind, s.l4 X64]
  show wp (if hI h2 79 X = 1 then _ else _) _
  rw [k.1]
  by_cases o1 : oc Pl (cS T) X = 1
  · rw [wp_t (by rw [o1]; rfl)]
    by_cases v0 : v < 0
    · rw [wp_t v0, wp_some]
      exact ⟨rfl, Or.inl ⟨rfl, fun q => q.2.1 v0⟩⟩
    · obtain ⟨i, i31, rfl⟩ := nI_of v0
      have si := k.2.2.1
      have n0 := (si.2.2.2.2.1 (oc_1.mp o1)).1
      have d78 := dep_le pw (si.2.2.1 (zN (srch Pl (cS T) X) - 1) (by omega)).1 6
      change dep (lastM Pl (cS T) X) 6 ≤ 13 * 6 at d78
      rw [wp_f v0, wp_bind, s.r0, wp_bind, s.l0 X64]
      show wp (if nI i < hI h2 75 X then _ else _) _
      rw [(k.2.2.2 o1).1]
      by_cases hi : i < dep (lastM Pl (cS T) X) 6
      · rw [wp_t (by rw [i_lt i31 (by omega)]; exact hi), wp_bind, s.o, wp_bind]
        obtain ⟨a, a1, a2⟩ := z.2.2.2.2 X vX (lt o1)
        refine wp_mono (c_ready s o N120 z.1) ?_
        rintro ⟨a', h3⟩ ⟨_, _, _, _, _, _, s8, _, _, q⟩
        obtain ⟨q1, _⟩ := q a a1
        cases q1
        change Sh8 h2 a at s8
        show wp ((gR (wI h2 (hI h2)) 8 a 5).bind _) _
        rw [wp_bind, s8.r5, wp_bind]
        show wp (lI (wI h2 (hI h2)) .int (a + 1) (nI i)) _
        rw [s8.l5 (by omega), wp_some]
        refine ⟨rfl, Or.inr ⟨o1, i, hi, by omega, rfl, ?_⟩⟩
        obtain ⟨_, _, _, c4, _⟩ := a2
        exact (c4 (oc_1.mp o1)).2.2 i hi
      · rw [wp_f (by rw [i_lt i31 (by omega)]; exact hi), wp_some]
        exact ⟨rfl, Or.inl ⟨rfl, fun q => hi ((inN_nI i31).mp q.2)⟩⟩
  · rw [wp_f (by rw [L_1, i_eq (by omega) (by decide)]; exact o1), wp_some]
    exact ⟨rfl, Or.inl ⟨rfl, fun q => o1 q.1⟩⟩
theorem c_moveOf {P b : Nat} {v : Int32} (I : IC h g own ad) (F : FI h own (sP g)) (ok : okG g) (p1 : hR h 0 3 = some P) (rb : hR h 19 (sA g) = some b) (vX : vst (sP g) X) : wp (fX0_moveOf h 74 P (b + 1) (nI X) v) (fun r => ∃ own', FN h r.2 own own' ∧ FZ r.2 own' (sP g) (gT g) ∧ MVP (sP g) (cS (gT g)) X v r.1) := by
  obtain ⟨b', n, rb', L, ob, hc, c74, hT, sw⟩ := ic_at I ok
  rw [rb] at rb'
  cases rb'
  obtain ⟨cs, ow, _, _, ⟨P', hP, p1', _, pc⟩, _⟩ := I
  rw [p1] at p1'
  cases p1'
  have s := cs.s0
  have X64 := vX.1
  have c120 := cs.1
  unfold fX0_moveOf
  rw [wp_bind]
  show wp (gO (wI h (hI h)) 0 74) _
  rw [s.o, wp_bind]
  refine wp_mono (c_fresh s F ow.2.2 hc c74 hT) ?_
  rintro h1 ⟨f1, z1⟩
  have s1 := s.x f1.1
  have nl := f1.1.1
  have o1 : OWN own (hN h1) := ⟨ow.1, ow.2.1, f1.2.2.2.1⟩
  have pc1 : PC h1 P (sP g) := PC.congr (h := h) (m := hI h) (m' := hI h1) pc f1.1 (fun y y1 y2 => funext fun j => f1.2.2.2.2.1 y (by omega) (by rw [ow.1 y (by omega) (by omega) (by omega)]; decide) (by omega) j)
  have last : ∀ h2 own', FN h1 h2 own own' → OWN own' (hN h2) → FZ h2 own' (sP g) (gT g) → KN (sP g) (cS (gT g)) X (hI h2 79 X) (hI h2 75 X) (hI h2 76 X) (hI h2 77 X) (hI h2 78 X) → (oc (sP g) (cS (gT g)) X = 1 → hI h2 74 7 = nI X) → wp (jX0_moveOf_39 74 (nI X) v h2) (fun r => ∃ own', FN h r.2 own own' ∧ FZ r.2 own' (sP g) (gT g) ∧ MVP (sP g) (cS (gT g)) X v r.1) := fun h2 own' f2 o2 z2 k2 l2 => by
    have s2 := s1.x f2.1
    have n2 := f2.1.1
    refine wp_mono (c_mv39 s2 o2 (by omega) z2 ok.2.1 vX k2 l2) ?_
    rintro ⟨r, h3⟩ ⟨e, q⟩
    have e : h3 = h2 := e
    subst e
    exact ⟨own', f1.tr f2, z2, q⟩
  have look : wp (jX0_moveOf_33 74 P (nI X) v h1) (fun r => ∃ own', FN h r.2 own own' ∧ FZ r.2 own' (sP g) (gT g) ∧ MVP (sP g) (cS (gT g)) X v r.1) := by
    unfold jX0_moveOf_33
    rw [wp_bind]
    show wp (gO (wI h1 (hI h1)) 0 74) _
    rw [s1.o, wp_bind]
    refine wp_mono (c_look s1 o1 (by omega) z1 pc1 hP ok.2.1 sw vX) ?_
    rintro h2 ⟨own', g1, g2, g3, g4⟩
    have n2 := g1.1.1
    refine last h2 own' g1 ⟨fun a h1 h2 h3 => ?_, fun a h1 h2 => ?_, g1.2.2.2.1⟩ g2 g3 (fun _ => g4)
    · rw [g1.2.1 a (by omega)]; exact ow.1 a h1 h2 h3
    · rw [g1.2.1 a (by omega)]; exact ow.2.1 a h1 h2
  show wp ((gR (wI h1 (hI h1)) 0 74 4).bind _) _
  rw [wp_bind, s1.r4, wp_bind]
  show wp (lI (wI h1 (hI h1)) .int (74 + 5) (nI X)) _
  rw [s1.l4 X64]
  show wp (if hI h1 79 X = 3 then _ else _) _
  by_cases z : hI h1 79 X = 3
  · rw [wp_t z]; exact look
  · have kn := (z1.2.2.2.1 X vX).resolve_left z
    have o3 := oc_lt kn.2.2.1
    rw [wp_f z, wp_bind]
    show wp (gR (wI h1 (hI h1)) 0 74 4) _
    rw [s1.r4, wp_bind]
    show wp (lI (wI h1 (hI h1)) .int (74 + 5) (nI X)) _
    rw [s1.l4 X64]
    show wp (if hI h1 79 X = 1 then _ else _) _
    by_cases y : hI h1 79 X = 1
    · rw [wp_t y, wp_bind]
      show wp (gI (wI h1 (hI h1)) 0 74 7) _
      rw [s1.g7]
      by_cases w : hI h1 74 7 = nI X
      · rw [wp_t w]; exact last h1 own (FN.rfl' f1.2.2.2.1) o1 z1 kn (fun _ => w)
      · rw [wp_f w]; exact look
    · rw [wp_f y]
      refine last h1 own (FN.rfl' f1.2.2.2.1) o1 z1 kn (fun q => ?_)
      rw [kn.1, q] at y
      exact absurd rfl y
theorem r_moveS {v w : Int32} (R : RXc (up m 0 40 (nI X)) Pl (cS T) X) (pf : PF m Pl) (pw : PW Pl) (vX : vst Pl X) (hw : inN w 2) : wp (gX12_move m (nI X) v w) (fun y => RAF Pl (cS T) X m y.2 ∧ ((¬ (oc Pl (cS T) X = 1 ∧ inN v (dep (lastM Pl (cS T) X) 6)) ∧ y.1 = -2) ∨ (oc Pl (cS T) X = 1 ∧ ∃ i, i < dep (lastM Pl (cS T) X) 6 ∧ i < 100 ∧ v = nI i ∧ y.1 = if w = 0 then nI (mvN Pl (cS T) X i / 8) else nI (mvN Pl (cS T) X i % 8) - 1))) := by
  unfold gX12_move gjX12_move_32 gjX12_move_114
  rw [wp_bind]
  refine wp_mono (r_isSet pf pw) ?_
  rintro y (⟨rfl, _⟩ | ⟨_, hn⟩)
  · rw [wp_f (by decide), wp_bind]
    have hin : ∀ {Q : Int32 → Prop}, wp (gX12_isIn w 0 1) Q = Q (b01 (inN w 2)) := fun {Q} => by rw [L_1]; exact w_isInK (by decide)
    rw [hin, b01_t hw, wp_f (by decide), wp_bind]
    refine wp_mono (r_search R) ?_
    rintro ⟨y1, m1⟩ ⟨g1, g2, g3, g4, g5⟩
    have a : RAF Pl (cS T) X m m1 := ⟨g1, g2, g3, g4⟩
    have e1 : y1 = (if zO (srch Pl (cS T) X) = 2 then 0 else 1) := g5
    show wp (if y1 = 0 then _ else _) _
    by_cases o2 : oc Pl (cS T) X = 2
    · rw [wp_t (by rw [e1]; exact fl_0.mpr (oc_2.mp o2)), wp_some]
      exact ⟨a, Or.inl ⟨fun q => by have := q.1; omega, rfl⟩⟩
    · rw [wp_f (by rw [e1]; exact fun q => o2 (oc_2.mpr (fl_0.mp q)))]
      show wp (if 0 ≤ m1 0 47 then _ else _) _
      by_cases o1 : oc Pl (cS T) X = 1
      · have n0 := (g4.2.2.2.2.1 (oc_1.mp o1)).1
        have n4 := g4.2.1
        have d78 := dep_le pw (g4.2.2.1 (zN (srch Pl (cS T) X) - 1) (by omega)).1 6
        change dep (lastM Pl (cS T) X) 6 ≤ 13 * 6 at d78
        have e47 := g3.2.2.1
        rw [if_pos (oc_1.mp o1)] at e47
        change m1 0 47 = _ at e47
        rw [wp_t ((raf_47 a).mpr o1), wp_bind]
        show wp (gX12_movesTo m1 (m1 0 47)) _
        rw [raf_moves a o1, wp_bind, w_isIn (by omega)]
        by_cases hv : inN v (dep (lastM Pl (cS T) X) 6)
        · obtain ⟨i, hi, rfl⟩ := inN_ex hv
          rw [b01_t hv, wp_f (by decide), wp_bind, wp_some, wp_bind, wp_some, wp_bind]
          show wp (lp (gbX12_move_72 (nI i) w m1) FU (m1 0 47, nI (dep (lastM Pl (cS T) X) 6) - 1)) _
          rw [e47, show (nI (dep (lastM Pl (cS T) X) 6) - (1 : Int32)) = nI (dep (lastM Pl (cS T) X) 6 - 1) from i_sub (a := dep (lastM Pl (cS T) X) 6) (b := 1) (by omega)]
          have hj : zN (srch Pl (cS T) X) - 1 < zN (srch Pl (cS T) X) := by omega
          refine wp_mono (r_moveAt (u3 := w) g3 g4 pw hj hi) ?_
          rintro y rfl
          obtain ⟨a1, a2, a3⟩ := RZ.anc g4 hj
          change ∀ i, i ≤ dep (lastM Pl (cS T) X) 6 → _ at a1
          change ∀ i, i < dep (lastM Pl (cS T) X) 6 → _ at a2
          have b1 := (a1 (dep (lastM Pl (cS T) X) 6 - 1 - i) (by omega)).1
          have b2 := a2 (dep (lastM Pl (cS T) X) 6 - 1 - i) (by omega)
          obtain ⟨_, q2, q3⟩ := g3.2.2.2.2.2.1 _ b2 b1
          change m1 29 _ = _ at q2
          change m1 30 _ = _ at q3
          have at4 : anc (zB (srch Pl (cS T) X)) (zN (srch Pl (cS T) X) - 1) (dep (lastM Pl (cS T) X) 6 - 1 - i) < 4001 := by omega
          have e8 : mvN Pl (cS T) X i % 8 = zB (srch Pl (cS T) X) (anc (zB (srch Pl (cS T) X)) (zN (srch Pl (cS T) X) - 1) (dep (lastM Pl (cS T) X) 6 - 1 - i)) % 8 := by unfold mvN; omega
          by_cases w0 : w = 0
          · rw [wp_t w0, wp_bind]
            show wp (rd m1 29 4001 (nI (anc (zB (srch Pl (cS T) X)) (zN (srch Pl (cS T) X) - 1) (dep (lastM Pl (cS T) X) 6 - 1 - i)))) _
            rw [w_rd at4 (by decide), wp_some]
            exact ⟨a, Or.inr ⟨o1, i, hi, by omega, rfl, by rw [if_pos w0]; exact q2⟩⟩
          · rw [wp_f w0, wp_bind]
            show wp (rd m1 30 4001 (nI (anc (zB (srch Pl (cS T) X)) (zN (srch Pl (cS T) X) - 1) (dep (lastM Pl (cS T) X) 6 - 1 - i)))) _
            rw [w_rd at4 (by decide), wp_some]
            exact ⟨a, Or.inr ⟨o1, i, hi, by omega, rfl, by rw [if_neg w0, e8]; exact q3⟩⟩
        · rw [b01_n hv, wp_t rfl, wp_some]
          exact ⟨a, Or.inl ⟨fun q => hv q.2, rfl⟩⟩
      · rw [wp_f (fun q => o1 ((raf_47 a).mp q)), wp_some]
        exact ⟨a, Or.inl ⟨fun q => o1 q.1, rfl⟩⟩
  · exact absurd ⟨X, rfl, vX⟩ hn
theorem o_move (I : IC h g own ad) (F : FI h own (sP g)) (J : IR m g) (ok : okG g) (v u w : Int32) : ∃ r h1 m1, fX11_move h 0 v u w = some (r, h1) ∧ gX12_move m v u w = some (r, m1) ∧ ASK h h1 m1 own g := by
  obtain ⟨b, n, rb, L, ob, hc, c74, hT, sw⟩ := ic_at I ok
  obtain ⟨cs, ow, _, _, ⟨P, hP, p1, p2, pc⟩, ⟨a1, a2⟩, _⟩ := id I
  have o3 := ok.2.2.2.1
  have pc' : PC (wI h (hI h)) P (sP g) := pc
  have s5 : Sh5 h P := pc.1
  have s3 := L.1
  have s2 := cs.s2
  have s0 := cs.s0
  have pr : ∀ {Q : Nat → Prop}, wp (fX2_present (wI h (hI h)) 18) Q = Q b := fun {Q} => cs.present a1 (by have := ok.2.2.1; omega) rb
  refine bo2 (R := fun h1 m1 => ASK h h1 m1 own g) ?_
  by_cases hs : (∃ X, v = nI X ∧ vst (sP g) X) ∧ inN w 2
  · obtain ⟨⟨X, rfl, vX⟩, hw⟩ := hs
    obtain ⟨w0, hw2, rfl⟩ := inN_ex hw
    show wp (fX11_move (wI h (hI h)) 0 (nI X) u (nI w0)) _
    unfold fX11_move jX11_move_20 jX11_move_75
    rw [wp_bind, cs.gr p1, wp_bind, s5.o, wp_bind]
    refine wp_mono (c_isSet pc' ok.2.1) ?_
    rintro y (⟨rfl, _⟩ | ⟨_, hn⟩)
    · rw [wp_f (by decide), wp_f (by rw [nI_lt0 (by omega)]; exact id), wp_t (by rw [L_1, i_le (by omega) (by decide)]; omega), wp_bind, cs.gr cs.r13, wp_bind, cs.gr p1, wp_bind, cs.gr cs.r5, wp_bind, s2.o, wp_bind, pr, wp_bind, s3.r0, wp_bind, s0.o, wp_bind]
      show wp (fX0_moveOf h 74 P (b + 1) (nI X) u) _
      refine wp_mono (c_moveOf I F ok p1 rb vX) ?_
      rintro ⟨r1, h1⟩ ⟨own', g1, g2, g3⟩
      change MVP (sP g) (cS (gT g)) X u r1 at g3
      have fi := fi_z (fun j hj => (hT j hj).2) g2
      have rr := r_moveS (v := u) (ir_rx J ok vX.2.1) J.2.2.1 ok.2.1 vX hw
      rcases g3 with ⟨e, hn⟩ | ⟨o1, i, hi, i100, rfl, e⟩
      · subst e
        show wp (if mI = -1 then _ else _) _
        rw [wp_t (show mI = -1 from rfl), wp_some]
        refine wp_mono rr ?_
        rintro ⟨r', m1⟩ ⟨q1, q2⟩
        rcases q2 with ⟨_, q2⟩ | ⟨o1, i, hi, i100, rfl, _⟩
        · exact ⟨q2, ⟨own', g1, fi⟩, ir_rf J q1.1⟩
        · exact absurd ⟨o1, (inN_nI (by omega)).mpr hi⟩ hn
      · have n64 : mvN (sP g) (cS (gT g)) X i < 64 := by unfold mvN; omega
        have fin : ∀ r, (r = if nI w0 = 0 then nI (mvN (sP g) (cS (gT g)) X i / 8) else nI (mvN (sP g) (cS (gT g)) X i % 8) - 1) → wp (some (r, h1)) (fun r => wp (gX12_move m (nI X) (nI i) (nI w0)) (fun r' => r'.1 = r.1 ∧ ASK h r.2 r'.2 own g)) := fun r hr => by
          rw [wp_some]
          refine wp_mono rr ?_
          rintro ⟨r', m1⟩ ⟨q1, q2⟩
          rcases q2 with ⟨hn, _⟩ | ⟨_, i', hi', i100', e', q2⟩
          · exact absurd ⟨o1, (inN_nI (by omega)).mpr hi⟩ hn
          · rw [i_eq (by omega) (by omega)] at e'
            rw [← e'] at q2
            exact ⟨q2.trans hr.symm, ⟨own', g1, fi⟩, ir_rf J q1.1⟩
        subst e
        show wp (if nI (mvN (sP g) (cS (gT g)) X i) = -1 then _ else _) _
        rw [mI_e, wp_f (by rw [m_eq (by omega)]; exact id)]
        by_cases w00 : w0 = 0
        · rw [wp_t (by rw [w00]; rfl)]
          refine fin _ ?_
          rw [if_pos (by rw [w00]; rfl)]
          exact pk_shrN (by omega) ((3 : Int32) &&& 31) 3 (by decide)
        · rw [wp_f (by rw [z_eq (by omega)]; exact w00)]
          refine fin _ ?_
          rw [if_neg (by rw [z_eq (by omega)]; exact w00)]
          show (nI (mvN (sP g) (cS (gT g)) X i) &&& 7) - 1 = _
          rw [L_7, nx_andn, show mvN (sP g) (cS (gT g)) X i &&& 7 = mvN (sP g) (cS (gT g)) X i % 8 from Nat.and_two_pow_sub_one_eq_mod _ 3]
    · exact absurd ⟨X, rfl, vX⟩ hn
  · have keep : ASK h h m own g := ⟨⟨own, FN.rfl' ow.2.2, F⟩, J⟩
    have href : wp (gX12_move m v u w) (fun r' => r'.1 = -2 ∧ ASK h h r'.2 own g) := by
      unfold gX12_move gjX12_move_32
      rw [wp_bind]
      refine wp_mono (r_isSet J.2.2.1 ok.2.1) ?_
      rintro y (⟨rfl, hx⟩ | ⟨rfl, _⟩)
      · have hin : ∀ {Q : Int32 → Prop}, wp (gX12_isIn w 0 1) Q = Q (b01 (inN w 2)) := fun {Q} => by rw [L_1]; exact w_isInK (by decide)
        rw [wp_f (by decide), wp_bind, hin, b01_n (fun z => hs ⟨hx, z⟩), wp_t rfl, wp_some]
        exact ⟨rfl, keep⟩
      · rw [wp_t rfl, wp_some]
        exact ⟨rfl, keep⟩
    have hcl : wp (fX11_move h 0 v u w) (fun r => r = (-2, h)) := by
      show wp (fX11_move (wI h (hI h)) 0 v u w) _
      unfold fX11_move jX11_move_20
      rw [wp_bind, cs.gr p1, wp_bind, s5.o, wp_bind]
      refine wp_mono (c_isSet pc' ok.2.1) ?_
      rintro y (⟨rfl, hx⟩ | ⟨rfl, _⟩)
      · rw [wp_f (by decide)]
        by_cases w0 : w < 0
        · rw [wp_t w0, wp_some]; rfl
        · obtain ⟨j, j31, rfl⟩ := nI_of w0
          have : ¬ j < 2 := fun z => hs ⟨hx, (inN_nI j31).mpr z⟩
          rw [wp_f w0, wp_f (by rw [L_1, i_le j31 (by decide)]; omega), wp_some]; rfl
      · rw [wp_t rfl, wp_some]; rfl
    refine wp_mono hcl ?_
    rintro r rfl
    exact href
end OMV

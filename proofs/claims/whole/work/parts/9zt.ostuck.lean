/-! stuck, on both sides -/
/-- the steps that are now -/
def gT (g : GS) : Nat → Nat := aS (sH g (sA g))
/-- after a call that asks -/
def ASK (h h1 : Hp) (m1 : Mem) (own : Nat → Nat) (g : GS) : Prop := (∃ own', FN h h1 own own' ∧ FI h1 own' (sP g)) ∧ IR m1 g
section OST
variable {h : Hp} {m m' : Mem} {g : GS} {own : Nat → Nat} {ad : Nat → Option Nat} {X : Nat}
theorem ir_rf {v : Int32} (J : IR m g) (f : RFr (up m 0 40 v) m') : IR m' g := J.go (fun o ho => by rw [f.1 o (by omega) (by omega), up_r (by omega)]) (fun j hj => by rw [f.2 j (by omega) (by omega) (by omega), up_ne (by omega)])
theorem ir_rx (J : IR m g) (ok : okG g) (hX : ∀ t, X.testBit t = true → t < pP (sP g)) : RXc (up m 0 40 (nI X)) (sP g) (cS (gT g)) X := by
  obtain ⟨_, _, jp, _, jl, _⟩ := J
  obtain ⟨_, pw, o2, _, o4, _⟩ := ok
  obtain ⟨lw, sw⟩ := o4 (sA g) o2
  have p6 := pw.2.2.1
  have l10 := pw.2.1
  refine ⟨jp.congr (up_ne (by omega)) (up_r (by decide)) (up_r (by decide)) (up_r (by decide)) (up_r (by decide)) (up_r (by decide)) (up_r (by decide)), pw, fun q j hq hj => ?_, up_at, hX⟩
  have n12 := (pw.2.2.2.2 q hq).2.2
  have lt : 12 * q + j < 72 := by omega
  have v : pV (sP g) (12 * q + j) := by
    have e1 : (12 * q + j) / 12 = q := by omega
    have e2 : (12 * q + j) % 12 = j := by omega
    unfold pV
    rw [e1, e2]; exact ⟨hq, hj⟩
  obtain ⟨s1, s2, s3⟩ := sw _ v
  obtain ⟨e1, e2⟩ := jl.2.2.2.2.2 _ v
  rw [cS_lt lt, up_r (by decide)]
  unfold gT
  refine ⟨e1, s1, ?_, fun h4 => by rw [e2, if_pos h4]⟩
  by_cases z : aS (sH g (sA g)) (12 * q + j) / 16 ≤ 4
  · have := s2 z; omega
  · have := s3 (by omega); omega
/-- where the present state lies -/
theorem ic_at (I : IC h g own ad) (ok : okG g) : ∃ b n, hR h 19 (sA g) = some b ∧ LX h (hI h) b (sH g (sA g)) n ∧ own (b + 1) = 1 + sA g ∧ (b + 1 < hN h ∧ hS h (b + 1) = .inr (.int, 72)) ∧ ¬ (74 ≤ b + 1 ∧ b + 1 ≤ 80) ∧ (∀ j, j < 72 → hI h (b + 1) j = nI (gT g j) ∧ gT g j < 160) ∧ SW (sP g) (gT g) := by
  obtain ⟨cs, ow, _, _, _, _, _, r19, _, _, sl, li, _⟩ := I
  obtain ⟨_, pw, o2, o3, o4, _⟩ := ok
  obtain ⟨b, n, hb, L⟩ := li (sA g) o2
  obtain ⟨lw, sw⟩ := o4 (sA g) o2
  have S := sl (sA g) b (by omega) hb
  have s3 := S.2.1
  have ob := S.1 (b + 1) (by omega) (by omega)
  have l := s3.1
  refine ⟨b, n, by rw [r19 _ (by omega)]; exact hb, L, ob, ⟨by omega, s3.2.2.1.2⟩, fun z => ?_, fun j hj => ⟨L.2.2.2.2.2.1 j hj, lw.2.2.2.2.2 j hj⟩, sw⟩
  have := ow.1 (b + 1) (by omega) (by omega) (by omega)
  omega
theorem fi_z {h1 : Hp} {own' : Nat → Nat} {T : Nat → Nat} {Pl : PD} (hT : ∀ j, j < 72 → T j < 160) (z : FZ h1 own' Pl T) : FI h1 own' Pl := ⟨z.1, Or.inr ⟨T, hT, z⟩⟩
/-- the class asks for a set of the present steps -/
theorem a_out {P b : Nat} (I : IC h g own ad) (F : FI h own (sP g)) (ok : okG g) (p1 : hR h 0 3 = some P) (rb : hR h 19 (sA g) = some b) (vX : vst (sP g) X) : wp (fX0_outcomeOf h 74 P (b + 1) (nI X)) (fun r => ∃ own', FN h r.2 own own' ∧ FZ r.2 own' (sP g) (gT g) ∧ KN (sP g) (cS (gT g)) X (hI r.2 79 X) (hI r.2 75 X) (hI r.2 76 X) (hI r.2 77 X) (hI r.2 78 X) ∧ r.1 = nI (oc (sP g) (cS (gT g)) X)) := by
  obtain ⟨b', n, rb', L, ob, hc, c74, hT, sw⟩ := ic_at I ok
  rw [rb] at rb'
  cases rb'
  obtain ⟨cs, ow, _, _, ⟨P', hP, p1', _, pc⟩, _⟩ := I
  rw [p1] at p1'
  cases p1'
  exact c_out cs.s0 ow cs.1 F pc hP ok.2.1 sw hc c74 hT vX
theorem c_stuckS {w : Int32} (I : IC h g own ad) (F : FI h own (sP g)) (ok : okG g) (vX : vst (sP g) X) (hw : inN w 5) : wp (fX11_stuck h 0 (nI X) w) (fun r => ∃ own', FN h r.2 own own' ∧ FI r.2 own' (sP g) ∧ ∃ o mv mo rg lk, KN (sP g) (cS (gT g)) X o mv mo rg lk ∧ r.1 = stV (oc (sP g) (cS (gT g)) X) mv mo rg lk w) := by
  obtain ⟨b, n, rb, L, ob, hc, c74, hT, sw⟩ := ic_at I ok
  obtain ⟨cs, ow, _, _, ⟨P, hP, p1, p2, pc⟩, ⟨a1, a2⟩, _⟩ := id I
  have o3 := ok.2.2.2.1
  have pc' : PC (wI h (hI h)) P (sP g) := pc
  have s5 : Sh5 h P := pc.1
  have s3 := L.1
  have s2 := cs.s2
  have s0 := cs.s0
  have pr : ∀ {Q : Nat → Prop}, wp (fX2_present (wI h (hI h)) 18) Q = Q b := fun {Q} => cs.present a1 (by have := ok.2.2.1; omega) rb
  obtain ⟨w0, hw5, rfl⟩ := inN_ex hw
  have X64 := vX.1
  show wp (fX11_stuck (wI h (hI h)) 0 (nI X) (nI w0)) _
  unfold fX11_stuck jX11_stuck_20 jX11_stuck_63
  rw [wp_bind, cs.gr p1, wp_bind, s5.o, wp_bind]
  refine wp_mono (c_isSet pc' ok.2.1) ?_
  rintro y (⟨rfl, _⟩ | ⟨_, hn⟩)
  · rw [wp_f (by decide), wp_f (by rw [nI_lt0 (by omega)]; exact id), wp_t (by rw [L_4, i_le (by omega) (by decide)]; omega), wp_bind, cs.gr cs.r13, wp_bind, cs.gr p1, wp_bind, cs.gr cs.r5, wp_bind, s2.o, wp_bind, pr, wp_bind, s3.r0, wp_bind, s0.o, wp_bind]
    show wp (fX0_outcomeOf h 74 P (b + 1) (nI X)) _
    refine wp_mono (a_out I F ok p1 rb vX) ?_
    rintro ⟨r1, h1⟩ ⟨own', g1, g2, g3, g4⟩
    have e1 : r1 = nI (oc (sP g) (cS (gT g)) X) := g4
    change FN h h1 own own' at g1
    change FZ h1 own' (sP g) (gT g) at g2
    have cs1 := cs.x g1.1
    have s01 := cs1.s0
    have fi := fi_z (fun j hj => (hT j hj).2) g2
    have o3' := oc_lt g3.2.2.1
    have fin : ∀ r, r = stV (oc (sP g) (cS (gT g)) X) (hI h1 75 X) (hI h1 76 X) (hI h1 77 X) (hI h1 78 X) (nI w0) → wp (some (r, h1)) (fun r => ∃ own', FN h r.2 own own' ∧ FI r.2 own' (sP g) ∧ ∃ o mv mo rg lk, KN (sP g) (cS (gT g)) X o mv mo rg lk ∧ r.1 = stV (oc (sP g) (cS (gT g)) X) mv mo rg lk (nI w0)) := fun r hr => by
      rw [wp_some]
      exact ⟨own', g1, fi, _, _, _, _, _, g3, hr⟩
    show wp (if r1 = 2 then _ else _) _
    rw [e1]
    by_cases o2 : oc (sP g) (cS (gT g)) X = 2
    · rw [wp_t (by rw [o2]; rfl)]
      refine fin _ ?_
      unfold stV
      rw [if_pos o2]; rfl
    · rw [wp_f (by rw [L_2, i_eq (by omega) (by decide)]; exact o2)]
      have tail : (oc (sP g) (cS (gT g)) X = 1 ∨ w0 = 0 ∨ w0 = 2) → wp (jX11_stuck_65 0 (nI X) (nI w0) (nI (oc (sP g) (cS (gT g)) X)) h1) (fun r => ∃ own', FN h r.2 own own' ∧ FI r.2 own' (sP g) ∧ ∃ o mv mo rg lk, KN (sP g) (cS (gT g)) X o mv mo rg lk ∧ r.1 = stV (oc (sP g) (cS (gT g)) X) mv mo rg lk (nI w0)) := fun hc => by
        show wp (jX11_stuck_65 0 (nI X) (nI w0) (nI (oc (sP g) (cS (gT g)) X)) (wI h1 (hI h1))) _
        unfold jX11_stuck_65 jX11_stuck_106
        rcases (by omega : w0 = 0 ∨ w0 = 1 ∨ w0 = 2 ∨ w0 = 3 ∨ w0 = 4) with rfl | rfl | rfl | rfl | rfl
        · rw [wp_t (show nI 0 = 0 from rfl)]
          by_cases o1 : oc (sP g) (cS (gT g)) X = 1
          · rw [wp_t (by rw [o1]; rfl)]
            refine fin _ ?_
            unfold stV
            rw [if_neg o2, if_pos (show nI 0 = 0 from rfl), if_pos o1]
          · rw [wp_f (by rw [L_1, i_eq (by omega) (by decide)]; exact o1)]
            refine fin _ ?_
            unfold stV
            rw [if_neg o2, if_pos (show nI 0 = 0 from rfl), if_neg o1]
        · have o1 := hc.resolve_right (by omega)
          rw [wp_f (by decide), wp_t (show nI 1 = 1 from rfl), wp_bind, cs1.gr cs1.r13, wp_bind, s01.r0, wp_bind, s01.l0 X64]
          refine fin _ ?_
          unfold stV
          rw [if_neg o2, if_neg (by decide), if_neg (by decide), if_pos o1, if_pos (show nI 1 = 1 from rfl)]
        · rw [wp_f (by decide), wp_f (by decide), wp_t (show nI 2 = 2 from rfl), wp_bind, cs1.gr cs1.r13, wp_bind, s01.r1, wp_bind, s01.l1 X64]
          refine fin _ ?_
          unfold stV
          rw [if_neg o2, if_neg (by decide), if_pos (show nI 2 = 2 from rfl)]
        · have o1 := hc.resolve_right (by omega)
          rw [wp_f (by decide), wp_f (by decide), wp_f (by decide), wp_t (show nI 3 = 3 from rfl), wp_bind, cs1.gr cs1.r13, wp_bind, s01.r2, wp_bind, s01.l2 X64]
          refine fin _ ?_
          unfold stV
          rw [if_neg o2, if_neg (by decide), if_neg (by decide), if_pos o1, if_neg (by decide), if_pos (show nI 3 = 3 from rfl)]
        · have o1 := hc.resolve_right (by omega)
          rw [wp_f (by decide), wp_f (by decide), wp_f (by decide), wp_f (by decide), wp_bind, cs1.gr cs1.r13, wp_bind, s01.r3, wp_bind, s01.l3 X64]
          refine fin _ ?_
          unfold stV
          rw [if_neg o2, if_neg (by decide), if_neg (by decide), if_pos o1, if_neg (by decide), if_neg (by decide)]
      by_cases o0 : oc (sP g) (cS (gT g)) X = 0
      · rw [wp_t (by rw [o0]; rfl)]
        by_cases w00 : w0 = 0
        · rw [wp_t (by rw [w00]; rfl)]; exact tail (by omega)
        · rw [wp_f (by rw [z_eq (by omega)]; exact w00)]
          by_cases w02 : w0 = 2
          · rw [wp_t (by rw [w02]; rfl)]; exact tail (by omega)
          · rw [wp_f (by rw [L_2, i_eq (by omega) (by decide)]; exact w02)]
            refine fin _ ?_
            unfold stV
            rw [if_neg o2, if_neg (by rw [z_eq (by omega)]; exact w00), if_neg (by rw [L_2, i_eq (by omega) (by decide)]; exact w02), if_neg (by omega)]; rfl
      · rw [wp_f (by rw [z_eq (by omega)]; exact o0)]
        exact tail (by omega)
  · exact absurd ⟨X, rfl, vX⟩ hn
/-- both sides, a set that may be asked for -/
theorem stuck_both {w : Int32} (I : IC h g own ad) (F : FI h own (sP g)) (J : IR m g) (ok : okG g) (v : Int32) : ∃ r h1 m1, fX11_stuck h 0 v w = some (r, h1) ∧ gX12_stuck m v w = some (r, m1) ∧ ASK h h1 m1 own g := by
  by_cases hs : (∃ X, v = nI X ∧ vst (sP g) X) ∧ inN w 5
  · obtain ⟨⟨X, rfl, vX⟩, hw⟩ := hs
    refine bo2 (R := fun h1 m1 => ASK h h1 m1 own g) ?_
    refine wp_mono (c_stuckS I F ok vX hw) ?_
    rintro ⟨r, h1⟩ ⟨own', g1, g2, o, mv, mo, rg, lk, g3, g4⟩
    refine wp_mono (r_stuckS (ir_rx J ok vX.2.1) J.2.2.1 ok.2.1 vX hw) ?_
    rintro ⟨r', m1⟩ ⟨q1, q2⟩
    exact ⟨(q2 o mv mo rg lk g3).trans g4.symm, ⟨own', g1, g2⟩, ir_rf J q1.1⟩
  · have ow := I.2.1
    have keep : ASK h h m own g := ⟨⟨own, FN.rfl' ow.2.2, F⟩, J⟩
    refine bo2 (R := fun h1 m1 => ASK h h1 m1 own g) ?_
    obtain ⟨cs, _, _, _, ⟨P, hP, p1, p2, pc⟩, _⟩ := id I
    have pc' : PC (wI h (hI h)) P (sP g) := pc
    have s5 : Sh5 h P := pc.1
    have href : wp (gX12_stuck m v w) (fun r' => r'.1 = -1 ∧ ASK h h r'.2 own g) := by
      unfold gX12_stuck gjX12_stuck_25
      rw [wp_bind]
      refine wp_mono (r_isSet J.2.2.1 ok.2.1) ?_
      rintro y (⟨rfl, hx⟩ | ⟨rfl, _⟩)
      · rw [wp_f (by decide), wp_bind, L_4, w_isInK (by decide), b01_n (fun z => hs ⟨hx, z⟩), wp_t rfl, wp_some]
        exact ⟨rfl, keep⟩
      · rw [wp_t rfl, wp_some]
        exact ⟨rfl, keep⟩
    have hcl : wp (fX11_stuck h 0 v w) (fun r => r = (-1, h)) := by
      show wp (fX11_stuck (wI h (hI h)) 0 v w) _
      unfold fX11_stuck jX11_stuck_20
      rw [wp_bind, cs.gr p1, wp_bind, s5.o, wp_bind]
      refine wp_mono (c_isSet pc' ok.2.1) ?_
      rintro y (⟨rfl, hx⟩ | ⟨rfl, _⟩)
      · rw [wp_f (by decide)]
        by_cases w0 : w < 0
        · rw [wp_t w0, wp_some]; rfl
        · obtain ⟨j, j31, rfl⟩ := nI_of w0
          have : ¬ j < 5 := fun z => hs ⟨hx, (inN_nI j31).mpr z⟩
          rw [wp_f w0, wp_f (by rw [L_4, i_le j31 (by decide)]; omega), wp_some]; rfl
      · rw [wp_t rfl, wp_some]; rfl
    refine wp_mono hcl ?_
    rintro r rfl
    exact href
end OST

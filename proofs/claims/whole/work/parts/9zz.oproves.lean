/-! proves, on both sides -/
section OPR
variable {h : Hp} {m m' : Mem} {g : GS} {own own' : Nat → Nat} {ad : Nat → Option Nat} {X : Nat} {Pl : PD} {T : Nat → Nat}
theorem sw_c (pw : PW Pl) (sw : SW Pl T) : SW Pl (cS T) := fun j v => by
  have lt : j < 72 := by
    have := v.1
    have := pw.2.2.1
    have := v.2
    have := (pw.2.2.2.2 (j / 12) v.1).2.2
    omega
  rw [cS_lt lt]; exact sw j v
/-- a ring of just these kinds -/
def PVR (Pl : PD) (S : Nat → Nat) (X : Nat) (kd : Nat → Prop) : Prop := oc Pl S X = 1 ∧ ∃ rg lk, RGT Pl S X (lastM Pl S X) rg lk ∧ ∀ l, l < pL Pl → bt lk l = true → kd (pk Pl l)
theorem pvr_of {S : Nat → Nat} {kd : Nat → Prop} {rg lk : Int32} (o1 : oc Pl S X = 1) (q : RGT Pl S X (lastM Pl S X) rg lk) : PVR Pl S X kd ↔ ∀ l, l < pL Pl → bt lk l = true → kd (pk Pl l) := by
  constructor
  · rintro ⟨_, rg', lk', q', hl⟩
    rw [(rgt_un q q').2]; exact hl
  · intro hl; exact ⟨o1, rg, lk, q, hl⟩
theorem kn_pl {S : Nat → Nat} {o mv mo rg lk : Int32} (pw : PW Pl) (sw : SW Pl S) (k : KN Pl S X o mv mo rg lk) (o1 : oc Pl S X = 1) : ∀ l, l < 32 → bt lk l = true → l < pL Pl := by
  have si := k.2.2.1
  have n0 := (si.2.2.2.2.1 (oc_1.mp o1)).1
  exact rgt_pl pw (si.2.2.1 (zN (srch Pl S X) - 1) (by omega)).1 sw (k.2.2.2 o1).2
theorem c_provesL {kd : Nat → Prop} {K : Int32} (I : IC h g own ad) (F : FI h own (sP g)) (ok : okG g) (hK : ∀ t, t < 32 → (bt K t = true ↔ kd t)) : wp (lp (bX11_proves_46 0 (K ^^^ (-1 : Int32))) FU ((1 : Int32), h)) (fun e => (∃ c, e = .inl c ∧ (∃ own', FN h c own own' ∧ FI c own' (sP g)) ∧ ∀ X, vst (sP g) X → ¬ PVR (sP g) (cS (gT g)) X kd) ∨ (∃ c, e = .inr c ∧ (∃ own', FN h c own own' ∧ FI c own' (sP g)) ∧ ∃ X, vst (sP g) X ∧ PVR (sP g) (cS (gT g)) X kd)) := by
  have pw := ok.2.1
  have p6 := pw.2.2.1
  have h64 := p64 pw
  have o3 := ok.2.2.2.1
  have hp0 : 0 < 2 ^ pP (sP g) := Nat.two_pow_pos _
  refine wp_for (κ := Hp) (fun x c => (nI x, c)) (2 ^ pP (sP g)) (fun x c => (∃ own', FN h c own own' ∧ FI c own' (sP g)) ∧ ∀ Y, Y < x → vst (sP g) Y → ¬ PVR (sP g) (cS (gT g)) Y kd) (fun x c hx hI => ?_) (fun c hI => ?_) 1 h hp0 ⟨⟨own, FN.rfl' I.2.1.2.2, F⟩, fun Y hY vY => by have := (vst_lt vY).2; omega⟩ (by omega)
  · obtain ⟨⟨own1, g1, g2⟩, g3⟩ := hI
    have I1 := ic_f I o3 g1
    obtain ⟨b, n, rb, L, ob, hc, c74, hT, sw⟩ := ic_at I1 ok
    obtain ⟨cs, ow, _, _, ⟨P, hP, p1, p2, pc⟩, ⟨a1, a2⟩, _⟩ := id I1
    have pc' : PC (wI c (hI c)) P (sP g) := pc
    have s5 : Sh5 c P := pc.1
    have s3 := L.1
    have s2 := cs.s2
    have s0 := cs.s0
    have pr : ∀ {Q : Nat → Prop}, wp (fX2_present (wI c (hI c)) 18) Q = Q b := fun {Q} => cs.present a1 (by have := ok.2.2.1; omega) rb
    have stay : ∀ c', (∃ own', FN h c' own own' ∧ FI c' own' (sP g)) → (vst (sP g) x → ¬ PVR (sP g) (cS (gT g)) x kd) → wp (jX11_proves_120 0 (K ^^^ (-1 : Int32)) (nI x) c') (lq (fun s' => ∃ c'' : Hp, s' = (nI (x + 1), c'') ∧ (∃ own', FN h c'' own own' ∧ FI c'' own' (sP g)) ∧ ∀ Y, Y < x + 1 → vst (sP g) Y → ¬ PVR (sP g) (cS (gT g)) Y kd) (fun e => (∃ c, e = .inl c ∧ (∃ own', FN h c own own' ∧ FI c own' (sP g)) ∧ ∀ X, vst (sP g) X → ¬ PVR (sP g) (cS (gT g)) X kd) ∨ (∃ c, e = .inr c ∧ (∃ own', FN h c own own' ∧ FI c own' (sP g)) ∧ ∃ X, vst (sP g) X ∧ PVR (sP g) (cS (gT g)) X kd))) := fun c' q1 q2 => by
      unfold jX11_proves_120
      rw [wp_bind, wp_some, wp_some, lq_l, nI_1]
      refine ⟨c', rfl, q1, fun Y hY vY => ?_⟩
      by_cases z : Y = x
      · rw [z] at vY ⊢; exact q2 vY
      · exact g3 Y (by omega) vY
    show wp (bX11_proves_46 0 (K ^^^ (-1 : Int32)) (nI x, wI c (hI c))) _
    simp only [bX11_proves_46]
    rw [wp_bind, cs.gr p1, wp_bind, s5.o, wp_bind, w_everyone pc' pw, wp_f (by rw [i_lt (by omega) (by omega)]; omega), wp_bind, cs.gr p1, wp_bind, s5.o, wp_bind]
    refine wp_mono (c_isSet pc' pw) ?_
    rintro y (⟨rfl, X, eX, vX⟩ | ⟨rfl, hn⟩)
    · have : X = x := by
        have := (vst_lt vX).1
        rw [i_eq (by omega) (by omega)] at eX
        exact eX.symm
      subst this
      have X64 := vX.1
      rw [wp_f (by decide), wp_bind, cs.gr cs.r13, wp_bind, cs.gr p1, wp_bind, cs.gr cs.r5, wp_bind, s2.o, wp_bind, pr, wp_bind, s3.r0, wp_bind, s0.o, wp_bind]
      show wp (fX0_outcomeOf c 74 P (b + 1) (nI X)) _
      refine wp_mono (a_out I1 g2 ok p1 rb vX) ?_
      rintro ⟨r1, c1⟩ ⟨own2, q1, q2, q3, q4⟩
      change r1 = nI (oc (sP g) (cS (gT g)) X) at q4
      change FN c c1 own1 own2 at q1
      change FZ c1 own2 (sP g) (gT g) at q2
      change KN _ _ _ (hI c1 79 X) (hI c1 75 X) (hI c1 76 X) (hI c1 77 X) (hI c1 78 X) at q3
      have oc3 := oc_lt q3.2.2.1
      have fi : ∃ own', FN h c1 own own' ∧ FI c1 own' (sP g) := ⟨own2, g1.tr q1, fi_z (fun j hj => (hT j hj).2) q2⟩
      subst q4
      show wp (if nI (oc (sP g) (cS (gT g)) X) = 1 then _ else _) _
      by_cases o1 : oc (sP g) (cS (gT g)) X = 1
      · have cs1 := cs.x q1.1
        have s01 := cs1.s0
        have pc1 : PC (wI c1 (hI c1)) P (sP g) := pc_f ow cs.1 q1 pc hP
        have s51 : Sh5 c1 P := pc1.1
        have r3 : hR c1 0 3 = some P := by
          have c120 := cs.1
          rw [q1.2.2.2.2.2.2.1 0 3 (by omega) (by rw [ow.1 0 (by decide) (by decide) (by decide)]; decide) (by decide)]; exact p1
        rw [wp_t (by rw [o1]; rfl)]
        show wp ((gR (wI c1 (hI c1)) 11 0 3).bind _) _
        rw [wp_bind, cs1.gr r3, wp_bind]
        show wp (gR (wI c1 (hI c1)) 11 0 13) _
        rw [cs1.gr cs1.r13, wp_bind]
        show wp (gR (wI c1 (hI c1)) 0 74 3) _
        rw [s01.r3, wp_bind]
        show wp (lI (wI c1 (hI c1)) .int (74 + 4) (nI X)) _
        rw [s01.l3 X64, wp_bind]
        show wp (gO (wI c1 (hI c1)) 5 P) _
        rw [s51.o, wp_bind]
        refine wp_mono (c_locksOf (lk := hI c1 78 X) (ot := K ^^^ (-1 : Int32)) pc1 pw) ?_
        intro r hr
        have key : r = 0 ↔ PVR (sP g) (cS (gT g)) X kd := by
          rw [pvr_of o1 (q3.2.2.2 o1).2]
          have k8 := pw.1
          constructor
          · intro e l hl hb
            have pk8 := pw.2.2.2.1 l hl
            have l10 := pw.2.1
            rw [← hK _ (by omega)]
            cases hh : bt K (pk (sP g) l)
            · have := (hr l (by omega)).mpr ⟨hl, hb, by rw [b_not _ (by omega), hh]; rfl⟩
              rw [e, b_0] at this
              cases this
            · rfl
          · intro hl
            refine b_ext fun t ht => ?_
            rw [b_0]
            cases hh : bt r t
            · rfl
            · obtain ⟨x1, x2, x3⟩ := (hr t ht).mp hh
              have pk8 := pw.2.2.2.1 t x1
              rw [b_not _ (by omega), (hK _ (by omega)).mpr (hl t x1 x2)] at x3
              cases x3
        by_cases z : r = 0
        · rw [wp_t z, wp_some, lq_r]
          exact Or.inr ⟨c1, rfl, fi, X, vX, key.mp z⟩
        · rw [wp_f z]
          exact stay c1 fi (fun _ q => z (key.mpr q))
      · rw [wp_f (by rw [L_1, i_eq (by omega) (by decide)]; exact o1)]
        exact stay c1 fi (fun _ q => o1 q.1)
    · rw [wp_t rfl]
      exact stay c ⟨own1, g1, g2⟩ (fun v => absurd ⟨x, rfl, v⟩ hn)
  · obtain ⟨⟨own1, g1, g2⟩, g3⟩ := hI
    have I1 := ic_f I o3 g1
    obtain ⟨cs, ow, _, _, ⟨P, hP, p1, p2, pc⟩, ⟨a1, a2⟩, _⟩ := id I1
    have pc' : PC (wI c (hI c)) P (sP g) := pc
    have s5 : Sh5 c P := pc.1
    show wp (bX11_proves_46 0 (K ^^^ (-1 : Int32)) (nI (2 ^ pP (sP g)), wI c (hI c))) _
    simp only [bX11_proves_46]
    rw [wp_bind, cs.gr p1, wp_bind, s5.o, wp_bind, w_everyone pc' pw, wp_t (by rw [i_lt (by omega) (by omega)]; omega), wp_some, lq_r]
    exact Or.inl ⟨c, rfl, ⟨own1, g1, g2⟩, fun X vX => g3 X (vst_lt vX).1 vX⟩
theorem r_provesL {kd : Nat → Prop} {K : Int32} (J : IR m g) (ok : okG g) (hK : ∀ t, t < 32 → (bt K t = true ↔ kd t)) : wp (lp (gbX12_proves_32 K) FU ((1 : Int32), m)) (fun e => (∃ c, e = .inl c ∧ IR c g ∧ ∀ X, vst (sP g) X → ¬ PVR (sP g) (cS (gT g)) X kd) ∨ (∃ c, e = .inr c ∧ IR c g ∧ ∃ X, vst (sP g) X ∧ PVR (sP g) (cS (gT g)) X kd)) := by
  have pw := ok.2.1
  have p6 := pw.2.2.1
  have h64 := p64 pw
  have k8 := pw.1
  have l10 := pw.2.1
  have hp0 : 0 < 2 ^ pP (sP g) := Nat.two_pow_pos _
  obtain ⟨_, _, o2, _, o4, _⟩ := id ok
  have sw : SW (sP g) (gT g) := (o4 (sA g) o2).2
  refine wp_for (κ := Mem) (fun x c => (nI x, c)) (2 ^ pP (sP g)) (fun x c => IR c g ∧ ∀ Y, Y < x → vst (sP g) Y → ¬ PVR (sP g) (cS (gT g)) Y kd) (fun x c hx hI => ?_) (fun c hI => ?_) 1 m hp0 ⟨J, fun Y hY vY => by have := (vst_lt vY).2; omega⟩ (by omega)
  · obtain ⟨Jc, g3⟩ := hI
    have stay : ∀ c', IR c' g → (vst (sP g) x → ¬ PVR (sP g) (cS (gT g)) x kd) → wp (gjX12_proves_71 K (nI x) c') (lq (fun s' => ∃ c'' : Mem, s' = (nI (x + 1), c'') ∧ IR c'' g ∧ ∀ Y, Y < x + 1 → vst (sP g) Y → ¬ PVR (sP g) (cS (gT g)) Y kd) (fun e => (∃ c, e = .inl c ∧ IR c g ∧ ∀ X, vst (sP g) X → ¬ PVR (sP g) (cS (gT g)) X kd) ∨ (∃ c, e = .inr c ∧ IR c g ∧ ∃ X, vst (sP g) X ∧ PVR (sP g) (cS (gT g)) X kd))) := fun c' q1 q2 => by
      unfold gjX12_proves_71
      rw [wp_bind, wp_some, wp_some, lq_l, nI_1]
      refine ⟨c', rfl, q1, fun Y hY vY => ?_⟩
      by_cases z : Y = x
      · rw [z] at vY ⊢; exact q2 vY
      · exact g3 Y (by omega) vY
    simp only [gbX12_proves_32]
    rw [wp_bind, rd4 Jc.2.2.1, shl_p pw, wp_f (by rw [i_le (by omega) (by omega)]; omega), wp_bind]
    refine wp_mono (r_stuck0 Jc ok (by omega)) ?_
    rintro ⟨y1, m1⟩ ⟨J1, hy⟩
    change IR m1 g at J1
    show wp (if y1 = 1 then _ else _) _
    rcases hy with ⟨vX, e, ra⟩ | ⟨nv, e, _⟩
    · change y1 = _ at e
      change RAF _ _ _ c m1 at ra
      by_cases o1 : oc (sP g) (cS (gT g)) x = 1
      · rw [if_neg (by omega), if_pos o1] at e
        obtain ⟨rt, e1, rl, e2, q⟩ := raf_rings ra o1
        have si := ra.2.2.2
        have n0 := (si.2.2.2.2.1 (oc_1.mp o1)).1
        have hpl := rgt_pl pw (si.2.2.1 (zN (srch (sP g) (cS (gT g)) x) - 1) (by omega)).1 (sw_c pw sw) q
        rw [wp_t e, wp_bind]
        show wp (gX12_ringLocks m1) _
        rw [wp_eq e2, wp_bind]
        show wp (gX12_areOf m1 rl K) _
        refine wp_mono (r_areOf J1.2.2.1 pw hpl) ?_
        have key : PVR (sP g) (cS (gT g)) x kd ↔ ∀ l, l < pL (sP g) → bt rl l = true → bt K (pk (sP g) l) = true := by
          rw [pvr_of o1 q]
          constructor
          · intro hq l hl hb; have := pw.2.2.2.1 l hl; exact (hK _ (by omega)).mpr (hq l hl hb)
          · intro hq l hl hb; have := pw.2.2.2.1 l hl; exact (hK _ (by omega)).mp (hq l hl hb)
        rintro y (⟨rfl, hy⟩ | ⟨rfl, hy⟩)
        · rw [wp_f (by decide), wp_some, lq_r]
          exact Or.inr ⟨m1, rfl, J1, x, vX, key.mpr hy⟩
        · rw [wp_t rfl]
          exact stay m1 J1 (fun _ q => hy (key.mp q))
      · rw [wp_f ?_]
        · exact stay m1 J1 (fun _ q => o1 q.1)
        · rw [e]
          by_cases o2 : oc (sP g) (cS (gT g)) x = 2
          · rw [if_pos o2]; decide
          · rw [if_neg o2, if_neg o1]; decide
    · change y1 = _ at e
      rw [wp_f (by rw [e]; decide)]
      exact stay m1 J1 (fun v => absurd v nv)
  · obtain ⟨Jc, g3⟩ := hI
    simp only [gbX12_proves_32]
    rw [wp_bind, rd4 Jc.2.2.1, shl_p pw, wp_t (by rw [i_le (by omega) (by omega)]; omega), wp_some, lq_r]
    exact Or.inl ⟨c, rfl, Jc, fun X vX => g3 X (vst_lt vX).1 vX⟩
theorem o_proves (I : IC h g own ad) (F : FI h own (sP g)) (J : IR m g) (ok : okG g) (v : Int32) : ∃ r h1 m1, fX11_proves h 0 v = some (r, h1) ∧ gX12_proves m v = some (r, m1) ∧ ASK h h1 m1 own g := by
  obtain ⟨b, n, rb, L, ob, hc, c74, hT, sw⟩ := ic_at I ok
  obtain ⟨cs, ow, _, _, ⟨P, hP, p1, p2, pc⟩, ⟨a1, a2⟩, _⟩ := id I
  obtain ⟨_, pw, o2, o3, o4, _⟩ := id ok
  obtain ⟨lw, _⟩ := o4 (sA g) o2
  have jl := J.2.2.2.2.1
  have F1 := jl.1
  have s3 := L.1
  have L1 := L.2.1
  have s7 := s3.s4
  have s2 := cs.s2
  have pr : ∀ {Q : Nat → Prop}, wp (fX2_present (wI h (hI h)) 18) Q = Q b := fun {Q} => cs.present a1 (by omega) rb
  have keep : ASK h h m own g := ⟨⟨own, FN.rfl' ow.2.2, F⟩, J⟩
  have lw1 := lw.1
  have h60 := lw1.1
  have q0 : hI h (b + 8) 0 = nI (rC (aD (sH g (sA g)))) := L1.1
  generalize hD : aD (sH g (sA g)) = D at *
  refine bo2 (R := fun h1 m1 => ASK h h1 m1 own g) ?_
  show wp (fX11_proves (wI h (hI h)) 0 v) _
  unfold fX11_proves jX11_proves_33
  rw [wp_bind, cs.gr cs.r5, wp_bind, s2.o, wp_bind, pr, wp_bind, s3.r4]
  by_cases hv : inN v (rC D)
  · obtain ⟨r, hr, rfl⟩ := inN_ex hv
    obtain ⟨⟨g1, g2, g3, g4⟩, g5⟩ := F1.2 r hr
    obtain ⟨⟨c1, c2, c3, c4⟩, c5⟩ := L1.2.1 r hr
    have s9 := (lw1.2 r hr).1.2.1
    have at0 : ∀ {Q : Int32 → Prop}, wp (gX12_atReport (nI r) 0) Q = Q (nI (273 + 21 * r + 0)) := fun {Q} => w_atReport (k := 0)
    rw [wp_f (by rw [nI_lt0 (by omega)]; exact id), wp_bind, s7.g0, q0, wp_f (by rw [i_le (by omega) (by omega)]; omega), wp_bind, s7.r1, wp_bind, s7.l1 (by omega), c1]
    by_cases z : rS D r = 3
    · rw [wp_t (by rw [z]; rfl), wp_bind, s7.o, wp_bind]
      refine wp_mono (c_kindsOf s7 L1 lw1 hr) ?_
      intro K hK
      rw [wp_bind, wp_some, wp_bind]
      show wp (lp (bX11_proves_46 0 (K ^^^ (-1 : Int32))) FU ((1 : Int32), h)) _
      refine wp_mono (c_provesL I F ok hK) ?_
      intro e he
      have href : ∀ r' : Int32, (r' = 0 ∧ ∀ X, vst (sP g) X → ¬ PVR (sP g) (cS (gT g)) X (kdR D r)) ∨ (r' = 1 ∧ ∃ X, vst (sP g) X ∧ PVR (sP g) (cS (gT g)) X (kdR D r)) → ∀ c, (∃ own', FN h c own own' ∧ FI c own' (sP g)) → wp (some (r', c)) (fun r_1 => wp (gX12_proves m (nI r)) (fun r'_1 => r'_1.1 = r_1.1 ∧ ASK h r_1.2 r'_1.2 own g)) := by
        intro r' hr' c hc'
        rw [wp_some]
        unfold gX12_proves
        rw [wp_bind, w_isReport F1 lw1, b01_t hv, wp_f (by decide), wp_bind, at0, wp_bind, w_rd (by omega) (by decide), Nat.add_zero, g1, wp_t (by rw [z]; rfl), wp_bind]
        refine wp_mono (r_kindsOf F1 lw1 hr) ?_
        intro K' hK'
        rw [wp_bind]
        refine wp_mono (r_provesL J ok hK') ?_
        rintro e (⟨c', rfl, q1, q2⟩ | ⟨c', rfl, q1, X, q2, q3⟩)
        · show wp (some ((0 : Int32), c')) _
          rw [wp_some]
          refine ⟨?_, hc', q1⟩
          rcases hr' with ⟨e, _⟩ | ⟨_, X, q3, q4⟩
          · exact e.symm
          · exact absurd q4 (q2 X q3)
        · show wp (some ((1 : Int32), c')) _
          rw [wp_some]
          refine ⟨?_, hc', q1⟩
          rcases hr' with ⟨_, q4⟩ | ⟨e, _⟩
          · exact absurd q3 (q4 X q2)
          · exact e.symm
      rcases he with ⟨c, rfl, q1, q2⟩ | ⟨c, rfl, q1, q2⟩
      · exact href 0 (Or.inl ⟨rfl, q2⟩) c q1
      · exact href 1 (Or.inr ⟨rfl, q2⟩) c q1
    · rw [wp_f (by rw [L_3, i_eq (by omega) (by decide)]; exact z), wp_some]
      unfold gX12_proves gjX12_proves_22
      rw [wp_bind, w_isReport F1 lw1, b01_t hv, wp_f (by decide), wp_bind, at0, wp_bind, w_rd (by omega) (by decide), Nat.add_zero, g1, wp_f (by rw [L_3, i_eq (by omega) (by decide)]; exact z), wp_some]
      exact ⟨rfl, keep⟩
  · have href : wp (gX12_proves m v) (fun r' => r'.1 = (-1 : Int32) ∧ ASK h h r'.2 own g) := by
      unfold gX12_proves gjX12_proves_22
      rw [wp_bind, w_isReport F1 lw1, b01_n hv, wp_t rfl, wp_some]
      exact ⟨rfl, keep⟩
    by_cases h0 : v < 0
    · rw [wp_t h0, wp_some]
      exact href
    · obtain ⟨j, j31, rfl⟩ := nI_of h0
      have : ¬ j < rC D := fun z => hv ((inN_nI j31).mpr z)
      rw [wp_f h0, wp_bind, s7.g0, q0, wp_t (by rw [i_le (by omega) j31]; omega), wp_some]
      exact href
end OPR

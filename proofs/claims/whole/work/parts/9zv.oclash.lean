/-! clash, on both sides -/
section OCL
variable {h : Hp} {m m' : Mem} {g : GS} {own : Nat → Nat} {ad : Nat → Option Nat} {X : Nat} {Pl : PD} {P : Nat}
theorem c_isTask {v : Int32} (pc : PC (wI h m) P Pl) (pw : PW Pl) : wp (fX5_isTask (wI h m) P v) (fun y => (y = 1 ∧ ∃ t, t < pP Pl ∧ pS Pl t = 0 ∧ v = nI t) ∨ (y = 0 ∧ ¬ ∃ t, t < pP Pl ∧ pS Pl t = 0 ∧ v = nI t)) := by
  have s5 : Sh5 h P := pc.1
  have p6 := pw.2.2.1
  unfold fX5_isTask jX5_isTask_21 jX5_isTask_22
  rw [wp_bind, s5.o, wp_bind, w_hasProgram pc pw]
  by_cases hv : inN v (pP Pl)
  · obtain ⟨t, ht, rfl⟩ := inN_ex hv
    have s2 := (pw.2.2.2.2 t ht).1
    have e : m (P + 2) t = nI (pS Pl t) := (pc.2.2.2.2.2 t ht).1
    rw [b01_t hv, wp_f (by decide), wp_bind, s5.r4, wp_bind, s5.l4 (by omega), e]
    by_cases z : pS Pl t = 0
    · rw [wp_t (by rw [z]; rfl), wp_bind, wp_eq bz_1, wp_some]
      exact Or.inl ⟨rfl, t, ht, z, rfl⟩
    · rw [wp_f (by rw [z_eq (by omega)]; exact z), wp_bind, wp_eq bz_0, wp_some]
      refine Or.inr ⟨rfl, fun ⟨t', h1, h2, h3⟩ => z ?_⟩
      rw [i_eq (by omega) (by omega)] at h3
      rw [h3]; exact h2
  · rw [b01_n hv, wp_t rfl, wp_bind, wp_eq bz_0, wp_some]
    exact Or.inr ⟨rfl, fun ⟨t', h1, h2, h3⟩ => hv (by rw [h3]; exact (inN_nI (by omega)).mpr h1)⟩
theorem set_of {e : Int32} (hb : ∀ t, t < 32 → bt e t = true → t < 6) : ∃ X, e = nI X ∧ X < 64 ∧ ∀ t, X.testBit t = true ↔ t < 32 ∧ bt e t = true := by
  refine ⟨e.toBitVec.toNat, nI_tob e, ?_, ?_⟩
  · refine Nat.lt_pow_two_of_testBit (n := 6) _ fun i hi => ?_
    cases hh : e.toBitVec.toNat.testBit i
    · rfl
    · by_cases z : i < 32
      · have : bt e i = true := by unfold bt; rw [BitVec.getLsbD]; exact hh
        have := hb i z this
        omega
      · have : e.toBitVec.toNat < 2 ^ i := Nat.lt_of_lt_of_le e.toBitVec.isLt (Nat.pow_le_pow_right (by decide) (by omega))
        rw [Nat.testBit_lt_two_pow this] at hh
        cases hh
  · intro t
    have e1 : bt e t = e.toBitVec.toNat.testBit t := rfl
    constructor
    · intro ht
      refine ⟨Nat.lt_of_not_le fun z => ?_, by rw [e1]; exact ht⟩
      rw [Nat.testBit_lt_two_pow (Nat.lt_of_lt_of_le e.toBitVec.isLt (Nat.pow_le_pow_right (by decide) z))] at ht
      cases ht
    · rintro ⟨_, ht⟩
      rw [← e1]; exact ht
theorem everyone_bt (pw : PW Pl) {t : Nat} (ht : t < 32) : bt (nI (2 ^ pP Pl - 1)) t = decide (t < pP Pl) := by
  rw [bt_nI ht, Nat.testBit_two_pow_sub_one]
theorem r_clashSet (f : PF m Pl) (pw : PW Pl) {e : Int32} : wp (lp (gbX12_clash_50 m) FU (e, (0 : Int32))) (fun r => ∀ t, t < 32 → (bt r t = true ↔ bt e t = true ∨ (t < pP Pl ∧ pS Pl t ≠ 0))) := by
  have p6 := pw.2.2.1
  obtain ⟨k, k1, e9, _, _, e4, _⟩ := id f
  refine wp_for (κ := Int32) (fun i c => (c, nI i)) (pP Pl) (fun i c => ∀ t, t < 32 → (bt c t = true ↔ bt e t = true ∨ (t < i ∧ pS Pl t ≠ 0))) (fun i c hi hI => ?_) (fun c hI => ?_) 0 e (Nat.zero_le _) (fun t _ => ⟨fun q => Or.inl q, fun q => q.resolve_right fun z => absurd z.1 (Nat.not_lt_zero _)⟩) (by omega)
  · have s2 := (pw.2.2.2.2 i hi).1
    simp only [gbX12_clash_50]
    rw [wp_bind, e9, w_rd (by omega) (by decide), e4, wp_f (by rw [i_le (by omega) (by omega)]; omega), wp_bind, w_sortOf f pw hi]
    unfold gjX12_clash_82
    by_cases z : pS Pl i = 0
    · rw [wp_t (by rw [z]; rfl), wp_bind, wp_some, wp_bind, wp_some, wp_some, lq_l, nI_1]
      refine ⟨_, rfl, fun t ht => ?_⟩
      rw [b_or, b_0, Bool.or_false, hI t ht]
      constructor
      · rintro (q | ⟨q1, q2⟩)
        · exact Or.inl q
        · exact Or.inr ⟨by omega, q2⟩
      · rintro (q | ⟨q1, q2⟩)
        · exact Or.inl q
        · refine Or.inr ⟨?_, q2⟩
          rcases Nat.lt_or_ge t i with y | y
          · exact y
          · rw [show t = i by omega] at q2; exact absurd z q2
    · rw [wp_f (by rw [z_eq (by omega)]; exact z), wp_bind, wp_some, wp_bind, wp_some, wp_some, lq_l, nI_1]
      refine ⟨_, rfl, fun t ht => ?_⟩
      rw [b_or, Bool.or_eq_true, hI t ht, b_shl1 (by omega) ht, decide_eq_true_iff]
      constructor
      · rintro ((q | ⟨q1, q2⟩) | q)
        · exact Or.inl q
        · exact Or.inr ⟨by omega, q2⟩
        · exact Or.inr ⟨by omega, by rw [q]; exact z⟩
      · rintro (q | ⟨q1, q2⟩)
        · exact Or.inl (Or.inl q)
        · by_cases y : t = i
          · exact Or.inr y
          · exact Or.inl (Or.inr ⟨by omega, q2⟩)
  · simp only [gbX12_clash_50]
    rw [wp_bind, e9, w_rd (by omega) (by decide), e4, wp_t (by rw [i_le (by omega) (by omega)]; omega), wp_some, lq_r]
    exact hI
theorem o_clash (I : IC h g own ad) (F : FI h own (sP g)) (J : IR m g) (ok : okG g) (v u : Int32) : ∃ r h1 m1, fX11_clash h 0 v u = some (r, h1) ∧ gX12_clash m v u = some (r, m1) ∧ ASK h h1 m1 own g := by
  obtain ⟨b, n, rb, L, ob, hc, c74, hT, sw⟩ := ic_at I ok
  obtain ⟨cs, ow, _, _, ⟨P, hP, p1, p2, pc⟩, ⟨a1, a2⟩, _⟩ := id I
  have o3 := ok.2.2.2.1
  have pw := ok.2.1
  have p6 := pw.2.2.1
  have jp := J.2.2.1
  have pc' : PC (wI h (hI h)) P (sP g) := pc
  have s5 : Sh5 h P := pc.1
  have s3 := L.1
  have s2 := cs.s2
  have s0 := cs.s0
  have pr : ∀ {Q : Nat → Prop}, wp (fX2_present (wI h (hI h)) 18) Q = Q b := fun {Q} => cs.present a1 (by have := ok.2.2.1; omega) rb
  have keep : ASK h h m own g := ⟨⟨own, FN.rfl' ow.2.2, F⟩, J⟩
  refine bo2 (R := fun h1 m1 => ASK h h1 m1 own g) ?_
  by_cases hs : ∃ t1 t2, t1 < pP (sP g) ∧ pS (sP g) t1 = 0 ∧ v = nI t1 ∧ t2 < pP (sP g) ∧ pS (sP g) t2 = 0 ∧ u = nI t2 ∧ t1 ≠ t2
  · obtain ⟨t1, t2, x1, x2, rfl, y1, y2, rfl, hne⟩ := hs
    have nev : ¬ nI t1 = nI t2 := by rw [i_eq (by omega) (by omega)]; exact hne
    show wp (fX11_clash (wI h (hI h)) 0 (nI t1) (nI t2)) _
    unfold fX11_clash jX11_clash_27 jX11_clash_98
    rw [wp_f nev, wp_bind, cs.gr p1, wp_bind, s5.o, wp_bind]
    refine wp_mono (c_isTask pc' pw) ?_
    rintro y (⟨rfl, _⟩ | ⟨_, hn⟩)
    · rw [wp_f (by decide), wp_bind, cs.gr p1, wp_bind, s5.o, wp_bind]
      refine wp_mono (c_isTask pc' pw) ?_
      rintro y (⟨rfl, _⟩ | ⟨_, hn⟩)
      · rw [wp_f (by decide), wp_bind, cs.gr p1, wp_bind, s5.o, wp_bind, w_everyone pc' pw, wp_bind, cs.gr p1, wp_bind, s5.o, wp_bind]
        refine wp_mono (c_tasks pc' pw) ?_
        intro r hr
        rw [wp_bind, wp_some]
        have hbits : ∀ t, t < 32 → (bt (((nI (2 ^ pP (sP g) - 1) &&& (r ^^^ (-1 : Int32))) ||| ((1 : Int32) <<< (nI t1 &&& 31))) ||| ((1 : Int32) <<< (nI t2 &&& 31))) t = true ↔ (t < pP (sP g) ∧ pS (sP g) t ≠ 0) ∨ t = t1 ∨ t = t2) := fun t ht => by
          rw [b_or, b_or, b_andn _ _ ht, everyone_bt pw ht, b_shl1 (by omega) ht, b_shl1 (by omega) ht, Bool.or_eq_true, Bool.or_eq_true, Bool.and_eq_true, decide_eq_true_iff, decide_eq_true_iff, decide_eq_true_iff]
          have key : (t < pP (sP g) ∧ (!bt r t) = true) ↔ (t < pP (sP g) ∧ pS (sP g) t ≠ 0) := by
            constructor
            · rintro ⟨q1, q2⟩
              refine ⟨q1, fun e => ?_⟩
              rw [(hr t ht).mpr ⟨q1, e⟩] at q2
              cases q2
            · rintro ⟨q1, q2⟩
              refine ⟨q1, ?_⟩
              cases hb : bt r t
              · rfl
              · exact absurd ((hr t ht).mp hb).2 q2
          rw [key, or_assoc]
        generalize hset : (((nI (2 ^ pP (sP g) - 1) &&& (r ^^^ (-1 : Int32))) ||| ((1 : Int32) <<< (nI t1 &&& 31))) ||| ((1 : Int32) <<< (nI t2 &&& 31))) = e at *
        obtain ⟨X, rfl, X64, hX⟩ := set_of (e := e) (fun t ht hb => by rcases (hbits t ht).mp hb with q | q | q <;> omega)
        have vX : vst (sP g) X := by
          refine ⟨X64, fun t ht => ?_, t1, x1, (hX t1).mpr ⟨by omega, (hbits t1 (by omega)).mpr (Or.inr (Or.inl rfl))⟩, x2⟩
          have := (hX t).mp ht
          rcases (hbits t this.1).mp this.2 with q | q | q <;> omega
        rw [wp_bind, cs.gr cs.r13, wp_bind, cs.gr p1, wp_bind, cs.gr cs.r5, wp_bind, s2.o, wp_bind, pr, wp_bind, s3.r0, wp_bind, s0.o, wp_bind]
        show wp (fX0_outcomeOf h 74 P (b + 1) (nI X)) _
        refine wp_mono (a_out I F ok p1 rb vX) ?_
        rintro ⟨r1, h1⟩ ⟨own', g1, g2, g3, g4⟩
        change r1 = nI (oc (sP g) (cS (gT g)) X) at g4
        have o3' := oc_lt g3.2.2.1
        have fi := fi_z (fun j hj => (hT j hj).2) g2
        -- the reference
        have fin : ∀ r, r = (if oc (sP g) (cS (gT g)) X = 2 then mI else if oc (sP g) (cS (gT g)) X = 1 then 1 else 0) → wp (some (r, h1)) (fun r => wp (gX12_clash m (nI t1) (nI t2)) (fun r' => r'.1 = r.1 ∧ ASK h r.2 r'.2 own g)) := fun r hr' => by
          rw [wp_some]
          unfold gX12_clash gjX12_clash_37
          rw [wp_bind, w_isProgram jp pw, b01_t ((inN_nI (by omega)).mpr x1), wp_f (by decide), wp_bind, w_isProgram jp pw, b01_t ((inN_nI (by omega)).mpr y1), wp_f (by decide), wp_f nev, wp_bind, w_sortOf jp pw x1, wp_t (by rw [x2]; rfl), wp_bind, w_sortOf jp pw y1, wp_t (by rw [y2]; rfl), wp_bind, wp_some, wp_bind]
          refine wp_mono (r_clashSet jp pw) ?_
          intro e' he'
          have ee : e' = nI X := by
            refine b_ext fun t ht => Bool.eq_iff_iff.mpr ?_
            rw [he' t ht, hbits t ht, b_or, b_shl1 (by omega) ht, b_shl1 (by omega) ht, Bool.or_eq_true, decide_eq_true_iff, decide_eq_true_iff]
            exact or_comm
          rw [ee, wp_bind]
          refine wp_mono (r_stuckS (w := 0) (ir_rx J ok vX.2.1) jp pw vX ((inN_nI (j := 0) (by decide)).mpr (by decide))) ?_
          rintro ⟨r', m1⟩ ⟨q1, q2⟩
          rw [wp_some]
          refine ⟨?_, ⟨own', g1, fi⟩, ir_rf J q1.1⟩
          have := q2 _ _ _ _ _ g3
          change r' = _ at this
          show r' = r
          rw [this, hr']
          unfold stV
          rw [if_pos rfl]
        subst g4
        show wp (if nI (oc (sP g) (cS (gT g)) X) = 2 then _ else _) _
        by_cases o2 : oc (sP g) (cS (gT g)) X = 2
        · rw [wp_t (by rw [o2]; rfl)]
          exact fin _ (by rw [if_pos o2]; rfl)
        · rw [wp_f (by rw [L_2, i_eq (by omega) (by decide)]; exact o2)]
          by_cases o1 : oc (sP g) (cS (gT g)) X = 1
          · rw [wp_t (by rw [o1]; rfl)]
            exact fin _ (by rw [if_neg o2, if_pos o1])
          · rw [wp_f (by rw [L_1, i_eq (by omega) (by decide)]; exact o1)]
            exact fin _ (by rw [if_neg o2, if_neg o1])
      · exact absurd ⟨t2, y1, y2, rfl⟩ hn
    · exact absurd ⟨t1, x1, x2, rfl⟩ hn
  · have href : wp (gX12_clash m v u) (fun r' => r'.1 = -1 ∧ ASK h h r'.2 own g) := by
      have no : wp (gjX12_clash_37 m) (fun r' => r'.1 = -1 ∧ ASK h h r'.2 own g) := by
        unfold gjX12_clash_37
        rw [wp_some]; exact ⟨rfl, keep⟩
      unfold gX12_clash
      rw [wp_bind, w_isProgram jp pw]
      by_cases h1 : inN v (pP (sP g))
      · rw [b01_t h1, wp_f (by decide), wp_bind, w_isProgram jp pw]
        by_cases h2 : inN u (pP (sP g))
        · rw [b01_t h2, wp_f (by decide)]
          by_cases h3 : v = u
          · rw [wp_t h3]; exact no
          · obtain ⟨t1, x1, rfl⟩ := inN_ex h1
            obtain ⟨t2, y1, rfl⟩ := inN_ex h2
            have s1 := (pw.2.2.2.2 t1 x1).1
            have s2 := (pw.2.2.2.2 t2 y1).1
            rw [wp_f h3, wp_bind, w_sortOf jp pw x1]
            by_cases z1 : pS (sP g) t1 = 0
            · rw [wp_t (by rw [z1]; rfl), wp_bind, w_sortOf jp pw y1]
              by_cases z2 : pS (sP g) t2 = 0
              · exact absurd ⟨t1, t2, x1, z1, rfl, y1, z2, rfl, fun e => h3 (by rw [e])⟩ hs
              · rw [wp_f (by rw [z_eq (by omega)]; exact z2)]; exact no
            · rw [wp_f (by rw [z_eq (by omega)]; exact z1)]; exact no
        · rw [b01_n h2, wp_t rfl]; exact no
      · rw [b01_n h1, wp_t rfl]; exact no
    have hcl : wp (fX11_clash h 0 v u) (fun r => r = (-1, h)) := by
      show wp (fX11_clash (wI h (hI h)) 0 v u) _
      unfold fX11_clash jX11_clash_27
      by_cases h3 : v = u
      · rw [wp_t h3, wp_some]; rfl
      · rw [wp_f h3, wp_bind, cs.gr p1, wp_bind, s5.o, wp_bind]
        refine wp_mono (c_isTask pc' pw) ?_
        rintro y (⟨rfl, t1, x1, x2, rfl⟩ | ⟨rfl, _⟩)
        · rw [wp_f (by decide), wp_bind, cs.gr p1, wp_bind, s5.o, wp_bind]
          refine wp_mono (c_isTask pc' pw) ?_
          rintro y (⟨rfl, t2, y1, y2, rfl⟩ | ⟨rfl, _⟩)
          · exact absurd ⟨t1, t2, x1, x2, rfl, y1, y2, rfl, fun e => h3 (by rw [e])⟩ hs
          · rw [wp_t rfl, wp_some]; rfl
        · rw [wp_t rfl, wp_some]; rfl
    refine wp_mono hcl ?_
    rintro r rfl
    exact href
end OCL

/-! missed, on both sides -/
/-- bits of a number below n -/
def pcr (W : Nat) : Nat → Nat
  | 0 => 0
  | n + 1 => pcr W n + (if W.testBit n then 1 else 0)
theorem pcr_c (h : Hp) : ∀ n, n < 1024 → fJ6_bitCount_0f7a4 h (nI n) = some (nI (pcr n 10)) := by
  have : ∀ n, n < 1024 → fJ6_bitCount_0f7a4 (fun _ => .inl 0, fun _ _ => 0, fun _ _ => 0, fun _ _ => none, 0, 0) (nI n) = some (nI (pcr n 10)) := by decide +kernel
  exact this
theorem pcr_le (W : Nat) : ∀ n, pcr W n ≤ n
  | 0 => Nat.le_refl _
  | n + 1 => by
    have := pcr_le W n
    show pcr W n + (if W.testBit n then 1 else 0) ≤ n + 1
    split <;> omega
section OMI
variable {h : Hp} {m m' : Mem} {g : GS} {own own' : Nat → Nat} {ad : Nat → Option Nat} {Pl : PD} {b : Nat} {D : RD}
/-- a kind in a report of waiting -/
def kwR (D : RD) (n t : Nat) : Prop := ∃ r, r < n ∧ rS D r ≤ 7 ∧ kdR D r t
theorem kw_s {c K : Int32} {i : Nat} (hI : ∀ t, t < 32 → (bt c t = true ↔ kwR D i t)) (hK : ∀ t, t < 32 → (bt K t = true ↔ kdR D i t)) (s7 : rS D i ≤ 7) : ∀ t, t < 32 → (bt (c ||| K) t = true ↔ kwR D (i + 1) t) := fun t ht => by
  rw [b_or, Bool.or_eq_true, hI t ht, hK t ht]
  constructor
  · rintro (⟨r, r1, r2⟩ | q)
    · exact ⟨r, by omega, r2⟩
    · exact ⟨i, by omega, s7, q⟩
  · rintro ⟨r, r1, r2, r3⟩
    by_cases z : r = i
    · rw [z] at r3; exact Or.inr r3
    · exact Or.inl ⟨r, by omega, r2, r3⟩
theorem kw_n {c : Int32} {i : Nat} (hI : ∀ t, t < 32 → (bt c t = true ↔ kwR D i t)) (s7 : ¬ rS D i ≤ 7) : ∀ t, t < 32 → (bt c t = true ↔ kwR D (i + 1) t) := fun t ht => by
  rw [hI t ht]
  constructor
  · rintro ⟨r, r1, r2⟩; exact ⟨r, by omega, r2⟩
  · rintro ⟨r, r1, r2, r3⟩
    by_cases z : r = i
    · rw [z] at r2; exact absurd r2 s7
    · exact ⟨r, by omega, r2, r3⟩
theorem kw_0 : ∀ t, t < 32 → (bt 0 t = true ↔ kwR D 0 t) := fun t _ => by rw [b_0]; exact ⟨fun z => absurd z (by decide), fun ⟨r, z, _⟩ => absurd z (Nat.not_lt_zero _)⟩
theorem c_kindsW (s7 : Sh7 h b) (L1 : RRc m b D) (w : RW D) : wp (fX7_kindsOfWaiting (wI h m) b) (fun K => ∀ t, t < 32 → (bt K t = true ↔ kwR D (rC D) t)) := by
  have h60 := w.1
  have q0 : m b 0 = nI (rC D) := L1.1
  unfold fX7_kindsOfWaiting
  rw [wp_bind]
  refine wp_mono (Q := fun K => ∀ t, t < 32 → (bt K t = true ↔ kwR D (rC D) t)) ?_ (fun _ hr => by rw [wp_some]; exact hr)
  refine wp_for (κ := Int32) (fun i c => (c, nI i)) (rC D) (fun i c => ∀ t, t < 32 → (bt c t = true ↔ kwR D i t)) (fun i c hi hI => ?_) (fun c hI => ?_) 0 0 (Nat.zero_le _) kw_0 (by omega)
  · obtain ⟨⟨c1, _, _, _⟩, _⟩ := L1.2.1 i hi
    have s9 := (w.2 i hi).1.2.1
    simp only [bX7_kindsOfWaiting_4]
    rw [wp_bind, s7.g0, q0, wp_f (by rw [i_le (by omega) (by omega)]; omega), wp_bind, s7.r1, wp_bind, s7.l1 (by omega), c1]
    unfold jX7_kindsOfWaiting_31
    by_cases z : rS D i ≤ 7
    · rw [wp_f (by rw [L_7, i_lt (by decide) (by omega)]; omega), wp_bind, s7.o, wp_bind]
      refine wp_mono (c_kindsOf s7 L1 w hi) ?_
      intro K hK
      rw [wp_bind, wp_some, wp_bind, wp_some, wp_some, lq_l, nI_1]
      exact ⟨_, rfl, kw_s hI hK z⟩
    · rw [wp_t (by rw [L_7, i_lt (by decide) (by omega)]; omega), wp_bind, wp_some, wp_some, lq_l, nI_1]
      exact ⟨_, rfl, kw_n hI z⟩
  · simp only [bX7_kindsOfWaiting_4]
    rw [wp_bind, s7.g0, q0, wp_t (by rw [i_le (by omega) (by omega)]; omega), wp_some, lq_r]
    exact hI
theorem r_kindsW (F1 : RRr (m 1) D) (w : RW D) : wp (lp (gbX12_kindsTold_8 m) FU ((0 : Int32), (0 : Int32))) (fun K => ∀ t, t < 32 → (bt K t = true ↔ kwR D (rC D) t)) := by
  have h60 := w.1
  have q0 : m 1 272 = nI (rC D) := F1.1
  have at0 : ∀ {r : Nat} {Q : Int32 → Prop}, wp (gX12_atReport (nI r) 0) Q = Q (nI (273 + 21 * r + 0)) := fun {r Q} => w_atReport (k := 0)
  refine wp_for (κ := Int32) (fun i c => (c, nI i)) (rC D) (fun i c => ∀ t, t < 32 → (bt c t = true ↔ kwR D i t)) (fun i c hi hI => ?_) (fun c hI => ?_) 0 0 (Nat.zero_le _) kw_0 (by omega)
  · obtain ⟨⟨c1, _, _, _⟩, _⟩ := F1.2 i hi
    have s9 := (w.2 i hi).1.2.1
    simp only [gbX12_kindsTold_8]
    rw [wp_bind, L_272, w_rd (by decide) (by decide), q0, wp_f (by rw [i_le (by omega) (by omega)]; omega), wp_bind, at0, wp_bind, w_rd (by omega) (by decide), Nat.add_zero, c1]
    unfold gjX12_kindsTold_43
    by_cases z : rS D i ≤ 7
    · rw [wp_f (by rw [L_8, i_le (by decide) (by omega)]; omega), wp_bind]
      refine wp_mono (r_kindsOf F1 w hi) ?_
      intro K hK
      rw [wp_bind, wp_some, wp_bind, wp_some, wp_some, lq_l, nI_1]
      exact ⟨_, rfl, kw_s hI hK z⟩
    · rw [wp_t (by rw [L_8, i_le (by decide) (by omega)]; omega), wp_bind, wp_some, wp_some, lq_l, nI_1]
      exact ⟨_, rfl, kw_n hI z⟩
  · simp only [gbX12_kindsTold_8]
    rw [wp_bind, L_272, w_rd (by decide) (by decide), q0, wp_t (by rw [i_le (by omega) (by omega)]; omega), wp_some, lq_r]
    exact hI
/-- the reference counts locks that no report told -/
theorem r_missL {K lk : Int32} {W : Nat} (f : PF m Pl) (pw : PW Pl) (e : gX12_ringLocks m = some lk) (hl : ∀ l, l < 32 → bt lk l = true → l < pL Pl) (hW : ∀ t, t < 10 → (W.testBit t = true ↔ t < pL Pl ∧ bt lk t = true ∧ ¬ bt K (pk Pl t) = true)) : wp (lp (gbX12_missed_18 K m) FU ((0 : Int32), (0 : Int32))) (fun r => r = nI (pcr W 10)) := by
  have l10 := pw.2.1
  have k8 := pw.1
  refine wp_for (κ := Unit) (fun i _ => (nI (pcr W i), nI i)) 10 (fun _ _ => True) (fun i _ hi _ => ?_) (fun _ _ => ?_) 0 () (Nat.zero_le _) trivial (by decide)
  · have no : ¬ W.testBit i = true → wp (gjX12_missed_52 K (nI i) (nI (pcr W i)) m) (lq (fun s' => ∃ c' : Unit, s' = (nI (pcr W (i + 1)), nI (i + 1)) ∧ True) (fun r => r = nI (pcr W 10))) := fun hn => by
      unfold gjX12_missed_52 gjX12_missed_53
      rw [wp_bind, wp_some, wp_bind, wp_some, wp_some, lq_l, nI_1, show (0 : Int32) = nI 0 from rfl, i_add]
      refine ⟨(), ?_, trivial⟩
      show _ = (nI (pcr W i + (if W.testBit i then 1 else 0)), nI (i + 1))
      rw [if_neg hn]
    simp only [gbX12_missed_18]
    rw [L_10, wp_f (by rw [i_le (by decide) (by omega)]; omega), wp_bind, wp_eq e, wp_bind, w_hasR (by omega)]
    by_cases z1 : bt lk i = true
    · have ip := hl i (by omega) z1
      have kk := pw.2.2.2.1 i ip
      rw [b01_t z1, wp_f (by decide), wp_bind, w_kind f pw ip, wp_bind, w_hasR (by omega)]
      by_cases z2 : bt K (pk Pl i) = true
      · rw [b01_t z2, wp_f (by decide)]
        exact no fun q => ((hW i hi).mp q).2.2 z2
      · rw [b01_n z2, wp_t rfl]
        unfold gjX12_missed_53
        rw [wp_bind, wp_some, wp_bind, wp_some, wp_some, lq_l, nI_1, nI_1]
        refine ⟨(), ?_, trivial⟩
        show _ = (nI (pcr W i + (if W.testBit i then 1 else 0)), nI (i + 1))
        rw [if_pos ((hW i hi).mpr ⟨ip, z1, z2⟩)]
    · rw [b01_n z1, wp_t rfl]
      exact no fun q => z1 ((hW i hi).mp q).2.1
  · simp only [gbX12_missed_18]
    rw [L_10, wp_t (by rw [i_le (by decide) (by decide)]; omega), wp_some, lq_r]
theorem set10 {e : Int32} (hb : ∀ t, t < 32 → bt e t = true → t < 10) : ∃ W, e = nI W ∧ W < 1024 ∧ ∀ t, t < 32 → (W.testBit t = true ↔ bt e t = true) := by
  refine ⟨e.toBitVec.toNat, nI_tob e, ?_, fun t _ => Iff.rfl⟩
  refine Nat.lt_pow_two_of_testBit (n := 10) _ fun i hi => ?_
  cases hh : e.toBitVec.toNat.testBit i
  · rfl
  · by_cases z : i < 32
    · have := hb i z hh
      omega
    · have : e.toBitVec.toNat < 2 ^ i := Nat.lt_of_lt_of_le e.toBitVec.isLt (Nat.pow_le_pow_right (by decide) (by omega))
      rw [Nat.testBit_lt_two_pow this] at hh
      cases hh
theorem o_missed (I : IC h g own ad) (F : FI h own (sP g)) (J : IR m g) (ok : okG g) : ∃ r h1 m1, fX11_missed h 0 = some (r, h1) ∧ gX12_missed m = some (r, m1) ∧ PST h h1 m1 g := by
  obtain ⟨b, n, rb, L, ob, hc, c74, hT, sw⟩ := ic_at I ok
  obtain ⟨cs, ow, _, _, ⟨P, hP, p1, p2, pc⟩, ⟨a1, a2⟩, _⟩ := id I
  obtain ⟨_, pw, o2, o3, o4, _⟩ := id ok
  have okA0 := o4 (sA g) o2
  have l10 := pw.2.1
  have k8 := pw.1
  have h64 := p64 pw
  have s3 := L.1
  have s2 := cs.s2
  have s0 := cs.s0
  have pr : ∀ {Q : Nat → Prop}, wp (fX2_present (wI h (hI h)) 18) Q = Q b := fun {Q} => cs.present a1 (by omega) rb
  obtain ⟨w1, w2, w3⟩ := runsA_W pw okA0.2 okA0.1.2.2.2.2.2 (pP (sP g)) (Nat.le_refl _)
  refine bo2 (R := fun h1 m1 => PST h h1 m1 g) ?_
  -- the reference, up to the least
  have rl : wp (gX12_kindsTold m) (fun y => IR y.2 g ∧ ∀ t, t < 32 → (bt y.1 t = true ↔ kwR (aD (runsA (sP g) (aS (sH g (sA g))) (pP (sP g)))) (rC (aD (runsA (sP g) (aS (sH g (sA g))) (pP (sP g))))) t)) := by
    unfold gX12_kindsTold
    rw [wp_bind]
    refine wp_mono (r_goAll J.2.2.2.2.1 okA0.1 J.2.2.1 pw okA0.2) ?_
    rintro m4 ⟨m3, g3, b3, x4, L4⟩
    rw [wp_bind]
    refine wp_mono (r_kindsW L4.1 w1.1) ?_
    intro K hK
    rw [wp_bind]
    refine wp_mono r_bringBack (fun m5 ⟨g5, b5⟩ => ?_)
    rw [wp_some]
    exact ⟨J.try ok g3 b3 x4 g5 b5, hK⟩
  obtain ⟨⟨K, m5⟩, eK, J5, hK⟩ := rl
  change IR m5 g at J5
  obtain ⟨⟨r6, m6⟩, e6, J6, ls6, hx6⟩ := r_leastNow J5 ok
  change IR m6 g at J6
  show wp (fX11_missed (wI h (hI h)) 0) _
  unfold fX11_missed
  rw [wp_bind, cs.gr cs.r13, wp_bind, cs.gr p1, wp_bind, cs.gr cs.r5, wp_bind, s2.o, wp_bind, pr, wp_bind, s3.r0, wp_bind, s0.o, wp_bind]
  show wp (fX0_leastSet h 74 P (b + 1)) _
  refine wp_mono (c_leastSet I F ok p1 rb) ?_
  rintro ⟨r1, h1⟩ ⟨own1, g1, g2, g3, g4⟩
  change FN h h1 own own1 at g1
  change FZ h1 own1 (sP g) (gT g) at g2
  change LSP (sP g) (cS (gT g)) r1 at g3
  have fi := fi_z (fun j hj => (hT j hj).2) g2
  have I1 := ic_f I o3 g1
  have sz1 := g1.2.2.2.2.2.2.2
  have er : r6 = r1 := lsp_un ls6 g3
  subst er
  show wp (if r6 = 0 then _ else _) _
  have ref0 : gX12_missed m = if r6 = 0 then some ((0 : Int32), m6) else (lp (gbX12_missed_18 K m6) FU ((0 : Int32), (0 : Int32))).bind fun e13 => some (e13, m6) := by
    unfold gX12_missed
    rw [eK, Option.bind_some]
    show (gX12_leastNow m5).bind _ = _
    rw [e6, Option.bind_some]
  by_cases z : r6 = 0
  · rw [wp_t z, wp_some, ref0, wp_t z, wp_some]
    exact ⟨rfl, J6, ok, ⟨own1, ad, I1, fi⟩, by have := sz1.1; show hN h1 + sd h1 ≤ _; omega, by have := sz1.2; show hZ h1 + sz h1 ≤ _; omega, fn_mo ow cs.1 g1⟩
  · rw [wp_f z, ref0]
    rcases hx6 with q | ⟨X, m0, eX, vX, o1, ra⟩
    · exact absurd q z
    · change r6 = nI X at eX
      change RAF _ _ _ m0 m6 at ra
      have kn := g4 X vX eX
      change KN _ _ _ (hI h1 79 X) (hI h1 75 X) (hI h1 76 X) (hI h1 77 X) (hI h1 78 X) at kn
      have X64 := vX.1
      obtain ⟨b1, n1, rb1, L1, ob1, hc1, c741, hT1, sw1⟩ := ic_at I1 ok
      obtain ⟨cs1, ow1, _, _, ⟨P1, hP1, p11, p21, pc1⟩, ⟨a11, a21⟩, _, _, _, r15, sl1, _⟩ := id I1
      have s31 := L1.1
      have s21 := cs1.s2
      have c120 := cs1.1
      have pr1 : ∀ {Q : Nat → Prop}, wp (fX2_present (wI h1 (hI h1)) 18) Q = Q b1 := fun {Q} => cs1.present a11 (by omega) rb1
      have S15 := sl1 15 57 (by decide) r15
      obtain ⟨n', C'⟩ := S15.CE
      have hqb : ¬ (57 ≤ b1 + 1 ∧ b1 + 1 ≤ 71) := fun q => by
        have := ow1.2.1 (b1 + 1) q.1 q.2
        omega
      have pc1' : PC (wI h1 (hI h1)) P1 (sP g) := pc1
      rw [wp_bind]
      show wp (gR (wI h1 (hI h1)) 11 0 5) _
      rw [cs1.gr cs1.r5, wp_bind]
      show wp (gO (wI h1 (hI h1)) 2 18) _
      rw [s21.o, wp_bind]
      show wp (fX2_present (wI h1 (hI h1)) 18) _
      rw [pr1, wp_bind]
      show wp (gR (wI h1 (hI h1)) 3 b1 0) _
      rw [s31.r0, wp_bind]
      show wp (gO (wI h1 (hI h1)) 11 0) _
      rw [cs1.o, wp_bind]
      show wp (fX11_runEveryone (wI h1 (hI h1)) 0 (b1 + 1)) _
      refine wp_mono (c_every cs1 S15.2.1 hP1 p11 pc1' pw C' hc1.1 hc1.2 hqb (fun j hj => (hT1 j hj).1) okA0.2 okA0.1.2.2.2.2.2) ?_
      rintro r ⟨h2, m2, n2, rfl, X2, fr2, L2, G2⟩
      obtain ⟨own2, IC2, NF2, oe2, o17⟩ := I1.tr o3 X2 (fun a q1 q2 q3 _ => fr2 a q1 q2 q3) L2
      have rm := G2.room C'.1.le.1
      have s72 : Sh7 h2 65 := L2.1.s4
      have cs2 : CS h2 := cs1.x X2.1
      obtain ⟨nf1, nf2, nf3, nf4, nf5⟩ := NF2
      have p12 : hR h2 0 3 = some P1 := by rw [← p11]; exact nf5
      have pc2 : PC (wI h2 m2) P1 (sP g) := PC.congr (h := h1) (m := hI h1) pc1' X2.1 (fun a q1 q2 => fr2 a (by omega) (by omega) (by omega))
      have s52 : Sh5 h2 P1 := pc2.1
      have s02 := cs2.s0
      have fi2 : FI (wI h2 m2) own2 (sP g) := fi_k fi nf1 nf2 nf3 nf4 (fun a ha ho => by rw [oe2 a ha]; exact ho)
      have lk2 : m2 78 X = hI h1 78 X := nf3 78 (by decide) (by decide) X
      show wp ((gO (wI h2 m2) 7 65).bind _) _
      rw [wp_bind, s72.o, wp_bind]
      refine wp_mono (c_kindsW s72 L2.2.1 w1.1) ?_
      intro K' hK'
      show wp ((gR (wI h2 m2) 11 0 3).bind _) _
      rw [wp_bind, cs2.gr p12, wp_bind]
      show wp (gR (wI h2 m2) 11 0 13) _
      rw [cs2.gr cs2.r13, wp_bind]
      show wp (gR (wI h2 m2) 0 74 3) _
      rw [s02.r3, wp_bind, eX]
      show wp (lI (wI h2 m2) .int (74 + 4) (nI X)) _
      rw [s02.l3 X64, wp_bind]
      show wp (gO (wI h2 m2) 5 P1) _
      rw [s52.o, wp_bind]
      show wp (fX5_locksOfKinds (wI h2 m2) P1 (m2 78 X) (K' ^^^ (-1 : Int32))) _
      rw [lk2]
      refine wp_mono (c_locksOf pc2 pw) ?_
      intro e he
      obtain ⟨W, rfl, W10, hW⟩ := set10 (e := e) (fun t ht hb => by have := ((he t ht).mp hb).1; omega)
      rw [wp_bind, wp_eq (pcr_c _ W W10), wp_some, wp_f (by rw [← eX]; exact z), wp_bind]
      obtain ⟨_, el⟩ := raf_locks ra o1 (kn.2.2.2 o1).2
      refine wp_mono (r_missL (W := W) J6.2.2.1 pw el (kn_pl pw (sw_c pw sw) kn o1) (fun t ht => ?_)) ?_
      · rw [hW t (by omega), he t (by omega)]
        have kk : ∀ q : t < pL (sP g), pk (sP g) t < 32 := fun q => by have := pw.2.2.2.1 t q; omega
        constructor
        · rintro ⟨q1, q2, q3⟩
          refine ⟨q1, q2, fun q4 => ?_⟩
          rw [b_not _ (kk q1), (hK' _ (kk q1)).mpr ((hK _ (kk q1)).mp q4)] at q3
          cases q3
        · rintro ⟨q1, q2, q3⟩
          refine ⟨q1, q2, ?_⟩
          rw [b_not _ (kk q1)]
          cases hh : bt K' (pk (sP g) t)
          · rfl
          · exact absurd ((hK _ (kk q1)).mpr ((hK' _ (kk q1)).mp hh)) q3
      · rintro r rfl
        rw [wp_some]
        have e8 : sd (wI h2 m2) = sd h1 ∧ sz (wI h2 m2) = sz h1 := by
          unfold sd sz
          rw [nf4]; exact ⟨rfl, rfl⟩
        refine ⟨rfl, J6, ok, ⟨own2, ad, IC2, fi2⟩, ?_, ?_, fun a j h81 h120 => by rw [nf3 a (by omega) h120 j]; exact fn_mo ow cs.1 g1 a j h81 h120⟩
        · show hN h2 + sd (wI h2 m2) ≤ _
          rw [e8.1]
          have := sz1.1
          omega
        · show hZ h2 + sz (wI h2 m2) ≤ _
          rw [e8.2]
          have := sz1.2
          omega
end OMI

/-! an act of the class -/
section ACU
variable {h : Hp} {g : GS} {own : Nat → Nat} {ad : Nat → Option Nat}
theorem NF.trans {h1 h2 : Hp} {own1 : Nat → Nat} (x : NF h h1 own) (y : NF h1 h2 own1) (oe : ∀ a, a < hN h → own a = 17 → own1 a = 17) : NF h h2 own := by
  have hle := x.1.1
  refine ⟨x.1.trans y.1, fun a ha ho => ?_, fun a h1 h2 j => by rw [y.2.2.1 a h1 h2 j, x.2.2.1 a h1 h2 j], by rw [y.2.2.2.1, x.2.2.2.1], by rw [y.2.2.2.2, x.2.2.2.2]⟩
  have q1 := x.2.1 a ha ho
  have q2 := y.2.1 a (by omega) (oe a ha ho)
  exact ⟨fun j => (q2.1 j).trans (q1.1 j), fun j => (q2.2.1 j).trans (q1.2.1 j), fun q => (q2.2.2 q).trans (q1.2.2 q)⟩
/-- a block comes into an empty slot -/
theorem IC.new {s T q : Nat} {r : Hp} (I : IC h g own ad) (hl : sL g ≤ 12) (hs : s < 15) (ha : ad s = none) (hT : (s < 13 ∧ T = 19 ∧ q = s) ∨ (13 ≤ s ∧ T = 36 ∧ q = s - 13)) (F : FX (hN h) h r) (n1 : hN r = hN h + 16) (S3 : Sh3 r (hN h)) (r7 : hR r (hN h) 7 = some (hN h + 15)) (s7 : hS r (hN h + 15) = .inr (.long, 32)) : IC (sR r T q (some (hN h))) g (own2 own (hN h) s r) (sbf ad s (some (hN h))) ∧ NF h (sR r T q (some (hN h))) own := by
  obtain ⟨c, o, ⟨t1, t2⟩, ⟨f1, f2⟩, ⟨P, hP, p1, p2, p3⟩, ⟨a1, a2⟩, r52, r19, r36, r15, sl, li, bx⟩ := I
  have h120 := c.1
  have x1 : XX h r := ⟨F.1, fun a h1 => (F.2.1 a h1).1, fun a k c h1 _ _ => F.2.2 a k h1 (by omega)⟩
  have tT : ∃ k, hS r T = .inr ((.object RX3), k) := by
    rcases hT with ⟨_, rfl, _⟩ | ⟨_, rfl, _⟩
    · exact ⟨13, by rw [x1.2.1 19 (by omega)]; exact c.s2.2.2.2⟩
    · exact ⟨2, by rw [x1.2.1 36 (by omega)]; exact c.t36⟩
  have x2 : XX r (sR r T q (some (hN h))) := XX.sR (fun k hk => by obtain ⟨k2, e⟩ := tT; rw [e] at hk; cases hk)
  have x := x1.trans x2
  have T19 : T = 19 ∨ T = 36 := by omega
  have RN : ∀ a k, a < hN h → (a ≠ T ∨ k ≠ q) → hR (sR r T q (some (hN h))) a k = hR h a k := fun a k h1 h2 => by
    rw [hR_s, if_neg (fun z => h2.elim (fun e => e z.1) (fun e => e z.2)), F.2.2 a k h1 (by omega)]
  have IN : ∀ a j, a < hN h → hI (sR r T q (some (hN h))) a j = hI h a j := fun a j h1 => (F.2.1 a h1).2.1 j
  have kp : ∀ w, w ≠ 0 → KEEP h (sR r T q (some (hN h))) own w := by
    intro w hw a h1 ho
    have h2 : a ≠ T := fun z => by
      have := o.1 T (by omega) (by omega) (by omega)
      rw [← z] at this; omega
    exact ⟨fun j => IN a j h1, fun j => (F.2.1 a h1).2.2 j, fun k => RN a k h1 (Or.inl h2)⟩
  have oe : ∀ a, a < hN h → own2 own (hN h) s r a = own a := own2_e
  have nsl : ¬ s ≤ sL g := fun z => by
    obtain ⟨b, n, hb, _⟩ := li s z
    rw [ha] at hb; cases hb
  refine ⟨⟨c.x x, own2_W (h' := r) o F.1 h120, ⟨by rw [IN _ _ (by omega)]; exact t1, fun j hj => by rw [IN _ _ (by omega)]; exact t2 j hj⟩, ⟨by rw [IN _ _ (by omega)]; exact f1, by rw [IN _ _ (by omega)]; exact f2⟩, ⟨P, hP, by rw [RN 0 3 (by omega) (Or.inl (by omega))]; exact p1, by rw [RN 0 4 (by omega) (Or.inl (by omega))]; exact p2, ?_⟩, ⟨by rw [IN _ _ (by omega)]; exact a1, by rw [IN _ _ (by omega)]; exact a2⟩, fun k hk => by rw [RN 52 k (by omega) (Or.inl (by omega))]; exact r52 k hk, fun k hk => ?_, fun k hk => ?_, by rw [sbf_ne (by omega)]; exact r15, fun t b ht hb => ?_, fun i hi => ?_, fun k hk => ⟨fun hx => by rw [IN _ _ (by omega)]; exact (bx k hk).1 hx, fun B hB => ?_⟩⟩, x, kp 17 (by decide), fun a h1 h2 j => IN a j (by omega), RN 74 8 (by omega) (Or.inl (by omega)), RN 0 3 (by omega) (Or.inl (by omega))⟩
  · exact PC.congr (h := h) (m := hI h) (m' := hI (sR r T q (some (hN h)))) p3 x (fun a q1 q2 => funext fun j => IN a j (by omega))
  · by_cases z : k = s
    · rw [z, sbf_at, hR_s, if_pos (by omega)]
    · rw [sbf_ne z, RN 19 k (by omega) (by omega)]; exact r19 k hk
  · by_cases z : 13 + k = s
    · rw [z, sbf_at, hR_s, if_pos (by omega)]
    · rw [sbf_ne z, RN 36 k (by omega) (by omega)]; exact r36 k hk
  · by_cases z : t = s
    · subst z
      rw [sbf_at] at hb
      cases hb
      have S3' : Sh3 (sR r T q (some (hN h))) (hN h) := S3.x x2
      refine ⟨fun a h1 h2 => ?_, S3', hN h + 15, 32, ?_, ?_, by show hN h + 15 < hN r; omega, s7, Or.inl rfl, by decide⟩
      · unfold own2; rw [if_pos (by omega)]
      · rw [hR_s, if_neg (by omega)]; exact r7
      · unfold own2; rw [if_pos (by omega)]
    · rw [sbf_ne z] at hb
      exact (sl t b ht hb).go x (kp _ (by omega)) oe
  · have z : i ≠ s := fun e => nsl (by rw [← e]; exact hi)
    obtain ⟨b, n, hb, L⟩ := li i hi
    rw [sbf_ne z]
    exact ⟨b, n, hb, L.keep (sl i b (by omega) hb) x (kp _ (by omega))⟩
  · obtain ⟨e, b, n, hb, L⟩ := (bx k hk).2 B hB
    have z : 13 + k ≠ s := fun e => by rw [e, ha] at hb; cases hb
    refine ⟨by rw [IN _ _ (by omega)]; exact e, b, n, by rw [sbf_ne z]; exact hb, L.keep (sl (13 + k) b (by omega) hb) x (kp _ (by omega))⟩
/-- the copy that an act changes -/
theorem c_act45 {g' : GS} {b b' : Nat} (I : IC h g own ad) (ok : okG g) (h11 : sA g ≤ 11) (hb : ad (sA g) = some b) (hb' : ad (sA g + 1) = some b') (gp : sP g' = sP g) (gt : sT g' = sT g) (gB : sB g' = sB g) (gF : sF g' = sF g) (gG : sG g' = sG g) (gX : sX g' = sX g) (gA : sA g' = sA g + 1) (gL : sL g' = sA g + 1) (gH : ∀ i, i ≤ sA g → sH g' i = sH g i) (gN : sH g' (sA g + 1) = sH g (sA g)) : wp (jX2_act_45 18 h) (fun r => r.1 = b' ∧ ∃ own', IC r.2 g' own' ad ∧ NF h r.2 own ∧ (∀ a, a < hN h → own' a = own a) ∧ (∀ a, own' a = 17 → own a = 17) ∧ hN r.2 ≤ hN h + 1 ∧ hZ r.2 ≤ hZ h + 4096) := by
  have I' := I
  obtain ⟨c, o, ⟨t1, t2⟩, ⟨f1, f2⟩, ⟨P, hP, p1, p2, p3⟩, ⟨a1, a2⟩, r52, r19, r36, r15, sl, li, bx⟩ := I
  obtain ⟨o1, pw, o2, o3, o4, o5⟩ := ok
  have s2 := c.s2
  have h120 := c.1
  have s19 : hS h 19 = .inr ((.object RX3), 13) := s2.2.2.2
  obtain ⟨bb, n, hbb, L⟩ := li (sA g) o2
  rw [hb] at hbb
  cases hbb
  have Sb := sl (sA g) b (by omega) hb
  have Sb' := sl (sA g + 1) b' (by omega) hb'
  obtain ⟨apart, hρ⟩ := Sb.apart Sb' (by omega)
  obtain ⟨n', C'⟩ := Sb'.CE
  have e1 : lR h (.object RX3) 19 (nI (sA g + 1)) = some b' := by
    rw [lR_ok (h := h) (j := sA g + 1) (by omega) s19 (by omega) (by decide), r19 _ (by omega)]; exact hb'
  have e2 : lR h (.object RX3) 19 (nI (sA g)) = some b := by
    rw [lR_ok (h := h) (j := sA g) (by omega) s19 (by omega) (by decide), r19 _ (by omega)]; exact hb
  have r2 : ∀ {Q : Nat → Prop}, wp (gR h 2 18 2) Q = Q 19 := fun {Q} => s2.r2 (m := hI h)
  have g0 : ∀ {Q : Int32 → Prop}, wp (gI h 2 18 0) Q = Q (nI (sA g)) := fun {Q} => by
    rw [show wp (gI h 2 18 0) Q = Q (hI h 18 0) from s2.g0 (m := hI h), a1]
  have oO : ∀ {Q : Unit → Prop}, wp (gO h 3 b') Q = Q () := fun {Q} => Sb'.2.1.o (m := hI h)
  unfold jX2_act_45
  rw [wp_bind, r2, wp_bind, g0, nI_1, wp_bind, wp_eq e1, wp_bind, r2, wp_bind, g0, wp_bind, wp_eq e2, wp_bind, oO, wp_bind]
  refine wp_mono (c_copy (h := h) (m := hI h) L Sb'.2.1 C' apart hρ (o4 _ o2).1.1) ?_
  rintro r ⟨h1, m1, n1, rfl, X1, fr1, L1, room⟩
  have b14 := Sb'.2.1.1
  have bne18 : ¬ (b' ≤ 18 ∧ 18 ≤ b' + 14) := Sb'.ne o (by decide) (by decide) (by decide)
  have s21 : Sh2 h1 18 := s2.x X1.1
  have e18 : m1 18 0 = nI (sA g) := by rw [fr1 18 (by omega) bne18]; exact a1
  have rb' : hR h1 19 (sA g + 1) = some b' := by
    have hne : (19 : Nat) ≠ b' := fun z => Sb'.ne o (a := 19) (by decide) (by decide) (by decide) ⟨by omega, by omega⟩
    rw [X1.2.1 19 _ (by omega) (Or.inl hne), r19 _ (by omega)]; exact hb'
  have s191 : hS h1 19 = .inr ((.object RX3), 13) := by rw [X1.1.2.1 19 (by omega)]; exact s19
  have hle := X1.1.1
  rw [wp_bind, s21.g0, e18, wp_bind, s21.p0, nI_1, wp_bind, s21.g0, up_at, wp_bind, s21.p1, wp_bind, s21.r2, wp_bind, s21.g0, up_a, if_neg (by decide), up_at, wp_bind]
  rw [wp_eq ((lR_ok (h := wI h1 (up (up m1 18 0 (nI (sA g + 1))) 18 1 (nI (sA g + 1)))) (a := 19) (j := sA g + 1) (show 19 < hN h1 by omega) s191 (by omega) (by decide)).trans rb'), wp_some]
  have ff : ∀ a, a < hN h → ¬ (b' ≤ a ∧ a ≤ b' + 14) → a ≠ 18 → ∀ j, hI (wI h1 (up (up m1 18 0 (nI (sA g + 1))) 18 1 (nI (sA g + 1)))) a j = hI h a j := fun a q1 q2 q3 j => by rw [wI_I, up_r q3, up_r q3, fr1 a q1 q2]
  have XX1 : XD 41 b' h (wI h1 (up (up m1 18 0 (nI (sA g + 1))) 18 1 (nI (sA g + 1)))) := X1.D
  have bnd : ∀ a, a < 120 → ¬ (20 ≤ a ∧ a ≤ 35) → ¬ (57 ≤ a ∧ a ≤ 72) → ¬ (b' ≤ a ∧ a ≤ b' + 14) := fun a q1 q2 q3 => Sb'.ne o q1 q2 q3
  have b'ne : ∀ a, a < 120 → ¬ (20 ≤ a ∧ a ≤ 35) → ¬ (57 ≤ a ∧ a ≤ 72) → a ≠ b' := fun a q1 q2 q3 z => bnd a q1 q2 q3 ⟨by omega, by omega⟩
  have ei : ∀ t, t ≠ sA g + 1 → ∀ a, a < hN h → own a = 1 + t → ∀ j, hI (wI h1 (up (up m1 18 0 (nI (sA g + 1))) 18 1 (nI (sA g + 1)))) a j = hI h a j := by
    intro t ht a ha ho j
    refine ff a ha (fun z => ?_) (fun z => ?_) j
    · have := Sb'.1 a z.1 z.2; omega
    · have := o.1 18 (by decide) (by decide) (by decide); rw [← z] at this; omega
  have kp : ∀ t, t ≠ sA g + 1 → KEEP h (wI h1 (up (up m1 18 0 (nI (sA g + 1))) 18 1 (nI (sA g + 1)))) own (1 + t) := fun t ht => XX1.keep o Sb' (ei t ht) ⟨by decide, by decide, by decide⟩ ht
  have rr : ∀ a q, a < 120 → ¬ (20 ≤ a ∧ a ≤ 35) → ¬ (57 ≤ a ∧ a ≤ 72) → hR (wI h1 (up (up m1 18 0 (nI (sA g + 1))) 18 1 (nI (sA g + 1)))) a q = hR h a q := fun a q q1 q2 q3 => X1.2.1 a q (by omega) (Or.inl (b'ne a q1 q2 q3))
  have LL : LX h1 (up (up m1 18 0 (nI (sA g + 1))) 18 1 (nI (sA g + 1))) b' (sH g (sA g)) n1 := L1.congr (fun a q1 q2 => by
    have hne : a ≠ 18 := fun z => bne18 ⟨by omega, by omega⟩
    rw [up_r hne, up_r hne])
  have C1 : CE h1 b' n1 := by
    obtain ⟨_, _, _, _, _, _, _, _, q1, q2, _, ρ, q3, q4, q5, _⟩ := LL
    exact ⟨q1, q2, ρ, q3, q4, q5⟩
  refine ⟨rfl, own2 own (hN h) (sA g + 1) h1, I'.up (s := sA g + 1) (h' := wI h1 (up (up m1 18 0 (nI (sA g + 1))) 18 1 (nI (sA g + 1)))) X1.1 (own2_W (h' := h1) o hle h120) own2_e (fun t _ ht => kp t ht) (fun q hq => ?_) ⟨?_, fun j => ?_, fun j hj => ?_, fun a j q1 q2 => ?_, fun q hq => rr 0 q (by decide) (by decide) (by decide), fun q => rr 52 q (by decide) (by decide) (by decide)⟩ gp gt gB gF gG ⟨?_, ?_⟩ (fun i hi => rr 19 i (by decide) (by decide) (by decide)) (fun i hi => rr 36 i (by decide) (by decide) (by decide)) (by omega) (fun i hi hne => ⟨by omega, gH i (by omega)⟩) (fun _ => ⟨b', n1, hb', by rw [gN]; exact LL⟩) (fun q hq _ => ⟨by rw [gX], ?_⟩) (fun q hq hz => by omega), ⟨X1.1, kp 16 (by omega), fun a q1 q2 j => ?_, rr 74 8 (by decide) (by decide) (by decide), rr 0 3 (by decide) (by decide) (by decide)⟩, own2_e, fun a ha => ?_, ?_, ?_⟩
  · rw [hb'] at hq
    cases hq
    exact XX1.slt o Sb' LL.1 C1
  · exact ff 0 (by omega) (bnd 0 (by decide) (by decide) (by decide)) (by decide) 1
  · exact ff 1 (by omega) (bnd 1 (by decide) (by decide) (by decide)) (by decide) j
  · exact ff 2 (by omega) (bnd 2 (by decide) (by decide) (by decide)) (by decide) j
  · exact ff a (by omega) (bnd a (by omega) (by omega) (by omega)) (by omega) j
  · rw [wI_I, up_a, if_neg (by decide), up_at, gA]
  · rw [wI_I, up_at, gL]
  · exact ff 37 (by omega) (bnd 37 (by decide) (by decide) (by decide)) (by decide) q
  · exact ff a (by omega) (bnd a (by omega) (by omega) (by omega)) (by omega) j
  · unfold own2 at ha
    split at ha
    · omega
    · exact ha
  · show hN h1 ≤ hN h + 1; omega
  · have := L.2.2.2.2.2.2.2.2.2.1
    show hZ h1 ≤ hZ h + 4096; omega
theorem c_act (I : IC h g own ad) (ok : okG g) : wp (fX2_act h 18) (fun r => ∃ own' ad', ad' (a0 g + 1) = some r.1 ∧ IC r.2 (actG g (sH g (sA g))) own' ad' ∧ NF h r.2 own ∧ (∀ a, a < hN h → own a = 17 → own' a = 17) ∧ (∀ a, own' a = 17 → own a = 17) ∧ hN r.2 ≤ hN h + 17 ∧ hZ r.2 ≤ hZ h + 6000) := by
  have j13 : ∀ (k : Hp) (gk : GS) (ok' : Nat → Nat) (ak : Nat → Option Nat), IC k gk ok' ak → okG gk → sA gk ≤ 11 → sP gk = sP g → sT gk = sT g → sB gk = sB g → sF gk = sF g → sG gk = sG g → sX gk = sX g → sA gk = a0 g → (∀ i, i ≤ a0 g → sH gk i = h0 g i) → wp (jX2_act_13 18 k) (fun r => ∃ own' ad', ad' (a0 g + 1) = some r.1 ∧ IC r.2 (actG g (sH g (sA g))) own' ad' ∧ NF k r.2 ok' ∧ (∀ a, a < hN k → ok' a = 17 → own' a = 17) ∧ (∀ a, own' a = 17 → ok' a = 17) ∧ hN r.2 ≤ hN k + 17 ∧ hZ r.2 ≤ hZ k + 6000) := by
    intro k gk ok' ak Ik okk h11 gp gt gB gF gG gX gA gH
    have Ik' := Ik
    obtain ⟨c, o, _, _, _, ⟨a1, a2⟩, _, r19, _, _, sl, li, _⟩ := Ik
    obtain ⟨o1, pw, o2, o3, o4, o5⟩ := okk
    have okk : okG gk := ⟨o1, pw, o2, o3, o4, o5⟩
    have s2 := c.s2
    have h120 := c.1
    have s19 : hS k 19 = .inr ((.object RX3), 13) := s2.2.2.2
    have r2 : ∀ {Q : Nat → Prop}, wp (gR k 2 18 2) Q = Q 19 := fun {Q} => s2.r2 (m := hI k)
    have g0 : ∀ {Q : Int32 → Prop}, wp (gI k 2 18 0) Q = Q (nI (sA gk)) := fun {Q} => by
      rw [show wp (gI k 2 18 0) Q = Q (hI k 18 0) from s2.g0 (m := hI k), a1]
    obtain ⟨b, n, hb, _⟩ := li (sA gk) o2
    have e1 : lQ k (.object RX3) 19 (nI (sA gk + 1)) = some (ak (sA gk + 1)) := by
      rw [lQ_ok (h := k) (j := sA gk + 1) (by omega) s19 (by omega) (by decide), r19 _ (by omega)]
    have gN : sH (actG g (sH g (sA g))) (sA gk + 1) = sH gk (sA gk) := by
      show sbf (h0 g) (a0 g + 1) (sH g (sA g)) (sA gk + 1) = _
      rw [gA, sbf_at, gH _ (Nat.le_refl _), h0_a]
    have gH' : ∀ i, i ≤ sA gk → sH (actG g (sH g (sA g))) i = sH gk i := fun i hi => by
      show sbf (h0 g) (a0 g + 1) (sH g (sA g)) i = _
      rw [sbf_ne (by omega), gH i (by omega)]
    unfold jX2_act_13
    rw [wp_bind, r2, wp_bind, g0, nI_1, wp_bind, wp_eq e1]
    cases hz : ak (sA gk + 1) with
    | some b' =>
      refine wp_mono (c_act45 (g' := actG g (sH g (sA g))) Ik' okk h11 hb hz gp.symm gt.symm gB.symm gF.symm gG.symm gX.symm (by rw [gA]; rfl) (by rw [gA]; rfl) gH' gN) ?_
      rintro r ⟨rfl, own', q1, q2, q3, q4, q5, q6⟩
      exact ⟨own', ak, by rw [← gA]; exact hz, q1, q2, fun a ha ho => by rw [q3 a ha]; exact ho, q4, by omega, by omega⟩
    | none =>
      show wp ((gR k 2 18 2).bind _) _
      rw [wp_bind, r2, wp_bind, g0]
      have nl := c_newL (h := k)
      rw [wp_bind] at nl ⊢
      rw [wp_some] at nl ⊢
      rw [wp_bind]
      refine wp_mono nl ?_
      rintro r1 ⟨F, n1, z1, S3, r7, s7⟩
      have IN := Ik'.new (s := sA gk + 1) (T := 19) (q := sA gk + 1) o3 (by omega) hz (Or.inl ⟨by omega, rfl, rfl⟩) F n1 S3 r7 s7
      rw [nI_1, wp_bind, wp_eq (tR_ok (h := r1) (j := sA gk + 1) (n := 13) (by omega) (by rw [(F.2.1 19 (by omega)).1]; exact s19) (by omega) (by decide) S3.lt S3.2.1)]
      refine wp_mono (c_act45 (g' := actG g (sH g (sA g))) (b := b) (b' := hN k) IN.1 okk h11 (by rw [sbf_ne (by omega)]; exact hb) sbf_at gp.symm gt.symm gB.symm gF.symm gG.symm gX.symm (by rw [gA]; rfl) (by rw [gA]; rfl) gH' gN) ?_
      rintro r ⟨er, own', q1, q2, q3, q4, q5, q6⟩
      have hNs : hN (sR r1 19 (sA gk + 1) (some (hN k))) = hN k + 16 := n1
      have hZs : hZ (sR r1 19 (sA gk + 1) (some (hN k))) ≤ hZ k + 1900 := z1
      refine ⟨own', sbf ak (sA gk + 1) (some (hN k)), by rw [← gA, er]; exact sbf_at, q1, IN.2.trans q2 (fun a ha ho => by rw [own2_e a ha]; exact ho), fun a ha ho => by rw [q3 a (by omega), own2_e a ha]; exact ho, fun a ho => ?_, by omega, by omega⟩
      have := q4 a ho
      unfold own2 at this
      split at this
      · omega
      · exact this
  have I' := I
  have ok' := ok
  obtain ⟨c, o, _, _, _, ⟨a1, a2⟩, _, r19, _, _, sl, li, _⟩ := I
  obtain ⟨o1, pw, o2, o3, o4, o5⟩ := ok
  have s2 := c.s2
  have g0' : ∀ {Q : Int32 → Prop}, wp (gI h 2 18 0) Q = Q (nI (sA g)) := fun {Q} => by
    rw [show wp (gI h 2 18 0) Q = Q (hI h 18 0) from s2.g0 (m := hI h), a1]
  unfold fX2_act
  rw [wp_bind, g0', L_12]
  by_cases z : sA g = 12
  · have oO : ∀ {Q : Unit → Prop}, wp (gO h 2 18) Q = Q () := fun {Q} => s2.o (m := hI h)
    rw [wp_t (by rw [z]), wp_bind, oO, wp_bind]
    refine wp_mono (c_drop I' ok' z) ?_
    rintro r ⟨I1, NF1, n1, z1⟩
    have okr : okG (rotG g) := by
      refine ⟨o1, pw, show 11 ≤ 12 by decide, show 12 ≤ 12 by decide, fun i hi => ?_, o5⟩
      show okA (sP g) (if i < 12 then sH g (i + 1) else sH g 0)
      split
      · exact o4 _ (by omega)
      · exact o4 _ (by omega)
    refine wp_mono (j13 r (rotG g) (rotO own) (rotA ad) I1 okr (show 11 ≤ 11 by decide) rfl rfl rfl rfl rfl rfl (by unfold a0; rw [if_pos z]; rfl) (fun i hi => ?_)) ?_
    · unfold a0 at hi
      rw [if_pos z] at hi
      show (if i < 12 then sH g (i + 1) else sH g 0) = h0 g i
      unfold h0
      rw [if_pos (by omega), if_pos z]
    · rintro r2 ⟨own', ad', q1, q2, q3, q4, q5, q6, q7⟩
      have o17 : ∀ a, rotO own a = 17 ↔ own a = 17 := by
        intro a
        unfold rotO
        split
        · omega
        · split <;> omega
      refine ⟨own', ad', q1, q2, NF1.trans q3 (fun a _ ho => (o17 a).mpr ho), fun a ha ho => q4 a (by omega) ((o17 a).mpr ho), fun a ho => (o17 a).mp (q5 a ho), by omega, by omega⟩
  · rw [wp_f (by rw [i_eq (by omega) (by decide)]; exact z)]
    exact j13 h g own ad I' ok' (by omega) rfl rfl rfl rfl rfl rfl (by unfold a0; rw [if_neg z]) (fun i _ => by unfold h0; rw [if_neg z])
end ACU

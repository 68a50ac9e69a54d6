/-! acts: both sides -/
section AC3
variable {h h' : Hp} {m m' : Mem} {g g' : GS} {own : Nat → Nat} {ad : Nat → Option Nat}
theorem IC.sl {s b n' : Nat} {A' : LA} (I : IC h g own ad) (hl : sL g ≤ 12) (hs : s ≤ sL g) (hb : ad s = some b) (x : XD 41 b h h') (f : ∀ a, a < hN h → ¬ (41 ≤ a ∧ a ≤ 46) → ¬ (b ≤ a ∧ a ≤ b + 14) → m' a = hI h a) (L : LX h' m' b A' n') (gp : sP g' = sP g) (gt : sT g' = sT g) (gB : sB g' = sB g) (gF : sF g' = sF g) (gG : sG g' = sG g) (gX : sX g' = sX g) (gA : sA g' = sA g) (gL : sL g' = sL g) (gH : ∀ i, i ≤ sL g → i ≠ s → sH g' i = sH g i) (gN : sH g' s = A') : ∃ own', IC (wI h' m') g' own' ad ∧ NF h (wI h' m') own ∧ (∀ a, a < hN h → own' a = own a) ∧ ∀ a, own' a = 17 → own a = 17 := by
  have I' := I
  obtain ⟨c, o, ⟨t1, t2⟩, ⟨f1, f2⟩, ⟨P, hP, p1, p2, p3⟩, ⟨a1, a2⟩, r52, r19, r36, r15, sl, li, bx⟩ := I
  have S := sl s b (by omega) hb
  have h120 := c.1
  have b14 := S.2.1.1
  have bnd : ∀ a, a < 120 → ¬ (20 ≤ a ∧ a ≤ 35) → ¬ (57 ≤ a ∧ a ≤ 72) → ¬ (b ≤ a ∧ a ≤ b + 14) := fun a q1 q2 q3 => S.ne o q1 q2 q3
  have bne : ∀ a, a < 120 → ¬ (20 ≤ a ∧ a ≤ 35) → ¬ (57 ≤ a ∧ a ≤ 72) → a ≠ b := fun a q1 q2 q3 z => bnd a q1 q2 q3 ⟨by omega, by omega⟩
  have ei : ∀ t, t ≠ s → ∀ a, a < hN h → own a = 1 + t → ∀ j, hI (wI h' m') a j = hI h a j := by
    intro t ht a ha ho j
    rw [wI_I, f a ha]
    · intro z; have := o.1 a (by omega) (by omega) (by omega); omega
    · intro z
      have := S.1 a z.1 z.2
      omega
  have kp : ∀ t, t ≠ s → KEEP h (wI h' m') own (1 + t) := fun t ht => XD.keep (h' := wI h' m') o S x (ei t ht) ⟨by decide, by decide, by decide⟩ ht
  have hle := x.1.1
  have rr : ∀ a q, a < 120 → a ≠ 41 → ¬ (20 ≤ a ∧ a ≤ 35) → ¬ (57 ≤ a ∧ a ≤ 72) → hR (wI h' m') a q = hR h a q := fun a q ha h1 h2 h3 => x.2.1 a q (by omega) (Or.inl (bne a ha h2 h3)) (Or.inl h1)
  have C : CE h' b n' := by
    obtain ⟨_, _, _, _, _, _, _, _, q1, q2, _, ρ, q3, q4, q5, _⟩ := L
    exact ⟨q1, q2, ρ, q3, q4, q5⟩
  refine ⟨own2 own (hN h) s h', I'.up (s := s) (h' := wI h' m') x.1 (own2_W o hle h120) own2_e (fun t _ ht => kp t ht) (fun q hq => ?_) ⟨?_, fun j => ?_, fun j hj => ?_, fun a j h1 h2 => ?_, fun q hq => rr 0 q (by decide) (by decide) (by decide) (by decide), fun q => rr 52 q (by decide) (by decide) (by decide) (by decide)⟩ gp gt gB gF gG ⟨?_, ?_⟩ (fun i hi => rr 19 i (by decide) (by decide) (by decide) (by decide)) (fun i hi => rr 36 i (by decide) (by decide) (by decide) (by decide)) (by omega) (fun i hi hne => ⟨by omega, gH i (by omega) hne⟩) (fun _ => ⟨b, n', hb, by rw [gN]; exact L⟩) (fun q hq _ => ⟨by rw [gX], ?_⟩) (fun q hq hz => by omega), ⟨x.1, kp 16 (by omega), fun a h1 h2 j => ?_, rr 74 8 (by decide) (by decide) (by decide) (by decide), rr 0 3 (by decide) (by decide) (by decide) (by decide)⟩, own2_e, fun a ha => ?_⟩
  · rw [hb] at hq
    cases hq
    exact XD.slt (h' := wI h' m') o S x L.1 C
  · rw [wI_I, f 0 (by omega) (by omega) (bnd 0 (by decide) (by decide) (by decide))]
  · rw [wI_I, f 1 (by omega) (by omega) (bnd 1 (by decide) (by decide) (by decide))]
  · rw [wI_I, f 2 (by omega) (by omega) (bnd 2 (by decide) (by decide) (by decide))]
  · rw [wI_I, f a (by omega) (by omega) (bnd a (by omega) (by omega) (by omega))]
  · rw [wI_I, f 18 (by omega) (by omega) (bnd 18 (by decide) (by decide) (by decide)), gA]; exact a1
  · rw [wI_I, f 18 (by omega) (by omega) (bnd 18 (by decide) (by decide) (by decide)), gL]; exact a2
  · rw [wI_I, f 37 (by omega) (by omega) (bnd 37 (by decide) (by decide) (by decide))]
  · rw [wI_I, f a (by omega) (by omega) (bnd a (by omega) (by omega) (by omega))]
  · unfold own2 at ha
    split at ha
    · omega
    · exact ha
/-- what a call leaves -/
def AFT (h h1 : Hp) (m1 : Mem) (own : Nat → Nat) (g' : GS) : Prop := IR m1 g' ∧ okG g' ∧ ∃ own' ad', IC h1 g' own' ad' ∧ NF h h1 own ∧ (∀ a, a < hN h → own a = 17 → own' a = 17) ∧ (∀ a, own' a = 17 → own a = 17) ∧ hN h1 ≤ hN h + 20 ∧ hZ h1 ≤ hZ h + 10200
theorem AFT.same (I : IC h g own ad) (J : IR m g) (ok : okG g) : AFT h h m own g := ⟨J, ok, own, ad, I, (I.sc ok.2.2.2.1 (m' := hI h) (fun _ _ _ => rfl)).2, fun _ _ z => z, fun _ z => z, by omega, by omega⟩
theorem okA_noA {P : PD} {A : LA} (ok : okA P A) : okA P (noA (aS A)) := ⟨⟨⟨Nat.zero_le _, fun r hr => absurd hr (Nat.not_lt_zero _)⟩, (fun x y pl hp => nomatch (show none = some pl from hp)), (fun _ _ => Nat.zero_lt_succ _), fun i hi => absurd hi (Nat.not_lt_zero _), Nat.zero_le _, ok.1.2.2.2.2.2⟩, ok.2⟩
theorem okA_run {P : PD} {A : LA} {p : Nat} (ok : okA P A) (pw : PW P) (hp : p < pP P) (hA : aK A + 12 ≤ 4000) : okA P (runA P p A) := by
  obtain ⟨w1, w2, _⟩ := runA_W pw hp ok.2 ok.1 hA
  exact ⟨w1, by rw [w2]; exact ok.2⟩
theorem o_runs (I : IC h g own ad) (J : IR m g) (ok : okG g) (hA : aK (sH g (sA g)) + 12 ≤ 4000) (v : Int32) : ∃ r h1 m1, fX11_runs h 0 v = some (r, h1) ∧ gX12_runs m v = some (r, m1) ∧ ∃ g', AFT h h1 m1 own g' ∧ ((¬ inN v (pP (sP g)) ∧ g' = g) ∨ ∃ p, p < pP (sP g) ∧ v = nI p ∧ g' = actG g (runA (sP g) p (sH g (sA g)))) := by
  have I' := I
  have J' := J
  have ok' := ok
  obtain ⟨cs, ow, ⟨t1, t2⟩, ⟨f1, f2⟩, ⟨P, hP, p1, p2, pc⟩, ⟨a1, a2⟩, r52, r19, r36, r15, sl, li, bx⟩ := I
  obtain ⟨⟨j1, j2⟩, ⟨j3, j4⟩, jp, ⟨j5, j6⟩, jl, jw, ju, jb, jx⟩ := J
  obtain ⟨o1, pw, o2, o3, o4, o5⟩ := ok
  have pc' : PC (wI h (hI h)) P (sP g) := pc
  have s5 : Sh5 h P := pc.1
  obtain ⟨b, n, hb, L⟩ := li (sA g) o2
  have rb : hR h 19 (sA g) = some b := by rw [r19 _ (by omega)]; exact hb
  have pr : ∀ {Q : Nat → Prop}, wp (fX2_present (wI h (hI h)) 18) Q = Q b := fun {Q} => cs.present a1 (by omega) rb
  obtain ⟨s3, L1, L2, L3, L4, L5, L6⟩ := L
  obtain ⟨F1, F2, F3, F4, F5, F8⟩ := jl
  obtain ⟨lw, sw⟩ := o4 (sA g) o2
  have s2 := cs.s2
  have s7 := s3.s4
  have s1 := s3.s3
  refine bo2 (R := fun h1 m1 => ∃ g', AFT h h1 m1 own g' ∧ ((¬ inN v (pP (sP g)) ∧ g' = g) ∨ ∃ p, p < pP (sP g) ∧ v = nI p ∧ g' = actG g (runA (sP g) p (sH g (sA g))))) ?_
  show wp (fX11_runs (wI h (hI h)) 0 v) _
  have h6 := pw.2.2.1
  unfold fX11_runs gX12_runs
  rw [wp_bind, cs.gr p1, wp_bind, s5.o, wp_bind, w_hasProgram pc' pw]
  by_cases hv : inN v (pP (sP g))
  · obtain ⟨p, hp, e⟩ := inN_ex hv
    subst e
    rw [b01_t hv, wp_f (by decide), wp_bind, cs.gr cs.r9, wp_bind, cs.gr p1, wp_bind, cs.gr cs.r5, wp_bind, s2.o, wp_bind]
    refine wp_mono (c_act I' ok') ?_
    rintro ⟨b1, h1⟩ ⟨own1, ad1, q1, I1, NF1, q3, q4, q5, q6⟩
    have okA0 := o4 (sA g) o2
    have a11 := (a0_le ok').1
    have ok1 := actG_ok ok' okA0
    have I1' := I1
    obtain ⟨cs1, ow1, _, _, ⟨P1, hP1, p11, p21, pc1⟩, _, _, _, _, _, sl1, li1, _⟩ := I1
    obtain ⟨bb, n1, hbb, L1'⟩ := li1 (a0 g + 1) (Nat.le_refl _)
    rw [q1] at hbb
    cases hbb
    have hP : P1 = P := by
      have e3 := NF1.2.2.2.2
      rw [p11, show hR (wI h (hI h)) 0 3 = some P from p1] at e3
      exact Option.some.inj e3
    subst hP
    have S1 := sl1 (a0 g + 1) b1 (by omega) q1
    have LA0 : LX h1 (hI h1) b1 (sH g (sA g)) n1 := by
      have : sH (actG g (sH g (sA g))) (a0 g + 1) = sH g (sA g) := sbf_at
      rw [this] at L1'; exact L1'
    have bnd : ∀ a, a < 120 → ¬ (20 ≤ a ∧ a ≤ 35) → ¬ (57 ≤ a ∧ a ≤ 72) → ¬ (b1 ≤ a ∧ a ≤ b1 + 14) := fun a z1 z2 z3 => S1.ne ow1 z1 z2 z3
    have d1 := bnd 41 (by decide) (by decide) (by decide)
    have d2 := bnd 46 (by decide) (by decide) (by decide)
    have d3 := bnd 18 (by decide) (by decide) (by decide)
    have dlow : P1 + 4 < b1 := by
      have := bnd P1 (by omega) (by omega) (by omega)
      have := bnd (P1 + 4) (by omega) (by omega) (by omega)
      have := bnd 0 (by decide) (by decide) (by decide)
      omega
    have o9 : ∀ {Q : Unit → Prop}, wp (gO h1 9 41) Q = Q () := fun {Q} => cs1.s9.o (m := hI h1)
    show wp ((gO h1 9 41).bind _) _
    rw [wp_bind, o9, wp_bind]
    refine wp_mono (c_run (h := h1) (m := hI h1) cs1.s9 (by omega) (by omega) dlow pc1 LA0 pw hp okA0.2 okA0.1 hA) ?_
    rintro r ⟨h2, m2, n2, rfl, X2, f2, LX2, room2⟩
    rw [wp_some, wp_bind, w_isProgram jp pw, b01_t hv, wp_f (by decide), wp_bind]
    refine wp_mono (r_keepAct (g := g) j5 (by omega)) (fun m3 K3 => ?_)
    have e31 : m3 1 = m 1 := K3.1 1 (by decide) (by decide)
    have jp3 : PF m3 (sP g) := jp.congr (K3.2.1 9 (by decide) (by decide)) (K3.1 2 (by decide) (by decide)) (K3.1 3 (by decide) (by decide)) (K3.1 4 (by decide) (by decide)) (K3.1 5 (by decide) (by decide)) (K3.1 6 (by decide) (by decide)) (K3.1 7 (by decide) (by decide))
    rw [wp_bind, L_272, w_rd (by decide) (by decide), e31, F1.1, wp_bind]
    refine wp_mono (r_goRun (A := sH g (sA g)) (by rw [e31]; exact ⟨F1, F2, F3, F4, F5, F8⟩) jp3 pw hp sw lw hA) (fun m4 ⟨x4, L4'⟩ => ?_)
    rw [wp_bind, w_rd (by decide) (by decide), L4'.1.1, wp_some]
    refine ⟨rfl, actG g (runA (sP g) p (sH g (sA g))), ⟨J'.act ok' K3 L4' x4.1 x4.2, actG_ok ok' (okA_run okA0 pw hp hA), ?_⟩, Or.inr ⟨p, hp, rfl, rfl⟩⟩
    obtain ⟨own2', IC2, NF2, oe2, o17⟩ := I1'.sl (s := a0 g + 1) (g' := actG g (runA (sP g) p (sH g (sA g)))) (show a0 g + 1 ≤ 12 by omega) (Nat.le_refl _) q1 X2 f2 LX2 rfl rfl rfl rfl rfl rfl rfl rfl (fun i hi hne => by show sbf _ _ _ i = sbf _ _ _ i; rw [sbf_ne hne, sbf_ne hne]) sbf_at
    have n8 := LX2.2.2.2.2.2.2.2.2.2.1
    refine ⟨own2', ad1, IC2, NF1.trans NF2 q3, fun a ha ho => by rw [oe2 a (Nat.lt_of_lt_of_le ha NF1.1.1)]; exact q3 a ha ho, fun a ho => q4 a (o17 a ho), ?_, ?_⟩
    · have q5' : hN h1 ≤ hN h + 17 := q5
      show hN h2 ≤ hN h + 20
      omega
    · have q6' : hZ h1 ≤ hZ h + 6000 := q6
      show hZ h2 ≤ hZ h + 10200
      omega
  · rw [b01_n hv, wp_t rfl, wp_some, wp_bind, w_isProgram jp pw, b01_n hv, wp_t rfl, wp_some]
    exact ⟨rfl, g, AFT.same I' J' ok', Or.inl ⟨hv, rfl⟩⟩
end AC3

/-! forget, undo, redo: both sides -/
section AC4
variable {h h' : Hp} {m m' : Mem} {g g' : GS} {own : Nat → Nat} {ad : Nat → Option Nat}
theorem w_bz0 {Q : Int32 → Prop} : wp (bz 0) Q = Q 0 := wp_eq bz_0
theorem w_bz1 {Q : Int32 → Prop} : wp (bz 1) Q = Q 1 := wp_eq bz_1
theorem ic_st {k : Nat} (I : IC h g own ad) (hl : sL g ≤ 12) : IC (wI h (up (hI h) 18 0 (nI k))) (setA g k) own ad ∧ NF h (wI h (up (hI h) 18 0 (nI k))) own := by
  have I' := I
  obtain ⟨c, o, ⟨t1, t2⟩, ⟨f1, f2⟩, ⟨P, hP, p1, p2, p3⟩, ⟨a1, a2⟩, r52, r19, r36, r15, sl, li, bx⟩ := I
  have x : XX h (wI h (up (hI h) 18 0 (nI k))) := XX.wI h _
  have e : ∀ a j, a ≠ 18 → hI (wI h (up (hI h) 18 0 (nI k))) a j = hI h a j := fun a j ha => by rw [wI_I, up_r ha]
  have kp : ∀ s, KEEP h (wI h (up (hI h) 18 0 (nI k))) own (1 + s) := by
    intro s a ha ho
    have hn : a ≠ 18 := fun z => by
      have := o.1 a (by omega) (by omega) (by omega)
      omega
    exact ⟨fun j => e a j hn, fun _ => rfl, fun _ => rfl⟩
  refine ⟨I'.up (s := 15) (h' := wI h (up (hI h) 18 0 (nI k))) (g' := setA g k) x o (fun _ _ => rfl) (fun t _ _ => kp t) (fun b hb => (sl 15 b (by decide) hb).keep x (kp 15)) ⟨e 0 1 (by decide), fun j => e 1 j (by decide), fun j hj => e 2 j (by decide), fun a j h1 h2 => e a j (by omega), fun q hq => rfl, fun q => rfl⟩ rfl rfl rfl rfl rfl ⟨?_, ?_⟩ (fun _ _ => rfl) (fun _ _ => rfl) hl (fun i hi _ => ⟨hi, rfl⟩) (fun z => ?_) (fun q hq _ => ⟨rfl, e 37 q (by decide)⟩) (fun q hq z => by omega), x, kp 16, fun a h1 h2 j => e a j (by omega), rfl, rfl⟩
  · show up (hI h) 18 0 (nI k) 18 0 = nI k
    rw [up_a, if_pos rfl]
  · show up (hI h) 18 0 (nI k) 18 1 = nI (sL g)
    rw [up_a, if_neg (by decide)]; exact a2
  · have : 15 ≤ sL g := z
    omega
theorem o_undo (I : IC h g own ad) (J : IR m g) (ok : okG g) : ∃ r h1 m1, fX11_undo h 0 = some (r, h1) ∧ gX12_undo m = some (r, m1) ∧ ∃ g', AFT h h1 m1 own g' ∧ ((sA g = 0 ∧ g' = g) ∨ (0 < sA g ∧ g' = setA g (sA g - 1))) := by
  have I' := I
  have ok' := ok
  obtain ⟨cs, ow, _, _, _, ⟨a1, a2⟩, _⟩ := I
  obtain ⟨o1, pw, o2, o3, o4, o5⟩ := ok
  have s2 := cs.s2
  refine bo2 (R := fun h1 m1 => ∃ g', AFT h h1 m1 own g' ∧ ((sA g = 0 ∧ g' = g) ∨ (0 < sA g ∧ g' = setA g (sA g - 1)))) ?_
  show wp (fX11_undo (wI h (hI h)) 0) _
  unfold fX11_undo fX2_goBack
  rw [wp_bind, cs.gr cs.r5, wp_bind, s2.o, wp_bind, wp_bind, s2.g0, a1]
  by_cases z : sA g = 0
  · rw [wp_t (by rw [z]; rfl), wp_some]
    show wp ((bz 0).bind _) _
    rw [wp_bind, w_bz0, wp_some]
    refine wp_mono (r_undo J ok') (fun r' H => ?_)
    rcases H with ⟨_, e, J1⟩ | ⟨e, _⟩
    · exact ⟨e, g, AFT.same I' J1 ok', Or.inl ⟨z, rfl⟩⟩
    · omega
  · rw [wp_f (fun e => z ((nI_z (by omega)).mp e)), wp_bind, s2.g0, a1, wp_bind, s2.p0, wp_some, show nI (sA g) - 1 = nI (sA g - 1) from i_sub (b := 1) (by omega)]
    show wp ((bz 1).bind _) _
    rw [wp_bind, w_bz1, wp_some]
    refine wp_mono (r_undo J ok') (fun r' H => ?_)
    rcases H with ⟨e, _⟩ | ⟨_, e, J1⟩
    · omega
    · have Q := ic_st (k := sA g - 1) I' o3
      exact ⟨e, setA g (sA g - 1), ⟨J1, setA_ok ok' (by omega), own, ad, Q.1, Q.2, fun _ _ z => z, fun _ z => z, Nat.le_add_right _ _, Nat.le_add_right _ _⟩, Or.inr ⟨by omega, rfl⟩⟩
theorem o_redo (I : IC h g own ad) (J : IR m g) (ok : okG g) : ∃ r h1 m1, fX11_redo h 0 = some (r, h1) ∧ gX12_redo m = some (r, m1) ∧ ∃ g', AFT h h1 m1 own g' ∧ ((sA g = sL g ∧ g' = g) ∨ (sA g < sL g ∧ g' = setA g (sA g + 1))) := by
  have I' := I
  have ok' := ok
  obtain ⟨cs, ow, _, _, _, ⟨a1, a2⟩, _⟩ := I
  obtain ⟨o1, pw, o2, o3, o4, o5⟩ := ok
  have s2 := cs.s2
  refine bo2 (R := fun h1 m1 => ∃ g', AFT h h1 m1 own g' ∧ ((sA g = sL g ∧ g' = g) ∨ (sA g < sL g ∧ g' = setA g (sA g + 1)))) ?_
  show wp (fX11_redo (wI h (hI h)) 0) _
  unfold fX11_redo fX2_goOn
  rw [wp_bind, cs.gr cs.r5, wp_bind, s2.o, wp_bind, wp_bind, s2.g0, a1, wp_bind, s2.g1, a2]
  by_cases z : sA g = sL g
  · rw [wp_t (by rw [z]), wp_some]
    show wp ((bz 0).bind _) _
    rw [wp_bind, w_bz0, wp_some]
    refine wp_mono (r_redo J ok') (fun r' H => ?_)
    rcases H with ⟨_, e, J1⟩ | ⟨e, _⟩
    · exact ⟨e, g, AFT.same I' J1 ok', Or.inl ⟨z, rfl⟩⟩
    · omega
  · rw [wp_f (fun e => z ((nI_eq (by omega) (by omega)).mp e)), wp_bind, s2.g0, a1, wp_bind, s2.p0, wp_some, show nI (sA g) + 1 = nI (sA g + 1) from i_add _ 1]
    show wp ((bz 1).bind _) _
    rw [wp_bind, w_bz1, wp_some]
    refine wp_mono (r_redo J ok') (fun r' H => ?_)
    rcases H with ⟨e, _⟩ | ⟨_, e, J1⟩
    · omega
    · have Q := ic_st (k := sA g + 1) I' o3
      exact ⟨e, setA g (sA g + 1), ⟨J1, setA_ok ok' (by omega), own, ad, Q.1, Q.2, fun _ _ z => z, fun _ z => z, Nat.le_add_right _ _, Nat.le_add_right _ _⟩, Or.inr ⟨by omega, rfl⟩⟩
theorem o_forget (I : IC h g own ad) (J : IR m g) (ok : okG g) : ∃ r h1 m1, fX11_forget h 0 = some (r, h1) ∧ gX12_forget m = some (r, m1) ∧ AFT h h1 m1 own (actG g (noA (aS (sH g (sA g))))) := by
  have I' := I
  have J' := J
  have ok' := ok
  obtain ⟨cs, ow, ⟨t1, t2⟩, ⟨f1, f2⟩, ⟨P, hP, p1, p2, pc⟩, ⟨a1, a2⟩, r52, r19, r36, r15, sl, li, bx⟩ := I
  obtain ⟨⟨j1, j2⟩, ⟨j3, j4⟩, jp, ⟨j5, j6⟩, jl, jw, ju, jb, jx⟩ := J
  obtain ⟨o1, pw, o2, o3, o4, o5⟩ := ok
  obtain ⟨b, n, hb, L⟩ := li (sA g) o2
  have rb : hR h 19 (sA g) = some b := by rw [r19 _ (by omega)]; exact hb
  have pr : ∀ {Q : Nat → Prop}, wp (fX2_present (wI h (hI h)) 18) Q = Q b := fun {Q} => cs.present a1 (by omega) rb
  obtain ⟨s3, L1, L2, L3, L4, L5, L6⟩ := L
  have okA0 := o4 (sA g) o2
  have s2 := cs.s2
  refine bo2 (R := fun h1 m1 => AFT h h1 m1 own (actG g (noA (aS (sH g (sA g)))))) ?_
  show wp (fX11_forget (wI h (hI h)) 0) _
  unfold fX11_forget gX12_forget
  rw [wp_bind, cs.gr cs.r5, wp_bind, s2.o, wp_bind, pr, wp_bind, s3.r4, wp_bind, s3.s4.g0, L1.1, wp_bind, cs.gr cs.r5, wp_bind, s2.o, wp_bind]
  refine wp_mono (c_act I' ok') ?_
  rintro ⟨b1, h1⟩ ⟨own1, ad1, q1, I1, NF1, q3, q4, q5, q6⟩
  have a11 := (a0_le ok').1
  have I1' := I1
  obtain ⟨cs1, ow1, _, _, _, _, _, _, _, _, sl1, li1, _⟩ := I1
  obtain ⟨bb, n1, hbb, L1'⟩ := li1 (a0 g + 1) (Nat.le_refl _)
  rw [q1] at hbb
  cases hbb
  have S1 := sl1 (a0 g + 1) b1 (by omega) q1
  have LA0 : LX h1 (hI h1) b1 (sH g (sA g)) n1 := by
    have : sH (actG g (sH g (sA g))) (a0 g + 1) = sH g (sA g) := sbf_at
    rw [this] at L1'; exact L1'
  have C : CE h1 b1 n1 := by
    obtain ⟨_, _, _, _, _, _, _, _, q1, q2, _, ρ, q3, q4, q5, _⟩ := LA0
    exact ⟨q1, q2, ρ, q3, q4, q5⟩
  have o3' : ∀ {Q : Unit → Prop}, wp (gO h1 3 b1) Q = Q () := fun {Q} => LA0.1.o (m := hI h1)
  show wp ((gO h1 3 b1).bind _) _
  rw [wp_bind, o3', wp_bind]
  refine wp_mono (c_clear (h := h1) (m := hI h1) LA0.1 C LA0.2.2.2.2.2.1) ?_
  rintro r ⟨m2, rfl, f2, LX2⟩
  rw [wp_some, wp_bind]
  refine wp_mono (r_keepAct (g := g) j5 (by omega)) (fun m3 K3 => ?_)
  have e31 : m3 1 = m 1 := K3.1 1 (by decide) (by decide)
  rw [wp_bind, L_272, w_rd (by decide) (by decide), e31, jl.1.1, wp_bind]
  refine wp_mono (r_clearAll (A := sH g (sA g)) (V := pV (sP g)) (by rw [e31]; exact jl) (fun j hj => pV_lt pw hj)) (fun m4 ⟨x4, L4'⟩ => ?_)
  rw [wp_some]
  have okN : okA (sP g) (noA (aS (sH g (sA g)))) := okA_noA okA0
  refine ⟨rfl, J'.act ok' K3 L4' (fun o _ h1 _ _ _ _ => x4 o h1) (fun j _ => congrFun (x4 0 (by decide)) j), actG_ok ok' okN, ?_⟩
  obtain ⟨own2', IC2, NF2, oe2, o17⟩ := I1'.sl (s := a0 g + 1) (g' := actG g (noA (aS (sH g (sA g))))) (show a0 g + 1 ≤ 12 by omega) (Nat.le_refl _) q1 (XD.rfl' 41 b1 h1) (fun a _ _ z => f2 a z) LX2 rfl rfl rfl rfl rfl rfl rfl rfl (fun i hi hne => by show sbf _ _ _ i = sbf _ _ _ i; rw [sbf_ne hne, sbf_ne hne]) sbf_at
  refine ⟨own2', ad1, IC2, NF1.trans NF2 q3, fun a ha ho => by rw [oe2 a (Nat.lt_of_lt_of_le ha NF1.1.1)]; exact q3 a ha ho, fun a ho => q4 a (o17 a ho), ?_, ?_⟩
  · have q5' : hN h1 ≤ hN h + 17 := q5
    show hN h1 ≤ hN h + 20
    omega
  · have q6' : hZ h1 ≤ hZ h + 6000 := q6
    show hZ h1 ≤ hZ h + 10200
    omega
end AC4

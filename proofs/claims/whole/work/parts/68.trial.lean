/-! the trial: a run that is only tried -/
section TRY
variable {h h' : Hp} {m m' : Mem} {g : GS} {own : Nat → Nat} {ad : Nat → Option Nat}
theorem LF.congr {V : Nat → Prop} {a a' : Nat → Int32} {A : LA} (L : LF V a A) (lw : LW A) (hV : ∀ j, V j → j < 72) (e : ∀ j, j < 9685 → a' j = a j) : LF V a' A := by
  obtain ⟨L1, L2, L3, L4, ⟨L5, L6, L7⟩, L8⟩ := L
  have hk := lw.2.2.2.2.1
  refine ⟨L1.congr lw.1 (fun j h1 h2 => e j (by omega)), L2.congr (fun j hj => e j (by omega)), fun x hx => by rw [e _ (by omega)]; exact L3 x hx, fun q hq => by rw [e _ (by omega)]; exact L4 q hq, ⟨by rw [e _ (by omega)]; exact L5, by rw [e _ (by omega)]; exact L6, fun i hi => ?_⟩, fun j hj => ?_⟩
  · rw [e _ (by omega), e _ (by omega)]; exact L7 i hi
  · have := hV j hj
    rw [e _ (by omega), e _ (by omega)]; exact L8 j hj
theorem r_putAside : wp (gX12_putAside m) (fun m' => (∀ o, o ≠ 20 → m' o = m o) ∧ ∀ j, j < 9685 → m' 20 j = m 1 j) := by
  unfold gX12_putAside
  rw [wp_bind]
  refine wp_for (κ := Mem) (fun i c => (nI i, c)) 9685 (fun i m' => (∀ o, o ≠ 20 → m' o = m o) ∧ ∀ j, j < i → m' 20 j = m 1 j) (fun i c hi HH => ?_) (fun c HH => ?_) 0 m (Nat.zero_le _) ⟨fun _ _ => rfl, fun j hj => by omega⟩ (by decide)
  · simp (disch := omega) only [gbX12_putAside_2, L_9685, i_le, wp_f, wp_bind, w_rd, w_wr, wp_some, lq_l, L_1, i_add]
    refine ⟨_, rfl, fun o ho => by rw [up_r ho]; exact HH.1 o ho, fun j hj => ?_⟩
    rw [up_a]
    by_cases z : j = i
    · rw [if_pos z, z, HH.1 1 (by decide)]
    · rw [if_neg z]; exact HH.2 j (by omega)
  · simp (disch := omega) only [gbX12_putAside_2, L_9685, i_le, wp_t, wp_some, lq_r]
    exact HH
theorem r_bringBack : wp (gX12_bringBack m) (fun m' => (∀ o, o ≠ 1 → m' o = m o) ∧ ∀ j, j < 9685 → m' 1 j = m 20 j) := by
  unfold gX12_bringBack
  rw [wp_bind]
  refine wp_for (κ := Mem) (fun i c => (nI i, c)) 9685 (fun i m' => (∀ o, o ≠ 1 → m' o = m o) ∧ ∀ j, j < i → m' 1 j = m 20 j) (fun i c hi HH => ?_) (fun c HH => ?_) 0 m (Nat.zero_le _) ⟨fun _ _ => rfl, fun j hj => by omega⟩ (by decide)
  · simp (disch := omega) only [gbX12_bringBack_2, L_9685, i_le, wp_f, wp_bind, w_rd, w_wr, wp_some, lq_l, L_1, i_add]
    refine ⟨_, rfl, fun o ho => by rw [up_r ho]; exact HH.1 o ho, fun j hj => ?_⟩
    rw [up_a]
    by_cases z : j = i
    · rw [if_pos z, z, HH.1 20 (by decide)]
    · rw [if_neg z]; exact HH.2 j (by omega)
  · simp (disch := omega) only [gbX12_bringBack_2, L_9685, i_le, wp_t, wp_some, lq_r]
    exact HH
/-- after what the reference only tried -/
theorem IR.try {m1 m2 : Mem} (J : IR m g) (ok : okG g) (f1 : ∀ o, o ≠ 20 → m1 o = m o) (a1 : ∀ j, j < 9685 → m1 20 j = m 1 j) (x : fr0 m1 m2) (f3 : ∀ o, o ≠ 1 → m' o = m2 o) (a3 : ∀ j, j < 9685 → m' 1 j = m2 20 j) : IR m' g := by
  have e1 : ∀ j, j < 9685 → m' 1 j = m 1 j := fun j hj => by rw [a3 j hj, x.1 20 (by decide) (by decide) (by decide) (by decide) (by decide) (by decide), a1 j hj]
  have eo : ∀ o, o ≠ 0 → o ≠ 1 → o ≠ 16 → o ≠ 17 → o ≠ 18 → o ≠ 19 → o ≠ 20 → m' o = m o := fun o h0 h1 h2 h3 h4 h5 h6 => by rw [f3 o h1, x.1 o h0 h1 h2 h3 h4 h5, f1 o h6]
  have e0 : ∀ j, j ≠ 31 → m' 0 j = m 0 j := fun j hj => by rw [f3 0 (by decide), x.2 j hj, f1 0 (by decide)]
  obtain ⟨⟨j1, j2⟩, ⟨j3, j4⟩, jp, ⟨j5, j6⟩, jl, jw, ju, jb, jx⟩ := J
  obtain ⟨o1, pw, o2, o3, o4, o5⟩ := ok
  unfold IR
  rw [e0 11 (by decide), e0 19 (by decide), e0 20 (by decide), e0 56 (by decide), e0 57 (by decide), eo 10 (by decide) (by decide) (by decide) (by decide) (by decide) (by decide) (by decide), eo 36 (by decide) (by decide) (by decide) (by decide) (by decide) (by decide) (by decide), eo 37 (by decide) (by decide) (by decide) (by decide) (by decide) (by decide) (by decide), eo 38 (by decide) (by decide) (by decide) (by decide) (by decide) (by decide) (by decide), eo 11 (by decide) (by decide) (by decide) (by decide) (by decide) (by decide) (by decide)]
  exact ⟨⟨j1, j2⟩, ⟨j3, j4⟩, jp.congr (e0 9 (by decide)) (eo 2 (by decide) (by decide) (by decide) (by decide) (by decide) (by decide) (by decide)) (eo 3 (by decide) (by decide) (by decide) (by decide) (by decide) (by decide) (by decide)) (eo 4 (by decide) (by decide) (by decide) (by decide) (by decide) (by decide) (by decide)) (eo 5 (by decide) (by decide) (by decide) (by decide) (by decide) (by decide) (by decide)) (eo 6 (by decide) (by decide) (by decide) (by decide) (by decide) (by decide) (by decide)) (eo 7 (by decide) (by decide) (by decide) (by decide) (by decide) (by decide) (by decide)), ⟨j5, j6⟩, jl.congr (o4 _ o2).1 (fun j hj => pV_lt pw hj) e1, jw, ju, jb, jx⟩
/-- after what the class only tried -/
theorem IC.tr {A' : LA} {n' : Nat} (I : IC h g own ad) (hl : sL g ≤ 12) (x : XD 41 57 h h') (f : ∀ a, a < hN h → ¬ (41 ≤ a ∧ a ≤ 46) → ¬ (57 ≤ a ∧ a ≤ 71) → a ≠ 73 → m' a = hI h a) (L : LX h' m' 57 A' n') : ∃ own', IC (wI h' m') g own' ad ∧ NF h (wI h' m') own ∧ (∀ a, a < hN h → own' a = own a) ∧ ∀ a, own' a = 17 → own a = 17 := by
  have I' := I
  obtain ⟨c, o, ⟨t1, t2⟩, ⟨f1, f2⟩, ⟨P, hP, p1, p2, p3⟩, ⟨a1, a2⟩, r52, r19, r36, r15, sl, li, bx⟩ := I
  have S15 := sl 15 57 (by decide) r15
  have h120 := c.1
  have oo : ∀ a, own a ≠ 0 → a < 120 → (20 ≤ a ∧ a ≤ 35) ∨ (57 ≤ a ∧ a ≤ 72) := fun a h0 h1 => Classical.byContradiction fun hc => h0 (o.1 a h1 (by omega) (by omega))
  have ei : ∀ t, t ≠ 15 → ∀ a, a < hN h → own a = 1 + t → ∀ j, hI (wI h' m') a j = hI h a j := by
    intro t ht a ha ho j
    rw [wI_I, f a ha]
    · intro z; have := oo a (by omega) (by omega); omega
    · intro z
      have := S15.1 a z.1 z.2
      omega
    · intro z; have := oo a (by omega) (by omega); omega
  have kp : ∀ t, t ≠ 15 → KEEP h (wI h' m') own (1 + t) := fun t ht => XD.keep (h' := wI h' m') o S15 x (ei t ht) ⟨by decide, by decide, by decide⟩ ht
  have hle := x.1.1
  have rr : ∀ a q, a < 120 → a ≠ 41 → a ≠ 57 → hR (wI h' m') a q = hR h a q := fun a q ha h1 h2 => x.2.1 a q (by omega) (Or.inl h2) (Or.inl h1)
  have s3' : Sh3 h' 57 := L.1
  have C : CE h' 57 n' := by
    obtain ⟨_, _, _, _, _, _, _, _, q1, q2, _, ρ, q3, q4, q5, _⟩ := L
    exact ⟨q1, q2, ρ, q3, q4, q5⟩
  refine ⟨own2 own (hN h) 15 h', I'.up (s := 15) (h' := wI h' m') x.1 (own2_W o hle h120) own2_e (fun t _ ht => kp t ht) (fun b hb => ?_) ⟨?_, fun j => ?_, fun j hj => ?_, fun a j h1 h2 => ?_, fun q hq => rr 0 q (by decide) (by decide) (by decide), fun q => rr 52 q (by decide) (by decide) (by decide)⟩ rfl rfl rfl rfl rfl ⟨?_, ?_⟩ (fun i hi => rr 19 i (by decide) (by decide) (by decide)) (fun i hi => rr 36 i (by decide) (by decide) (by decide)) hl (fun i hi _ => ⟨hi, rfl⟩) (fun hz => by omega) (fun q hq _ => ⟨rfl, ?_⟩) (fun q hq hz => by omega), ⟨x.1, kp 16 (by decide), fun a h1 h2 j => ?_, rr 74 8 (by decide) (by decide) (by decide), rr 0 3 (by decide) (by decide) (by decide)⟩, own2_e, fun a ha => ?_⟩
  · rw [r15] at hb
    cases hb
    exact XD.slt (h' := wI h' m') o S15 x s3' C
  · rw [wI_I, f 0 (by omega) (by omega) (by omega) (by omega)]
  · rw [wI_I, f 1 (by omega) (by omega) (by omega) (by omega)]
  · rw [wI_I, f 2 (by omega) (by omega) (by omega) (by omega)]
  · rw [wI_I, f a (by omega) (by omega) (by omega) (by omega)]
  · rw [wI_I, f 18 (by omega) (by omega) (by omega) (by omega)]; exact a1
  · rw [wI_I, f 18 (by omega) (by omega) (by omega) (by omega)]; exact a2
  · rw [wI_I, f 37 (by omega) (by omega) (by omega) (by omega)]
  · rw [wI_I, f a (by omega) (by omega) (by omega) (by omega)]
  · unfold own2 at ha
    split at ha
    · omega
    · exact ha
theorem SLT.ne_w {s b n : Nat} (S : SLT h own s b) (o : OWN own n) : ¬ (41 ≤ b ∧ b ≤ 46) := fun z => by
  have e1 := S.1 b (Nat.le_refl _) (by omega)
  have e2 := o.1 b (by omega) (by omega) (by omega)
  omega
theorem SLT.ne_w4 {s b n : Nat} (S : SLT h own s b) (o : OWN own n) : ¬ (41 ≤ b + 4 ∧ b + 4 ≤ 46) := fun z => by
  have e1 := S.1 (b + 4) (by omega) (by omega)
  have e2 := o.1 (b + 4) (by omega) (by omega) (by omega)
  omega
theorem o_would (I : IC h g own ad) (J : IR m g) (ok : okG g) (hA : aK (sH g (sA g)) + 12 ≤ 4000) (v u : Int32) : ∃ r h1 m1, fX11_would h 0 v u = some (r, h1) ∧ gX12_would m v u = some (r, m1) ∧ (∃ own', IC h1 g own' ad ∧ NF h h1 own ∧ (∀ a, a < hN h → own' a = own a) ∧ (∀ a, own' a = 17 → own a = 17) ∧ hN h1 ≤ hN h + 2 ∧ hZ h1 ≤ hZ h + 8200) ∧ IR m1 g := by
  have I' := I
  have J' := J
  have ok' := ok
  obtain ⟨cs, ow, ⟨t1, t2⟩, ⟨f1, f2⟩, ⟨P, hP, p1, p2, pc⟩, ⟨a1, a2⟩, r52, r19, r36, r15, sl, li, bx⟩ := I
  obtain ⟨⟨j1, j2⟩, ⟨j3, j4⟩, jp, ⟨j5, j6⟩, jl, jw, ju, jb, jx⟩ := J
  obtain ⟨o1, pw, o2, o3, o4, o5⟩ := ok
  have pc' : PC (wI h (hI h)) P (sP g) := pc
  have s5 : Sh5 h P := pc.1
  obtain ⟨b, n, hb, L⟩ := li (sA g) o2
  have rb : hR h 19 (sA g) = some b := by rw [r19 _ (by omega)]; exact hb
  have pr : ∀ {Q : Nat → Prop}, wp (fX2_present (wI h (hI h)) 18) Q = Q b := fun {Q} => cs.present a1 (by omega) rb
  obtain ⟨s3, L1, L2, L3, L4, L5, L6⟩ := L
  obtain ⟨F1, F2, F3, F4, F5, F8⟩ := jl
  obtain ⟨lw, sw⟩ := o4 (sA g) o2
  have s2 := cs.s2
  have s7 := s3.s4
  have s1 := s3.s3
  refine bo2 (R := fun h1 m1 => (∃ own', IC h1 g own' ad ∧ NF h h1 own ∧ (∀ a, a < hN h → own' a = own a) ∧ (∀ a, own' a = 17 → own a = 17) ∧ hN h1 ≤ hN h + 2 ∧ hZ h1 ≤ hZ h + 8200) ∧ IR m1 g) ?_
  show wp (fX11_would (wI h (hI h)) 0 v u) _
  have base : ∃ own', IC h g own' ad ∧ NF h h own ∧ (∀ a, a < hN h → own' a = own a) ∧ (∀ a, own' a = 17 → own a = 17) ∧ hN h ≤ hN h + 2 ∧ hZ h ≤ hZ h + 8200 := ⟨own, I', (I'.sc o3 (m' := hI h) (fun _ _ _ => rfl)).2, fun _ _ => rfl, fun _ z => z, by omega, by omega⟩
  have h6 := pw.2.2.1
  unfold fX11_would gX12_would jX11_would_20 gjX12_would_17
  rw [wp_bind, cs.gr p1, wp_bind, s5.o, wp_bind, w_hasProgram pc' pw]
  by_cases hv : inN v (pP (sP g))
  · obtain ⟨p, hp, e⟩ := inN_ex hv
    subst e
    rw [b01_t hv, wp_f (by decide)]
    by_cases hu : inN u 3
    · obtain ⟨q, hq, e⟩ := inN_ex hu
      subst e
      have S15 := sl 15 57 (by decide) r15
      have Sb := sl (sA g) b (by omega) hb
      obtain ⟨apart, hρ⟩ := Sb.apart S15 (by omega)
      obtain ⟨n', C'⟩ := S15.CE
      have L' : LX h (hI h) b (sH g (sA g)) n := ⟨s3, L1, L2, L3, L4, L5, L6⟩
      have h120 := cs.1
      have b14 := s3.1
      rw [wp_f (nI_pos (by omega)), wp_t (show nI q ≤ 2 from nI_le (b := 2) (by omega) (by decide)), wp_bind, cs.gr cs.r5, wp_bind, s2.o, wp_bind, pr, wp_bind, cs.gr cs.r11, wp_bind, S15.2.1.o, wp_bind]
      refine wp_mono (c_copy L' S15.2.1 C' apart hρ lw.1) ?_
      rintro r ⟨h1, m1, n1, rfl, X1, f1, LX1, room1⟩
      have cs1 := cs.x X1.1
      have hle1 := X1.1.1
      have p11 : hR h1 0 3 = some P := by rw [X1.2.1 0 3 (by omega) (Or.inl (by decide))]; exact p1
      rw [wp_bind, cs1.gr cs1.r9, wp_bind, cs1.gr p11, wp_bind, cs1.gr cs1.r11, wp_bind, cs1.s9.o, wp_bind]
      have pc1 : PC (wI h1 m1) P (sP g) := PC.congr (h := h) (m := hI h) pc X1.1 (fun a q1 q2 => f1 a (by omega) (by omega))
      refine wp_mono (c_run cs1.s9 (by omega) (by omega) (by omega) pc1 LX1 pw hp sw lw hA) ?_
      rintro r ⟨h2, m2, n2, rfl, X2, f2, LX2, room2⟩
      have hle2 := X2.1.1
      have XX2 : XD 41 57 h h2 := XD.trans X1.D X2
      have ff : ∀ a, a < hN h → ¬ (41 ≤ a ∧ a ≤ 46) → ¬ (57 ≤ a ∧ a ≤ 71) → m2 a = hI h a := fun a q1 q2 q3 => by rw [f2 a (by omega) (by omega) (by omega), f1 a q1 (by omega)]
      obtain ⟨own', IC2, NF2, oe2, o17⟩ := I'.tr o3 XX2 (fun a q1 q2 q3 _ => ff a q1 q2 q3) LX2
      have n8 := LX2.2.2.2.2.2.2.2.2.2.1
      have n8b := L6.2.2.2.1
      have c'8 := C'.2.1
      have base2 : ∃ own', IC (wI h2 m2) g own' ad ∧ NF h (wI h2 m2) own ∧ (∀ a, a < hN h → own' a = own a) ∧ (∀ a, own' a = 17 → own a = 17) ∧ hN (wI h2 m2) ≤ hN h + 2 ∧ hZ (wI h2 m2) ≤ hZ h + 8200 := by
        refine ⟨own', IC2, NF2, oe2, o17, ?_, ?_⟩
        · show hN h2 ≤ hN h + 2; omega
        · show hZ h2 ≤ hZ h + 8200; omega
      obtain ⟨w2, wS2, wK2, wK3⟩ := runA_W pw hp sw lw hA
      have cs2 := cs.x XX2.1
      have s32 : Sh3 h2 57 := LX2.1
      have s3b : Sh3 h2 b := s3.x XX2.1
      have ref : ∀ (r : Int32), r = (if q = 0 then nI (rC (aD (runA (sP g) p (sH g (sA g))))) - nI (rC (aD (sH g (sA g)))) else if q = 1 then nI (gN (aG (runA (sP g) p (sH g (sA g))))) - nI (gN (aG (sH g (sA g)))) else nI (aK (runA (sP g) p (sH g (sA g)))) - nI (aK (sH g (sA g)))) → wp ((gX12_isProgram m (nI p)).bind fun x1 => if x1 = 0 then some (-1, m) else (gX12_isIn (nI q) 0 2).bind fun x3 => if x3 = 0 then some (-1, m) else (gX12_putAside m).bind fun x5 => if nI q = 0 then (rd x5 1 9685 272).bind fun x18 => gjX12_would_58 (nI p) (nI q) x18 x5 else if nI q = 1 then (gX12_edges x5).bind fun x17 => gjX12_would_58 (nI p) (nI q) x17 x5 else (rd x5 1 9685 1539).bind fun x8 => gjX12_would_58 (nI p) (nI q) x8 x5) (fun r' => r'.1 = r ∧ IR r'.2 g) := by
        intro r hr
        rw [wp_bind, w_isProgram jp pw, b01_t hv, wp_f (by decide), wp_bind, show (gX12_isIn (nI q) 0 2) = gX12_isIn (nI q) 0 (nI 2) from rfl, w_isInK (by decide), b01_t hu, wp_f (by decide), wp_bind]
        refine wp_mono r_putAside (fun m3 ⟨g3, b3⟩ => ?_)
        have e31 : m3 1 = m 1 := g3 1 (by decide)
        have jp3 : PF m3 (sP g) := jp.congr (by rw [g3 0 (by decide)]) (g3 2 (by decide)) (g3 3 (by decide)) (g3 4 (by decide)) (g3 5 (by decide)) (g3 6 (by decide)) (g3 7 (by decide))
        have L3' : LF (pV (sP g)) (m3 1) (sH g (sA g)) := by rw [e31]; exact ⟨F1, F2, F3, F4, F5, F8⟩
        have j99 : ∀ (m4 : Mem) (y v3 : Int32), fr0 m3 m4 → y - v3 = r → wp (gjX12_would_99 v3 y m4) (fun r' => r'.1 = r ∧ IR r'.2 g) := by
          intro m4 y v3 x4 hy
          unfold gjX12_would_99
          rw [wp_bind, wp_some, wp_bind]
          refine wp_mono r_bringBack (fun m5 ⟨g5, b5⟩ => ?_)
          rw [wp_some]
          exact ⟨hy, J'.try ok' g3 b3 x4 g5 b5⟩
        have j58 : ∀ y0 : Int32, (q = 0 → y0 = nI (rC (aD (sH g (sA g))))) → (q = 1 → y0 = nI (gN (aG (sH g (sA g))))) → (q = 2 → y0 = nI (aK (sH g (sA g)))) → wp (gjX12_would_58 (nI p) (nI q) y0 m3) (fun r' => r'.1 = r ∧ IR r'.2 g) := by
          intro y0 y1 y2 y3
          unfold gjX12_would_58
          rw [wp_bind]
          refine wp_mono (r_goRun L3' jp3 pw hp sw lw hA) (fun m4 ⟨x4, L4'⟩ => ?_)
          rcases (by omega : q = 0 ∨ q = 1 ∨ q = 2) with rfl | rfl | rfl
          · rw [wp_t (show nI 0 = 0 from rfl), wp_bind, L_272, w_rd (by decide) (by decide)]
            exact j99 m4 _ _ x4 (by rw [hr, if_pos rfl, y1 rfl, L4'.1.1])
          · rw [wp_f (show ¬ nI 1 = 0 by decide), wp_t (show nI 1 = 1 from rfl), wp_bind, r_edges L4'.2.1 w2.2.1]
            exact j99 m4 _ _ x4 (by rw [hr, if_neg (by decide), if_pos rfl, y2 rfl])
          · rw [wp_f (show ¬ nI 2 = 0 by decide), wp_f (show ¬ nI 2 = 1 by decide), wp_bind, L_1539, w_rd (by decide) (by decide)]
            exact j99 m4 _ _ x4 (by rw [hr, if_neg (by decide), if_neg (by decide), y3 rfl, L4'.2.2.2.2.1.1])
        rcases (by omega : q = 0 ∨ q = 1 ∨ q = 2) with rfl | rfl | rfl
        · rw [wp_t (show nI 0 = 0 from rfl), wp_bind, L_272, w_rd (by decide) (by decide), e31, F1.1]
          exact j58 _ (fun _ => rfl) (fun z => by omega) (fun z => by omega)
        · rw [wp_f (show ¬ nI 1 = 0 by decide), wp_t (show nI 1 = 1 from rfl), wp_bind, r_edges L3'.2.1 lw.2.1]
          exact j58 _ (fun z => by omega) (fun _ => rfl) (fun z => by omega)
        · rw [wp_f (show ¬ nI 2 = 0 by decide), wp_f (show ¬ nI 2 = 1 by decide), wp_bind, L_1539, w_rd (by decide) (by decide), e31, F5.1]
          exact j58 _ (fun z => by omega) (fun z => by omega) (fun _ => rfl)
      have bb : ∀ j, m2 b j = hI h b j := fun j => by rw [ff b (by omega) (Sb.ne_w ow) (by omega)]
      have bg : ∀ j, m2 (b + 4) j = hI h (b + 4) j := fun j => by rw [ff (b + 4) (by omega) (Sb.ne_w4 ow) (by omega)]
      rcases (by omega : q = 0 ∨ q = 1 ∨ q = 2) with rfl | rfl | rfl
      · rw [wp_t (show nI 0 = 0 from rfl), wp_some]
        refine wp_mono (ref _ (if_pos rfl).symm) (fun r' hr' => ⟨hr'.1, base2, hr'.2⟩)
      · rw [wp_f (show ¬ nI 1 = 0 by decide), wp_t (show nI 1 = 1 from rfl), wp_bind, cs2.gr cs2.r11, wp_bind, s32.r3, wp_bind, s32.s3.g0, wp_bind, s3b.r3, wp_bind, s3b.s3.g0, wp_some]
        refine wp_mono (ref _ ?_) (fun r' hr' => ⟨hr'.1, base2, hr'.2⟩)
        rw [if_neg (by decide), if_pos rfl, LX2.2.2.1.1, bg 0, L2.1]
      · rw [wp_f (show ¬ nI 2 = 0 by decide), wp_f (show ¬ nI 2 = 1 by decide), wp_bind, cs2.gr cs2.r11, wp_bind, s32.g5, wp_bind, s3b.g5, wp_some]
        refine wp_mono (ref _ ?_) (fun r' hr' => ⟨hr'.1, base2, hr'.2⟩)
        rw [if_neg (by decide), if_neg (by decide), LX2.2.2.2.2.2.2.1, bb 5, L6.1]
    · have ref : wp ((gX12_isProgram m (nI p)).bind fun x1 => if x1 = 0 then some (-1, m) else (gX12_isIn u 0 2).bind fun x3 => if x3 = 0 then some (-1, m) else (gX12_putAside m).bind fun x5 => if u = 0 then (rd x5 1 9685 272).bind fun x18 => gjX12_would_58 (nI p) u x18 x5 else if u = 1 then (gX12_edges x5).bind fun x17 => gjX12_would_58 (nI p) u x17 x5 else (rd x5 1 9685 1539).bind fun x8 => gjX12_would_58 (nI p) u x8 x5) (fun r' => r'.1 = -1 ∧ (∃ own', IC h g own' ad ∧ NF h h own ∧ (∀ a, a < hN h → own' a = own a) ∧ (∀ a, own' a = 17 → own a = 17) ∧ hN h ≤ hN h + 2 ∧ hZ h ≤ hZ h + 8200) ∧ IR r'.2 g) := by
        rw [wp_bind, w_isProgram jp pw, b01_t hv, wp_f (by decide), wp_bind, show (gX12_isIn u 0 2) = gX12_isIn u 0 (nI 2) from rfl, w_isInK (by decide), b01_n hu, wp_t rfl, wp_some]
        exact ⟨rfl, base, J'⟩
      by_cases h0 : u < 0
      · rw [wp_t h0, wp_some]; exact ref
      · rw [wp_f h0]
        obtain ⟨j, hj, e⟩ := nI_of h0
        subst e
        rw [wp_f (fun z => hu ((inN_nI hj).mpr (by have := (nI_leI (b := 2) hj (by decide)).mp z; omega))), wp_some]
        exact ref
  · rw [b01_n hv, wp_t rfl, wp_some, wp_bind, w_isProgram jp pw, b01_n hv, wp_t rfl, wp_some]
    exact ⟨rfl, base, J'⟩
end TRY

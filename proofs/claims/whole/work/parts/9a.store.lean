/-! store: both sides, the whole of it -/
section ST2
variable {h h' : Hp} {m m' : Mem} {g g' : GS} {own : Nat → Nat} {ad : Nat → Option Nat} {q : QT} {k : Nat}
/-- a text that was told -/
theorem ic_str {P Q b n : Nat} {h2 : Hp} (I : IC h g own ad) (w : QW q (pP q.1)) (hP : P = 8 ∨ P = 13) (hQ : Q = 21 - P) (x : XX h h2) (nN : hN h2 = hN h) (jj : ∀ a j, hJ h2 a j = hJ h a j) (rr : ∀ a z, a ≠ 2 → (a ≠ 0 ∨ (z ≠ 3 ∧ z ≠ 4)) → hR h2 a z = hR h a z) (r3 : hR h2 0 3 = some Q) (r4 : hR h2 0 4 = some P) (hb : ad 0 = some b) (f : ∀ a, ¬ a ≤ 18 → a ≠ 37 → ¬ (b ≤ a ∧ a ≤ b + 14) → (a ≠ 74 → m' a = hI h a) ∧ (a = 74 → ∀ j, j ≠ 6 → m' a j = hI h a j)) (e0 : m' 0 1 = 0) (e1 : m' 2 0 = 0) (e2 : m' 2 1 = mI) (e18 : m' 18 0 = 0 ∧ m' 18 1 = 0) (e37 : ∀ i, i < 2 → m' 37 i = 0) (pl : PLc h2 m' Q q (pP q.1)) (L : LX h2 m' b (noA q.2) n) : IC (wI h2 m') (strG g q) own ad ∧ KEEP h (wI h2 m') own 17 := by
  obtain ⟨cs, ow, ⟨t1, t2⟩, ⟨f1, f2⟩, _, ⟨a1, a2⟩, r52, r19, r36, r15, sl, li, bx⟩ := I
  have S0 := sl 0 b (by decide) hb
  have slk : ∀ s b, s < 16 → ad s = some b → SLT (wI h2 m') own s b := fun s b hs hb => by
    obtain ⟨o1, s3, ρ, n2, r7, oρ, lρ, sρ, n32, n81⟩ := sl s b hs hb
    have hb0 : b ≠ 0 ∧ b ≠ 2 := by
      have ob := o1 b (Nat.le_refl _) (by omega)
      constructor
      · rintro rfl
        have := ow.1 0 (by omega) (by omega) (by omega)
        omega
      · rintro rfl
        have := ow.1 2 (by omega) (by omega) (by omega)
        omega
    refine ⟨o1, s3.x x, ρ, n2, ?_, oρ, by show ρ < hN h2; omega, by show hS h2 ρ = _; rw [x.2.1 ρ lρ]; exact sρ, n32, n81⟩
    show hR h2 b 7 = _
    rw [rr b 7 hb0.2 (Or.inl hb0.1)]; exact r7
  have bo : ∀ a, a < hN h → own a = 17 → ¬ a ≤ 18 ∧ a ≠ 37 ∧ ¬ (b ≤ a ∧ a ≤ b + 14) ∧ a ≠ 74 := fun a ha ho => by
    refine ⟨fun z => ?_, fun z => ?_, fun z => ?_, fun z => ?_⟩
    · have := ow.1 a (by omega) (by omega) (by omega); omega
    · have := ow.1 a (by omega) (by omega) (by omega); omega
    · have := S0.1 a z.1 z.2; omega
    · have := ow.1 a (by omega) (by omega) (by omega); omega
  refine ⟨⟨cs.x x, by show OWN own (hN h2); rw [nN]; exact ow, ⟨e0, fun j hj => absurd hj (Nat.not_lt_zero _)⟩, ⟨e1, e2⟩, ⟨Q, by omega, r3, by show hR h2 0 4 = _; rw [r4]; congr 1; omega, ?_⟩, ⟨e18.1, e18.2⟩, fun i hi => ?_, fun i hi => ?_, fun i hi => ?_, r15, slk, fun i hi => ?_, fun j hj => ⟨fun _ => e37 j hj, fun B hB => by cases hB⟩⟩, fun a ha ho => ?_⟩
  · obtain ⟨l0, l1, l2, l3, l4, l5, l6, l7⟩ := pl
    exact ⟨l0, l1, l2, l3, l4, fun p hp => ⟨l5 p hp, l6 p (by have := w.2.2.1.2.2; have hp' : p < pP q.1 := hp; omega)⟩⟩
  · show hR h2 52 i = _; rw [rr 52 i (by decide) (Or.inl (by decide))]; exact r52 i hi
  · show hR h2 19 i = _; rw [rr 19 i (by decide) (Or.inl (by decide))]; exact r19 i hi
  · show hR h2 36 i = _; rw [rr 36 i (by decide) (Or.inl (by decide))]; exact r36 i hi
  · have hi' : i ≤ 0 := hi
    rw [show i = 0 by omega]
    exact ⟨b, n, hb, L⟩
  · obtain ⟨z1, z2, z3, z4⟩ := bo a ha ho
    exact ⟨fun j => by rw [wI_I, (f a z1 z2 z3).1 z4], fun j => jj a j, fun z => rr a z (by omega) (Or.inl (by omega))⟩
theorem o_store (I : IC h g own ad) (J : IR m g) (ok : okG g) : ∃ r h1 m1, fX11_store h 0 = some (r, h1) ∧ gX12_store m = some (r, m1) ∧ ((∃ e, AFT h h1 m1 own (fltG g e)) ∨ ∃ q, QW q (pP q.1) ∧ STG h h1 m1 own (strG g q)) := by
  have I' := I
  have J' := J
  have ok' := ok
  obtain ⟨cs, ow, ⟨t1, t2⟩, ⟨f1, f2⟩, ⟨P, hP, p1, p2, pc⟩, ⟨a1, a2⟩, r52, r19, r36, r15, sl, li, bx⟩ := I
  obtain ⟨⟨j1, j2⟩, ⟨j3, j4⟩, jp, ⟨j5, j6⟩, jl, jw, ju, jb, jx⟩ := J
  obtain ⟨o1, pw, o2, o3, o4, o5⟩ := ok
  have h120 := cs.1
  have s6 := cs.s6
  have s2 := cs.s2
  obtain ⟨b, nb, hb, Lb⟩ := li 0 (Nat.zero_le _)
  have Sb := sl 0 b (by decide) hb
  obtain ⟨nn, CEb⟩ := Sb.CE
  have b14 := Lb.1.1
  generalize hQ : 21 - P = Q at p2
  have s5Q : Sh5 h Q := by
    rcases hP with rfl | rfl
    · rw [← hQ]; exact cs.2.2.2.2.1.2
    · rw [← hQ]; exact cs.2.2.2.2.1.1
  refine bo2 (R := fun h1 m1 => (∃ e, AFT h h1 m1 own (fltG g e)) ∨ ∃ q, QW q (pP q.1) ∧ STG h h1 m1 own (strG g q)) ?_
  show wp (fX11_store (wI h (hI h)) 0) _
  unfold fX11_store
  rw [wp_bind, cs.gr cs.r2, wp_bind, cs.gr cs.r0, wp_bind, cs.gi, t1, wp_bind, cs.gr p2, wp_bind, s6.o, wp_bind]
  refine wp_mono (c_read (B := sB g) s6 s5Q (by omega) cs.2.2.1.2 o1 t2) (fun r hr => ?_)
  -- the reference
  obtain ⟨kb, hkb, e9, c2, c3, c4, c5, c6⟩ := jp
  have eb : (1 : Int32) - nI kb = nI (1 - kb) := by rcases (by omega : kb = 0 ∨ kb = 1) with rfl | rfl <;> decide
  generalize hm8 : up (up (up (up (up (up (up (up (up m 0 12 (nI (sT g))) 0 11 0) 0 13 0) 0 17 0) 0 18 (-1)) 0 26 0) 2 (1 - kb) 0) 3 (1 - kb) 0) 4 (1 - kb) 0 = m8
  have g8 : ∀ o, o ≠ 0 → o ≠ 2 → o ≠ 3 → o ≠ 4 → m8 o = m o := fun o z0 z2 z3 z4 => by rw [← hm8, up_r z4, up_r z3, up_r z2, up_r z0, up_r z0, up_r z0, up_r z0, up_r z0, up_r z0]
  have g80 : ∀ j, j ≠ 11 → j ≠ 12 → j ≠ 13 → j ≠ 17 → j ≠ 18 → j ≠ 26 → m8 0 j = m 0 j := fun j z1 z2 z3 z4 z5 z6 => by rw [← hm8, up_r (by decide), up_r (by decide), up_r (by decide), up_j z6, up_j z5, up_j z4, up_j z3, up_j z1, up_j z2]
  have z0 : ∀ j, up (up (up (up (up (up (up (up (up m 0 12 (nI (sT g))) 0 11 0) 0 13 0) 0 17 0) 0 18 (-1)) 0 26 0) 2 (1 - kb) 0) 3 (1 - kb) 0) 4 (1 - kb) 0 0 j = up (up (up (up (up (up m 0 12 (nI (sT g))) 0 11 0) 0 13 0) 0 17 0) 0 18 (-1)) 0 26 0 0 j := fun j => by rw [up_r (by decide), up_r (by decide), up_r (by decide)]
  have T8 : TXr m8 (sB g) (sT g) := ⟨by rw [← hm8, z0, up_j (show (12 : Nat) ≠ 26 by decide), up_j (show (12 : Nat) ≠ 18 by decide), up_j (show (12 : Nat) ≠ 17 by decide), up_j (show (12 : Nat) ≠ 13 by decide), up_j (show (12 : Nat) ≠ 11 by decide), up_at], o1, fun j hj => by rw [g8 10 (by decide) (by decide) (by decide) (by decide)]; exact j2 j hj, fun j hj => by rw [g8 11 (by decide) (by decide) (by decide) (by decide)]; exact jx j hj⟩
  have e13 : m8 0 13 = nI 0 := by rw [← hm8, z0, up_j (show (13 : Nat) ≠ 26 by decide), up_j (show (13 : Nat) ≠ 18 by decide), up_j (show (13 : Nat) ≠ 17 by decide), up_at]; rfl
  have e17 : m8 0 17 = 0 := by rw [← hm8, z0, up_j (show (17 : Nat) ≠ 26 by decide), up_j (show (17 : Nat) ≠ 18 by decide), up_at]
  have e18 : m8 0 18 = mI := by rw [← hm8, z0, up_j (show (18 : Nat) ≠ 26 by decide), up_at]; rfl
  have e26 : m8 0 26 = nI 0 := by rw [← hm8, z0, up_at]; rfl
  have e11 : m8 0 11 = 0 := by rw [← hm8, z0, up_j (show (11 : Nat) ≠ 26 by decide), up_j (show (11 : Nat) ≠ 18 by decide), up_j (show (11 : Nat) ≠ 17 by decide), up_j (show (11 : Nat) ≠ 13 by decide), up_at]
  have P8 : PLr m8 (1 - kb) Q0 0 := ⟨by rw [← hm8, up_r (by decide), up_r (by decide), up_at]; rfl, by rw [← hm8, up_r (by decide), up_at]; rfl, by rw [← hm8, up_at]; rfl, fun l hl => absurd hl (Nat.not_lt_zero _), fun p hp => absurd hp (Nat.not_lt_zero _), fun p s hp => absurd hp (Nat.not_lt_zero _)⟩
  have ra := r_readAll (k := 1 - kb) T8 e13 ⟨e26, fun i hi => absurd hi (Nat.not_lt_zero _)⟩ P8 e17 e18 (by omega)
  have rf : ∀ {X : Int32 × Mem → Prop}, wp (gX12_readAll m8 (nI (1 - kb))) (fun x9 => wp (if up (up x9 0 19 (x9 0 17)) 0 20 (up x9 0 19 (x9 0 17) 0 18) 0 19 ≤ 0 then (some (up (up (up x9 0 19 (x9 0 17)) 0 20 (up x9 0 19 (x9 0 17) 0 18)) 0 9 (nI (1 - kb)))).bind fun m13 => (gX12_startAnew m13).bind fun x14 => (rd x14 4 2 (nI (1 - kb))).bind fun x15 => some (x15, x14) else some ((-1 : Int32), up (up x9 0 19 (x9 0 17)) 0 20 (up x9 0 19 (x9 0 17) 0 18))) X) → wp (gX12_store m) X := fun {X} hX => by
    unfold gX12_store gX12_clearBank
    rw [wp_bind, wp_some, e9, eb, j1, wp_bind, wp_some, wp_bind, wp_some, wp_bind, wp_some, wp_bind, wp_some, wp_bind, wp_some, wp_bind, wp_some, wp_bind, wp_bind, w_wr (by omega) (by decide), wp_bind, w_wr (by omega) (by decide), wp_bind, w_wr (by omega) (by decide), wp_some, hm8, wp_bind]
    refine wp_mono hX (fun x9 h9 => ?_)
    rw [wp_bind, wp_some, wp_bind, wp_some]
    exact h9
  have fr9 : ∀ x9, FRr (1 - kb) m8 x9 → ∀ v w, (∀ o, o = 1 ∨ o = 10 ∨ o = 11 ∨ 16 ≤ o → up (up x9 0 19 v) 0 20 w o = m o) ∧ (∀ j, j = 9 ∨ j = 56 ∨ j = 57 → up (up x9 0 19 v) 0 20 w 0 j = m 0 j) ∧ up (up x9 0 19 v) 0 20 w 0 11 = 0 := fun x9 f v w => ⟨fun o ho => by rw [up_r (by omega), up_r (by omega), f.1 o ho, g8 o (by omega) (by omega) (by omega) (by omega)], fun j hj => by rw [up_j (by omega), up_j (by omega), f.2.1 j (by omega), g80 j (by omega) (by omega) (by omega) (by omega) (by omega) (by omega)], by rw [up_j (by decide), up_j (by decide), f.2.1 11 (by decide)]; exact e11⟩
  cases e : sAll (sB g) (sT g) (sT g + 1) (tok (sB g) (sT g) 0) N0 Q0 with
  | inl fe =>
    rw [e] at hr ra
    obtain ⟨hfe, m2, rfl, fr, q0, q1⟩ := hr
    have hfe1 := hfe.1
    have hfe4 := hfe.2.1
    have x1 : XX h (sR h 2 2 (some 1)) := XX.sR (by intro c hc; rw [s6.2.1] at hc; cases hc; rfl)
    have s61 := s6.x x1
    have x2 : XX (sR h 2 2 (some 1)) (sR (sR h 2 2 (some 1)) 2 4 (some Q)) := XX.sR (by intro c hc; rw [s61.2.1] at hc; cases hc; rfl)
    have cs2 := cs.x (x1.trans x2)
    obtain ⟨IC2, NF2⟩ := ic_flt (m' := up m2 0 1 0) (e := fe) I' o3 hP hQ.symm p1 (fun a z0 z2 z4 zq => by rw [up_r z0]; exact fr a z2 z4 zq) up_at (by rw [up_r (by decide)]; exact q0) (by rw [up_r (by decide)]; exact q1)
    rw [wp_bind, cs2.pi, wp_bind, cs2.gr cs2.r2, wp_bind, cs2.s6.g0, up_r (by decide), q0, wp_f (fun c => by have := (nI_z (by omega)).mp c; omega), wp_some]
    refine rf (wp_mono ra (fun x9 h9 => ?_))
    have h9' : FltR (1 - kb) m8 fe x9 := h9
    obtain ⟨k1, k2, k3⟩ := fr9 x9 h9'.1 (x9 0 17) (up x9 0 19 (x9 0 17) 0 18)
    have e19 : up (up x9 0 19 (x9 0 17)) 0 20 (up x9 0 19 (x9 0 17) 0 18) 0 19 = nI fe.1 := by rw [up_j (show (19 : Nat) ≠ 20 by decide), up_at]; exact h9'.2.1
    have e20 : up (up x9 0 19 (x9 0 17)) 0 20 (up x9 0 19 (x9 0 17) 0 18) 0 20 = nI fe.2 := by rw [up_at, up_j (show (18 : Nat) ≠ 19 by decide)]; exact h9'.2.2
    have bk : ∀ o j, o = 2 ∨ o = 3 ∨ o = 4 → j = kb → up (up x9 0 19 (x9 0 17)) 0 20 (up x9 0 19 (x9 0 17) 0 18) o j = m o j := fun o j ho hj => by
      rw [up_r (by omega), up_r (by omega), h9'.1.2.2.1 o j ho (by omega), ← hm8]
      rw [up_ne (Or.inr (by omega)), up_ne (Or.inr (by omega)), up_ne (Or.inr (by omega)), up_r (by omega), up_r (by omega), up_r (by omega), up_r (by omega), up_r (by omega), up_r (by omega)]
    have JJ : IR (up (up x9 0 19 (x9 0 17)) 0 20 (up x9 0 19 (x9 0 17) 0 18)) (fltG g fe) := by
      refine ⟨⟨k3, fun j hj => absurd hj (Nat.not_lt_zero _)⟩, ⟨e19, e20⟩, ⟨kb, hkb, by rw [k2 9 (by decide)]; exact e9, by rw [bk 2 kb (by decide) rfl]; exact c2, by rw [bk 3 kb (by decide) rfl]; exact c3, by rw [bk 4 kb (by decide) rfl]; exact c4, fun l hl => ?_, fun p hp => ?_⟩, ⟨by rw [k2 56 (by decide)]; exact j5, by rw [k2 57 (by decide)]; exact j6⟩, by rw [k1 1 (by decide)]; exact jl, fun i hi => ?_, fun i hi1 hi2 => ?_, fun i hi => ?_, fun j hj => by rw [k1 11 (by decide)]; exact jx j hj⟩
      · have l10 : l < 10 := by have := pw.2.1; have hl' : l < pL (sP g) := hl; omega
        rw [up_r (by decide), up_r (by decide), h9'.1.2.2.2.1 _ (by omega), g8 5 (by decide) (by decide) (by decide) (by decide)]; exact c5 l hl
      · have p6 : p < 6 := by have := pw.2.2.1; have hp' : p < pP (sP g) := hp; omega
        rw [up_r (by decide), up_r (by decide), up_r (by decide), up_r (by decide), h9'.1.2.2.2.2 6 _ (by decide) (by omega), h9'.1.2.2.2.2 7 _ (by decide) (by omega), g8 6 (by decide) (by decide) (by decide) (by decide), g8 7 (by decide) (by decide) (by decide) (by decide)]; exact c6 p hp
      · rw [k1 36 (by decide)]; exact jw i hi
      · rw [k1 36 (by decide)]; exact ju i hi1 hi2
      · rw [k1 38 (by decide), k1 37 (by decide)]; exact jb i hi
    rw [wp_f (by rw [e19]; exact fun c => by rw [z_le (by omega)] at c; omega), wp_some]
    exact ⟨rfl, Or.inl ⟨fe, JJ, ⟨Nat.zero_le _, pw, o2, o3, o4, o5⟩, own, ad, IC2, NF2, fun _ _ z => z, fun _ z => z, by show hN h ≤ _; omega, by show hZ h ≤ _; omega⟩⟩
  | inr a =>
    rw [e] at hr ra
    obtain ⟨wa, m2, rfl, fr, q0, q1, pl⟩ := hr
    obtain ⟨ta, Na, qa⟩ := a
    have w3 : QW qa (pP qa.1) := wa.2.2.1
    have pl' : PLc (sR (sR h 2 2 (some 1)) 2 4 (some Q)) m2 Q qa (pP qa.1) := pl
    have x1 : XX h (sR h 2 2 (some 1)) := XX.sR (by intro c hc; rw [s6.2.1] at hc; cases hc; rfl)
    have s61 := s6.x x1
    have x2 : XX (sR h 2 2 (some 1)) (sR (sR h 2 2 (some 1)) 2 4 (some Q)) := XX.sR (by intro c hc; rw [s61.2.1] at hc; cases hc; rfl)
    have cs2 := cs.x (x1.trans x2)
    have rr2 : ∀ a z, a ≠ 2 → hR (sR (sR h 2 2 (some 1)) 2 4 (some Q)) a z = hR h a z := fun a z ha => by rw [hR_s, if_neg (fun c => ha c.1), hR_s, if_neg (fun c => ha c.1)]
    generalize hh2 : sR (sR h 2 2 (some 1)) 2 4 (some Q) = h2 at cs2 rr2 pl' x2
    have xx2 : XX h h2 := x1.trans x2
    have n2 : hN h2 = hN h := by rw [← hh2]; rfl
    have zz2 : hZ h2 = hZ h := by rw [← hh2]; rfl
    have jj2 : ∀ a j, hJ h2 a j = hJ h a j := fun a j => by rw [← hh2]; rfl
    have p22 : hR h2 0 4 = some Q := by rw [rr2 0 4 (by decide)]; exact p2
    have p12 : hR h2 0 3 = some P := by rw [rr2 0 3 (by decide)]; exact p1
    rw [wp_bind, cs2.pi, wp_bind, cs2.gr cs2.r2, wp_bind, cs2.s6.g0, up_r (by decide), q0, wp_t rfl, wp_bind, cs2.gr p22, wp_bind, cs2.gr p12]
    have d4 : ∀ {mm : Mem} {X : Hp → Prop}, wp (pR (wI h2 mm) 11 0 4 P) X = X (wI (sR h2 0 4 (some P)) mm) := fun {mm X} => wp_eq (by unfold pR; rw [gO_ok (h := wI h2 mm) (show 0 < hN h2 by omega) cs2.2.1]; rfl)
    have x3 : XX h2 (sR h2 0 4 (some P)) := XX.sR (by intro c hc; rw [cs2.2.1] at hc; cases hc; rfl)
    have cs3 := cs2.x x3
    have d3 : ∀ {mm : Mem} {X : Hp → Prop}, wp (pR (wI (sR h2 0 4 (some P)) mm) 11 0 3 Q) X = X (wI (sR (sR h2 0 4 (some P)) 0 3 (some Q)) mm) := fun {mm X} => wp_eq (by unfold pR; rw [gO_ok (h := wI (sR h2 0 4 (some P)) mm) (show 0 < hN h2 by omega) cs3.2.1]; rfl)
    have x4 : XX (sR h2 0 4 (some P)) (sR (sR h2 0 4 (some P)) 0 3 (some Q)) := XX.sR (by intro c hc; rw [cs3.2.1] at hc; cases hc; rfl)
    have cs4 := cs3.x x4
    rw [wp_bind, d4, wp_bind, d3]
    have r43 : hR (sR (sR h2 0 4 (some P)) 0 3 (some Q)) 0 3 = some Q := by rw [hR_s, if_pos ⟨rfl, rfl⟩]
    have r44 : hR (sR (sR h2 0 4 (some P)) 0 3 (some Q)) 0 4 = some P := by rw [hR_s, if_neg (by omega), hR_s, if_pos ⟨rfl, rfl⟩]
    have rr4 : ∀ a z, a ≠ 2 → (a ≠ 0 ∨ (z ≠ 3 ∧ z ≠ 4)) → hR (sR (sR h2 0 4 (some P)) 0 3 (some Q)) a z = hR h a z := fun a z h1 h2 => by rw [hR_s, if_neg (by omega), hR_s, if_neg (by omega)]; exact rr2 a z h1
    have n4 : hN (sR (sR h2 0 4 (some P)) 0 3 (some Q)) = hN h := n2
    have zz4 : hZ (sR (sR h2 0 4 (some P)) 0 3 (some Q)) = hZ h := zz2
    have jj4 : ∀ a j, hJ (sR (sR h2 0 4 (some P)) 0 3 (some Q)) a j = hJ h a j := jj2
    have xx4 : XX h (sR (sR h2 0 4 (some P)) 0 3 (some Q)) := xx2.trans (x3.trans x4)
    have pl4 : PLc (sR (sR h2 0 4 (some P)) 0 3 (some Q)) m2 Q qa (pP qa.1) := ⟨(pl'.1.x x3).x x4, pl'.2⟩
    generalize hh4 : sR (sR h2 0 4 (some P)) 0 3 (some Q) = h4 at cs4 r43 r44 rr4 n4 zz4 jj4 xx4 pl4
    have s54 : Sh5 h4 Q := pl4.1
    have s24 := cs4.s2
    have bne := Sb.ne ow (a := 0) (by decide) (by decide) (by decide)
    unfold fX2_restart
    rw [wp_bind, cs4.gr cs4.r5, wp_bind, s24.o, wp_bind, wp_bind, s24.p0, wp_bind, s24.p1, wp_some, wp_bind, cs4.gr cs4.r5, wp_bind, s24.o, wp_bind]
    generalize hm3 : up (up (up m2 0 1 0) 18 0 0) 18 1 0 = m3
    have m3a : ∀ a, a ≠ 0 → a ≠ 18 → m3 a = m2 a := fun a z0 z18 => by rw [← hm3, up_r z18, up_r z18, up_r z0]
    have m30 : m3 0 1 = 0 := by rw [← hm3, up_r (by decide), up_r (by decide), up_at]
    have m318 : m3 18 0 = 0 ∧ m3 18 1 = 0 := ⟨by rw [← hm3, up_j (show (0 : Nat) ≠ 1 by decide), up_at], by rw [← hm3, up_at]⟩
    have rb4 : hR h4 19 0 = some b := by rw [rr4 19 0 (by decide) (Or.inl (by decide)), r19 0 (by decide)]; exact hb
    have pr4 : ∀ {X : Nat → Prop}, wp (fX2_present (wI h4 m3) 18) X = X b := fun {X} => cs4.present (i := 0) m318.1 (by decide) rb4
    have bn17 : ∀ a, a < 20 → ¬ (b ≤ a ∧ a ≤ b + 14) := fun a ha => Sb.ne ow (by omega) (by omega) (by omega)
    have CE4 : CE h4 b nn := by
      obtain ⟨c1, c2, ρ, c3, c4, c5⟩ := CEb
      have hb0 : b ≠ 0 ∧ b ≠ 2 := ⟨fun c => bn17 0 (by decide) (by omega), fun c => bn17 2 (by decide) (by omega)⟩
      exact ⟨c1, c2, ρ, by rw [rr4 b 7 hb0.2 (Or.inl hb0.1)]; exact c3, by omega, by rw [xx4.2.1 ρ c4]; exact c5⟩
    have s34 : Sh3 h4 b := Lb.1.x xx4
    have Q17 : Q + 4 < 20 := by omega
    rw [pr4, wp_bind, cs4.gr r43, wp_bind, s54.r6, wp_bind, s34.o, wp_bind]
    refine wp_mono (c_begin (S := qa.2) s34 CE4 (show Q + 4 < hN h4 by omega) s54.2.2.2.2.2.2 (bn17 (Q + 4) Q17) (fun j hj => by rw [m3a (Q + 4) (by omega) (by omega)]; exact pl4.2.2.2.2.2.2.2 j hj)) ?_
    rintro r ⟨m5, rfl, f5, L5⟩
    have bb : ∀ a, a = 37 ∨ a = 74 → ¬ (b ≤ a ∧ a ≤ b + 14) := fun a ha => Sb.ne ow (by omega) (by omega) (by omega)
    rw [wp_bind]
    refine wp_mono (Q := fun r => r = wI h4 (up (up m5 37 0 0) 37 1 0)) ?_ ?_
    · refine wp_for (κ := Unit) (fun i _ => (nI i, wI h4 (if i = 0 then m5 else if i = 1 then up m5 37 0 0 else up (up m5 37 0 0) 37 1 0))) 2 (fun _ _ => True) (fun i _ hi _ => ?_) (fun _ _ => ?_) 0 () (by decide) trivial (by decide)
      · unfold bX11_store_80
        simp only
        rw [wp_f (fun z => by have := (nI_leI (a := 2) (by decide) (by omega)).mp z; omega), wp_bind, cs4.gr cs4.r7, wp_bind, x_tZ0 (by omega) cs4.t37 hi (by decide), wp_bind, wp_some, wp_some, lq_l, show nI i + 1 = nI (i + 1) from i_add _ 1]
        refine ⟨(), ?_, trivial⟩
        rcases (by omega : i = 0 ∨ i = 1) with rfl | rfl
        · rfl
        · rfl
      · unfold bX11_store_80
        simp only
        rw [wp_t (show (2 : Int32) ≤ nI 2 by decide), wp_some, lq_r]
        rfl
    · rintro r rfl
      unfold fX0_clear
      rw [wp_bind, cs4.gr cs4.r13, wp_bind, cs4.s0.o, wp_bind, wp_bind, cs4.s0.z6 (Or.inl rfl), wp_some, wp_bind, cs4.gr r43, wp_bind, s54.g2]
      generalize hm6 : up (up (up m5 37 0 0) 37 1 0) 74 6 0 = m6
      have m6a : ∀ a, a ≠ 37 → a ≠ 74 → m6 a = m5 a := fun a z1 z2 => by rw [← hm6, up_r z2, up_r z1, up_r z1]
      have m674 : ∀ j, j ≠ 6 → m6 74 j = m5 74 j := fun j hj => by rw [← hm6, up_j hj, up_r (by decide), up_r (by decide)]
      have e37 : ∀ i, i < 2 → m6 37 i = 0 := fun i hi => by
        rcases (by omega : i = 0 ∨ i = 1) with rfl | rfl
        · rw [← hm6, up_r (by decide), up_j (show (0 : Nat) ≠ 1 by decide), up_at]
        · rw [← hm6, up_r (by decide), up_at]
      have PL6 : PLc h4 m6 Q qa (pP qa.1) := pl4.congr (fun a z1 z2 => by rw [m6a a (by omega) (by omega), f5 a (bn17 a (by omega)), m3a a (by omega) (by omega)])
      have L6 : LX h4 m6 b (noA qa.2) nn := L5.congr (fun a z1 z2 => m6a a (fun c => bb 37 (Or.inl rfl) (by omega)) (fun c => bb 74 (Or.inr rfl) (by omega)))
      have base : ∀ a, ¬ a ≤ 18 → a ≠ 37 → ¬ (b ≤ a ∧ a ≤ b + 14) → (a ≠ 74 → m6 a = hI h a) ∧ (a = 74 → ∀ j, j ≠ 6 → m6 a j = hI h a j) := fun a z1 z2 z3 => by
        have m5a : m5 a = hI h a := by rw [f5 a z3, m3a a (by omega) (by omega), fr a (by omega) (by omega) (by omega)]
        exact ⟨fun z4 => by rw [m6a a z2 z4]; exact m5a, fun z4 j hj => by subst z4; rw [m674 j hj, m5a]⟩
      have low : ∀ a j, a ≠ 18 → a < 19 → (a ≠ 0) → m6 a j = m2 a j := fun a j z1 z2 z3 => by rw [m6a a (by omega) (by omega), f5 a (bn17 a (by omega)), m3a a z3 z1]
      obtain ⟨IC6, K17⟩ := ic_str (q := qa) (P := P) (Q := Q) (b := b) (n := nn) (m' := m6) (h2 := h4) I' w3 hP hQ.symm xx4 n4 jj4 rr4 r43 r44 hb base (by rw [m6a 0 (by decide) (by decide), f5 0 (bn17 0 (by decide))]; exact m30) (by rw [low 2 0 (by decide) (by decide) (by decide)]; exact q0) (by rw [low 2 1 (by decide) (by decide) (by decide)]; exact q1) ⟨by rw [m6a 18 (by decide) (by decide), f5 18 (bn17 18 (by decide))]; exact m318.1, by rw [m6a 18 (by decide) (by decide), f5 18 (bn17 18 (by decide))]; exact m318.2⟩ e37 PL6 L6
      rw [PL6.2.2.2.1, wp_some]
      refine rf (wp_mono ra (fun x9 h9 => ?_))
      have h9' : OkR (1 - kb) m8 (sB g) (sT g) ta Na qa (pP qa.1) x9 := h9
      obtain ⟨f9, R9⟩ := h9'
      obtain ⟨k1, k2, k3⟩ := fr9 x9 f9 (x9 0 17) (up x9 0 19 (x9 0 17) 0 18)
      have e19 : up (up x9 0 19 (x9 0 17)) 0 20 (up x9 0 19 (x9 0 17) 0 18) 0 19 = 0 := by rw [up_j (show (19 : Nat) ≠ 20 by decide), up_at]; exact R9.2.2.2.2.1
      have e20 : up (up x9 0 19 (x9 0 17)) 0 20 (up x9 0 19 (x9 0 17) 0 18) 0 20 = mI := by rw [up_at, up_j (show (18 : Nat) ≠ 19 by decide)]; exact R9.2.2.2.2.2.1
      have hc : ∀ o, o ≠ 0 → up (up (up x9 0 19 (x9 0 17)) 0 20 (up x9 0 19 (x9 0 17) 0 18)) 0 9 (nI (1 - kb)) o = x9 o := fun o ho => by rw [up_r ho, up_r ho, up_r ho]
      obtain ⟨l1, l2, l3, l4, l5, l6⟩ := R9.2.2.2.1
      rw [wp_t (by rw [e19]; decide), wp_bind, wp_some, wp_bind]
      have jl9 : LF (fun _ => False) (up (up (up x9 0 19 (x9 0 17)) 0 20 (up x9 0 19 (x9 0 17) 0 18)) 0 9 (nI (1 - kb)) 1) (sH g (sA g)) := by
        rw [up_r (by decide), k1 1 (by decide)]
        exact ⟨jl.1, jl.2.1, jl.2.2.1, jl.2.2.2.1, jl.2.2.2.2.1, fun j hj => hj.elim⟩
      refine wp_mono (r_startAnew (q := qa) (k := 1 - kb) jl9 (by omega) up_at (fun j hj => pV_lt (qw_pw w3) hj) (fun j hj => ?_)) ?_
      · rw [hc 8 (by decide), hc 9 (by decide)]
        have := l6 (j / 12) (j % 12) hj.1 hj.2
        rw [show 12 * (j / 12) + j % 12 = j by omega] at this
        exact this
      · rintro x14 ⟨s1, s3, ⟨s4, s5⟩, s6', s7⟩
        have l34 : x14 4 (1 - kb) = nI (pP qa.1) := by rw [s1 4 (by decide) (by decide) (by decide), hc 4 (by decide)]; exact l3
        rw [wp_bind, w_rd (by omega) (by decide), l34, wp_some]
        have JJ : IR x14 (strG g qa) := by
          refine ⟨⟨?_, fun j hj => absurd hj (Nat.not_lt_zero _)⟩, ⟨?_, ?_⟩, ⟨1 - kb, by omega, ?_, ?_, ?_, l34, ?_, ?_⟩, ⟨s4, s5⟩, s7, fun i hi => absurd hi (Nat.not_lt_zero _), fun i h1 h2 => ?_, fun i hi => ⟨fun _ => s6' i hi, fun B hB => by cases hB⟩, fun j hj => ?_⟩
          · rw [s3 11 (by decide) (by decide), up_j (by decide)]; exact k3
          · rw [s3 19 (by decide) (by decide), up_j (by decide)]; exact e19
          · rw [s3 20 (by decide) (by decide), up_j (by decide)]; exact e20
          · rw [s3 9 (by decide) (by decide), up_at]
          · rw [s1 2 (by decide) (by decide) (by decide), hc 2 (by decide)]; exact l1
          · rw [s1 3 (by decide) (by decide) (by decide), hc 3 (by decide)]; exact l2
          · rw [s1 5 (by decide) (by decide) (by decide), hc 5 (by decide)]; exact l4
          · rw [s1 6 (by decide) (by decide) (by decide), hc 6 (by decide), s1 7 (by decide) (by decide) (by decide), hc 7 (by decide)]; exact l5
          · have h1' : 0 < i := h1
            have h2' : i ≤ 0 := h2
            omega
          · rw [s1 11 (by decide) (by decide) (by decide), up_r (by decide), k1 11 (by decide)]; exact jx j hj
        refine ⟨rfl, Or.inr ⟨qa, w3, ⟨JJ, strG_ok w3, ad, IC6, xx4, K17, fun a z1 z2 j z3 => ?_, ?_, by show hR h4 74 8 = _; rw [rr4 74 8 (by decide) (Or.inl (by decide))], n4, zz4⟩⟩⟩
        · rw [wI_I]
          by_cases z : a = 74
          · subst z
            exact (base 74 (by decide) (by decide) (bb 74 (Or.inr rfl))).2 rfl j (by omega)
          · rw [(base a (by omega) (by omega) (fun c => by have := Sb.1 a c.1 c.2; have := ow.1 a (by omega) (by omega) (by omega); omega)).1 z]
        · rw [wI_I, ← hm6, up_at]
end ST2

/-! the class looks into a set -/
section CLK
variable {h : Hp} {own : Nat → Nat} {Pl : PD} {T : Nat → Nat} {X P c : Nat}
theorem sw_st (pw : PW Pl) (sw : SW Pl T) {m : Mem} (hm : ∀ j, j < 72 → m c j = nI (T j)) : ∀ q j, q < pP Pl → j < pN Pl q → m c (12 * q + j) = nI (cS T (12 * q + j)) ∧ cS T (12 * q + j) / 16 ≤ 8 ∧ cS T (12 * q + j) % 16 < 10 := by
  intro q j hq hj
  have p6 := pw.2.2.1
  have l10 := pw.2.1
  have n12 := (pw.2.2.2.2 q hq).2.2
  have lt : 12 * q + j < 72 := by omega
  rw [cS_lt lt]
  have v : pV Pl (12 * q + j) := by
    have e1 : (12 * q + j) / 12 = q := by omega
    have e2 : (12 * q + j) % 12 = j := by omega
    unfold pV
    rw [e1, e2]; exact ⟨hq, hj⟩
  obtain ⟨s1, s2, s3⟩ := sw _ v
  refine ⟨hm _ lt, s1, ?_⟩
  by_cases z : T (12 * q + j) / 16 ≤ 4
  · have := s2 z; omega
  · have := s3 (by omega); omega
theorem kn_csp {S : Nat → Nat} {m : Mem} {a : Nat} (h : CSP Pl S X m a) : KN Pl S X (m a 0) (m a 2) (m a 1) (m a 3) (m a 4) := by
  obtain ⟨c1, c2, c3, c4, c5⟩ := h
  exact ⟨c1, c2, c3, fun q => ⟨(c4 (oc_1.mp q)).2.1, (c4 (oc_1.mp q)).1⟩⟩
/-- a search in the rows: what it leaves -/
theorem c_se {h1 : Hp} {own' : Nat → Nat} {a turn : Nat} (n0 : ∀ x, hN h1 ≤ x → own' x = 0) (r8 : hR h1 74 8 = some a) (a120 : 120 ≤ a) (oa : ∀ x, a ≤ x → x ≤ a + 11 → own' x = 17) (s8 : Sh8 h1 a) (sdt : SDT (hI h1) a turn) (pc1 : PC h1 P Pl) (hP : P = 8 ∨ P = 13) (pw : PW Pl) (hc : c < 81 ∧ hS h1 c = .inr (.int, 72)) (sw : SW Pl T) (hT : ∀ j, j < 72 → hI h1 c j = nI (T j)) (vX : vst Pl X) : wp (fX8_search h1 a P c (nI X)) (fun h2 => FN h1 h2 own' own' ∧ hR h2 74 8 = some a ∧ Sh8 h2 a ∧ SDS h2 own' ∧ (∀ x j, x < 120 → hI h2 x j = hI h1 x j) ∧ CSP Pl (cS T) X (hI h2) a) := by
  have l8 := s8.1
  show wp (fX8_search (wI h1 (hI h1)) a P c (nI X)) _
  refine wp_mono (c_search (S := cS T) s8 pc1 pw ⟨by omega, hc.2⟩ (sw_st pw sw hT) (by omega) (by omega) sdt vX.2.1) ?_
  rintro r ⟨J, m', turn', rfl, hJ', hm', sdt', csp⟩
  have xx : XX h1 (wI ((sR (sR h1 a 6 (some P)) a 7 (some c)).1, (sR (sR h1 a 6 (some P)) a 7 (some c)).2.1, J, (sR (sR h1 a 6 (some P)) a 7 (some c)).2.2.2) m') := by
    show XX h1 (sR (sR h1 a 6 (some P)) a 7 (some c))
    refine XX.trans (XX.sR fun c hc => ?_) (XX.sR fun c hc => ?_)
    · rw [s8.2.1] at hc; cases hc; rfl
    · have hc : hS h1 a = .inl c := hc
      rw [s8.2.1] at hc; cases hc; rfl
  have s8' := s8.x xx
  have hr : ∀ y q, y ≠ a → hR (wI ((sR (sR h1 a 6 (some P)) a 7 (some c)).1, (sR (sR h1 a 6 (some P)) a 7 (some c)).2.1, J, (sR (sR h1 a 6 (some P)) a 7 (some c)).2.2.2) m') y q = hR h1 y q := fun y q hy => by
    show hR (sR (sR h1 a 6 (some P)) a 7 (some c)) y q = _
    rw [hR_s, if_neg (fun z => hy z.1), hR_s, if_neg (fun z => hy z.1)]
  have hj : ∀ y, y ≠ a + 2 → y ≠ a + 3 → ∀ j, hJ (wI ((sR (sR h1 a 6 (some P)) a 7 (some c)).1, (sR (sR h1 a 6 (some P)) a 7 (some c)).2.1, J, (sR (sR h1 a 6 (some P)) a 7 (some c)).2.2.2) m') y j = hJ h1 y j := fun y y1 y2 j => by
    show J y j = h1.2.2.1 y j
    rw [hJ' y y1 y2]
  have n2 : hN (wI ((sR (sR h1 a 6 (some P)) a 7 (some c)).1, (sR (sR h1 a 6 (some P)) a 7 (some c)).2.1, J, (sR (sR h1 a 6 (some P)) a 7 (some c)).2.2.2) m') = hN h1 := rfl
  have z2 : hZ (wI ((sR (sR h1 a 6 (some P)) a 7 (some c)).1, (sR (sR h1 a 6 (some P)) a 7 (some c)).2.1, J, (sR (sR h1 a 6 (some P)) a 7 (some c)).2.2.2) m') = hZ h1 := rfl
  have i2 : hI (wI ((sR (sR h1 a 6 (some P)) a 7 (some c)).1, (sR (sR h1 a 6 (some P)) a 7 (some c)).2.1, J, (sR (sR h1 a 6 (some P)) a 7 (some c)).2.2.2) m') = m' := rfl
  generalize wI ((sR (sR h1 a 6 (some P)) a 7 (some c)).1, (sR (sR h1 a 6 (some P)) a 7 (some c)).2.1, J, (sR (sR h1 a 6 (some P)) a 7 (some c)).2.2.2) m' = h2 at *
  have r82 : hR h2 74 8 = some a := by rw [hr 74 8 (by omega)]; exact r8
  have eqs : sd h2 = sd h1 ∧ sz h2 = sz h1 := by
    unfold sd sz
    rw [r82, r8]; exact ⟨rfl, rfl⟩
  have f2 : FN h1 h2 own' own' := by
    refine ⟨xx, fun _ _ => rfl, fun y y1 y2 => by omega, fun y hy => n0 y (by omega), fun y hy ho _ j => ?_, fun y hy ho j => ?_, fun y q hy ho _ => ?_, by rw [n2, eqs.1]; omega, by rw [z2, eqs.2]; omega⟩
    · rw [i2, hm' y ?_]
      rcases Nat.lt_or_ge y a with z | z
      · exact Or.inl z
      · refine Or.inr (Nat.lt_of_not_le fun q => ho (oa y z q))
    · exact hj y (fun z => ho (oa y (by omega) (by omega))) (fun z => ho (oa y (by omega) (by omega))) j
    · exact hr y q (fun z => ho (oa y (by omega) (by omega)))
  refine ⟨f2, r82, s8', Or.inr ⟨a, turn', r82, a120, oa, s8', by rw [i2]; exact sdt'⟩, fun y j hy => ?_, by rw [i2]; exact csp⟩
  rw [i2, hm' y (Or.inl (by omega))]
theorem c_look (s : Sh0 h 74) (o : OWN own (hN h)) (N120 : 120 ≤ hN h) (f : FZ h own Pl T) (pc : PC h P Pl) (hP : P = 8 ∨ P = 13) (pw : PW Pl) (sw : SW Pl T) (vX : vst Pl X) : wp (fX0_lookInto h 74 P (nI X)) (fun h' => ∃ own', FN h h' own own' ∧ FZ h' own' Pl T ∧ KN Pl (cS T) X (hI h' 79 X) (hI h' 75 X) (hI h' 76 X) (hI h' 77 X) (hI h' 78 X) ∧ hI h' 74 7 = nI X) := by
  obtain ⟨sd, f1, f2, f3, f4⟩ := f
  have X64 := vX.1
  have t80 : hS h 80 = .inr (.int, 72) := s.2.2.2.2.2.2.2.2
  unfold fX0_lookInto
  rw [wp_bind]
  show wp (gO (wI h (hI h)) 0 74) _
  rw [s.o, wp_bind]
  refine wp_mono (c_ready s o N120 sd) ?_
  rintro ⟨a, h1⟩ ⟨own', turn, f, r8, a120, oa, s8, sdt, i120, _⟩
  change FN h h1 own own' at f
  change hR h1 74 8 = some a at r8
  change 120 ≤ a at a120
  change ∀ x, a ≤ x → x ≤ a + 11 → own' x = 17 at oa
  change Sh8 h1 a at s8
  change SDT (hI h1) a turn at sdt
  change ∀ x j, x < 120 → hI h1 x j = hI h x j at i120
  have x1 := f.1
  have s01 := s.x x1
  have nl := x1.1
  have pc1 : PC h1 P Pl := PC.congr (h := h) (m := hI h) (m' := hI h1) pc x1 (fun y y1 y2 => funext fun j => i120 y j (by omega))
  show wp ((gR (wI h1 (hI h1)) 0 74 5).bind _) _
  rw [wp_bind, s01.r5, wp_bind]
  show wp (gO (wI h1 (hI h1)) 8 a) _
  rw [s8.o, wp_bind]
  refine wp_mono (c_se (c := 74 + 6) f.2.2.2.1 r8 a120 oa s8 sdt pc1 hP pw ⟨by decide, by rw [x1.2.1 (74 + 6) (by omega)]; exact t80⟩ sw (fun j hj => by rw [i120 (74 + 6) j (by decide)]; exact f2 j hj) vX) ?_
  rintro h2 ⟨g1, g2, g3, g4, g5, g6⟩
  have s02 := s01.x g1.1
  have l2 := g3.1
  show wp ((pI (wI h2 (hI h2)) 0 74 7 (nI X)).bind _) _
  rw [wp_bind, s02.p7, wp_bind, s02.r4, wp_bind, g3.g0, up_r (show a ≠ 74 by omega), wp_bind, s02.t4 X64]
  rw [wp_bind, s02.r0, wp_bind, g3.g2, up_r (show a ≠ 74 + 5 by omega), up_r (show a ≠ 74 by omega), wp_bind, s02.t0 X64]
  rw [wp_bind, s02.r1, wp_bind, g3.g1, up_r (show a ≠ 74 + 1 by omega), up_r (show a ≠ 74 + 5 by omega), up_r (show a ≠ 74 by omega), wp_bind, s02.t1 X64]
  rw [wp_bind, s02.r2, wp_bind, g3.g3, up_r (show a ≠ 74 + 2 by omega), up_r (show a ≠ 74 + 1 by omega), up_r (show a ≠ 74 + 5 by omega), up_r (show a ≠ 74 by omega), wp_bind, s02.t2 X64]
  rw [wp_bind, s02.r3, wp_bind, g3.g4, up_r (show a ≠ 74 + 3 by omega), up_r (show a ≠ 74 + 2 by omega), up_r (show a ≠ 74 + 1 by omega), up_r (show a ≠ 74 + 5 by omega), up_r (show a ≠ 74 by omega), wp_bind, s02.t3 X64, wp_some]
  have kn := kn_csp g6
  generalize hI h2 a 0 = w0 at *
  generalize hI h2 a 1 = w1 at *
  generalize hI h2 a 2 = w2 at *
  generalize hI h2 a 3 = w3 at *
  generalize hI h2 a 4 = w4 at *
  generalize hk : up (up (up (up (up (up (hI h2) 74 7 (nI X)) (74 + 5) X w0) (74 + 1) X w2) (74 + 2) X w1) (74 + 3) X w3) (74 + 4) X w4 = k
  have k74 : ∀ j, j ≠ 7 → k 74 j = hI h 74 j := fun j hj => by
    rw [← hk, up_r (by decide), up_r (by decide), up_r (by decide), up_r (by decide), up_r (by decide), up_ne (Or.inr hj), g5 74 j (by decide), i120 74 j (by decide)]
  have k747 : k 74 7 = nI X := by
    rw [← hk, up_r (by decide), up_r (by decide), up_r (by decide), up_r (by decide), up_r (by decide), up_at]
  have k79 : ∀ j, k 79 j = if j = X then w0 else hI h 79 j := fun j => by
    rw [← hk, up_r (by decide), up_r (by decide), up_r (by decide), up_r (by decide)]
    show up _ 79 X w0 79 j = _
    rw [up_a, up_r (by decide), g5 79 j (by decide), i120 79 j (by decide)]
  have k75 : ∀ j, k 75 j = if j = X then w2 else hI h 75 j := fun j => by
    rw [← hk, up_r (by decide), up_r (by decide), up_r (by decide)]
    show up _ 75 X w2 75 j = _
    rw [up_a, up_r (by decide), up_r (by decide), g5 75 j (by decide), i120 75 j (by decide)]
  have k76 : ∀ j, k 76 j = if j = X then w1 else hI h 76 j := fun j => by
    rw [← hk, up_r (by decide), up_r (by decide)]
    show up _ 76 X w1 76 j = _
    rw [up_a, up_r (by decide), up_r (by decide), up_r (by decide), g5 76 j (by decide), i120 76 j (by decide)]
  have k77 : ∀ j, k 77 j = if j = X then w3 else hI h 77 j := fun j => by
    rw [← hk, up_r (by decide)]
    show up _ 77 X w3 77 j = _
    rw [up_a, up_r (by decide), up_r (by decide), up_r (by decide), up_r (by decide), g5 77 j (by decide), i120 77 j (by decide)]
  have k78 : ∀ j, k 78 j = if j = X then w4 else hI h 78 j := fun j => by
    rw [← hk]
    show up _ 78 X w4 78 j = _
    rw [up_a, up_r (by decide), up_r (by decide), up_r (by decide), up_r (by decide), up_r (by decide), g5 78 j (by decide), i120 78 j (by decide)]
  have ko : ∀ x, ¬ (74 ≤ x ∧ x ≤ 79) → k x = hI h2 x := fun x hx => by
    rw [← hk, up_r (by omega), up_r (by omega), up_r (by omega), up_r (by omega), up_r (by omega), up_r (by omega)]
  have fk : FN h2 (wI h2 k) own' own' := fn_w g1.2.2.2.1 (fun x hx => ko x (by omega))
  have knX : KN Pl (cS T) X (k 79 X) (k 75 X) (k 76 X) (k 77 X) (k 78 X) := by
    rw [k79, k75, k76, k77, k78, if_pos rfl, if_pos rfl, if_pos rfl, if_pos rfl, if_pos rfl]; exact kn
  refine ⟨own', (f.tr g1).tr fk, ⟨sds_w g4 (fun x hx => ko x (by omega)), ?_, fun j hj => ?_, fun Y vY => ?_, fun Y vY hl => ⟨a, g2, ?_⟩⟩, knX, k747⟩
  · show k 74 6 = 1
    rw [k74 6 (by decide)]; exact f1
  · show k 80 j = _
    rw [ko 80 (by decide), g5 80 j (by decide), i120 80 j (by decide)]; exact f2 j hj
  · show k 79 Y = 3 ∨ KN Pl (cS T) Y (k 79 Y) (k 75 Y) (k 76 Y) (k 77 Y) (k 78 Y)
    by_cases z : Y = X
    · rw [z]; exact Or.inr knX
    · rw [k79, k75, k76, k77, k78, if_neg z, if_neg z, if_neg z, if_neg z, if_neg z]; exact f3 Y vY
  · have hl : k 74 7 = nI Y := hl
    have Y64 := vY.1
    rw [k747, i_eq (by omega) (by omega)] at hl
    rw [← hl]
    exact csp_k g6 (fun j => by show k a j = _; rw [ko a (by omega)]) (fun j => by show k (a + 1) j = _; rw [ko (a + 1) (by omega)])
theorem c_out (s : Sh0 h 74) (o : OWN own (hN h)) (N120 : 120 ≤ hN h) (f : FI h own Pl) (pc : PC h P Pl) (hP : P = 8 ∨ P = 13) (pw : PW Pl) (sw : SW Pl T) (hc : c < hN h ∧ hS h c = .inr (.int, 72)) (c74 : ¬ (74 ≤ c ∧ c ≤ 80)) (hT : ∀ j, j < 72 → hI h c j = nI (T j) ∧ T j < 160) (vX : vst Pl X) : wp (fX0_outcomeOf h 74 P c (nI X)) (fun r => ∃ own', FN h r.2 own own' ∧ FZ r.2 own' Pl T ∧ KN Pl (cS T) X (hI r.2 79 X) (hI r.2 75 X) (hI r.2 76 X) (hI r.2 77 X) (hI r.2 78 X) ∧ r.1 = nI (oc Pl (cS T) X)) := by
  have X64 := vX.1
  unfold fX0_outcomeOf
  rw [wp_bind]
  show wp (gO (wI h (hI h)) 0 74) _
  rw [s.o, wp_bind]
  refine wp_mono (c_fresh s f o.2.2 hc c74 hT) ?_
  rintro h1 ⟨f1, z1⟩
  have s1 := s.x f1.1
  have nl := f1.1.1
  have o1 : OWN own (hN h1) := ⟨o.1, o.2.1, f1.2.2.2.1⟩
  have pc1 : PC h1 P Pl := PC.congr (h := h) (m := hI h) (m' := hI h1) pc f1.1 (fun y y1 y2 => funext fun j => f1.2.2.2.2.1 y (by omega) (by rw [o.1 y (by omega) (by omega) (by omega)]; decide) (by omega) j)
  show wp ((gR (wI h1 (hI h1)) 0 74 4).bind _) _
  rw [wp_bind, s1.r4, wp_bind]
  show wp (lI (wI h1 (hI h1)) .int (74 + 5) (nI X)) _
  rw [s1.l4 X64]
  have last : ∀ h2 own', FN h1 h2 own own' → FZ h2 own' Pl T → KN Pl (cS T) X (hI h2 79 X) (hI h2 75 X) (hI h2 76 X) (hI h2 77 X) (hI h2 78 X) → wp (jX0_outcomeOf_21 74 (nI X) h2) (fun r => ∃ own', FN h r.2 own own' ∧ FZ r.2 own' Pl T ∧ KN Pl (cS T) X (hI r.2 79 X) (hI r.2 75 X) (hI r.2 76 X) (hI r.2 77 X) (hI r.2 78 X) ∧ r.1 = nI (oc Pl (cS T) X)) := fun h2 own' f2 z2 k2 => by
    have s2 := s1.x f2.1
    unfold jX0_outcomeOf_21
    show wp ((gR (wI h2 (hI h2)) 0 74 4).bind _) _
    rw [wp_bind, s2.r4, wp_bind]
    show wp (lI (wI h2 (hI h2)) .int (74 + 5) (nI X)) _
    rw [s2.l4 X64, wp_some]
    exact ⟨own', f1.tr f2, z2, k2, k2.1⟩
  show wp (if hI h1 79 X = 3 then _ else _) _
  by_cases z : hI h1 79 X = 3
  · rw [wp_t z, wp_bind]
    show wp (gO (wI h1 (hI h1)) 0 74) _
    rw [s1.o, wp_bind]
    refine wp_mono (c_look s1 o1 (by omega) z1 pc1 hP pw sw vX) ?_
    rintro h2 ⟨own', g1, g2, g3, g4⟩
    exact last h2 own' g1 g2 g3
  · rw [wp_f z]
    exact last h1 own (FN.rfl' f1.2.2.2.1) z1 ((z1.2.2.2.1 X vX).resolve_left z)
end CLK

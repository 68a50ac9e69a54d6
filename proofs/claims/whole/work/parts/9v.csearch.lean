/-! the class's search -/
section CSR
variable {h : Hp} {m : Mem} {a b c turn k : Nat} {v : Option Nat} {Pl : PD} {S : Nat → Nat} {X : Nat}
theorem sh8_s (hk : k = 6 ∨ k = 7) (s : Sh8 h a) : Sh8 (sR h a k v) a := by
  obtain ⟨s1, s2, ⟨a1, b1⟩, ⟨a2, b2⟩, ⟨a3, b3⟩, ⟨a4, b4⟩, ⟨a5, b5⟩, ⟨a6, b6⟩, ⟨a7, b7⟩, ⟨a8, b8⟩, a9, c1, c2, ⟨c3, c4⟩, c5, c6⟩ := s
  refine ⟨s1, s2, ⟨?_, b1⟩, ⟨?_, b2⟩, ⟨?_, b3⟩, ⟨?_, b4⟩, ⟨?_, b5⟩, ⟨?_, b6⟩, ⟨?_, b7⟩, ⟨?_, b8⟩, ?_, c1, c2, ⟨?_, c4⟩, ?_, c6⟩
  · rw [hR_s, if_neg (by omega)]; exact a1
  · rw [hR_s, if_neg (by omega)]; exact a2
  · rw [hR_s, if_neg (by omega)]; exact a3
  · rw [hR_s, if_neg (by omega)]; exact a4
  · rw [hR_s, if_neg (by omega)]; exact a5
  · rw [hR_s, if_neg (by omega)]; exact a6
  · rw [hR_s, if_neg (by omega)]; exact a7
  · rw [hR_s, if_neg (by omega)]; exact a8
  · rw [hR_s, if_neg (by omega)]; exact a9
  · rw [hR_s, if_neg (by omega)]; exact c3
  · rw [hR_s, if_neg (by omega)]; exact c5
theorem sh5_s (hb : b ≠ a) (s : Sh5 h b) : Sh5 (sR h a k v) b := by
  obtain ⟨s1, s2, ⟨a1, b1⟩, ⟨a2, b2⟩, ⟨a3, b3⟩, a4, b4⟩ := s
  refine ⟨s1, s2, ⟨?_, b1⟩, ⟨?_, b2⟩, ⟨?_, b3⟩, ?_, b4⟩
  · rw [hR_s, if_neg (by omega)]; exact a1
  · rw [hR_s, if_neg (by omega)]; exact a2
  · rw [hR_s, if_neg (by omega)]; exact a3
  · rw [hR_s, if_neg (by omega)]; exact a4
theorem stk_00 : ¬ stk Pl S X M00 := by
  rintro ⟨t, _, _, b, _, ⟨_, q, _, hw, _⟩, _⟩
  rcases hw with ⟨_, z⟩ | ⟨_, z⟩
  · exact z rfl
  · exact z rfl
theorem mok_00 : MOK Pl X M00 := by
  refine ⟨fun p => ⟨Nat.zero_le _, fun z => absurd rfl z⟩, fun q z => absurd rfl z, fun q _ _ => rfl, fun l => ⟨Nat.zero_le _, by show 0 < 64; decide, fun z => absurd z (by show ¬ (0 : Nat) = 1; decide)⟩, fun l r z => ?_, fun t q _ _ z => ?_, fun t q r z => ?_⟩
  · have : (0 : Nat).testBit r = true := z
    rw [Nat.zero_testBit] at this
    cases this
  · have : (0 : Nat) = t + 1 := z.2.1
    omega
  · have : (0 : Nat) = t + 1 := z.2.1
    omega
def Z00 : SS := (3, 0, fun _ => M00, fun _ => 0)
theorem nw_00 : nwM Z00 M00 := ⟨rfl, fun ⟨j, z, _⟩ => absurd z (Nat.not_lt_zero _)⟩
theorem add_00 : addM Pl S X Z00 M00 0 = (3, 1, sbf (fun _ => M00) 0 M00, sbf (fun _ => 0) 0 0) := by
  rw [addM_new nw_00 (by show (0 : Nat) ≠ 4000; decide), ci_f stk_00]; rfl
theorem si_00 : SI Pl S X (addM Pl S X Z00 M00 0) := by
  rw [add_00]
  have e : ∀ j, sbf (fun _ => M00) 0 M00 j = M00 := fun j => by unfold sbf; split <;> rfl
  refine ⟨Or.inr (Or.inr rfl), by show 1 ≤ 4000; decide, fun j _ => ?_, fun j _ _ => ?_, fun z => absurd z (by show ¬ (3 : Nat) = 1; decide), fun _ => ?_, fun j j0 hj => ?_⟩
  · show MOK Pl X (sbf (fun _ => M00) 0 M00 j) ∧ MOL (sbf (fun _ => M00) 0 M00 j)
    rw [e]; exact ⟨mok_00, fun _ _ => ⟨rfl, rfl⟩⟩
  · show ¬ stk Pl S X (sbf (fun _ => M00) 0 M00 j)
    rw [e]; exact stk_00
  · show dep (sbf (fun _ => M00) 0 M00 0) 6 = 0
    rw [e]; rfl
  · have hj : j < 1 := hj
    omega
/-- what a search of the class leaves -/
def CSP (Pl : PD) (S : Nat → Nat) (X : Nat) (m' : Mem) (a : Nat) : Prop := m' a 0 = nI (ci (zO (srch Pl S X) = 3) 0 (zO (srch Pl S X))) ∧ m' a 1 = nI (zN (srch Pl S X)) ∧ SI Pl S X (srch Pl S X) ∧ (zO (srch Pl S X) = 1 → TLD Pl S X m' a (srch Pl S X)) ∧ (zO (srch Pl S X) ≠ 1 → m' a 2 = 0 ∧ m' a 3 = 0 ∧ m' a 4 = 0)
theorem c_search (s : Sh8 h a) (pc : PC (wI h m) b Pl) (pw : PW Pl) (hcS : c < hN h ∧ hS h c = .inr (.int, 72)) (hst : ∀ q j, q < pP Pl → j < pN Pl q → m c (12 * q + j) = nI (S (12 * q + j)) ∧ S (12 * q + j) / 16 ≤ 8 ∧ S (12 * q + j) % 16 < 10) (hb : b + 4 < a ∨ a + 11 < b) (hc : c < a ∨ a + 11 < c) (d : SDT m a turn) (hX : ∀ t, X.testBit t = true → t < pP Pl) : wp (fX8_search (wI h m) a b c (nI X)) (fun r => ∃ J m' turn', r = wI ((sR (sR h a 6 (some b)) a 7 (some c)).1, (sR (sR h a 6 (some b)) a 7 (some c)).2.1, J, (sR (sR h a 6 (some b)) a 7 (some c)).2.2.2) m' ∧ (∀ o, o ≠ a + 2 → o ≠ a + 3 → J o = h.2.2.1 o) ∧ (∀ o, o < a ∨ a + 11 < o → m' o = m o) ∧ SDT m' a turn' ∧ CSP Pl S X m' a) := by
  have s1 : Sh8 (sR h a 6 (some b)) a := sh8_s (Or.inl rfl) s
  have s2 : Sh8 (sR (sR h a 6 (some b)) a 7 (some c)) a := sh8_s (Or.inr rfl) s1
  have t5 : Sh5 (sR (sR h a 6 (some b)) a 7 (some c)) b := sh5_s (by omega) (sh5_s (by omega) pc.1)
  have r6 : hR (sR (sR h a 6 (some b)) a 7 (some c)) a 6 = some b := by rw [hR_s, if_neg (by omega), hR_s, if_pos ⟨rfl, rfl⟩]
  have r7 : hR (sR (sR h a 6 (some b)) a 7 (some c)) a 7 = some c := by rw [hR_s, if_pos ⟨rfl, rfl⟩]
  have J2 : (sR (sR h a 6 (some b)) a 7 (some c)).2.2.1 = h.2.2.1 := rfl
  have hN2 : hN (sR (sR h a 6 (some b)) a 7 (some c)) = hN h := rfl
  have hS2 : hS (sR (sR h a 6 (some b)) a 7 (some c)) = hS h := rfl
  unfold fX8_search
  rw [wp_bind, s.d6, wp_bind, s1.d7]
  generalize sR (sR h a 6 (some b)) a 7 (some c) = h2 at *
  have pc2 : PC (wI h2 m) b Pl := ⟨t5, pc.2⟩
  rw [wp_bind, s2.q6, r6, wp_some, wp_bind, t5.o, wp_bind]
  refine wp_mono (c_tasks pc2 pw) (fun x hx => ?_)
  rw [wp_bind, s2.p8, wp_bind, s2.g8, up_at, wp_bind, s2.p9, wp_bind, s2.p0, wp_bind, s2.p1, wp_bind, s2.p2, wp_bind, s2.p3, wp_bind, s2.p4, wp_bind, s2.o, wp_bind]
  obtain ⟨mm, hmm⟩ : ∃ mm, mm = up (up (up (up (up (up (up m a 8 (nI X &&& x)) a 9 (nI X &&& ((nI X &&& x) ^^^ (-1 : Int32)))) a 0 3) a 1 0) a 2 0) a 3 0) a 4 0 := ⟨_, rfl⟩
  rw [← hmm]
  have mo : ∀ o, o ≠ a → mm o = m o := fun o ho => by rw [hmm, up_r ho, up_r ho, up_r ho, up_r ho, up_r ho, up_r ho, up_r ho]
  have m14 : mm a 14 = m a 14 := by rw [hmm]; simp only [up_a]; rfl
  have m8 : mm a 8 = (nI X &&& x) := by rw [hmm]; simp only [up_a]; rfl
  have m9 : mm a 9 = (nI X &&& ((nI X &&& x) ^^^ (-1 : Int32))) := by rw [hmm]; simp only [up_a]; rfl
  have m01 : mm a 0 = 3 ∧ mm a 1 = 0 ∧ mm a 2 = 0 ∧ mm a 3 = 0 ∧ mm a 4 = 0 := by rw [hmm]; simp only [up_a]; exact ⟨rfl, rfl, rfl, rfl, rfl⟩
  refine wp_mono (c_beginTurn (turn := turn) s2 ⟨by rw [m14]; exact d.1, d.2.1, fun t ht => by rw [mo _ (by omega)]; exact d.2.2 t ht⟩) ?_
  rintro r ⟨m1, turn', rfl, f1, f1a, ct⟩
  have bx : ∀ t, t < 31 → (bt (nI X &&& x) t = true ↔ tk Pl X t) := fun t ht => by
    rw [b_and, Bool.and_eq_true, bt_nI (by omega), hx t (by omega)]
    exact ⟨fun ⟨e1, e2, e3⟩ => ⟨e2, e1, e3⟩, fun ⟨e1, e2, e3⟩ => ⟨e2, e1, e3⟩⟩
  have by' : ∀ t, t < 31 → (bt (nI X &&& ((nI X &&& x) ^^^ (-1 : Int32))) t = true ↔ cr Pl X t) := fun t ht => by
    rw [b_andn _ _ (by omega), Bool.and_eq_true, bt_nI (by omega), Bool.not_eq_true', Bool.eq_false_iff, ne_eq, bx t ht]
    exact ⟨fun ⟨e1, e2⟩ => ⟨hX t e1, e1, fun e3 => e2 ⟨hX t e1, e1, e3⟩⟩, fun ⟨e1, e2, e3⟩ => ⟨e2, fun e4 => e3 e4.2.2⟩⟩
  have C0 : CX h2 m1 a b c Pl S X := by
    have C00 : CX h2 mm a b c Pl S X := by
      refine ⟨s2, ⟨t5, ?_, ?_, ?_, fun l hl => ?_, fun p hp => ?_⟩, pw, r6, r7, ⟨by rw [hN2]; exact hcS.1, by rw [hS2]; exact hcS.2⟩, fun q j hq hj => ?_, fun t ht => ?_, fun t ht => ?_⟩
      · show mm b 0 = _
        rw [mo b (by omega)]; exact pc.2.1
      · show mm b 1 = _
        rw [mo b (by omega)]; exact pc.2.2.1
      · show mm b 2 = _
        rw [mo b (by omega)]; exact pc.2.2.2.1
      · show mm (b + 1) l = _
        rw [mo (b + 1) (by omega)]; exact pc.2.2.2.2.1 l hl
      · show mm (b + 2) p = _ ∧ mm (b + 3) p = _
        rw [mo (b + 2) (by omega), mo (b + 3) (by omega)]; exact pc.2.2.2.2.2 p hp
      · rw [mo c (by omega)]; exact hst q j hq hj
      · rw [m8]; exact bx t ht
      · rw [m9]; exact by' t ht
    exact C00.mem hb hc (fun o ho => f1 o (by omega) (by omega)) (f1a 8 (by omega)) (f1a 9 (by omega))
  rw [wp_bind, s2.o, wp_bind]
  refine wp_mono (c_see C0 hb hc) ?_
  rintro r ⟨m2, rfl, f2, cm⟩
  have f2a : m2 a = m1 a := f2 a (by omega)
  have C2 : CX h2 m2 a b c Pl S X := C0.mem hb hc (fun o ho => f2 o (by omega)) (by rw [f2a]) (by rw [f2a])
  have z0 : CZ h2 m2 a turn' Z00 := by
    refine ⟨fun _ => (0, 0), fun _ => none, ⟨by rw [f2a]; exact ct.1, ct.2.1, fun t ht => by rw [f2 _ (by omega)]; exact ct.2.2 t ht⟩, TB.new (fun _ _ => rfl), fun j hj => absurd hj (Nat.not_lt_zero _), ?_, ?_, fun j hj => absurd hj (Nat.not_lt_zero _), fun _ => ?_⟩
    · rw [f2a, f1a 0 (by omega)]; exact m01.1
    · rw [f2a, f1a 1 (by omega)]; exact m01.2.1
    · rw [f2a, f1a 2 (by omega), f1a 3 (by omega), f1a 4 (by omega)]; exact m01.2.2
  rw [wp_bind, s2.o, wp_bind, show (0 : Int64) = lN 0 from rfl]
  refine wp_mono (k_keep (Pl := Pl) (S := S) (X := X) (Z := Z00) (M := M00) (k := 0) s2 z0 rfl (Nat.zero_le _) en_0) ?_
  rintro ⟨x1, x2⟩ ⟨h3, m3, e3, f3, z3⟩
  have e3 : x2 = wI h3 m3 := e3
  subst e3
  have z3' : CZ h3 m3 a turn' (addM Pl S X Z00 M00 0) := by
    rcases z3 with ⟨_, _, z⟩ | ⟨_, _, _, z⟩
    · exact z
    · rw [add_00]; exact z
  have G3 : GZ Pl S X h3 m3 a b c turn' (addM Pl S X Z00 M00 0) := ⟨C2.fr f3 hb hc, cm.fr f3, z3', si_00, fun q => by rw [add_00] at q; exact absurd q (by show ¬ (3 : Nat) = 1; decide)⟩
  rw [wp_bind]
  refine wp_mono (c_srch G3 hb hc) ?_
  rintro r ⟨h4, m4, rfl, f4, G4⟩
  have G4 : GZ Pl S X h4 m4 a b c turn' (srch Pl S X) := G4
  obtain ⟨C4, cm4, z4, si4, tl4⟩ := id G4
  have s4 := C4.1
  obtain ⟨ks, T, ct4, _, _, e0, e1, _, er⟩ := id z4
  have f5 := f3.tr f4
  obtain ⟨⟨J, eJ, hJ'⟩, fo, _, fk⟩ := f5
  have mo4 : ∀ o, o < a ∨ a + 11 < o → m4 o = m o := fun o ho => by rw [fo o ho, f2 o (by omega), f1 o (by omega) (by omega), mo o (by omega)]
  have o4 : zO (srch Pl S X) < 4 := by rcases si4.1 with y | y | y <;> omega
  have hJ2 : ∀ o, o ≠ a + 2 → o ≠ a + 3 → J o = h.2.2.1 o := fun o p q => by rw [hJ' o p q, J2]
  subst eJ
  unfold jX8_search_121
  rw [wp_bind, s4.g0, e0]
  by_cases hO : zO (srch Pl S X) = 3
  · rw [wp_t (by rw [hO]; rfl), wp_bind, s4.p0, wp_some]
    refine ⟨J, _, turn', rfl, hJ2, fun o ho => by rw [up_r (by omega)]; exact mo4 o ho, ?_, ?_, ?_, si4, fun q => absurd q (by omega), fun q => ?_⟩
    · have := ct4.sdt
      exact ⟨by rw [up_ne (by omega)]; exact this.1, this.2.1, fun t ht => by rw [up_r (by omega)]; exact this.2.2 t ht⟩
    · rw [up_at, ci_t hO]; rfl
    · rw [up_ne (by omega)]; exact e1
    · rw [up_ne (by omega), up_ne (by omega), up_ne (by omega)]; exact er q
  · rw [wp_f (by rw [L_3, i_eq (by omega) (by decide)]; exact hO), wp_some]
    exact ⟨J, m4, turn', rfl, hJ2, mo4, ct4.sdt, by rw [ci_f hO]; exact e0, e1, si4, tl4, er⟩
end CSR

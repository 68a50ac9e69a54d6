/-! store: both sides -/
section STO
variable {h h' : Hp} {m m' : Mem} {g g' : GS} {own : Nat → Nat} {ad : Nat → Option Nat} {q : QT} {k : Nat}
def fltG (g : GS) (e : Nat × Nat) : GS := ((0, sB g), (nI e.1, nI e.2), g.2.2)
def strG (g : GS) (q : QT) : GS := ((0, sB g), (0, mI), q.1, (0, 0, fun _ => noA q.2), fun _ => none)
theorem x_tZ0 {a n j : Nat} {Q : Hp → Prop} (ha : a < hN h) (hs : hS h a = .inr (.boolean, n)) (hj : j < n) (hn : n < 2 ^ 31) : wp (tZ (wI h m) a (nI j) 0) Q = Q (wI h (up m a j 0)) := wp_eq (by unfold tZ; rw [ga_ok (h := wI h m) ha hs]; show (ix (nI j) n).bind _ = _; rw [ix_nI hj hn]; rfl)
theorem w_wrZ0 {o n j : Nat} {Q : Mem → Prop} (hj : j < n) (hn : n < 2 ^ 31) : wp (wrZ m o n (nI j) 0) Q = Q (up m o j 0) := wp_eq (by unfold wrZ; rw [ix_nI hj hn]; rfl)
theorem r_startAnew {A : LA} (L : LF (fun _ => False) (m 1) A) (k1 : k ≤ 1) (e9 : m 0 9 = nI k) (pw : ∀ j, pV q.1 j → j < 72) (hst : ∀ j, pV q.1 j → m 8 (72 * k + j) = nI (q.2 j / 16) ∧ m 9 (72 * k + j) = if q.2 j / 16 ≤ 4 then nI (q.2 j % 16) else mI) : wp (gX12_startAnew m) (fun m' => (∀ o, o ≠ 0 → o ≠ 1 → o ≠ 38 → m' o = m o) ∧ (∀ j, j ≠ 56 → j ≠ 57 → m' 0 j = m 0 j) ∧ (m' 0 56 = 0 ∧ m' 0 57 = 0) ∧ (∀ i, i < 2 → m' 38 i = 0) ∧ LF (pV q.1) (m' 1) (noA q.2)) := by
  unfold gX12_startAnew
  rw [wp_bind]
  refine wp_mono (r_clearAll L (fun j hj => hj.elim)) (fun m1 ⟨g1, L1⟩ => ?_)
  rw [wp_bind]
  refine wp_mono (Q := fun m2 => (∀ o, o ≠ 1 → m2 o = m o) ∧ (∀ j, ¬ (1541 ≤ j ∧ j < 1685) → m2 1 j = m1 1 j) ∧ ∀ j, j < 72 → m2 1 (1541 + j) = m 8 (72 * k + j) ∧ m2 1 (1613 + j) = m 9 (72 * k + j)) ?_ ?_
  · refine wp_for (κ := Mem) (fun i c => (nI i, c)) 72 (fun i c => (∀ o, o ≠ 1 → c o = m o) ∧ (∀ j, ¬ (1541 ≤ j ∧ j < 1685) → c 1 j = m1 1 j) ∧ ∀ j, j < i → c 1 (1541 + j) = m 8 (72 * k + j) ∧ c 1 (1613 + j) = m 9 (72 * k + j)) (fun i c hi HH => ?_) (fun c HH => ?_) 0 m1 (by decide) ⟨g1, fun _ _ => rfl, fun j hj => absurd hj (Nat.not_lt_zero _)⟩ (by decide)
    · obtain ⟨c1, c2, c3⟩ := HH
      have ei : (72 : Int32) * nI k + nI i = nI (72 * k + i) := by rw [L_72, i_mul, i_add]
      have e1 : (1541 : Int32) + nI i = nI (1541 + i) := by rw [L_1541, i_add]
      have e2 : (1613 : Int32) + nI i = nI (1613 + i) := by rw [L_1613, i_add]
      unfold gbX12_startAnew_6
      simp only
      rw [wp_f (fun z => by have := (nI_leI (a := 72) (by decide) (by omega)).mp z; omega), c1 0 (by decide), e9, ei, wp_bind, w_rd (by omega) (by decide), wp_bind, e1, w_wr (by omega) (by decide), up_r (show (0 : Nat) ≠ 1 by decide), c1 0 (by decide), e9, ei, wp_bind, w_rd (by omega) (by decide), wp_bind, e2, w_wr (by omega) (by decide), wp_bind, wp_some, wp_some, lq_l]
      refine ⟨_, by rw [nI_1], fun o ho => by rw [up_r ho, up_r ho]; exact c1 o ho, fun j hj => by rw [up_j (by omega), up_j (by omega)]; exact c2 j hj, fun j hj => ?_⟩
      by_cases z : j = i
      · subst z
        exact ⟨by rw [up_j (by omega), up_at, c1 8 (by decide)], by rw [up_at, up_r (by decide), c1 9 (by decide)]⟩
      · have := c3 j (by omega)
        exact ⟨by rw [up_j (by omega), up_j (by omega)]; exact this.1, by rw [up_j (by omega), up_j (by omega)]; exact this.2⟩
    · unfold gbX12_startAnew_6
      simp only
      rw [wp_t (show (72 : Int32) ≤ nI 72 by decide), wp_some, lq_r]
      exact HH
  · rintro m2 ⟨f1, f2, f3⟩
    rw [wp_bind, wp_some, wp_bind, wp_some, wp_bind]
    refine wp_mono (Q := fun m3 => (∀ o, o ≠ 38 → m3 o = up (up m2 0 56 0) 0 57 0 o) ∧ ∀ i, i < 2 → m3 38 i = 0) ?_ ?_
    · refine wp_for (κ := Mem) (fun i c => (nI i, c)) 2 (fun i c => (∀ o, o ≠ 38 → c o = up (up m2 0 56 0) 0 57 0 o) ∧ ∀ j, j < i → c 38 j = 0) (fun i c hi HH => ?_) (fun c HH => ?_) 0 (up (up m2 0 56 0) 0 57 0) (by decide) ⟨fun _ _ => rfl, fun j hj => absurd hj (Nat.not_lt_zero _)⟩ (by decide)
      · obtain ⟨c1, c2⟩ := HH
        unfold gbX12_startAnew_78
        simp only
        rw [wp_f (fun z => by have := (nI_leI (a := 2) (by decide) (by omega)).mp z; omega), wp_bind, w_wrZ0 hi (by decide), wp_bind, wp_some, wp_some, lq_l]
        refine ⟨_, by rw [nI_1], fun o ho => by rw [up_r ho]; exact c1 o ho, fun j hj => ?_⟩
        rw [up_a]
        by_cases z : j = i
        · rw [if_pos z]
        · rw [if_neg z]; exact c2 j (by omega)
      · unfold gbX12_startAnew_78
        simp only
        rw [wp_t (show (2 : Int32) ≤ nI 2 by decide), wp_some, lq_r]
        exact HH
    · rintro m3 ⟨g3, g38⟩
      rw [wp_some]
      have r1 : m3 1 = m2 1 := by rw [g3 1 (by decide), up_r (by decide), up_r (by decide)]
      refine ⟨fun o h0 h1 h38 => by rw [g3 o h38, up_r h0, up_r h0, f1 o h1], fun j h56 h57 => by rw [g3 0 (by decide), up_j h57, up_j h56, f1 0 (by decide)], ⟨by rw [g3 0 (by decide), up_j (show (56 : Nat) ≠ 57 by decide), up_at], by rw [g3 0 (by decide), up_at]⟩, g38, ?_⟩
      obtain ⟨L1', L2', L3', L4', ⟨L5', L6', _⟩, _⟩ := L1
      rw [r1]
      refine ⟨⟨by rw [f2 272 (by omega)]; exact L1'.1, fun r hr => absurd hr (Nat.not_lt_zero _)⟩, fun x y hx hy => by rw [f2 _ (by omega)]; exact L2' x y hx hy, fun x hx => by rw [f2 _ (by omega)]; exact L3' x hx, fun p hp => by rw [f2 _ (by omega)]; exact L4' p hp, ⟨by rw [f2 _ (by omega)]; exact L5', by rw [f2 _ (by omega)]; exact L6', fun i hi => absurd hi (Nat.not_lt_zero _)⟩, fun j hj => ?_⟩
      have h72 := pw j hj
      rw [(f3 j h72).1, (f3 j h72).2]
      exact hst j hj
/-- what a store leaves when it told a new text -/
def STG (h h1 : Hp) (m1 : Mem) (own : Nat → Nat) (g' : GS) : Prop := IR m1 g' ∧ okG g' ∧ ∃ ad', IC h1 g' own ad' ∧ XX h h1 ∧ KEEP h h1 own 17 ∧ (∀ a, 74 ≤ a → a < 120 → ∀ j, (a ≠ 74 ∨ j ≠ 6) → hI h1 a j = hI h a j) ∧ hI h1 74 6 = 0 ∧ hR h1 74 8 = hR h 74 8 ∧ hN h1 = hN h ∧ hZ h1 = hZ h
theorem qw_pw (w : QW q (pP q.1)) : PW q.1 := ⟨w.1, w.2.1, w.2.2.1.2.2, w.2.2.2.1, fun p hp => ⟨(w.2.2.2.2.1 p hp).1, w.2.2.2.2.2.1 p hp, (w.2.2.2.2.1 p hp).2⟩⟩
theorem qw_sw (w : QW q (pP q.1)) : SW q.1 q.2 := fun j hj => by
  have := w.2.2.2.2.2.2.2.1 (j / 12) (j % 12) hj.1 hj.2
  rw [show 12 * (j / 12) + j % 12 = j by omega] at this
  exact this
theorem strG_ok (w : QW q (pP q.1)) : okG (strG g q) := ⟨Nat.zero_le _, qw_pw w, Nat.le_refl _, Nat.zero_le _, fun i _ => ⟨LW_noA (fun j _ => w.2.2.2.2.2.2.2.2 j), qw_sw w⟩, fun k B hB => by cases hB⟩
/-- a text with a fault -/
theorem ic_flt {P Q : Nat} {e : Nat × Nat} (I : IC h g own ad) (hl : sL g ≤ 12) (hP : P = 8 ∨ P = 13) (hQ : Q = 21 - P) (p1 : hR h 0 3 = some P) (f : ∀ a, a ≠ 0 → a ≠ 2 → ¬ (4 ≤ a ∧ a ≤ 7) → ¬ (Q ≤ a ∧ a ≤ Q + 4) → m' a = hI h a) (e0 : m' 0 1 = 0) (e1 : m' 2 0 = nI e.1) (e2 : m' 2 1 = nI e.2) : IC (wI (sR (sR h 2 2 (some 1)) 2 4 (some Q)) m') (fltG g e) own ad ∧ NF h (wI (sR (sR h 2 2 (some 1)) 2 4 (some Q)) m') own := by
  obtain ⟨cs, ow, ⟨t1, t2⟩, ⟨f1, f2⟩, ⟨P', hP', p1', p2, pc⟩, ⟨a1, a2⟩, r52, r19, r36, r15, sl, li, bx⟩ := I
  have eP : P' = P := by rw [p1] at p1'; cases p1'; rfl
  subst eP
  have s6 := cs.s6
  have x1 : XX h (sR h 2 2 (some 1)) := XX.sR (by intro c hc; rw [s6.2.1] at hc; cases hc; rfl)
  have s61 := s6.x x1
  have x2 : XX (sR h 2 2 (some 1)) (sR (sR h 2 2 (some 1)) 2 4 (some Q)) := XX.sR (by intro c hc; rw [s61.2.1] at hc; cases hc; rfl)
  have x : XX h (wI (sR (sR h 2 2 (some 1)) 2 4 (some Q)) m') := x1.trans x2
  have rr : ∀ a z, a ≠ 2 → hR (wI (sR (sR h 2 2 (some 1)) 2 4 (some Q)) m') a z = hR h a z := fun a z ha => by
    show hR (sR (sR h 2 2 (some 1)) 2 4 (some Q)) a z = _
    rw [hR_s, if_neg (fun c => ha c.1), hR_s, if_neg (fun c => ha c.1)]
  have kp : ∀ s, KEEP h (wI (sR (sR h 2 2 (some 1)) 2 4 (some Q)) m') own (1 + s) := by
    intro s a ha ho
    have hna : ¬ a ≤ 17 := fun z => by
      have := ow.1 a (by omega) (by omega) (by omega)
      omega
    exact ⟨fun j => by rw [wI_I, f a (by omega) (by omega) (by omega) (by omega)], fun _ => rfl, fun z => rr a z (by omega)⟩
  refine ⟨⟨cs.x x, ow, ⟨e0, fun j hj => absurd hj (Nat.not_lt_zero _)⟩, ⟨e1, e2⟩, ⟨P', hP', by rw [rr 0 3 (by decide)]; exact p1', by rw [rr 0 4 (by decide)]; exact p2, PC.congr (h := h) (m := hI h) pc x (fun a z1 z2 => f a (by omega) (by omega) (by omega) (by omega))⟩, ⟨?_, ?_⟩, fun i hi => by rw [rr 52 i (by decide)]; exact r52 i hi, fun i hi => by rw [rr 19 i (by decide)]; exact r19 i hi, fun i hi => by rw [rr 36 i (by decide)]; exact r36 i hi, r15, fun s b hs hb => (sl s b hs hb).keep x (kp s), fun i hi => ?_, fun k hk => ⟨fun z => ?_, fun B' hB' => ?_⟩⟩, x, kp 16, fun a h1 h2 j => by rw [wI_I, f a (by omega) (by omega) (by omega) (by omega)], rr 74 8 (by decide), rr 0 3 (by decide)⟩
  · rw [wI_I, f 18 (by decide) (by decide) (by decide) (by omega)]; exact a1
  · rw [wI_I, f 18 (by decide) (by decide) (by decide) (by omega)]; exact a2
  · obtain ⟨b, n', hb, L⟩ := li i hi
    have hi' : i ≤ sL g := hi
    exact ⟨b, n', hb, L.keep (sl i b (by omega) hb) x (kp i)⟩
  · rw [wI_I, f 37 (by decide) (by decide) (by decide) (by omega)]; exact (bx k hk).1 z
  · obtain ⟨q', b, n', hb, L⟩ := (bx k hk).2 B' hB'
    exact ⟨by rw [wI_I, f 37 (by decide) (by decide) (by decide) (by omega)]; exact q', b, n', hb, L.keep (sl (13 + k) b (by omega) hb) x (kp (13 + k))⟩
end STO

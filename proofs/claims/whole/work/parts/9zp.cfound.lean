/-! the class asks what it has found -/
section CFD
variable {h : Hp} {own : Nat → Nat} {Pl : PD} {T : Nat → Nat} {X P c : Nat}
theorem fn_w {m' : Mem} (o : ∀ x, hN h ≤ x → own x = 0) (hm : ∀ x, ¬ (74 ≤ x ∧ x ≤ 80) → m' x = hI h x) : FN h (wI h m') own own := ⟨XX.wI h m', fun _ _ => rfl, fun x h1 h2 => absurd h2 (by show ¬ x < hN h; omega), o, fun x _ _ hn j => by show m' x j = _; rw [hm x hn], fun _ _ _ _ => rfl, fun _ _ _ _ _ => rfl, Nat.le_refl _, Nat.le_refl _⟩
theorem sds_w {m' : Mem} (s : SDS h own) (hm : ∀ x, 120 ≤ x → m' x = hI h x) : SDS (wI h m') own := by
  rcases s with s | ⟨a, turn, s1, s2, s3, s4, s5⟩
  · exact Or.inl s
  · refine Or.inr ⟨a, turn, s1, s2, s3, s4.x (XX.wI h m'), by show m' a 14 = _; rw [hm a s2]; exact s5.1, s5.2.1, fun t ht => ?_⟩
    show ∃ v, m' (a + 5) t = nI v ∧ _
    rw [hm (a + 5) (by omega)]; exact s5.2.2 t ht
theorem c_fresh (s : Sh0 h 74) (f : FI h own Pl) (o : ∀ x, hN h ≤ x → own x = 0) (hc : c < hN h ∧ hS h c = .inr (.int, 72)) (c74 : ¬ (74 ≤ c ∧ c ≤ 80)) (hT : ∀ j, j < 72 → hI h c j = nI (T j) ∧ T j < 160) : wp (fX0_freshen h 74 c) (fun h' => FN h h' own own ∧ FZ h' own Pl T) := by
  obtain ⟨sd, f⟩ := f
  have b6 : hI h 74 6 = 0 ∨ hI h 74 6 = 1 := by
    rcases f with f | ⟨_, _, _, f, _⟩
    · exact Or.inl f
    · exact Or.inr f
  show wp (fX0_freshen (wI h (hI h)) 74 c) _
  generalize hm : hI h = m at *
  unfold fX0_freshen
  rw [wp_bind]
  refine wp_mono (Q := fun r => ∃ v, r = wI h (up m 74 6 v) ∧ ((v = 1 ∧ m 74 6 = 1 ∧ ∀ j, j < 72 → m 80 j = m c j) ∨ (v = 0 ∧ ¬ (m 74 6 = 1 ∧ ∀ j, j < 72 → m 80 j = m c j)))) ?_ ?_
  · have e0 : ((0 : Int32), wI h m) = (fun (i : Nat) (v : Int32) => (nI i, wI h (up m 74 6 v))) 0 (m 74 6) := by
      show _ = (nI 0, wI h (up m 74 6 (m 74 6)))
      rw [up_self rfl]; rfl
    rw [e0]
    refine wp_for (κ := Int32) (fun i v => (nI i, wI h (up m 74 6 v))) 72 (fun i v => (v = 1 ∧ m 74 6 = 1 ∧ ∀ j, j < i → m 80 j = m c j) ∨ (v = 0 ∧ ¬ (m 74 6 = 1 ∧ ∀ j, j < 72 → m 80 j = m c j))) (fun i v hi hI => ?_) (fun v hI => ?_) 0 (m 74 6) (Nat.zero_le _) ?_ (by decide)
    · simp only [bX0_freshen_2]
      rw [wp_bind, s.r5, wp_bind, s.n5, wp_f (by rw [i_le (by decide) (by omega)]; omega), wp_bind, s.g6, up_at]
      rcases hI with ⟨rfl, h1, h2⟩ | ⟨rfl, hn⟩
      · rw [wp_f (by decide), wp_bind, s.r5, wp_bind, s.l5 hi, up_r (by decide), wp_bind, w_lI (h := wI h (up m 74 6 1)) hc.1 hc.2 hi (by decide)]
        show wp (if m 80 i = up m 74 6 1 c i then _ else _) _
        rw [up_r (show c ≠ 74 by omega)]
        by_cases z : m 80 i = m c i
        · rw [wp_t z]
          unfold jX0_freshen_36
          rw [wp_bind, s.z6 (Or.inr rfl), wp_bind, wp_some, wp_some, lq_l, nI_1, up_up]
          refine ⟨1, rfl, Or.inl ⟨rfl, h1, fun j hj => ?_⟩⟩
          by_cases y : j = i
          · rw [y]; exact z
          · exact h2 j (by omega)
        · rw [wp_f z]
          unfold jX0_freshen_35 jX0_freshen_36
          rw [wp_bind, s.z6 (Or.inl rfl), wp_bind, wp_some, wp_some, lq_l, nI_1, up_up]
          exact ⟨0, rfl, Or.inr ⟨rfl, fun q => z (q.2 i hi)⟩⟩
      · rw [wp_t rfl]
        unfold jX0_freshen_35 jX0_freshen_36
        rw [wp_bind, s.z6 (Or.inl rfl), wp_bind, wp_some, wp_some, lq_l, nI_1, up_up]
        exact ⟨0, rfl, Or.inr ⟨rfl, hn⟩⟩
    · simp only [bX0_freshen_2]
      rw [wp_bind, s.r5, wp_bind, s.n5, wp_t (by rw [i_le (by decide) (by omega)]; omega), wp_some, lq_r]
      exact ⟨v, rfl, hI⟩
    · rcases b6 with z | z
      · exact Or.inr ⟨z, fun q => by rw [z] at q; exact absurd q.1 (by decide)⟩
      · exact Or.inl ⟨z, z, fun j hj => absurd hj (Nat.not_lt_zero _)⟩
  · rintro r ⟨v, rfl, hv⟩
    rw [wp_bind, s.g6, up_at]
    rcases hv with ⟨rfl, h1, h2⟩ | ⟨rfl, hn⟩
    · rw [wp_f (by decide)]
      unfold jX0_freshen_85
      rw [wp_some, up_self h1, ← hm]
      refine ⟨FN.rfl' o, ?_⟩
      rcases f with f | ⟨U, u1, u2, u3, u4, u5, u6⟩
      · rw [h1] at f; exact absurd f (by decide)
      · have e : cS U = cS T := cS_eq fun j hj => by
          have a1 := u4 j hj
          have a2 := (hT j hj).1
          rw [hm, h2 j hj, a2, i_eq (by have := (hT j hj).2; omega) (by have := u1 j hj; omega)] at a1
          exact a1.symm
        rw [e] at u5 u6
        exact ⟨u2, u3, fun j hj => by show hI h 80 j = _; rw [hm, h2 j hj]; exact (hT j hj).1, u5, u6⟩
    · have t80 : 80 < hN h ∧ hS h 80 = .inr (.int, 72) := ⟨by have := s.1; omega, s.2.2.2.2.2.2.2.2⟩
      have t79 : 79 < hN h ∧ hS h 79 = .inr (.int, 64) := ⟨by have := s.1; omega, s.2.2.2.2.2.2.1.2⟩
      rw [wp_t rfl, wp_bind, s.r5, wp_bind, s.r5, wp_bind, s.n5, wp_bind]
      show wp (kI (wI h (up m 74 6 0)) .int c 0 80 0 (nI 72)) _
      rw [w_kI hc.1 hc.2 t80.1 t80.2 (Nat.le_refl _) (Nat.le_refl _) (by decide), wp_bind, s.r4, wp_bind]
      show wp (fJ7_fill_53178 (wI h (cpM (up m 74 6 0) c 80 72)) 79 3) _
      rw [w_fill t79.1 t79.2 (by decide), wp_bind, s.p7, wp_bind, s.z6 (Or.inr rfl)]
      unfold jX0_freshen_85
      rw [wp_some]
      generalize hk : up (up (flM (cpM (up m 74 6 0) c 80 72) 79 64 3) 74 7 (-1)) 74 6 1 = k
      have k74 : k 74 6 = 1 := by rw [← hk, up_at]
      have k747 : k 74 7 = mI := by rw [← hk, up_ne (by omega), up_at]; rfl
      have k79 : ∀ j, j < 64 → k 79 j = 3 := fun j hj => by
        rw [← hk, up_r (by decide), up_r (by decide)]
        show (if 79 = 79 ∧ j < 64 then (3 : Int32) else _) = 3
        rw [if_pos ⟨rfl, hj⟩]
      have k80 : ∀ j, j < 72 → k 80 j = m c j := fun j hj => by
        rw [← hk, up_r (by decide), up_r (by decide)]
        show (if 80 = 79 ∧ j < 64 then (3 : Int32) else if 80 = 80 ∧ j < 72 then up m 74 6 0 c j else _) = _
        rw [if_neg (by omega), if_pos ⟨rfl, hj⟩, up_r (by omega)]
      have ko : ∀ x, ¬ (74 ≤ x ∧ x ≤ 80) → k x = m x := fun x hx => by
        rw [← hk, up_r (by omega), up_r (by omega)]
        funext j
        show (if x = 79 ∧ j < 64 then (3 : Int32) else if x = 80 ∧ j < 72 then up m 74 6 0 c j else up m 74 6 0 x j) = _
        rw [if_neg (by omega), if_neg (by omega), up_r (by omega)]
      refine ⟨fn_w o (fun x hx => by rw [hm]; exact ko x hx), sds_w sd (fun x hx => by rw [hm]; exact ko x (by omega)), k74, fun j hj => ?_, fun X hX => Or.inl (k79 X hX.1), fun X hX hl => ?_⟩
      · show k 80 j = _
        rw [k80 j hj]; exact (hT j hj).1
      · have hl : k 74 7 = nI X := hl
        rw [k747, m_eq' (by have := hX.1; omega)] at hl
        exact hl.elim
theorem c_ready (s : Sh0 h 74) (o : OWN own (hN h)) (N120 : 120 ≤ hN h) (d : SDS h own) : wp (fX0_readySides h 74) (fun r => ∃ own' turn, FN h r.2 own own' ∧ hR r.2 74 8 = some r.1 ∧ 120 ≤ r.1 ∧ (∀ x, r.1 ≤ x → x ≤ r.1 + 11 → own' x = 17) ∧ Sh8 r.2 r.1 ∧ SDT (hI r.2) r.1 turn ∧ (∀ x j, x < 120 → hI r.2 x j = hI h x j) ∧ ∀ a, hR h 74 8 = some a → r = (a, h) ∧ own' = own) := by
  have q8 : ∀ {h : Hp} {Q : Option Nat → Prop}, Sh0 h 74 → wp (gQ h 0 74 8) Q = Q (hR h 74 8) := fun s => wp_eq (by unfold gQ; rw [gO_ok (by have := s.1; omega) s.2.1]; rfl)
  have r8 : ∀ {h : Hp} {a : Nat} {Q : Nat → Prop}, Sh0 h 74 → hR h 74 8 = some a → wp (gR h 0 74 8) Q = Q a := fun s e => w_gR (by have := s.1; omega) s.2.1 e
  unfold fX0_readySides jX0_readySides_18
  rw [wp_bind, q8 s]
  rcases d with d | ⟨a, turn, d1, d2, d3, d4, d5⟩
  · rw [d]
    show wp ((some (nw h (.inl 8))).bind _) _
    rw [wp_bind, wp_some, wp_bind]
    have s3 : hS (nw h (.inl 8)) (hN h) = .inl 8 := by
      show (if hN h = hN h then _ else _) = _
      rw [if_pos rfl]
    have n3 : hN (nw h (.inl 8)) = hN h + 1 := rfl
    have z3 : ∀ j, hI (nw h (.inl 8)) (hN h) j = 0 := fun j => by
      show (if hN h = hN h then (0 : Int32) else _) = 0
      rw [if_pos rfl]
    have b3 : ∀ x, x < hN h → hS (nw h (.inl 8)) x = hS h x ∧ (∀ j, hI (nw h (.inl 8)) x j = hI h x j) ∧ (∀ j, hJ (nw h (.inl 8)) x j = hJ h x j) ∧ ∀ q, hR (nw h (.inl 8)) x q = hR h x q := fun x hx => by
      refine ⟨?_, fun j => ?_, fun j => ?_, fun q => ?_⟩
      · show (if x = hN h then _ else h.1 x) = h.1 x
        rw [if_neg (by omega)]
      · show (if x = hN h then _ else h.2.1 x j) = h.2.1 x j
        rw [if_neg (by omega)]
      · show (if x = hN h then _ else h.2.2.1 x j) = h.2.2.1 x j
        rw [if_neg (by omega)]
      · show (if x = hN h then _ else h.2.2.2.1 x q) = h.2.2.2.1 x q
        rw [if_neg (by omega)]
    have zz : hZ (nw h (.inl 8)) = hZ h + 19 := rfl
    generalize nw h (.inl 8) = h3 at *
    refine wp_mono (c_init8 s3 n3 z3) ?_
    rintro x ⟨w1, w2, w3, w4, w5⟩
    have bx : ∀ y, y < hN h → hS x y = hS h y ∧ (∀ j, hI x y j = hI h y j) ∧ (∀ j, hJ x y j = hJ h y j) ∧ ∀ q, hR x y q = hR h y q := fun y hy => by
      obtain ⟨p1, p2, p3, p4⟩ := b3 y hy
      obtain ⟨q1, q2, q3⟩ := w1.2.1 y (by omega)
      exact ⟨q1.trans p1, fun j => (q2 j).trans (p2 j), fun j => (q3 j).trans (p3 j), fun q => (w1.2.2 y q (by omega) (by omega)).trans (p4 q)⟩
    have xx : XX h x := ⟨by omega, fun y hy => (bx y hy).1, fun y q c hy _ _ => (bx y hy).2.2.2 q⟩
    have sx : Sh0 x 74 := s.x xx
    have xs : XX x (sR x 74 8 (some (hN h))) := XX.sR fun c hc => by
      rw [sx.2.1] at hc
      cases hc; rfl
    have s' := sx.x xs
    rw [wp_bind]
    show wp (pR (wI x (hI x)) 0 74 8 (hN h)) _
    rw [sx.d8]
    show wp ((gR (sR x 74 8 (some (hN h))) 0 74 8).bind _) _
    have e8 : hR (sR x 74 8 (some (hN h))) 74 8 = some (hN h) := by rw [hR_s, if_pos ⟨rfl, rfl⟩]
    rw [wp_bind, r8 s' e8, wp_some]
    refine ⟨fun y => if hN h ≤ y ∧ y < hN h + 12 then 17 else own y, 0, ⟨xx.trans xs, fun y hy => if_neg (by omega), fun y h1 h2 => ?_, fun y hy => ?_, fun y hy _ _ j => (bx y hy).2.1 j, fun y hy _ j => (bx y hy).2.2.1 j, fun y q hy _ hn => ?_, ?_, ?_⟩, e8, N120, fun y h1 h2 => if_pos (by omega), w4.x xs, w5, fun y j hy => (bx y (by omega)).2.1 j, fun a ha => by cases ha⟩
    · have h2 : y < hN x := h2
      show (if hN h ≤ y ∧ y < hN h + 12 then 17 else own y) = 17
      rw [if_pos (by omega)]
    · have hy : hN x ≤ y := hy
      show (if hN h ≤ y ∧ y < hN h + 12 then 17 else own y) = 0
      rw [if_neg (by omega)]; exact o.2.2 y (by omega)
    · show hR (sR x 74 8 (some (hN h))) y q = _
      rw [hR_s, if_neg hn]; exact (bx y hy).2.2.2 q
    · have e1 : sd (sR x 74 8 (some (hN h))) = 0 := if_neg (by rw [e8]; exact fun z => by cases z)
      have e2 : sd h = 12 := if_pos d
      show hN x + sd (sR x 74 8 (some (hN h))) ≤ hN h + sd h
      rw [e1, e2]; omega
    · have e1 : sz (sR x 74 8 (some (hN h))) = 0 := if_neg (by rw [e8]; exact fun z => by cases z)
      have e2 : sz h = 24100 := if_pos d
      show hZ x + sz (sR x 74 8 (some (hN h))) ≤ hZ h + sz h
      rw [e1, e2]; omega
  · rw [d1]
    show wp ((gR h 0 74 8).bind _) _
    rw [wp_bind, r8 s d1, wp_some]
    refine ⟨own, turn, FN.rfl' o.2.2, d1, d2, d3, d4, d5, fun _ _ _ => rfl, fun a' ha => ?_⟩
    cases ha
    exact ⟨rfl, rfl⟩
end CFD

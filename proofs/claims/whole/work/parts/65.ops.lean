/-! reaches, about -/
def sumR (R : Nat → Int32) : Nat → Int32
  | 0 => 0
  | k + 1 => sumR R k + R k
section OP3
variable {h : Hp} {m : Mem} {g : GS} {own : Nat → Nat} {ad : Nat → Option Nat}
theorem c_runCount {b : Nat} {R : Nat → Int32} {m : Mem} (s3 : Sh3 h b) (e : ∀ p, p < 6 → m (b + 2) p = R p) {Q : Int32 → Prop} : wp (fX3_runCount (wI h m) b) Q = Q (sumR R 6) := by
  have : wp (fX3_runCount (wI h m) b) (fun r => r = sumR R 6) := by
    unfold fX3_runCount
    rw [wp_bind]
    refine wp_for (κ := Unit) (fun i _ => (sumR R i, nI i)) 6 (fun _ _ => True) (fun i _ hi _ => ?_) (fun _ _ => ?_) 0 () (Nat.zero_le _) trivial (by decide)
    · simp (disch := omega) only [bX3_runCount_4, L_6, i_le, wp_f, wp_bind, s3.r1, s3.l1, e i hi, wp_some, lq_l, L_1, i_add]
      exact ⟨(), rfl, trivial⟩
    · simp (disch := omega) only [bX3_runCount_4, L_6, i_le, wp_t, wp_some, lq_r]
  obtain ⟨r, e, rfl⟩ := this
  exact wp_eq e
theorem r_runsAll {R : Nat → Int32} (e : ∀ p, p < 6 → m 1 (1533 + p) = R p) {Q : Int32 → Prop} : wp (gX12_runsAll m) Q = Q (sumR R 6) := by
  have : wp (gX12_runsAll m) (fun r => r = sumR R 6) := by
    unfold gX12_runsAll
    rw [wp_bind]
    refine wp_for (κ := Unit) (fun i _ => (sumR R i, nI i)) 6 (fun _ _ => True) (fun i _ hi _ => ?_) (fun _ _ => ?_) 0 () (Nat.zero_le _) trivial (by decide)
    · simp (disch := omega) only [gbX12_runsAll_4, L_6, i_le, wp_f, wp_bind, L_1533, i_add, w_rd, e i hi, wp_some, lq_l, L_1]
      exact ⟨(), rfl, trivial⟩
    · simp (disch := omega) only [gbX12_runsAll_4, L_6, i_le, wp_t, wp_some, lq_r]
  obtain ⟨r, e, rfl⟩ := this
  exact wp_eq e
theorem r_edges {G : GD} (R : GRr (m 1) G) (w : GW G) {Q : Int32 → Prop} : wp (gX12_edges m) Q = Q (nI (gN G)) := by
  have : wp (gX12_edges m) (fun r => r = nI (gN G)) := by
    unfold gX12_edges
    rw [wp_bind]
    refine wp_for (κ := Unit) (fun i _ => (nI (cn (fun k => gE G (k / 16) (k % 16)) i), nI i)) 256 (fun _ _ => True) (fun i _ hi _ => ?_) (fun _ _ => ?_) 0 () (Nat.zero_le _) trivial (by decide)
    · have hE := R.E w (x := i / 16) (y := i % 16) (by omega) (by omega)
      unfold rE at hE
      rw [show 16 * (i / 16) + i % 16 = i by omega] at hE
      simp (disch := omega) only [gbX12_edges_4, L_256, i_le, wp_f, wp_bind, z_add, w_rd]
      by_cases z : m 1 i ≤ 0
      · rw [wp_t z]
        unfold gjX12_edges_28
        rw [wp_bind, wp_some, z_add0, wp_bind, wp_some, wp_some, lq_l, nI_1, cn_f (P := fun k => gE G (k / 16) (k % 16)) (fun q => hE.mpr q z)]
        exact ⟨(), rfl, trivial⟩
      · rw [wp_f z]
        unfold gjX12_edges_28
        rw [wp_bind, wp_some, nI_1, wp_bind, wp_some, wp_some, lq_l, nI_1, cn_t (P := fun k => gE G (k / 16) (k % 16)) (hE.mp z)]
        exact ⟨(), rfl, trivial⟩
    · simp (disch := omega) only [gbX12_edges_4, L_256, i_le, wp_t, wp_some, lq_r]
      rfl
  obtain ⟨r, e, rfl⟩ := this
  exact wp_eq e
theorem o_about (I : IC h g own ad) (J : IR m g) (ok : okG g) (v : Int32) : ∃ r, fX11_about h 0 v = some r ∧ gX12_about m v = some r := by
  obtain ⟨cs, ow, ⟨t1, t2⟩, ⟨f1, f2⟩, ⟨P, hP, p1, p2, pc⟩, ⟨a1, a2⟩, r52, r19, r36, r15, sl, li, bx⟩ := I
  obtain ⟨⟨j1, j2⟩, ⟨j3, j4⟩, jp, ⟨j5, j6⟩, jl, jw, ju, jb, jx⟩ := J
  obtain ⟨o1, pw, o2, o3, o4, o5⟩ := ok
  have pc' : PC (wI h (hI h)) P (sP g) := pc
  have s5 : Sh5 h P := pc.1
  obtain ⟨b, n, hb, L⟩ := li (sA g) o2
  have rb : hR h 19 (sA g) = some b := by rw [r19 _ (by omega)]; exact hb
  have pr : ∀ {Q : Nat → Prop}, wp (fX2_present (wI h (hI h)) 18) Q = Q b := fun {Q} => cs.present a1 (by omega) rb
  obtain ⟨s3, L1, L2, L3, L4, L5, L6⟩ := L
  obtain ⟨F1, F2, F3, F4, F5, F8⟩ := jl
  obtain ⟨lw, sw⟩ := o4 (sA g) o2
  have s2 := cs.s2
  have s7 := s3.s4
  have s1 := s3.s3
  refine bo ?_
  show wp (fX11_about (wI h (hI h)) 0 v) _
  obtain ⟨k, hk, e9, e2, e3, e4, e5, e6⟩ := jp
  have c0 : hI h P 0 = nI (pK (sP g)) := pc.2.1
  have c1 : hI h P 1 = nI (pL (sP g)) := pc.2.2.1
  have c2 : hI h P 2 = nI (pP (sP g)) := pc.2.2.2.1
  unfold fX11_about gX12_about
  rw [wp_bind, cs.gr cs.r5, wp_bind, s2.o, wp_bind, pr]
  by_cases z0 : v = 0
  · rw [wp_t z0, wp_bind, cs.gr p1, wp_bind, s5.g0, wp_some, wp_t z0, e9, wp_bind, w_rd (by omega) (by decide), wp_some, e2, c0]
  rw [wp_f z0]
  by_cases z1 : v = 1
  · rw [wp_t z1, wp_bind, cs.gr p1, wp_bind, s5.g1, wp_some, wp_f z0, wp_t z1, e9, wp_bind, w_rd (by omega) (by decide), wp_some, e3, c1]
  rw [wp_f z1]
  by_cases z2 : v = 2
  · rw [wp_t z2, wp_bind, cs.gr p1, wp_bind, s5.g2, wp_some, wp_f z0, wp_f z1, wp_t z2, e9, wp_bind, w_rd (by omega) (by decide), wp_some, e4, c2]
  rw [wp_f z2]
  by_cases z3 : v = 3
  · rw [wp_t z3, wp_bind, s3.r3, wp_bind, s1.g0, wp_some, wp_f z0, wp_f z1, wp_f z2, wp_t z3, wp_bind, r_edges F2 lw.2.1, wp_some, L2.1]
  rw [wp_f z3]
  by_cases z4 : v = 4
  · rw [wp_t z4, wp_bind, s3.r4, wp_bind, s7.g0, wp_some, wp_f z0, wp_f z1, wp_f z2, wp_f z3, wp_t z4, L_272, wp_bind, w_rd (by omega) (by decide), wp_some, F1.1, L1.1]
  rw [wp_f z4]
  by_cases z5 : v = 5
  · rw [wp_t z5, wp_bind, s3.g5, wp_some, wp_f z0, wp_f z1, wp_f z2, wp_f z3, wp_f z4, wp_t z5, L_1539, wp_bind, w_rd (by omega) (by decide), wp_some, F5.1, L6.1]
  rw [wp_f z5]
  by_cases z6 : v = 6
  · rw [wp_t z6, wp_bind, s3.g6, wp_some, wp_f z0, wp_f z1, wp_f z2, wp_f z3, wp_f z4, wp_f z5, wp_t z6, L_1540, wp_bind, w_rd (by omega) (by decide), wp_some, F5.2.1, L6.2.1]
  rw [wp_f z6]
  by_cases z7 : v = 7
  · rw [wp_t z7, wp_bind, s3.o, wp_bind, c_runCount s3 L4, wp_some, wp_f z0, wp_f z1, wp_f z2, wp_f z3, wp_f z4, wp_f z5, wp_f z6, wp_t z7, wp_bind, r_runsAll F4, wp_some]
  rw [wp_f z7]
  by_cases z8 : v = 8
  · rw [wp_t z8, wp_bind, cs.gr cs.r5, wp_bind, s2.g0, wp_some, wp_f z0, wp_f z1, wp_f z2, wp_f z3, wp_f z4, wp_f z5, wp_f z6, wp_f z7, wp_t z8, wp_some, j5, a1]
  rw [wp_f z8]
  by_cases z9 : v = 9
  · rw [wp_t z9, wp_bind, cs.gr cs.r5, wp_bind, s2.g1, wp_bind, cs.gr cs.r5, wp_bind, s2.g0, wp_some, wp_f z0, wp_f z1, wp_f z2, wp_f z3, wp_f z4, wp_f z5, wp_f z6, wp_f z7, wp_f z8, wp_t z9, wp_some, j6, a1, a2, i_sub o2]
  rw [wp_f z9]
  by_cases z10 : v = 10
  · rw [wp_t z10, wp_bind, cs.gi, wp_some, wp_f z0, wp_f z1, wp_f z2, wp_f z3, wp_f z4, wp_f z5, wp_f z6, wp_f z7, wp_f z8, wp_f z9, wp_t z10, wp_some, j1, t1]
  rw [wp_f z10]
  rw [wp_some, wp_f z0, wp_f z1, wp_f z2, wp_f z3, wp_f z4, wp_f z5, wp_f z6, wp_f z7, wp_f z8, wp_f z9, wp_f z10, wp_some]

theorem o_reaches (I : IC h g own ad) (J : IR m g) (ok : okG g) (v : Int32) : ∃ r m1, fX11_reaches h 0 v = some r ∧ gX12_reaches m v = some (r, m1) ∧ IR m1 g := by
  have J' := J
  obtain ⟨cs, ow, ⟨t1, t2⟩, ⟨f1, f2⟩, ⟨P, hP, p1, p2, pc⟩, ⟨a1, a2⟩, r52, r19, r36, r15, sl, li, bx⟩ := I
  obtain ⟨⟨j1, j2⟩, ⟨j3, j4⟩, jp, ⟨j5, j6⟩, jl, jw, ju, jb, jx⟩ := J
  obtain ⟨o1, pw, o2, o3, o4, o5⟩ := ok
  have pc' : PC (wI h (hI h)) P (sP g) := pc
  have s5 : Sh5 h P := pc.1
  obtain ⟨b, n, hb, L⟩ := li (sA g) o2
  have rb : hR h 19 (sA g) = some b := by rw [r19 _ (by omega)]; exact hb
  have pr : ∀ {Q : Nat → Prop}, wp (fX2_present (wI h (hI h)) 18) Q = Q b := fun {Q} => cs.present a1 (by omega) rb
  obtain ⟨s3, L1, L2, L3, L4, L5, L6⟩ := L
  obtain ⟨F1, F2, F3, F4, F5, F8⟩ := jl
  obtain ⟨lw, sw⟩ := o4 (sA g) o2
  have s2 := cs.s2
  have s7 := s3.s4
  have s1 := s3.s3
  have key : ∀ r : Int32, fX11_reaches h 0 v = some r → wp (gX12_reaches m v) (fun r' => r'.1 = r ∧ IR r'.2 g) → ∃ r m1, fX11_reaches h 0 v = some r ∧ gX12_reaches m v = some (r, m1) ∧ IR m1 g := by
    rintro r e ⟨⟨r', m1⟩, e', rfl, hI⟩
    exact ⟨_, m1, e, e', hI⟩
  by_cases hv : inN v 16
  · obtain ⟨x, hx, e⟩ := inN_ex hv
    subst e
    refine key (hI h (b + 4 + 2) x) ?_ ?_
    · have : wp (fX11_reaches (wI h (hI h)) 0 (nI x)) (fun r => r = hI h (b + 4 + 2) x) := by
        unfold fX11_reaches jX11_reaches_26
        rw [wp_bind, w_isNodeC, b01_t hv, wp_f (by decide), wp_bind, cs.gr cs.r5, wp_bind, s2.o, wp_bind, pr, wp_bind, s3.r3, wp_bind, s1.r2, wp_bind, s1.l2 hx, wp_some]
      obtain ⟨r, e, rfl⟩ := this
      exact e
    · unfold gX12_reaches
      rw [wp_bind]
      have hE2 : ∀ a c, a < 16 → c < 16 → (rE (m 1) a c ↔ gE (aG (sH g (sA g))) a c) := fun a c ha hc => F2.E lw.2.1 ha hc
      refine wp_mono (Q := fun r => (∀ y, y < 32 → (bt r.1 y = true ↔ y < 16 ∧ Rc 16 (gE (aG (sH g (sA g)))) x y)) ∧ ∀ o, o ≠ 16 → o ≠ 17 → r.2 o = m o) ?_ ?_
      · refine wp_for (κ := Int32 × Mem) (fun i c => (c.1, nI i, c.2)) 16 (fun i c => (∀ y, y < 32 → (bt c.1 y = true ↔ y < i ∧ Rc 16 (gE (aG (sH g (sA g)))) x y)) ∧ ∀ o, o ≠ 16 → o ≠ 17 → c.2 o = m o) (fun i c hi HH => ?_) (fun c HH => ?_) 0 (0, m) (Nat.zero_le _) ⟨fun y hy => by rw [b_0]; simp, fun _ _ _ => rfl⟩ (by decide)
        · obtain ⟨c, m2⟩ := c
          obtain ⟨H1, H2⟩ := HH
          simp only at H1 H2 ⊢
          have hE3 : ∀ a c, a < 16 → c < 16 → (rE (m2 1) a c ↔ gE (aG (sH g (sA g))) a c) := by rw [H2 1 (by decide) (by decide)]; exact hE2
          simp (disch := omega) only [gbX12_reaches_4, L_16, i_le, wp_f, wp_bind, w_isNodeR]
          rw [b01_t hv, wp_f (by decide), wp_bind]
          unfold gX12_isWay
          rw [wp_bind]
          refine wp_mono (r_layWay (m := m2) hx hi) ?_
          rintro ⟨r1, m3⟩ ⟨f3, H3⟩
          simp only at f3 H3 ⊢
          have fr3 : ∀ o, o ≠ 16 → o ≠ 17 → m3 o = m o := fun o h1 h2 => by rw [f3 o h1 h2, H2 o h1 h2]
          rcases H3 with ⟨K, z, way, rfl, _⟩ | ⟨rfl, no⟩
          · have hr : Rc 16 (gE (aG (sH g (sA g)))) x i := Rc_iff.mpr (fun q => (Way_congr hE3 hx way).no q)
            have hK := way.leK hi
            rw [wp_f (nI_nle (by omega) (by omega))]
            unfold gjX12_isWay_14 gjX12_reaches_34
            rw [wp_bind, wp_eq bz_1, wp_some]
            simp only
            rw [wp_f (by decide), wp_bind, wp_some, wp_bind, wp_some, wp_some, lq_l, nI_1]
            refine ⟨(_, m3), rfl, fun y hy => ?_, fr3⟩
            rw [b_or, Bool.or_eq_true, H1 y hy, b_shl1 (by omega) hy, decide_eq_true_iff]
            constructor
            · rintro (q | q)
              · exact ⟨by omega, q.2⟩
              · subst q; exact ⟨by omega, hr⟩
            · rintro ⟨q1, q2⟩
              rcases Nat.lt_or_ge y i with q | q
              · exact Or.inl ⟨q, q2⟩
              · exact Or.inr (by omega)
          · have hr : ¬ Rc 16 (gE (aG (sH g (sA g)))) x i := fun q => Rc_iff.mp q ((noWay_congr hE3 hx).mp no)
            rw [wp_t (by decide)]
            unfold gjX12_isWay_14 gjX12_reaches_34
            rw [wp_bind, wp_eq bz_0, wp_some]
            simp only
            rw [wp_t trivial, wp_bind, wp_some, wp_bind, wp_some, wp_some, lq_l, nI_1, show c ||| (0 : Int32) = c from by apply b_ext; intro j hj; rw [b_or, b_0, Bool.or_false]]
            refine ⟨(c, m3), rfl, fun y hy => ?_, fr3⟩
            show bt c y = true ↔ _
            rw [H1 y hy]
            constructor
            · rintro ⟨q1, q2⟩; exact ⟨by omega, q2⟩
            · rintro ⟨q1, q2⟩
              refine ⟨Nat.lt_of_le_of_ne (by omega) (fun e => hr (by rw [← e]; exact q2)), q2⟩
        · simp (disch := omega) only [gbX12_reaches_4, L_16, i_le, wp_t, wp_some, lq_r]
          exact HH
      · rintro ⟨r1, m3⟩ ⟨H1, H2⟩
        rw [wp_some]
        refine ⟨b_ext fun y hy => ?_, J'.go (fun o ho => H2 o (by omega) (by omega)) (fun j _ => congrFun (H2 0 (by decide) (by decide)) j)⟩
        have q1 := H1 y hy
        have q2 := (L2.2 x hx).2.1 y hy
        rw [← q2] at q1
        simp only at q1 ⊢
        cases h1 : bt r1 y <;> cases h2 : bt (hI h (b + 4 + 2) x) y <;> simp_all
  · refine key 0 ?_ ?_
    · have : wp (fX11_reaches (wI h (hI h)) 0 v) (fun r => r = 0) := by
        unfold fX11_reaches jX11_reaches_26
        rw [wp_bind, w_isNodeC, b01_n hv, wp_t rfl, wp_some]
      obtain ⟨r, e, rfl⟩ := this
      exact e
    · unfold gX12_reaches
      rw [wp_bind]
      have e1 : gbX12_reaches_4 v ((0 : Int32), (0 : Int32), m) = some (.inr (0, m)) := by
        have : wp (gbX12_reaches_4 v ((0 : Int32), (0 : Int32), m)) (fun r => r = .inr (0, m)) := by
          unfold gbX12_reaches_4
          rw [wp_f (show ¬ (16 : Int32) ≤ 0 by decide), wp_bind, w_isNodeR, b01_n hv, wp_t rfl, wp_some]
        obtain ⟨r, e, rfl⟩ := this
        exact e
      rw [wp_eq (show lp (gbX12_reaches_4 v) FU ((0 : Int32), (0 : Int32), m) = some (0, m) from lp_r (n := 999999) e1), wp_some]
      exact ⟨rfl, J'⟩
end OP3

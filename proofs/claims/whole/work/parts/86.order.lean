/-! an order of all: both sides -/
section COR
variable {h : Hp} {m : Mem} {g : Nat} {G : GD}
theorem w_leastOf {x : Int32} {n : Nat} {Q : Int32 → Prop} (hn : n < 32) (h1 : bt x n = true) (hl : ∀ j, j < n → bt x j = false) : wp (fX11_leastOf h x) Q = Q (nI n) := by
  unfold fX11_leastOf
  rw [wp_bind, wp_eq (c_least h hn h1 hl), wp_some]
theorem c_ledTo {u : Int32} (s : Sh1 h g) (R : GRc m g G) : wp (fX1_ledToFrom (wI h m) g u) (fun r => ∀ x, x < 32 → (bt r x = true ↔ ∃ a, a < 16 ∧ bt u a = true ∧ x < 16 ∧ gE G a x)) := by
  unfold fX1_ledToFrom
  rw [wp_bind]
  refine wp_mono (Q := fun r => ∀ x, x < 32 → (bt r x = true ↔ ∃ a, a < 16 ∧ bt u a = true ∧ x < 16 ∧ gE G a x)) ?_ (fun r hr => by rw [wp_some]; exact hr)
  refine wp_for (κ := Int32) (fun i c => (c, nI i)) 16 (fun i c => ∀ x, x < 32 → (bt c x = true ↔ ∃ a, a < i ∧ bt u a = true ∧ x < 16 ∧ gE G a x)) (fun i c hi hI => ?_) (fun c hI => ?_) 0 0 (by decide) (fun x hx => by rw [b_0]; exact ⟨fun z => (by cases z), fun ⟨a, ha, _⟩ => absurd ha (Nat.not_lt_zero _)⟩) (by decide)
  · simp only [bX1_ledToFrom_4, jX1_ledToFrom_27]
    rw [L_16, wp_f (fun z => by have := (nI_leI (by decide) (by omega)).mp z; omega), wp_bind, w_has (by omega)]
    by_cases h1 : bt u i = true
    · rw [b01_t h1, wp_f (by decide), wp_bind, s.r1, wp_bind, s.l1 hi, wp_bind, wp_some, wp_bind, wp_some, wp_some, lq_l]
      refine ⟨_, by rw [nI_1], fun x hx => ?_⟩
      rw [b_or, Bool.or_eq_true, hI x hx, (R.2 i hi).1 x hx]
      constructor
      · rintro (⟨a, a1, a2⟩ | z)
        · exact ⟨a, by omega, a2⟩
        · exact ⟨i, by omega, h1, z⟩
      · rintro ⟨a, a1, a2, a3⟩
        by_cases e : a = i
        · subst e; exact Or.inr a3
        · exact Or.inl ⟨a, by omega, a2, a3⟩
    · rw [b01_n h1, wp_t rfl, wp_bind, wp_some, wp_some, lq_l]
      refine ⟨_, by rw [nI_1], fun x hx => ?_⟩
      rw [hI x hx]
      constructor
      · rintro ⟨a, a1, a2⟩
        exact ⟨a, by omega, a2⟩
      · rintro ⟨a, a1, a2, a3⟩
        by_cases e : a = i
        · subst e; exact absurd a2 h1
        · exact ⟨a, by omega, a2, a3⟩
  · simp only [bX1_ledToFrom_4]
    rw [L_16, wp_t (nI_le (Nat.le_refl _) (by decide)), wp_some, lq_r]
    exact hI
theorem c_io4 {v : Int32} (s : Sh1 h g) (R : GRc m g G) : wp (lp (bX1_inOrder_4 g v (wI h m)) FU (0, 0)) (fun e => (e = .inr () ∧ cyc (gE G)) ∨ ∃ u, e = .inl u ∧ ¬ cyc (gE G) ∧ ∀ x, x < 32 → (bt u x = true ↔ nd0 (gE G) x)) := by
  refine wp_for (κ := Int32) (fun i c => (c, nI i)) 16 (fun i c => (∀ x, x < 32 → (bt c x = true ↔ ∃ a, a < i ∧ ∃ b, b < 16 ∧ gE G a b ∧ (x = a ∨ x = b))) ∧ ∀ a, a < i → ¬ Rc 16 (gE G) a a) (fun i c hi hI => ?_) (fun c hI => ?_) 0 0 (by decide) ⟨fun x hx => by rw [b_0]; exact ⟨fun z => (by cases z), fun ⟨a, ha, _⟩ => absurd ha (Nat.not_lt_zero _)⟩, fun a ha => absurd ha (Nat.not_lt_zero _)⟩ (by decide)
  · obtain ⟨hb, hn⟩ := hI
    have e1 := R.2 i hi
    simp only [bX1_inOrder_4, jX1_inOrder_47]
    rw [L_16, wp_f (fun z => by have := (nI_leI (by decide) (by omega)).mp z; omega), wp_bind, s.r2, wp_bind, s.l2 hi, wp_bind, w_has (by omega)]
    by_cases hr : Rc 16 (gE G) i i
    · rw [b01_t ((e1.2.1 i (by omega)).mpr ⟨hi, hr⟩), wp_f (by decide), wp_some, lq_r]
      exact Or.inl ⟨rfl, i, hi, hr⟩
    · have hn' : ∀ a, a < i + 1 → ¬ Rc 16 (gE G) a a := fun a ha => by
        by_cases e : a = i
        · rw [e]; exact hr
        · exact hn a (by omega)
      rw [b01_n (fun z => hr ((e1.2.1 i (by omega)).mp z).2), wp_t rfl, wp_bind, s.r1, wp_bind, s.l1 hi]
      by_cases z : m (g + 1) i = 0
      · have no : ∀ b, b < 16 → ¬ gE G i b := fun b hb' hE => by
          have := (e1.1 b (by omega)).mpr ⟨hb', hE⟩
          rw [z, b_0] at this
          cases this
        rw [wp_t z, wp_bind, wp_some, wp_some, lq_l]
        refine ⟨_, by rw [nI_1], fun x hx => ?_, hn'⟩
        rw [hb x hx]
        constructor
        · rintro ⟨a, a1, a2⟩
          exact ⟨a, by omega, a2⟩
        · rintro ⟨a, a1, b, b1, b2, b3⟩
          by_cases e : a = i
          · subst e; exact absurd b2 (no b b1)
          · exact ⟨a, by omega, b, b1, b2, b3⟩
      · have ex : ∃ b, b < 16 ∧ gE G i b := by
          obtain ⟨b, b1, b2, _⟩ := b_least z
          exact ⟨b, (e1.1 b b1).mp b2⟩
        rw [wp_f z, wp_bind, s.r1, wp_bind, s.l1 hi, wp_bind, wp_some, wp_bind, wp_some, wp_some, lq_l]
        refine ⟨_, by rw [nI_1], fun x hx => ?_, hn'⟩
        rw [b_or, b_or, Bool.or_eq_true, Bool.or_eq_true, b_shl1 (by omega) hx, decide_eq_true_iff, hb x hx, e1.1 x hx]
        constructor
        · rintro (⟨a, a1, a2⟩ | rfl | ⟨x1, x2⟩)
          · exact ⟨a, by omega, a2⟩
          · obtain ⟨b, b1, b2⟩ := ex
            exact ⟨x, by omega, b, b1, b2, Or.inl rfl⟩
          · exact ⟨i, by omega, x, x1, x2, Or.inr rfl⟩
        · rintro ⟨a, a1, b, b1, b2, b3⟩
          by_cases e : a = i
          · subst e
            rcases b3 with rfl | rfl
            · exact Or.inr (Or.inl rfl)
            · exact Or.inr (Or.inr ⟨b1, b2⟩)
          · exact Or.inl ⟨a, by omega, b, b1, b2, b3⟩
  · obtain ⟨hb, hn⟩ := hI
    simp only [bX1_inOrder_4]
    rw [L_16, wp_t (nI_le (Nat.le_refl _) (by decide)), wp_some, lq_r]
    refine Or.inr ⟨c, rfl, fun ⟨x, hx, hr⟩ => hn x hx hr, fun x hx => ?_⟩
    rw [hb x hx]
    unfold nd0
    constructor
    · rintro ⟨a, a1, b, b1, b2, b3⟩
      rcases b3 with rfl | rfl
      · exact ⟨a1, b, b1, Or.inl b2⟩
      · exact ⟨b1, a, a1, Or.inr b2⟩
    · rintro ⟨x1, y, y1, y2 | y2⟩
      · exact ⟨x, x1, y, y1, y2, Or.inl rfl⟩
      · exact ⟨y, y1, x, x1, y2, Or.inr rfl⟩
theorem c_io58 {i n : Nat} {u : Int32} {l : Nat → Nat} (s : Sh1 h g) (R : GRc m g G) (hi : i < 16) (hu : ∀ x, x < 32 → (bt u x = true ↔ nd0 (gE G) x)) (hl : lst (gE G) l n) (hp : ∀ x, ¬ ps (gE G) l n x) : wp (lp (bX1_inOrder_58 g (nI i) (wI h m)) FU (u, (-1 : Int32), 0)) (fun e => (i < n ∧ e = .inl (nI (l i))) ∨ (n ≤ i ∧ e = .inr ())) := by
  refine wp_for (κ := Int32 × Int32) (fun j c => (c.1, c.2, nI j)) (i + 1) (fun j c => (∀ x, x < 32 → (bt c.1 x = true ↔ ps (gE G) l j x)) ∧ j ≤ n ∧ ∀ q, j = q + 1 → c.2 = nI (l q)) (fun j c hj hI => ?_) (fun c hI => ?_) 0 (u, -1) (Nat.zero_le _) ⟨fun x hx => by rw [hu x hx]; exact ⟨fun z => ⟨z, fun j hj => absurd hj (Nat.not_lt_zero _)⟩, fun z => z.1⟩, Nat.zero_le _, fun q hq => by omega⟩ (by omega)
  · obtain ⟨c, nd⟩ := c
    obtain ⟨hc, hjn, _⟩ := hI
    simp only at hc
    simp only [bX1_inOrder_58]
    rw [wp_f (fun z => by have := (nI_ltI (by omega) (by omega)).mp z; omega), wp_bind, s.o, wp_bind]
    refine wp_mono (c_ledTo s R) (fun r hr => ?_)
    have hf : ∀ x, x < 32 → (bt (c &&& (r ^^^ (-1))) x = true ↔ ps (gE G) l j x ∧ ¬ ∃ a, a < 16 ∧ ps (gE G) l j a ∧ gE G a x) := fun x hx => by
      rw [b_andn _ _ hx, Bool.and_eq_true, hc x hx]
      refine and_congr_right fun hx2 => ?_
      have h16 := hx2.1.1
      rw [Bool.not_eq_true', ← Bool.not_eq_true, hr x hx]
      refine not_congr ?_
      constructor
      · rintro ⟨a, a1, a2, _, a3⟩
        exact ⟨a, a1, (hc a (by omega)).mp a2, a3⟩
      · rintro ⟨a, a1, a2, a3⟩
        exact ⟨a, a1, (hc a (by omega)).mpr a2, h16, a3⟩
    rw [wp_bind, wp_some]
    by_cases z : j < n
    · have F := hl j z
      have h16 := F.1.1.1
      have b1 : bt (c &&& (r ^^^ (-1))) (l j) = true := (hf _ (by omega)).mpr ⟨F.1, fun ⟨a, a1, a2, a3⟩ => F.2.1 a a1 a2 a3⟩
      have b2 : ∀ q, q < l j → bt (c &&& (r ^^^ (-1))) q = false := fun q hq => by
        rw [← Bool.not_eq_true, hf q (by omega)]
        rintro ⟨z1, z2⟩
        exact z2 (F.2.2 q hq z1)
      have ne : ¬ c &&& (r ^^^ (-1)) = 0 := fun e => by
        rw [e, b_0] at b1
        cases b1
      rw [wp_f ne, wp_bind, w_leastOf (by omega) b1 b2, wp_bind, wp_some, wp_bind, wp_some, wp_some, lq_l]
      refine ⟨(_, nI (l j)), by rw [nI_1], fun x hx => ?_, by omega, fun q hq => by rw [show q = j by omega]⟩
      show bt (c &&& (((1 : Int32) <<< (nI (l j) &&& 31)) ^^^ (-1))) x = true ↔ _
      rw [b_andn _ _ hx, b_shl1 (by omega) hx, Bool.and_eq_true, hc x hx]
      unfold ps
      simp only [Bool.not_eq_true', decide_eq_false_iff_not]
      constructor
      · rintro ⟨⟨z1, z2⟩, z3⟩
        refine ⟨z1, fun q hq => ?_⟩
        by_cases e : q = j
        · rw [e]; exact fun e => z3 e.symm
        · exact z2 q (by omega)
      · rintro ⟨z1, z2⟩
        exact ⟨⟨z1, fun q hq => z2 q (by omega)⟩, fun e => z2 j (by omega) e.symm⟩
    · have e : j = n := by omega
      have e0 : c &&& (r ^^^ (-1)) = 0 := b_zero.mpr fun x hx => by
        rw [← Bool.not_eq_true, hf x hx]
        rintro ⟨z1, _⟩
        rw [e] at z1
        exact hp x z1
      rw [wp_t e0, wp_some, lq_r]
      exact Or.inr ⟨by omega, rfl⟩
  · obtain ⟨c, nd⟩ := c
    obtain ⟨hc, hjn, he⟩ := hI
    simp only [bX1_inOrder_58]
    rw [wp_t ((nI_ltI (by omega) (by omega)).mpr (Nat.lt_succ_self i)), wp_some, lq_r]
    exact Or.inl ⟨by omega, by rw [show nd = nI (l i) from he i rfl]⟩
end COR
section OOR
variable {h : Hp} {m : Mem} {g : GS} {own : Nat → Nat} {ad : Nat → Option Nat}
theorem o_order (I : IC h g own ad) (J : IR m g) (ok : okG g) (v : Int32) : ∃ r m1, fX11_order h 0 v = some r ∧ gX12_order m v = some (r, m1) ∧ IR m1 g := by
  have J' := J
  obtain ⟨cs, ow, ⟨t1, t2⟩, ⟨f1, f2⟩, ⟨P, hP, p1, p2, pc⟩, ⟨a1, a2⟩, r52, r19, r36, r15, sl, li, bx⟩ := I
  obtain ⟨⟨j1, j2⟩, ⟨j3, j4⟩, jp, ⟨j5, j6⟩, jl, jw, ju, jb, jx⟩ := J
  obtain ⟨o1, pw, o2, o3, o4, o5⟩ := ok
  obtain ⟨b, n0, hb, L⟩ := li (sA g) o2
  have rb : hR h 19 (sA g) = some b := by rw [r19 _ (by omega)]; exact hb
  have pr : ∀ {Q : Nat → Prop}, wp (fX2_present (wI h (hI h)) 18) Q = Q b := fun {Q} => cs.present a1 (by omega) rb
  have s2 := cs.s2
  have okA0 := o4 (sA g) o2
  have s1 : Sh1 h (b + 4) := L.1.s3
  have R := L.2.2.1
  have hE : ∀ a b, a < 16 → b < 16 → (rE (m 1) a b ↔ gE (aG (sH g (sA g))) a b) := fun a b ha hb => jl.2.1.E okA0.1.2.1 ha hb
  obtain ⟨⟨ro, m1⟩, e1, fr, hro⟩ := r_layOrder hE
  have IR1 : IR m1 g := IR.go J' (fun o ho => fr o (by omega)) (fun j _ => by rw [show m1 0 = m 0 from fr 0 (by decide)])
  have cl : wp (fX11_order (wI h (hI h)) 0 v) (fun r => (inN v 16 ∧ wp (fX1_inOrder (wI h (hI h)) (b + 4) v) (fun r' => r' = r)) ∨ (¬ inN v 16 ∧ r = mI)) := by
    unfold fX11_order jX11_order_27 jX11_order_28
    by_cases c1 : v < 0
    · rw [wp_t c1, wp_some]; exact Or.inr ⟨fun z => z.1 c1, rfl⟩
    · rw [wp_f c1]
      obtain ⟨k, hk, e⟩ := nI_of c1
      subst e
      by_cases c2 : 16 ≤ k
      · rw [L_16, wp_t (nI_le c2 (by omega)), wp_some]; exact Or.inr ⟨fun z => by have := (inN_nI hk).mp z; omega, rfl⟩
      · rw [L_16, wp_f (fun z => c2 ((nI_leI (by decide) (by omega)).mp z)), wp_bind, cs.gr cs.r5, wp_bind, s2.o, wp_bind, pr, wp_bind, L.1.r3, wp_bind, s1.o, wp_bind]
        have key : ∃ r', fX1_inOrder (wI h (hI h)) (b + 4) (nI k) = some r' := by
          unfold fX1_inOrder
          obtain ⟨e, e2, he⟩ := c_io4 (v := nI k) s1 R
          rcases he with ⟨rfl, _⟩ | ⟨u, rfl, hc, hu⟩
          · exact ⟨_, by rw [e2]; rfl⟩
          · rcases hro with ⟨_, z⟩ | ⟨n, l, n16, _, _, hl, hp, _⟩
            · exact absurd z hc
            · obtain ⟨e', e3, he'⟩ := c_io58 (i := k) s1 R (by omega) hu hl hp
              rcases he' with ⟨_, rfl⟩ | ⟨_, rfl⟩
              · exact ⟨_, by rw [e2, Option.bind_some]; show (lp _ _ _).bind _ = _; rw [e3]; rfl⟩
              · exact ⟨_, by rw [e2, Option.bind_some]; show (lp _ _ _).bind _ = _; rw [e3]; rfl⟩
        obtain ⟨r', er⟩ := key
        refine ⟨r', er, ?_⟩
        show wp (some r') _
        rw [wp_some]
        exact Or.inl ⟨(inN_nI hk).mpr (by omega), r', er, rfl⟩
  suffices hh : ∃ r, fX11_order h 0 v = some r ∧ wp (gX12_order m v) (fun r' => r'.1 = r ∧ IR r'.2 g) by
    obtain ⟨r, e2, ⟨r', m2⟩, e3, e4, e5⟩ := hh
    exact ⟨r, m2, e2, by rw [e3, show r' = r from e4], e5⟩
  obtain ⟨r, e2, hr⟩ := cl
  refine ⟨r, e2, ?_⟩
  unfold gX12_order gjX12_order_26
  rw [wp_bind, wp_eq e1]
  rcases hro with ⟨z1, z2⟩ | ⟨n, l, n16, z1, nc, hl, hp, hm⟩
  · have er : r = mI := by
      rcases hr with ⟨_, hw⟩ | ⟨_, e⟩
      · obtain ⟨r', e3, rfl⟩ := hw
        unfold fX1_inOrder at e3
        obtain ⟨e, e4, he⟩ := c_io4 (v := v) s1 R
        rcases he with ⟨rfl, _⟩ | ⟨u, rfl, hc, hu⟩
        · rw [e4] at e3
          cases e3; rfl
        · exact absurd z2 hc
      · exact e
    have z1' : ro = mI := z1
    rw [z1', wp_bind, wp_eq (r_isIn v 0 _), b01_n (fun z => absurd (Int32.le_trans z.1 z.2) (show ¬ 0 ≤ mI - 1 by decide)), wp_t rfl, wp_some]
    exact ⟨er.symm, IR1⟩
  · have z1' : ro = nI n := z1
    rw [z1', wp_bind, w_isIn (by omega)]
    rcases hr with ⟨hv, hw⟩ | ⟨hv, e⟩
    · obtain ⟨k, hk, e⟩ := inN_ex hv
      subst e
      obtain ⟨r', e3, rfl⟩ := hw
      unfold fX1_inOrder at e3
      obtain ⟨e, e4, he⟩ := c_io4 (v := nI k) s1 R
      rcases he with ⟨rfl, hc⟩ | ⟨u, rfl, hc, hu⟩
      · exact absurd hc nc
      · rw [e4, Option.bind_some] at e3
        change (lp (bX1_inOrder_58 (b + 4) (nI k) (wI h (hI h))) FU (u, (-1 : Int32), 0)).bind _ = _ at e3
        obtain ⟨e', e5, he'⟩ := c_io58 (i := k) s1 R (by omega) hu hl hp
        rw [e5] at e3
        rcases he' with ⟨c1, rfl⟩ | ⟨c1, rfl⟩
        · cases e3
          have := hm k c1
          rw [b01_t ((inN_nI (by omega)).mpr c1), wp_f (by decide), wp_bind, w_rd (by omega) (by decide), wp_some]
          exact ⟨this, IR1⟩
        · cases e3
          rw [b01_n (fun z => by have := (inN_nI (by omega)).mp z; omega), wp_t rfl, wp_some]
          exact ⟨rfl, IR1⟩
    · rw [b01_n (fun z => hv ⟨z.1, by have := z.2; omega⟩), wp_t rfl, wp_some]
      exact ⟨e.symm, IR1⟩
end OOR

/-! small helps of the class; a report by steps, full or not; an edge learnt -/
section CA
variable {h : Hp} {m : Mem} {b : Nat} {D : RD}
theorem c_has (g : Hp) {x : Int32} {n : Nat} (hn : n < 31) : fX11_has g x (nI n) = some (b01 (bt x n = true)) := by
  unfold fX11_has jX11_has_13
  by_cases hb : bt x n = true
  · rw [if_neg (fun z => by rw [(b_has hn).mp z] at hb; cases hb), bz_1]
    exact congrArg some (by unfold b01; rw [if_pos hb])
  · rw [if_pos ((b_has hn).mpr (by cases hz : bt x n with | false => rfl | true => exact absurd hz hb)), bz_0]
    exact congrArg some (by unfold b01; rw [if_neg hb])
theorem w_has {g : Hp} {x : Int32} {n : Nat} {Q : Int32 → Prop} (hn : n < 31) : wp (fX11_has g x (nI n)) Q = Q (b01 (bt x n = true)) := wp_eq (c_has g hn)
theorem w_bz {p : Prop} [Decidable p] {Q : Int32 → Prop} : wp (bz (b01 p)) Q = Q (b01 p) := wp_eq (bz_b p)
def OQ (μ : Mem) (b : Nat) (D : RD) (st p t n : Nat) (x : Nat → Nat) : Prop := (rC D = 60 ∧ RRc μ b D) ∨ (rC D ≠ 60 ∧ OR μ μ b D st p t n x)
theorem OR.self {μ μ0 : Mem} {st p t n : Nat} {x : Nat → Nat} (O : OR μ μ0 b D st p t n x) : OR μ μ b D st p t n x := ⟨fun _ _ => rfl, O.2⟩
theorem OQ.congr {μ μ' : Mem} {st p t n : Nat} {x : Nat → Nat} (O : OQ μ b D st p t n x) (e : ∀ a, b ≤ a → a ≤ b + 6 → μ' a = μ a) : OQ μ' b D st p t n x := by
  rcases O with ⟨h1, h2⟩ | ⟨h1, _, h2, h3⟩
  · exact Or.inl ⟨h1, h2.congr e⟩
  · refine Or.inr ⟨h1, fun _ _ => rfl, h2.congr e, ?_⟩
    rw [e (b + 1) (by omega) (by omega), e (b + 2) (by omega) (by omega), e (b + 3) (by omega) (by omega), e (b + 4) (by omega) (by omega), e (b + 5) (by omega) (by omega)]
    exact h3
theorem OQ.ext {μ : Mem} {st p t n : Nat} {x x' : Nat → Nat} (O : OQ μ b D st p t n x) (e : ∀ i, i < n → x' i = x i) : OQ μ b D st p t n x' := by
  rcases O with h1 | ⟨h1, h2, h3, h4, h5, h6, h7, h8⟩
  · exact Or.inl h1
  · exact Or.inr ⟨h1, h2, h3, h4, h5, h6, h7, fun i hi => by rw [e i hi]; exact h8 i hi⟩
theorem q_open (s : Sh7 h b) (R : RRc m b D) (w : RW D) (st p t : Nat) (x : Nat → Nat) : wp (fX7_open (wI h m) b (nI st) (nI p) (nI t)) (fun r => ∃ m', r = wI h m' ∧ (∀ a, ¬ (b ≤ a ∧ a ≤ b + 6) → m' a = m a) ∧ OQ m' b D st p t 0 x) := by
  by_cases hc : rC D = 60
  · exact wp_of (c_open60 s R hc _ _ _) ⟨m, rfl, fun _ _ => rfl, Or.inl ⟨hc, R⟩⟩
  · refine wp_mono (c_open s R (by have := w.1; omega) st p t x) ?_
    rintro r ⟨m', e, O⟩
    exact ⟨m', e, fun a ha => O.1 a (by omega), Or.inr ⟨hc, O.self⟩⟩
theorem q_add (s : Sh7 h b) {st p t n : Nat} {x : Nat → Nat} (O : OQ m b D st p t n x) (w : RW D) (hn : n < 17) (hx : x n < 16) : wp (fX7_addNode (wI h m) b (nI (x n))) (fun r => ∃ m', r = wI h m' ∧ (∀ a, ¬ (b ≤ a ∧ a ≤ b + 6) → m' a = m a) ∧ OQ m' b D st p t (n + 1) x) := by
  rcases O with ⟨hc, R⟩ | ⟨hc, O⟩
  · exact wp_of (c_add60 s R hc _) ⟨m, rfl, fun _ _ => rfl, Or.inl ⟨hc, R⟩⟩
  · refine wp_mono (c_add s O w (by have := w.1; omega) hn hx) ?_
    rintro r ⟨m', e, O⟩
    exact ⟨m', e, fun a ha => O.1 a (by omega), Or.inr ⟨hc, O.self⟩⟩
theorem q_close (s : Sh7 h b) {st p t n : Nat} {x : Nat → Nat} (O : OQ m b D st p t n x) (w : RW D) (h1 : 1 ≤ st) (h2 : st ≤ 9) (hn1 : 1 ≤ n) (hn : n ≤ 17) (hx : ∀ i, i < n → x i < 16) : wp (fX7_close (wI h m) b) (fun r => ∃ m', r = wI h m' ∧ (∀ a, ¬ (b ≤ a ∧ a ≤ b + 6) → m' a = m a) ∧ RRc m' b (addR D st p t n x)) := by
  rcases O with ⟨hc, R⟩ | ⟨hc, O⟩
  · exact wp_of (c_close60 s R hc) ⟨m, rfl, fun _ _ => rfl, by rw [addR_full hc]; exact R⟩
  · exact c_close s O w (by have := w.1; omega) h1 h2 hn1 hn hx
end CA
section CG
variable {h : Hp} {m : Mem} {g : Nat} {G : GD}
def upG (G : GD) (f t pl : Nat) : GD := fun x y => if x = f ∧ y = t then some pl else G x y
theorem upG_E {f t pl x y : Nat} : gE (upG G f t pl) x y ↔ gE G x y ∨ (x = f ∧ y = t) := by
  unfold gE upG
  by_cases hh : x = f ∧ y = t
  · simp [hh]
  · simp [hh]
theorem upG_W {f t pl : Nat} (w : GW G) (hp : pl < 72) : GW (upG G f t pl) := by
  intro x y q hq
  unfold upG at hq
  split at hq
  · cases hq; exact hp
  · exact w x y q hq
theorem gN_up {f t pl : Nat} (hf : f < 16) (ht : t < 16) (hn : ¬ gE G f t) : gN (upG G f t pl) = gN G + 1 := by
  unfold gN
  refine cn_more (k := 16 * f + t) ?_ ?_ 256 (by omega)
  · rw [show (16 * f + t) / 16 = f by omega, show (16 * f + t) % 16 = t by omega]; exact hn
  · intro i
    rw [upG_E]
    constructor
    · rintro (z | z)
      · exact Or.inl z
      · exact Or.inr (by omega)
    · rintro (z | z)
      · exact Or.inl z
      · exact Or.inr (by omega)
theorem c_leads (s : Sh1 h g) (R : GRc m g G) {f t : Nat} (hf : f < 16) (ht : t < 16) : wp (fX1_leads (wI h m) g (nI f) (nI t)) (fun r => (r = 1 ∧ gE G f t) ∨ (r = 0 ∧ ¬ gE G f t)) := by
  have hE := R.E hf ht
  unfold nE at hE
  simp (disch := omega) only [fX1_leads, wp_bind, s.r1, s.l1, w_has, w_bz, wp_some]
  by_cases z : bt (m (g + 1) f) t = true
  · exact Or.inl ⟨if_pos z, hE.mp z⟩
  · exact Or.inr ⟨if_neg z, fun q => z (hE.mpr q)⟩
theorem c_learn (s : Sh1 h g) (R : GRc m g G) (w : GW G) {f t pl : Nat} (hf : f < 16) (ht : t < 16) (hp : pl < 72) (hn : ¬ gE G f t) : wp (fX1_learn (wI h m) g (nI f) (nI t) (nI pl)) (fun r => ∃ m', r = wI h m' ∧ (∀ a, ¬ (g ≤ a ∧ a ≤ g + 3) → m' a = m a) ∧ GRc m' g (upG G f t pl)) := by
  obtain ⟨R0, R1⟩ := R
  have hgn : gN G < 2 ^ 31 := Nat.lt_of_le_of_lt (cn_le _ _) (by decide)
  simp (disch := omega) only [fX1_learn, wp_bind, s.g0, R0, L_1, i_add, s.p0, s.r1, s.l1, s.t1, s.r3, L_16, i_mul, s.t3, s.r2, s.l2, up_r, wp_some]
  generalize hm1 : up (up (up m g 0 (nI (gN G + 1))) (g + 1) f (m (g + 1) f ||| nI 1 <<< (nI t &&& 31))) (g + 3) (f * 16 + t) (nI pl) = m1
  have e2 : m1 (g + 2) = m (g + 2) := by rw [← hm1, up_r (by omega), up_r (by omega), up_r (by omega)]
  have hmore : ∀ y, y < 32 → (bt (m (g + 2) t ||| nI 1 <<< (nI t &&& 31)) y = true ↔ y < 16 ∧ (y = t ∨ Rc 16 (gE G) t y)) := by
    intro y hy
    rw [b_or, Bool.or_eq_true, (R1 t ht).2.1 y hy, b_sh1 (by omega) hy, decide_eq_true_iff]
    constructor
    · rintro (⟨q1, q2⟩ | q)
      · exact ⟨q1, Or.inr q2⟩
      · exact ⟨by omega, Or.inl q⟩
    · rintro ⟨q1, q2 | q2⟩
      · exact Or.inr q2
      · exact Or.inl ⟨q1, q2⟩
  generalize m (g + 2) t ||| nI 1 <<< (nI t &&& 31) = more at hmore
  refine wp_mono (Q := fun r => ∃ m', r = wI h m' ∧ (∀ a, a ≠ g + 2 → m' a = m1 a) ∧ ∀ x, x < 16 → ∀ y, y < 32 → (bt (m' (g + 2) x) y = true ↔ y < 16 ∧ (Rc 16 (gE G) x y ∨ ((x = f ∨ Rc 16 (gE G) x f) ∧ (y = t ∨ Rc 16 (gE G) t y))))) ?_ ?_
  · refine wp_for (κ := Mem) (fun i c => (nI i, wI h c)) 16 (fun i m' => (∀ a, a ≠ g + 2 → m' a = m1 a) ∧ (∀ x, i ≤ x → m' (g + 2) x = m (g + 2) x) ∧ ∀ x, x < i → ∀ y, y < 32 → (bt (m' (g + 2) x) y = true ↔ y < 16 ∧ (Rc 16 (gE G) x y ∨ ((x = f ∨ Rc 16 (gE G) x f) ∧ (y = t ∨ Rc 16 (gE G) t y))))) (fun i c hi H => ?_) (fun c H => ?_) 0 m1 (by omega) ⟨fun _ _ => rfl, fun x _ => by rw [e2], fun x hx => by omega⟩ (by decide)
    · obtain ⟨H1, H2, H3⟩ := H
      have ei := H2 i (Nat.le_refl _)
      have yes : (i = f ∨ Rc 16 (gE G) i f) → wp (jX1_learn_76 g (nI f) more (nI i) (wI h c)) (lq (fun s' => ∃ c', s' = (nI (i + 1), wI h c') ∧ (∀ a, a ≠ g + 2 → c' a = m1 a) ∧ (∀ x, i + 1 ≤ x → c' (g + 2) x = m (g + 2) x) ∧ ∀ x, x < i + 1 → ∀ y, y < 32 → (bt (c' (g + 2) x) y = true ↔ y < 16 ∧ (Rc 16 (gE G) x y ∨ ((x = f ∨ Rc 16 (gE G) x f) ∧ (y = t ∨ Rc 16 (gE G) t y))))) (fun r => ∃ m', r = wI h m' ∧ (∀ a, a ≠ g + 2 → m' a = m1 a) ∧ ∀ x, x < 16 → ∀ y, y < 32 → (bt (m' (g + 2) x) y = true ↔ y < 16 ∧ (Rc 16 (gE G) x y ∨ ((x = f ∨ Rc 16 (gE G) x f) ∧ (y = t ∨ Rc 16 (gE G) t y)))))) := by
        intro hy
        simp (disch := omega) only [jX1_learn_76, jX1_learn_88, wp_bind, s.r2, s.l2, s.t2, ei, wp_some, lq_l, L_1, i_add]
        refine ⟨up c (g + 2) i (m (g + 2) i ||| more), rfl, fun a ha => by rw [up_r ha]; exact H1 a ha, fun x hx => by rw [up_a, if_neg (by omega)]; exact H2 x (by omega), fun x hx y hy32 => ?_⟩
        rw [up_a]
        by_cases hxi : x = i
        · subst hxi
          rw [if_pos rfl, b_or, Bool.or_eq_true, (R1 x hi).2.1 y hy32, hmore y hy32]
          constructor
          · rintro (⟨q1, q2⟩ | ⟨q1, q2⟩)
            · exact ⟨q1, Or.inl q2⟩
            · exact ⟨q1, Or.inr ⟨hy, q2⟩⟩
          · rintro ⟨q1, q2 | ⟨_, q2⟩⟩
            · exact Or.inl ⟨q1, q2⟩
            · exact Or.inr ⟨q1, q2⟩
        · rw [if_neg hxi]; exact H3 x (by omega) y hy32
      simp (disch := omega) only [bX1_learn_49, L_16, i_le, wp_f, i_eq]
      by_cases hif : i = f
      · rw [wp_t hif]; exact yes (Or.inl hif)
      · rw [wp_f hif]
        simp (disch := omega) only [wp_bind, s.r2, s.l2, ei, w_has, b01_z]
        by_cases hb : bt (m (g + 2) i) f = true
        · rw [wp_f (fun z => z hb)]; exact yes (Or.inr ((R1 i hi).2.1 f (by omega) |>.mp hb).2)
        · rw [wp_t hb]
          have hno : ¬ (i = f ∨ Rc 16 (gE G) i f) := fun z => z.elim hif (fun q => hb (((R1 i hi).2.1 f (by omega)).mpr ⟨hf, q⟩))
          simp only [jX1_learn_88, wp_bind, wp_some, lq_l, L_1, i_add]
          refine ⟨c, rfl, H1, fun x hx => H2 x (by omega), fun x hx y hy32 => ?_⟩
          by_cases hxi : x = i
          · subst hxi
            rw [ei, (R1 x hi).2.1 y hy32]
            exact ⟨fun q => ⟨q.1, Or.inl q.2⟩, fun q => ⟨q.1, q.2.resolve_right (fun z => hno z.1)⟩⟩
          · exact H3 x (by omega) y hy32
    · simp (disch := omega) only [bX1_learn_49, L_16, i_le, wp_t, wp_some, lq_r]
      exact ⟨c, rfl, H.1, H.2.2⟩
  · rintro r ⟨m', rfl, fr, hr⟩
    refine ⟨m', rfl, fun a ha => by rw [fr a (by omega), ← hm1, up_r (by omega), up_r (by omega), up_r (by omega)], ?_, fun x hx => ⟨fun y hy => ?_, fun y hy => ?_, fun y q hy hq => ?_⟩⟩
    · rw [fr g (by omega), ← hm1, up_r (by omega), up_r (by omega), up_at, gN_up hf ht hn]
    · rw [fr (g + 1) (by omega), ← hm1, up_r (by omega), up_a, upG_E]
      by_cases hxf : x = f
      · subst hxf
        rw [if_pos rfl, b_or, Bool.or_eq_true, (R1 x hx).1 y hy, b_sh1 (by omega) hy, decide_eq_true_iff]
        constructor
        · rintro (⟨q1, q2⟩ | q)
          · exact ⟨q1, Or.inl q2⟩
          · exact ⟨by omega, Or.inr ⟨rfl, q⟩⟩
        · rintro ⟨q1, q2 | q2⟩
          · exact Or.inl ⟨q1, q2⟩
          · exact Or.inr q2.2
      · rw [if_neg hxf, up_r (by omega), (R1 x hx).1 y hy]
        exact ⟨fun q => ⟨q.1, Or.inl q.2⟩, fun q => ⟨q.1, q.2.resolve_right (fun z => hxf z.1)⟩⟩
    · rw [hr x hx y hy]
      refine and_congr_right fun hy16 => ?_
      exact (Rc_more (fun a b _ _ => upG_E) hf ht hx hy16).symm
    · rw [fr (g + 3) (by omega), ← hm1, up_a]
      unfold upG at hq
      by_cases hxy : x = f ∧ y = t
      · rw [if_pos hxy] at hq
        cases hq
        rw [if_pos (by omega)]
      · rw [if_neg hxy] at hq
        rw [if_neg (by omega), up_r (by omega), up_r (by omega)]
        exact (R1 x hx).2.2 y q hy hq
end CG

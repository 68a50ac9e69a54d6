/-! what would put it right: the class goes on -/
section CM2
variable {h : Hp} {m : Mem} {E : Nat → Nat → Prop}
/-- what the mender's tries leave alone -/
def FM (k : Nat) (m m' : Mem) : Prop := ∀ c, ¬ (48 ≤ c ∧ c ≤ 50) → ¬ (54 ≤ c ∧ c ≤ 53 + k) → m' c = m c
theorem FM.rfl' (k : Nat) (m : Mem) : FM k m m := fun _ _ _ => rfl
theorem FM.trans {k : Nat} {m1 m2 m3 : Mem} (x : FM k m1 m2) (y : FM k m2 m3) : FM k m1 m3 := fun c h1 h2 => (y c h1 h2).trans (x c h1 h2)
theorem FM.le {j k : Nat} {m m' : Mem} (x : FM j m m') (hjk : j ≤ k) : FM k m m' := fun c h1 h2 => x c h1 (by omega)
/-- the mender's cells -/
def MS (h : Hp) : Prop := Sh4 h 47 ∧ 56 < hN h ∧ hR h 47 4 = some 52 ∧ hS h 52 = .inr ((.array .int), 4) ∧ (∀ i, i < 4 → hR h 52 i = some (53 + i)) ∧ ∀ i, i < 4 → hS h (53 + i) = .inr (.int, 17)
theorem BE.up {x y : Nat} (B : BE m E) (hx : x < 16) (hy : y < 16) : BE (up m 51 x (m 51 x &&& (((1 : Int32) <<< (nI y &&& 31)) ^^^ (-1)))) (rem1 E (16 * x + y)) := by
  intro a ha b hb
  rw [up_a]
  unfold rem1
  by_cases z : a = x
  · rw [if_pos z, b_andn _ _ hb, b_shl1 (by omega) hb, Bool.and_eq_true, B x hx b hb, z]
    simp only [Bool.not_eq_true', decide_eq_false_iff_not]
    constructor
    · rintro ⟨⟨z1, z2⟩, z3⟩
      exact ⟨z1, z2, by omega⟩
    · rintro ⟨z1, z2, z3⟩
      exact ⟨⟨z1, z2⟩, by omega⟩
  · rw [if_neg z, B a ha b hb]
    constructor
    · rintro ⟨z1, z2⟩
      exact ⟨z1, z2, by omega⟩
    · rintro ⟨z1, z2, _⟩
      exact ⟨z1, z2⟩
theorem or_back {x : Int32} {y : Nat} (hy : y < 16) (hb : bt x y = true) : (x &&& (((1 : Int32) <<< (nI y &&& 31)) ^^^ (-1))) ||| ((1 : Int32) <<< (nI y &&& 31)) = x := by
  apply b_ext
  intro i hi
  rw [b_or, b_andn _ _ hi, b_shl1 (by omega) hi]
  by_cases z : i = y
  · rw [z, hb]; simp
  · simp [z]
theorem up_back {x : Nat} {v w : Int32} {m2 m3 : Mem} (e2 : m2 = up m 51 x v) (e3 : m3 51 = m2 51) (ew : w = m 51 x) : up m3 51 x w 51 = m 51 := by
  funext j
  rw [up_a]
  by_cases z : j = x
  · rw [if_pos z, ew, z]
  · rw [if_neg z, e3, e2, up_a, if_neg z]
theorem c_does (M : MS h) : ∀ n k, k < n → k ≤ 3 → ∀ (m : Mem) (E : Nat → Nat → Prop), BE m E → wp (fX4_doesWithout n (wI h m) 47 (nI k)) (fun r => ∃ m', r.2 = wI h m' ∧ FM k m m' ∧ ((r.1 = 1 ∧ Wd E k) ∨ (r.1 = 0 ∧ ¬ Wd E k))) := by
  obtain ⟨s, h56, r4, t52, r52, t53⟩ := M
  have g4 : ∀ {m : Mem} {Q : Nat → Prop}, wp (gR (wI h m) 4 47 4) Q = Q 52 := fun {m Q} => w_gR (h := wI h m) s.lt s.2.1 r4
  have l4 : ∀ {m : Mem} {k : Nat} {Q : Nat → Prop}, k < 4 → wp (lR (wI h m) (.array .int) 52 (nI k)) Q = Q (53 + k) := fun {m k Q} hk => wp_eq ((lR_ok (h := wI h m) (show 52 < hN h by omega) t52 hk (by decide)).trans (r52 k hk))
  intro n
  induction n with
  | zero => intro k hk; exact absurd hk (Nat.not_lt_zero _)
  | succ n ih =>
    intro k hk k3 m E B
    show wp (f0X4_doesWithout (fX4_doesWithout n) (wI h m) 47 (nI k)) _
    unfold f0X4_doesWithout jX4_doesWithout_18
    rw [wp_bind, s.o, wp_bind]
    refine wp_mono (c_hasRing s B) ?_
    rintro r (⟨rfl, hc⟩ | ⟨rfl, hc⟩)
    · rw [wp_f (by decide)]
      by_cases k0 : k = 0
      · subst k0
        rw [wp_t (show nI 0 ≤ 0 by decide), wp_some]
        exact ⟨m, rfl, FM.rfl' _ _, Or.inr ⟨rfl, fun z => Wd_0.mp z hc⟩⟩
      · obtain ⟨k', rfl⟩ : ∃ k', k = k' + 1 := ⟨k - 1, by omega⟩
        have t5 := t53 (k' + 1) (by omega)
        rw [wp_f (fun z => k0 ((z_le (by omega)).mp z)), L_3, wp_t (nI_le k3 (by decide)), wp_bind, g4, wp_bind, l4 (by omega), wp_bind, s.o, wp_bind]
        refine wp_mono (c_short s B (by omega) t5 (by omega)) ?_
        rintro ⟨r1, r2⟩ ⟨m1, e1, f1, hr⟩
        obtain ⟨K, x, e2, K16, rg, hx⟩ := hr hc
        have e1' : r2 = wI h m1 := e1
        have e2' : r1 = nI K := e2
        subst e1'
        subst e2'
        have rw_ := Wd_ring (k := k') rg
        rw [wp_bind]
        refine wp_mono (Q := fun e => ∃ m', e.2 = wI h m' ∧ FM (k' + 1) m m' ∧ ((e.1 = 1 ∧ Wd E (k' + 1)) ∨ (e.1 = 0 ∧ ¬ Wd E (k' + 1)))) ?_ ?_
        · refine wp_for (κ := Int32 × Mem) (fun i c => (c.1, nI i, wI h c.2)) K (fun i c => FM (k' + 1) m c.2 ∧ (∀ i, i ≤ K → c.2 (53 + (k' + 1)) i = nI (x i)) ∧ ((c.1 = 0 ∧ ∀ q, q < i → ¬ Wd (rem1 E (16 * x q + x (q + 1))) k') ∨ (c.1 = 1 ∧ Wd E (k' + 1)))) (fun i c hi hI => ?_) (fun c hI => ?_) 0 (0, m1) (Nat.zero_le _) ⟨fun c z1 z2 => f1 c z1 (by omega), hx, Or.inl ⟨rfl, fun q hq => absurd hq (Nat.not_lt_zero _)⟩⟩ (by omega)
          · obtain ⟨b, mm⟩ := c
            obtain ⟨fm, hrow, hb⟩ := hI
            simp only at fm hrow hb
            simp only [bX4_doesWithout_36]
            rw [wp_f (fun z => by have := (nI_leI (by omega) (by omega)).mp z; omega)]
            rcases hb with ⟨rfl, hb⟩ | ⟨rfl, hb⟩
            · have xi := rg.2.1 i (by omega)
              have xj := rg.2.1 (i + 1) (by omega)
              have hEx := rg.2.2.1 i hi
              have e51 : mm 51 = m 51 := fm 51 (by omega) (by omega)
              have Bm : BE mm E := fun a ha b hb => by rw [e51]; exact B a ha b hb
              have ek : nI (k' + 1) - 1 = nI k' := by rw [L_1, i_sub (by omega)]; rfl
              rw [wp_t rfl, wp_bind, g4, wp_bind, l4 (by omega), wp_bind, x_lI (by omega) t5 (show i < 17 by omega) (by decide), hrow i (by omega), wp_bind, g4, wp_bind, l4 (by omega), wp_bind, show nI i + 1 = nI (i + 1) from i_add _ 1, x_lI (by omega) t5 (show i + 1 < 17 by omega) (by decide), hrow (i + 1) (by omega), wp_bind, s.r3, wp_bind, s.l3 xi, wp_bind, s.t3 xi, wp_bind, s.o, wp_bind, ek]
              generalize hm2 : up mm (47 + 4) (x i) (mm (47 + 4) (x i) &&& (((1 : Int32) <<< (nI (x (i + 1)) &&& 31)) ^^^ (-1))) = m2
              have B2 : BE m2 (rem1 E (16 * x i + x (i + 1))) := by rw [← hm2]; exact Bm.up xi xj
              refine wp_mono (ih k' (by omega) (by omega) m2 _ B2) ?_
              rintro ⟨r1, r2⟩ ⟨m3, e3, fm3, hr3⟩
              have e3' : r2 = wI h m3 := e3
              subst e3'
              have e31 : m3 51 = m2 51 := fm3 51 (by omega) (by omega)
              rw [wp_bind, s.r3, wp_bind, s.l3 xi, wp_bind, s.t3 xi, wp_bind, wp_some, wp_some, lq_l]
              have ew : m3 (47 + 4) (x i) ||| ((1 : Int32) <<< (nI (x (i + 1)) &&& 31)) = mm 51 (x i) := by
                show m3 51 (x i) ||| _ = _
                rw [e31, ← hm2, up_a, if_pos rfl]
                exact or_back xj ((Bm (x i) xi (x (i + 1)) (by omega)).mpr ⟨xj, hEx⟩)
              have fin : FM (k' + 1) m (up m3 51 (x i) (m3 (47 + 4) (x i) ||| ((1 : Int32) <<< (nI (x (i + 1)) &&& 31)))) := fun c z1 z2 => by
                by_cases z : c = 51
                · rw [z, up_back hm2.symm e31 ew]; exact e51
                · rw [up_r z, fm3 c z1 (by omega), ← hm2, up_r z]; exact fm c z1 z2
              have row : ∀ i', i' ≤ K → up m3 51 (x i) (m3 (47 + 4) (x i) ||| ((1 : Int32) <<< (nI (x (i + 1)) &&& 31))) (53 + (k' + 1)) i' = nI (x i') := fun i' hi' => by
                rw [up_r (by omega), fm3 _ (by omega) (by omega), ← hm2, up_r (by omega)]; exact hrow i' hi'
              refine ⟨(r1, _), rfl, fin, row, ?_⟩
              rcases hr3 with ⟨z1, z2⟩ | ⟨z1, z2⟩
              · exact Or.inr ⟨z1, rw_.mpr ⟨i, hi, z2⟩⟩
              · refine Or.inl ⟨z1, fun q hq => ?_⟩
                by_cases e : q = i
                · rw [e]; exact z2
                · exact hb q (by omega)
            · rw [wp_f (show ¬ (1 : Int32) = 0 by decide), wp_some, lq_r]
              exact ⟨mm, rfl, fm, Or.inl ⟨rfl, hb⟩⟩
          · obtain ⟨b, mm⟩ := c
            obtain ⟨fm, hrow, hb⟩ := hI
            simp only at fm hrow hb
            simp only [bX4_doesWithout_36]
            rw [wp_t (nI_le (Nat.le_refl _) (by omega)), wp_some, lq_r]
            refine ⟨mm, rfl, fm, ?_⟩
            rcases hb with ⟨z1, z2⟩ | z
            · exact Or.inr ⟨z1, fun y => by obtain ⟨i, hi, hw⟩ := rw_.mp y; exact z2 i hi hw⟩
            · exact Or.inl z
        · rintro ⟨e1, e2⟩ ⟨m', e3, fm, hb⟩
          have e3' : e2 = wI h m' := e3
          subst e3'
          rcases hb with ⟨z1, z2⟩ | ⟨z1, z2⟩
          · have z1' : e1 = 1 := z1
            subst z1'
            rw [wp_bind, wp_eq bz_1, wp_some]
            exact ⟨m', rfl, fm, Or.inl ⟨rfl, z2⟩⟩
          · have z1' : e1 = 0 := z1
            subst z1'
            rw [wp_bind, wp_eq bz_0, wp_some]
            exact ⟨m', rfl, fm, Or.inr ⟨rfl, z2⟩⟩
    · rw [wp_t rfl, wp_some]
      exact ⟨m, rfl, FM.rfl' _ _, Or.inl ⟨rfl, Wd_le (Nat.zero_le _) (Wd_0.mpr hc)⟩⟩
theorem d16 : ∀ j, j < 256 → nI j / 16 = nI (j / 16) ∧ nI j - nI (j / 16) * 16 = nI (j % 16) := by decide +kernel
theorem c_leastOf {F : Nat} (M : MS h) (B : BE m E) (e0 : m 47 0 = nI (F + 1)) (hF : F ≤ 2) : wp (fX4_leastOfFewest (wI h m) 47) (fun r => ∃ m', r.2 = wI h m' ∧ FM 3 m m' ∧ ((r.1 = mI ∧ ∀ a b, a < 16 → b < 16 → E a b → ¬ Wd (rem1 E (16 * a + b)) F) ∨ ∃ a b, a < 16 ∧ b < 16 ∧ E a b ∧ r.1 = nI (16 * a + b) ∧ Wd (rem1 E (16 * a + b)) F ∧ ∀ a' b', a' < 16 → b' < 16 → E a' b' → 16 * a' + b' < 16 * a + b → ¬ Wd (rem1 E (16 * a' + b')) F)) := by
  have s := M.1
  unfold fX4_leastOfFewest
  rw [wp_bind]
  refine wp_mono (Q := fun e => (∃ m', e = .inl (wI h m') ∧ FM 3 m m' ∧ ∀ a b, a < 16 → b < 16 → E a b → ¬ Wd (rem1 E (16 * a + b)) F) ∨ ∃ m' a b, e = .inr (nI (16 * a + b), wI h m') ∧ FM 3 m m' ∧ a < 16 ∧ b < 16 ∧ E a b ∧ Wd (rem1 E (16 * a + b)) F ∧ ∀ a' b', a' < 16 → b' < 16 → E a' b' → 16 * a' + b' < 16 * a + b → ¬ Wd (rem1 E (16 * a' + b')) F) ?_ ?_
  · refine wp_for (κ := Mem) (fun i c => (nI i, wI h c)) 256 (fun i c => FM 3 m c ∧ ∀ a b, a < 16 → b < 16 → E a b → 16 * a + b < i → ¬ Wd (rem1 E (16 * a + b)) F) (fun i c hi hI => ?_) (fun c hI => ?_) 0 m (by decide) ⟨FM.rfl' _ _, fun a b _ _ _ z => absurd z (Nat.not_lt_zero _)⟩ (by decide)
    · obtain ⟨fm, hno⟩ := hI
      obtain ⟨d1, d2⟩ := d16 i hi
      have hx : i / 16 < 16 := by omega
      have hy : i % 16 < 16 := by omega
      have exy : 16 * (i / 16) + i % 16 = i := by omega
      have e51 : c 51 = m 51 := fm 51 (by omega) (by omega)
      have Bm : BE c E := fun a ha b hb => by rw [e51]; exact B a ha b hb
      have go : ∀ c' : Mem, FM 3 m c' → (E (i / 16) (i % 16) → ¬ Wd (rem1 E i) F) → wp (jX4_leastOfFewest_77 47 (nI i) (wI h c')) (lq (fun s' => ∃ c' : Mem, s' = (nI (i + 1), wI h c') ∧ FM 3 m c' ∧ ∀ a b, a < 16 → b < 16 → E a b → 16 * a + b < i + 1 → ¬ Wd (rem1 E (16 * a + b)) F) (fun e => (∃ m', e = .inl (wI h m') ∧ FM 3 m m' ∧ ∀ a b, a < 16 → b < 16 → E a b → ¬ Wd (rem1 E (16 * a + b)) F) ∨ ∃ m' a b, e = .inr (nI (16 * a + b), wI h m') ∧ FM 3 m m' ∧ a < 16 ∧ b < 16 ∧ E a b ∧ Wd (rem1 E (16 * a + b)) F ∧ ∀ a' b', a' < 16 → b' < 16 → E a' b' → 16 * a' + b' < 16 * a + b → ¬ Wd (rem1 E (16 * a' + b')) F)) := fun c' fm' hn => by
        unfold jX4_leastOfFewest_77
        rw [wp_bind, wp_some, wp_some, lq_l]
        refine ⟨c', by rw [nI_1], fm', fun a b ha hb hE hlt => ?_⟩
        by_cases e : 16 * a + b = i
        · rw [e]
          refine hn ?_
          rw [show i / 16 = a by omega, show i % 16 = b by omega]; exact hE
        · exact hno a b ha hb hE (by omega)
      simp only [bX4_leastOfFewest_2]
      rw [L_256, wp_f (fun z => by have := (nI_leI (by decide) (by omega)).mp z; omega), wp_bind, wp_some, wp_bind, wp_some, d1, d2, wp_bind, s.r3, wp_bind, s.l3 hx, wp_bind, w_has (by omega)]
      by_cases hE : E (i / 16) (i % 16)
      · rw [b01_t ((Bm _ hx _ (by omega)).mpr ⟨hy, hE⟩), wp_f (by decide), wp_bind, s.r3, wp_bind, s.l3 hx, wp_bind, s.t3 hx]
        generalize hm2 : up c (47 + 4) (i / 16) (c (47 + 4) (i / 16) &&& (((1 : Int32) <<< (nI (i % 16) &&& 31)) ^^^ (-1))) = m2
        have B2 : BE m2 (rem1 E i) := by rw [← hm2, ← exy]; exact (by simpa [exy] using Bm.up hx hy)
        have e02 : m2 47 0 = nI (F + 1) := by rw [← hm2, up_r (by decide), fm 47 (by omega) (by omega)]; exact e0
        have ek : nI (F + 1) - 1 = nI F := by rw [L_1, i_sub (by omega)]; rfl
        rw [wp_bind, s.g0, e02, wp_bind, s.o, wp_bind, ek]
        refine wp_mono (c_does M 5 F (by omega) (by omega) m2 _ B2) ?_
        rintro ⟨r1, r2⟩ ⟨m3, e3, fm3, hr3⟩
        have e3' : r2 = wI h m3 := e3
        subst e3'
        have e31 : m3 51 = m2 51 := fm3 51 (by omega) (by omega)
        rw [wp_bind, s.r3, wp_bind, s.l3 hx, wp_bind, s.t3 hx]
        have ew : m3 (47 + 4) (i / 16) ||| ((1 : Int32) <<< (nI (i % 16) &&& 31)) = c 51 (i / 16) := by
          show m3 51 (i / 16) ||| _ = _
          rw [e31, ← hm2, up_a, if_pos rfl]
          exact or_back hy ((Bm _ hx _ (by omega)).mpr ⟨hy, hE⟩)
        have fin : FM 3 m (up m3 51 (i / 16) (m3 (47 + 4) (i / 16) ||| ((1 : Int32) <<< (nI (i % 16) &&& 31)))) := fun a z1 z2 => by
          by_cases z : a = 51
          · rw [z, up_back hm2.symm e31 ew]; exact e51
          · rw [up_r z, fm3 a z1 (by omega), ← hm2, up_r z]; exact fm a z1 z2
        rcases hr3 with ⟨z1, z2⟩ | ⟨z1, z2⟩
        · have z1' : r1 = 1 := z1
          subst z1'
          rw [wp_f (show ¬ (1 : Int32) = 0 by decide), wp_some, lq_r]
          exact Or.inr ⟨_, i / 16, i % 16, by rw [exy], fin, hx, hy, hE, by rw [exy]; exact z2, fun a' b' q1 q2 q3 q4 => hno a' b' q1 q2 q3 (by omega)⟩
        · have z1' : r1 = 0 := z1
          subst z1'
          rw [wp_t rfl]
          exact go _ fin (fun _ => z2)
      · rw [b01_n (fun z => hE ((Bm _ hx _ (by omega)).mp z).2), wp_t rfl]
        exact go c fm (fun z => absurd z hE)
    · obtain ⟨fm, hno⟩ := hI
      simp only [bX4_leastOfFewest_2]
      rw [L_256, wp_t (nI_le (Nat.le_refl _) (by decide)), wp_some, lq_r]
      exact Or.inl ⟨c, rfl, fm, fun a b ha hb hE => hno a b ha hb hE (by omega)⟩
  · rintro e (⟨m', rfl, fm, hno⟩ | ⟨m', a, b, rfl, fm, ha, hb, hE, hW, hl⟩)
    · rw [wp_some]; exact ⟨m', rfl, fm, Or.inl ⟨rfl, hno⟩⟩
    · rw [wp_some]; exact ⟨m', rfl, fm, Or.inr ⟨a, b, ha, hb, hE, rfl, hW, hl⟩⟩
/-- the fewest that do, and the first -/
def Mnd (E : Nat → Nat → Prop) (x y : Int32) : Prop := (x = nI 4 ∧ ∀ i, i < 4 → ¬ Wd E i) ∨ ∃ F, F ≤ 3 ∧ x = nI F ∧ Wd E F ∧ (∀ i, i < F → ¬ Wd E i) ∧ ((F = 0 ∧ y = mI) ∨ ∃ j a b, F = j + 1 ∧ a < 16 ∧ b < 16 ∧ E a b ∧ y = nI (16 * a + b) ∧ Wd (rem1 E (16 * a + b)) j ∧ ∀ a' b', a' < 16 → b' < 16 → E a' b' → 16 * a' + b' < 16 * a + b → ¬ Wd (rem1 E (16 * a' + b')) j)
theorem c_mend {q : Nat} (M : MS h) (hq : q < hN h) (tq : hS h q = .inr (.int, 16)) (B : ∀ x, x < 16 → ∀ y, y < 32 → (bt (m q x) y = true ↔ y < 16 ∧ E x y)) : wp (fX4_mend (wI h m) 47 q) (fun r => ∃ m', r = wI h m' ∧ (∀ a, ¬ (47 ≤ a ∧ a ≤ 56) → m' a = m a) ∧ Mnd E (m' 47 0) (m' 47 1)) := by
  have s := M.1
  have h56 := M.2.1
  unfold fX4_mend
  rw [wp_bind, s.r3, wp_bind, L_16, w_kI hq tq (by omega) s.2.2.1.2 (by decide) (by decide) (by decide), wp_bind, s.p1, wp_bind, s.p0, wp_bind]
  generalize hm1 : up (up (cpM m q (47 + 4) 16) 47 1 (-1)) 47 0 0 = m1
  have B1 : BE m1 E := fun x hx y hy => by
    rw [← hm1, up_r (by decide), up_r (by decide), show (51 : Nat) = 47 + 4 from rfl, cpM_a hx]
    exact B x hx y hy
  have f1 : ∀ a, ¬ (47 ≤ a ∧ a ≤ 56) → m1 a = m a := fun a ha => by
    rw [← hm1, up_r (by omega), up_r (by omega), cpM_r (by omega)]
  have e0 : m1 47 0 = nI 0 := by rw [← hm1, up_at]; rfl
  have e1 : m1 47 1 = mI := by rw [← hm1, up_a, if_neg (by decide), up_at]; rfl
  refine wp_mono (Q := fun e => ∃ F c, e = wI h c ∧ (∀ a, ¬ (47 ≤ a ∧ a ≤ 56) → c a = m a) ∧ BE c E ∧ c 47 0 = nI F ∧ c 47 1 = mI ∧ (∀ i, i < F → ¬ Wd E i) ∧ (F = 4 ∨ (F ≤ 3 ∧ Wd E F))) ?_ ?_
  · refine wp_for (κ := Mem) (fun _ c => wI h c) 4 (fun F c => (∀ a, ¬ (47 ≤ a ∧ a ≤ 56) → c a = m a) ∧ BE c E ∧ c 47 0 = nI F ∧ c 47 1 = mI ∧ ∀ i, i < F → ¬ Wd E i) (fun F c hF hI => ?_) (fun c hI => ?_) 0 m1 (by decide) ⟨f1, B1, e0, e1, fun i hi => absurd hi (Nat.not_lt_zero _)⟩ (by decide)
    · obtain ⟨fr, Bc, c0, c1, hno⟩ := hI
      simp only [bX4_mend_22]
      rw [wp_bind, s.g0, c0, L_3, wp_f (fun z => by have := (nI_ltI (by decide) (by omega)).mp z; omega), wp_bind, s.g0, c0, wp_bind, s.o, wp_bind]
      refine wp_mono (c_does M 5 F (by omega) (by omega) c E Bc) ?_
      rintro ⟨r1, r2⟩ ⟨m3, e3, fm3, hr3⟩
      have e3' : r2 = wI h m3 := e3
      subst e3'
      have fr3 : ∀ a, ¬ (47 ≤ a ∧ a ≤ 56) → m3 a = m a := fun a ha => by rw [fm3 a (by omega) (by omega)]; exact fr a ha
      have B3 : BE m3 E := fun x hx y hy => by rw [fm3 51 (by omega) (by omega)]; exact Bc x hx y hy
      have q0 : m3 47 0 = nI F := by rw [fm3 47 (by omega) (by omega)]; exact c0
      have q1 : m3 47 1 = mI := by rw [fm3 47 (by omega) (by omega)]; exact c1
      rcases hr3 with ⟨z1, z2⟩ | ⟨z1, z2⟩
      · have z1' : r1 = 1 := z1
        subst z1'
        rw [wp_f (show ¬ (1 : Int32) = 0 by decide), wp_some, lq_r]
        exact ⟨F, m3, rfl, fr3, B3, q0, q1, hno, Or.inr ⟨by omega, z2⟩⟩
      · have z1' : r1 = 0 := z1
        subst z1'
        rw [wp_t rfl]
        show wp ((gI (wI h m3) 4 47 0).bind _) _
        rw [wp_bind, s.g0, q0, wp_bind]
        show wp (pI (wI h m3) 4 47 0 _) _
        rw [s.p0, wp_some, lq_l]
        refine ⟨_, rfl, fun a ha => by rw [up_r (by omega)]; exact fr3 a ha, fun x hx y hy => by rw [up_r (by decide)]; exact B3 x hx y hy, by rw [up_at]; exact i_add _ 1, by rw [up_a, if_neg (by decide)]; exact q1, fun i hi => ?_⟩
        by_cases e : i = F
        · rw [e]; exact z2
        · exact hno i (by omega)
    · obtain ⟨fr, Bc, c0, c1, hno⟩ := hI
      simp only [bX4_mend_22]
      rw [wp_bind, s.g0, c0, L_3, wp_t ((nI_ltI (by decide) (by decide)).mpr (by decide)), wp_some, lq_r]
      exact ⟨4, c, rfl, fr, Bc, c0, c1, hno, Or.inl rfl⟩
  · rintro e ⟨F, c, rfl, fr, Bc, c0, c1, hno, hF⟩
    unfold jX4_mend_77
    rw [wp_bind, s.g0, c0]
    by_cases z0 : F = 0
    · subst z0
      rw [wp_t (show nI 0 ≤ 0 by decide), wp_some]
      refine ⟨c, rfl, fr, Or.inr ⟨0, by decide, c0, ?_, hno, Or.inl ⟨rfl, c1⟩⟩⟩
      rcases hF with q | q
      · cases q
      · exact q.2
    · rw [wp_f (fun z => z0 ((z_le (by omega)).mp z)), wp_bind, s.g0, c0, L_3]
      by_cases z4 : F = 4
      · subst z4
        rw [wp_t ((nI_ltI (by decide) (by decide)).mpr (by decide)), wp_some]
        exact ⟨c, rfl, fr, Or.inl ⟨c0, hno⟩⟩
      · obtain ⟨F3, WF⟩ : F ≤ 3 ∧ Wd E F := hF.resolve_left z4
        obtain ⟨j, rfl⟩ : ∃ j, F = j + 1 := ⟨F - 1, by omega⟩
        rw [wp_f (fun z => by have := (nI_ltI (by decide) (by omega)).mp z; omega), wp_bind, s.o, wp_bind]
        refine wp_mono (c_leastOf M Bc c0 (by omega)) ?_
        rintro ⟨r1, r2⟩ ⟨m3, e3, fm3, hr3⟩
        have e3' : r2 = wI h m3 := e3
        subst e3'
        have fr3 : ∀ a, ¬ (47 ≤ a ∧ a ≤ 56) → m3 a = m a := fun a ha => by rw [fm3 a (by omega) (by omega)]; exact fr a ha
        have q0 : m3 47 0 = nI (j + 1) := by rw [fm3 47 (by omega) (by omega)]; exact c0
        rw [wp_bind]
        show wp (pI (wI h m3) 4 47 1 _) _
        rw [s.p1, wp_some]
        refine ⟨_, rfl, fun a ha => by rw [up_r (by omega)]; exact fr3 a ha, ?_⟩
        rw [up_at, up_a, if_neg (by decide), q0]
        refine Or.inr ⟨j + 1, F3, rfl, WF, hno, Or.inr ?_⟩
        rcases hr3 with ⟨_, hn⟩ | ⟨a, b, ha, hb, hE, er, hW, hl⟩
        · have hc : cyc E := Classical.byContradiction fun hc => hno 0 (by omega) (Wd_0.mpr hc)
          obtain ⟨r, K, rg⟩ := cyc_ring hc
          obtain ⟨i, hi, hw⟩ := (Wd_ring rg).mp WF
          exact absurd hw (hn _ _ (rg.2.1 i (by omega)) (rg.2.1 (i + 1) (by omega)) (rg.2.2.1 i hi))
        · exact ⟨j, a, b, rfl, ha, hb, hE, er, hW, hl⟩
end CM2

/-! what would put it right: the class -/
section CN2
theorem cn_mono {P Q : Nat → Prop} (hq : ∀ i, Q i → P i) : ∀ n, cn Q n ≤ cn P n
  | 0 => Nat.le_refl _
  | n + 1 => by
    have ih := cn_mono hq n
    by_cases h1 : Q n
    · rw [cn_t h1, cn_t (hq n h1)]; omega
    · rw [cn_f h1]
      by_cases h2 : P n
      · rw [cn_t h2]; omega
      · rw [cn_f h2]; exact ih
theorem cn_lt {P Q : Nat → Prop} (hq : ∀ i, Q i → P i) {k : Nat} (h1 : P k) (h2 : ¬ Q k) : ∀ n, k < n → cn Q n + 1 ≤ cn P n
  | 0, h => absurd h (Nat.not_lt_zero _)
  | n + 1, h => by
    by_cases e : n = k
    · subst e
      have := cn_mono hq n
      rw [cn_f h2, cn_t h1]; omega
    · have ih := cn_lt hq h1 h2 n (by omega)
      by_cases h3 : Q n
      · rw [cn_t h3, cn_t (hq n h3)]; omega
      · rw [cn_f h3]
        by_cases h4 : P n
        · rw [cn_t h4]; omega
        · rw [cn_f h4]; exact ih
theorem cn_z {P : Nat → Prop} : ∀ n, cn P n = 0 → ∀ i, i < n → ¬ P i
  | 0, _, i, hi => absurd hi (Nat.not_lt_zero _)
  | n + 1, h, i, hi => by
    by_cases h1 : P n
    · rw [cn_t h1] at h; omega
    · rw [cn_f h1] at h
      by_cases e : i = n
      · rw [e]; exact h1
      · exact cn_z n h i (by omega)
end CN2
section CMD
variable {h : Hp} {m : Mem} {E : Nat → Nat → Prop}
/-- the edges that are left, in the mender's row -/
def BE (m : Mem) (E : Nat → Nat → Prop) : Prop := ∀ x, x < 16 → ∀ y, y < 32 → (bt (m 51 x) y = true ↔ y < 16 ∧ E x y)
theorem cyc_ring (hc : cyc E) : ∃ r K, Rg E r K := by
  obtain ⟨x, hx, hr⟩ := hc
  obtain ⟨K, r, w⟩ := Rc_way hx hr
  exact ⟨r, K, w.1, fun i hi => w.lt hx i hi, fun i hi => (w.2.2.2 i hi).2.1, by rw [w.end, w.2.2.1]⟩
theorem c_hr16 {u u2 : Int32} (s : Sh4 h 47) : wp (lp (bX4_hasRing_16 47 u u2 (wI h m)) FU (0, 0)) (fun r => ∀ x, x < 32 → (bt r x = true ↔ x < 16 ∧ bt u x = true ∧ ¬ m 51 x &&& u = 0)) := by
  refine wp_for (κ := Int32) (fun i c => (c, nI i)) 16 (fun i c => ∀ x, x < 32 → (bt c x = true ↔ x < i ∧ bt u x = true ∧ ¬ m 51 x &&& u = 0)) (fun i c hi hI => ?_) (fun c hI => ?_) 0 0 (by decide) (fun x hx => by rw [b_0]; exact ⟨fun z => (by cases z), fun z => absurd z.1 (Nat.not_lt_zero _)⟩) (by decide)
  · have go : ¬ (bt u i = true ∧ ¬ m 51 i &&& u = 0) → wp (jX4_hasRing_51 47 u u2 c (nI i) (wI h m)) (lq (fun s' => ∃ c', s' = (c', nI (i + 1)) ∧ ∀ x, x < 32 → (bt c' x = true ↔ x < i + 1 ∧ bt u x = true ∧ ¬ m 51 x &&& u = 0)) (fun r => ∀ x, x < 32 → (bt r x = true ↔ x < 16 ∧ bt u x = true ∧ ¬ m 51 x &&& u = 0))) := fun hn => by
      unfold jX4_hasRing_51
      rw [wp_bind, wp_some, wp_some, lq_l]
      refine ⟨c, by rw [nI_1], fun x hx => ?_⟩
      rw [hI x hx]
      refine ⟨fun z => ⟨by omega, z.2⟩, fun z => ⟨?_, z.2⟩⟩
      have : x ≠ i := fun e => hn (by rw [← e]; exact z.2)
      omega
    simp only [bX4_hasRing_16]
    rw [L_16, wp_f (fun z => by have := (nI_leI (by decide) (by omega)).mp z; omega)]
    by_cases h1 : bt u i = true
    · rw [wp_f (fun z => by rw [(b_has (by omega)).mp z] at h1; cases h1), wp_bind, s.r3, wp_bind, s.l3 hi]
      by_cases h2 : m 51 i &&& u = 0
      · rw [wp_t h2]; exact go (fun z => z.2 h2)
      · rw [wp_f h2, wp_bind, wp_some]
        unfold jX4_hasRing_51
        rw [wp_bind, wp_some, wp_some, lq_l]
        refine ⟨_, by rw [nI_1], fun x hx => ?_⟩
        rw [b_or, Bool.or_eq_true, hI x hx, b_shl1 (by omega) hx, decide_eq_true_iff]
        constructor
        · rintro (z | rfl)
          · exact ⟨by omega, z.2⟩
          · exact ⟨by omega, h1, h2⟩
        · rintro ⟨z1, z2⟩
          by_cases e : x = i
          · exact Or.inr e
          · exact Or.inl ⟨by omega, z2⟩
    · rw [wp_t ((b_has (by omega)).mpr (by cases hb : bt u i; rfl; exact absurd hb h1))]
      exact go (fun z => h1 z.1)
  · simp only [bX4_hasRing_16]
    rw [L_16, wp_t (nI_le (Nat.le_refl _) (by decide)), wp_some, lq_r]
    exact hI
theorem c_hasRing (s : Sh4 h 47) (B : BE m E) : wp (fX4_hasRing (wI h m) 47) (fun r => (r = 1 ∧ cyc E) ∨ (r = 0 ∧ ¬ cyc E)) := by
  unfold fX4_hasRing
  rw [wp_bind]
  refine wp_mono (Q := fun e => ∃ c, (e = .inl c ∨ e = .inr c) ∧ (c = 0 → ¬ cyc E) ∧ (¬ c = 0 → cyc E)) ?_ ?_
  · refine wp_for (κ := Int32) (fun i c => (c, nI i)) 16 (fun i c => (∀ x, x < 32 → bt c x = true → x < 16) ∧ (∀ x, onC E x → bt c x = true) ∧ cn (fun x => bt c x = true) 16 + i ≤ 16) (fun i c hi hI => ?_) (fun c hI => ?_) 0 65535 (by decide) ⟨fun x hx z => by rw [b_65535] at z; exact of_decide_eq_true z, fun x hx => by rw [b_65535]; exact decide_eq_true hx.1, cn_le _ _⟩ (by decide)
    · obtain ⟨h16, hC, hn⟩ := hI
      simp only [bX4_hasRing_5]
      rw [L_16, wp_f (fun z => by have := (nI_leI (by decide) (by omega)).mp z; omega), wp_bind]
      refine wp_mono (c_hr16 (u := c) (u2 := nI i) s) (fun r hr => ?_)
      have su : ∀ x, x < 16 → (¬ m 51 x &&& c = 0 ↔ ∃ y, y < 16 ∧ E x y ∧ bt c y = true) := fun x hx => by
        rw [b_and0]
        constructor
        · intro z
          refine Classical.byContradiction fun hc => z fun y hy q => hc ⟨y, ((B x hx y hy).mp q.1).1, ((B x hx y hy).mp q.1).2, q.2⟩
        · rintro ⟨y, y1, y2, y3⟩ z
          exact z y (by omega) ⟨(B x hx y (by omega)).mpr ⟨y1, y2⟩, y3⟩
      by_cases e : r = c
      · rw [wp_t e, wp_some, lq_r]
        refine ⟨c, Or.inr rfl, fun z hcy => ?_, fun z => ?_⟩
        · obtain ⟨x, hx⟩ := hcy
          have := hC x hx
          rw [z, b_0] at this
          cases this
        · obtain ⟨x0, x1, x2, _⟩ := b_least z
          refine cyc_succ (S := fun x => x < 16 ∧ bt c x = true) (fun x hx => hx.1) (fun x hx => ?_) (x0 := x0) ⟨h16 x0 x1 x2, x2⟩
          have hx2 := hx.2
          rw [← e, hr x (by have := hx.1; omega)] at hx2
          obtain ⟨y, y1, y2, y3⟩ := (su x hx.1).mp hx2.2.2
          exact ⟨y, ⟨y1, y3⟩, y2⟩
      · rw [wp_f e, wp_bind, wp_some, wp_some, lq_l]
        refine ⟨r, by rw [nI_1], fun x hx z => ((hr x hx).mp z).1, fun x hx => ?_, ?_⟩
        · obtain ⟨y, y1, y2⟩ := onC_succ hx
          have := hx.1
          exact (hr x (by omega)).mpr ⟨hx.1, hC x hx, (su x hx.1).mpr ⟨y, y1.1, y2, hC y y1⟩⟩
        · have sub : ∀ x, x < 32 → bt r x = true → bt c x = true := fun x hx z => ((hr x hx).mp z).2.1
          have ex : ∃ k, k < 32 ∧ bt c k = true ∧ ¬ bt r k = true := Classical.byContradiction fun hc => e (b_ext fun k hk => by
            refine Bool.eq_iff_iff.mpr ⟨sub k hk, fun z => Classical.byContradiction fun q => hc ⟨k, hk, z, q⟩⟩)
          obtain ⟨k, k1, k2, k3⟩ := ex
          have := cn_lt (P := fun x => bt c x = true) (Q := fun x => bt r x = true) (fun x z => by
            rcases Nat.lt_or_ge x 32 with q | q
            · exact sub x q z
            · rw [b_big q] at z; cases z) k2 k3 16 (h16 k k1 k2)
          omega
    · obtain ⟨h16, hC, hn⟩ := hI
      simp only [bX4_hasRing_5]
      rw [L_16, wp_t (nI_le (Nat.le_refl _) (by decide)), wp_some, lq_r]
      have hz := cn_z (P := fun x => bt c x = true) 16 (by omega)
      refine ⟨c, Or.inl rfl, fun _ ⟨x, hx⟩ => hz x hx.1 (hC x hx), fun z => ?_⟩
      obtain ⟨x0, x1, x2, _⟩ := b_least z
      exact absurd x2 (hz x0 (h16 x0 x1 x2))
  · rintro e ⟨c, rfl | rfl, h1, h2⟩
    · simp only [jX4_hasRing_89]
      by_cases z : c = 0
      · rw [wp_t z, wp_bind, wp_eq bz_0, wp_some]; exact Or.inr ⟨rfl, h1 z⟩
      · rw [wp_f z, wp_bind, wp_eq bz_1, wp_some]; exact Or.inl ⟨rfl, h2 z⟩
    · simp only [jX4_hasRing_71]
      by_cases z : c = 0
      · rw [wp_t z, wp_bind, wp_eq bz_0, wp_some]; exact Or.inr ⟨rfl, h1 z⟩
      · rw [wp_f z, wp_bind, wp_eq bz_1, wp_some]; exact Or.inl ⟨rfl, h2 z⟩
theorem c_short {q : Nat} (s : Sh4 h 47) (B : BE m E) (hq : q < hN h) (tq : hS h q = .inr (.int, 17)) (q53 : 53 ≤ q) : wp (fX4_shortestRing (wI h m) 47 q) (fun r => ∃ m', r.2 = wI h m' ∧ (∀ a, ¬ (48 ≤ a ∧ a ≤ 50) → a ≠ q → m' a = m a) ∧ (cyc E → ∃ K x, r.1 = nI K ∧ K ≤ 16 ∧ Rg E x K ∧ ∀ i, i ≤ K → m' q i = nI (x i))) := by
  have s10 : Sh10 h 48 := s.s2
  have t51 : hS h 51 = .inr (.int, 16) := s.2.2.1.2
  have h56 := s.1
  unfold fX4_shortestRing
  rw [wp_bind]
  refine wp_mono (Q := fun r => ∃ m', r.2 = wI h m' ∧ (∀ a, ¬ (48 ≤ a ∧ a ≤ 50) → a ≠ q → m' a = m a) ∧ (cyc E → ∃ K x, r.1 = nI K ∧ K ≤ 16 ∧ Rg E x K ∧ ∀ i, i ≤ K → m' q i = nI (x i))) ?_ (fun r hr => by rw [wp_some]; exact hr)
  refine wp_for (κ := Nat × Mem) (fun i c => (nI c.1, nI i, wI h c.2)) 16 (fun i c => (∀ a, ¬ (48 ≤ a ∧ a ≤ 50) → a ≠ q → c.2 a = m a) ∧ ((c.1 = 0 ∧ ∀ v, v < i → ¬ Rc 16 E v v) ∨ ∃ x, c.1 ≤ 16 ∧ Rg E x c.1 ∧ ∀ i, i ≤ c.1 → c.2 q i = nI (x i))) (fun i c hi hI => ?_) (fun c hI => ?_) 0 (0, m) (by decide) ⟨fun _ _ _ => rfl, Or.inl ⟨rfl, fun v hv => absurd hv (Nat.not_lt_zero _)⟩⟩ (by decide)
  · obtain ⟨L, mm⟩ := c
    obtain ⟨fr, hL⟩ := hI
    simp only at fr hL
    have e51 : mm 51 = m 51 := fr 51 (by omega) (by omega)
    have hE : ∀ a b, a < 16 → b < 16 → (nE (mm 51) a b ↔ E a b) := fun a b ha hb => by
      unfold nE
      rw [e51, B a ha b (by omega)]
      exact ⟨fun z => z.2, fun z => ⟨hb, z⟩⟩
    have goon : ∀ m2 : Mem, (∀ a, ¬ (48 ≤ a ∧ a ≤ 50) → a ≠ q → m2 a = m a) → ((L = 0 ∧ ∀ v, v < i + 1 → ¬ Rc 16 E v v) ∨ ∃ x, L ≤ 16 ∧ Rg E x L ∧ ∀ i, i ≤ L → m2 q i = nI (x i)) → wp (jX4_shortestRing_65 47 q (nI L) (nI i) (wI h m2)) (lq (fun s' => ∃ c' : Nat × Mem, s' = (nI c'.1, nI (i + 1), wI h c'.2) ∧ (∀ a, ¬ (48 ≤ a ∧ a ≤ 50) → a ≠ q → c'.2 a = m a) ∧ ((c'.1 = 0 ∧ ∀ v, v < i + 1 → ¬ Rc 16 E v v) ∨ ∃ x, c'.1 ≤ 16 ∧ Rg E x c'.1 ∧ ∀ i, i ≤ c'.1 → c'.2 q i = nI (x i))) (fun r => ∃ m', r.2 = wI h m' ∧ (∀ a, ¬ (48 ≤ a ∧ a ≤ 50) → a ≠ q → m' a = m a) ∧ (cyc E → ∃ K x, r.1 = nI K ∧ K ≤ 16 ∧ Rg E x K ∧ ∀ i, i ≤ K → m' q i = nI (x i)))) := fun m2 f2 hx => by
      unfold jX4_shortestRing_65
      rw [wp_bind, wp_some, wp_some, lq_l]
      exact ⟨(L, m2), by rw [nI_1], f2, hx⟩
    simp only [bX4_shortestRing_4]
    rw [L_16, wp_f (fun z => by have := (nI_leI (by decide) (by omega)).mp z; omega), wp_bind, s.r2, wp_bind, s.r3, wp_bind, s10.o, wp_bind]
    refine wp_mono (c_find s10 (by omega) t51 (by decide) (by decide) (by decide) (by decide) hi hi) ?_
    rintro ⟨r1, r2⟩ ⟨m2, e2, f2, hw⟩
    have e2' : r2 = wI h m2 := e2
    subst e2'
    have fr2 : ∀ a, ¬ (48 ≤ a ∧ a ≤ 50) → a ≠ q → m2 a = m a := fun a z1 z2 => by rw [f2 a (by omega) (by omega) (by omega)]; exact fr a z1 z2
    have rq : m2 q = mm q := f2 q (by omega) (by omega) (by omega)
    rcases hw with ⟨rfl, K, x, w, wK, wx⟩ | ⟨rfl, nw, wK⟩
    · have K16 := w.leK hi
      have K0 := w.1
      have rg : Rg E x K := ⟨w.1, fun j hj => w.lt hi j hj, fun j hj => by
        obtain ⟨a1, a2, _⟩ := w.2.2.2 j hj
        exact (hE _ _ (w.lt hi j (by omega)) a1).mp a2, by rw [w.end, w.2.2.1]⟩
      have take : wp (jX4_shortestRing_41 47 q (nI i) (wI h m2)) (lq (fun s' => ∃ c' : Nat × Mem, s' = (nI c'.1, nI (i + 1), wI h c'.2) ∧ (∀ a, ¬ (48 ≤ a ∧ a ≤ 50) → a ≠ q → c'.2 a = m a) ∧ ((c'.1 = 0 ∧ ∀ v, v < i + 1 → ¬ Rc 16 E v v) ∨ ∃ x, c'.1 ≤ 16 ∧ Rg E x c'.1 ∧ ∀ i, i ≤ c'.1 → c'.2 q i = nI (x i))) (fun r => ∃ m', r.2 = wI h m' ∧ (∀ a, ¬ (48 ≤ a ∧ a ≤ 50) → a ≠ q → m' a = m a) ∧ (cyc E → ∃ K x, r.1 = nI K ∧ K ≤ 16 ∧ Rg E x K ∧ ∀ i, i ≤ K → m' q i = nI (x i)))) := by
        unfold jX4_shortestRing_41 jX4_shortestRing_65
        have g1 : ∀ {Q : Int32 → Prop}, wp (gI (wI h m2) 10 48 1) Q = Q (nI K) := fun {Q} => by rw [s10.g1, wK]
        rw [wp_bind, s.r2, wp_bind, g1, wp_bind, s.r2, wp_bind, s10.r0, wp_bind, show nI K + 1 = nI (K + 1) from i_add _ 1, w_kI (by omega) s10.2.2.1.2 hq tq (by omega) (by omega) (by omega), wp_bind, wp_some, wp_some, lq_l]
        refine ⟨(K, cpM m2 49 q (K + 1)), by rw [nI_1], fun a z1 z2 => by show cpM m2 49 q (K + 1) a = _; rw [cpM_r z2]; exact fr2 a z1 z2, Or.inr ⟨x, K16, rg, fun j hj => ?_⟩⟩
        have hj' : j ≤ K := hj
        show cpM m2 49 q (K + 1) q j = _
        rw [cpM_a (by omega)]
        exact wx j hj'
      rw [wp_f (show ¬ (1 : Int32) = 0 by decide)]
      by_cases z : L = 0
      · rw [wp_t ((nI_z (by rcases hL with ⟨q, _⟩ | ⟨_, q, _⟩ <;> omega)).mpr z)]
        exact take
      · have L16 : L ≤ 16 := by rcases hL with ⟨q, _⟩ | ⟨_, q, _⟩ <;> omega
        rw [wp_f (fun y => z ((nI_z (by omega)).mp y)), wp_bind, s.r2, wp_bind, s10.g1, wK]
        by_cases y : L ≤ K
        · rw [wp_t (nI_le y (by omega))]
          refine goon m2 fr2 (Or.inr ?_)
          rcases hL with ⟨q, _⟩ | ⟨x', l1, l2, l3⟩
          · exact absurd q z
          · exact ⟨x', l1, l2, fun j hj => by rw [rq]; exact l3 j hj⟩
        · rw [wp_f (fun q => y ((nI_leI (by omega) (by omega)).mp q))]
          exact take
    · have nr : ¬ Rc 16 E i i := fun z => Rc_iff.mp (by
        obtain ⟨k, b, b1, b2, b3⟩ := z
        exact ⟨k, b, b1, (hE i b hi b1).mpr b2, wk_le (fun a b ha hb z => (hE a b ha hb).mpr z) k b b3⟩) nw
      rw [wp_t rfl]
      refine goon m2 fr2 ?_
      rcases hL with ⟨l1, l2⟩ | ⟨x', l1, l2, l3⟩
      · refine Or.inl ⟨l1, fun v hv => ?_⟩
        by_cases e : v = i
        · rw [e]; exact nr
        · exact l2 v (by omega)
      · exact Or.inr ⟨x', l1, l2, fun j hj => by rw [rq]; exact l3 j hj⟩
  · obtain ⟨L, mm⟩ := c
    obtain ⟨fr, hL⟩ := hI
    simp only at fr hL
    simp only [bX4_shortestRing_4]
    rw [L_16, wp_t (nI_le (Nat.le_refl _) (by decide)), wp_some, lq_r]
    refine ⟨mm, rfl, fr, fun ⟨x, hx, hr⟩ => ?_⟩
    rcases hL with ⟨l1, l2⟩ | ⟨x', l1, l2, l3⟩
    · exact absurd hr (l2 x hx)
    · exact ⟨L, x', rfl, l1, l2, l3⟩
end CMD

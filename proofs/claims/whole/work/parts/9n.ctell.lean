/-! the class tells the ring and the way there -/
/-- from the moment j back -/
def anc (B : Nat → Nat) (j : Nat) : Nat → Nat
  | 0 => j
  | i + 1 => B (anc B j i) / 64
section CTL
variable {h : Hp} {m : Mem} {a n K N : Nat} {x y B D : Nat → Nat}
theorem c_tellRing (s : Sh8 h a) (hK : m (a + 9) 1 = nI K) (K6 : K ≤ 6) (hx : ∀ i, i < K → m (a + 9 + 1) i = nI (x i) ∧ x i < 6 ∧ m (a + 7) (x i) = nI (y i) ∧ y i < 10) (r3 : m a 3 = 0) (r4 : m a 4 = 0) : wp (fX8_tellRing (wI h m) a) (fun r => ∃ m', r = wI h m' ∧ (∀ o, o ≠ a → m' o = m o) ∧ (∀ j, j ≠ 3 → j ≠ 4 → m' a j = m a j) ∧ (∀ u, u < 32 → (bt (m' a 3) u = true ↔ ∃ i, i < K ∧ x i = u)) ∧ ∀ l, l < 32 → (bt (m' a 4) l = true ↔ ∃ i, i < K ∧ y i = l)) := by
  have s10 := s.s18
  unfold fX8_tellRing
  rw [wp_bind]
  refine wp_mono (Q := fun r => ∃ m', r = wI h m' ∧ (∀ o, o ≠ a → m' o = m o) ∧ (∀ j, j ≠ 3 → j ≠ 4 → m' a j = m a j) ∧ (∀ u, u < 32 → (bt (m' a 3) u = true ↔ ∃ i, i < K ∧ x i = u)) ∧ ∀ l, l < 32 → (bt (m' a 4) l = true ↔ ∃ i, i < K ∧ y i = l)) ?_ (fun r hr => by rw [wp_some]; exact hr)
  have or1 : ∀ {v : Int32} {f : Nat → Nat} {i b : Nat}, (∀ u, u < 32 → (bt v u = true ↔ ∃ j, j < i ∧ f j = u)) → f i < 32 → b < 32 → (bt (v ||| ((1 : Int32) <<< (nI (f i) &&& 31))) b = true ↔ ∃ j, j < i + 1 ∧ f j = b) := by
    intro v f i b hv hf hb
    rw [b_or, Bool.or_eq_true, hv b hb, b_shl1 hf hb]
    constructor
    · rintro (⟨j, j1, j2⟩ | e)
      · exact ⟨j, by omega, j2⟩
      · exact ⟨i, by omega, (of_decide_eq_true e).symm⟩
    · rintro ⟨j, j1, j2⟩
      by_cases z : j = i
      · right; rw [z] at j2; exact decide_eq_true j2.symm
      · left; exact ⟨j, by omega, j2⟩
  refine wp_for (κ := Mem) (fun i k => (nI i, wI h k)) K (fun i k => (∀ o, o ≠ a → k o = m o) ∧ (∀ j, j ≠ 3 → j ≠ 4 → k a j = m a j) ∧ (∀ u, u < 32 → (bt (k a 3) u = true ↔ ∃ j, j < i ∧ x j = u)) ∧ ∀ l, l < 32 → (bt (k a 4) l = true ↔ ∃ j, j < i ∧ y j = l)) (fun i k hi hI => ?_) (fun k hI => ?_) 0 m (Nat.zero_le _) ⟨fun _ _ => rfl, fun _ _ _ => rfl, fun u _ => ?_, fun u _ => ?_⟩ (by omega)
  · obtain ⟨k1, k2, k3, k4⟩ := hI
    obtain ⟨x1, x2, x3, x4⟩ := hx i hi
    simp only [bX8_tellRing_2]
    rw [wp_bind, s.r18, wp_bind, s10.g1, k1 (a + 9) (by omega), hK, wp_f (by rw [i_le (by omega) (by omega)]; omega), wp_bind, s.g3, wp_bind, s.r18, wp_bind, s10.r0, wp_bind, s10.l0 (by omega), k1 (a + 9 + 1) (by omega), x1, wp_bind, s.p3]
    rw [wp_bind, s.g4, wp_bind, s.r16, wp_bind, s.r18, wp_bind, s10.r0, wp_bind, s10.l0 (by omega), up_r (o' := a + 9 + 1) (by omega), k1 (a + 9 + 1) (by omega), x1, wp_bind, s.l16 x2, up_r (o' := a + 7) (by omega), k1 (a + 7) (by omega), x3, up_ne (by omega), wp_bind, s.p4, wp_bind, wp_some, wp_some, lq_l, L_1, i_add, ← L_1]
    refine ⟨_, rfl, fun o ho => by rw [up_r ho, up_r ho]; exact k1 o ho, fun j h3 h4 => by rw [up_ne (by omega), up_ne (by omega)]; exact k2 j h3 h4, fun u hu => ?_, fun l hl => ?_⟩
    · rw [up_ne (by omega), up_at]; exact or1 k3 (by omega) hu
    · rw [up_at]; exact or1 k4 (by omega) hl
  · obtain ⟨k1, k2, k3, k4⟩ := hI
    simp only [bX8_tellRing_2]
    rw [wp_bind, s.r18, wp_bind, s10.g1, k1 (a + 9) (by omega), hK, wp_t (by rw [i_le (by omega) (by omega)]; omega), wp_some, lq_r]
    exact ⟨k, rfl, k1, k2, k3, k4⟩
  · rw [r3, b_0]; exact ⟨fun z => absurd z (by decide), fun ⟨j, z, _⟩ => absurd z (Nat.not_lt_zero _)⟩
  · rw [r4, b_0]; exact ⟨fun z => absurd z (by decide), fun ⟨j, z, _⟩ => absurd z (Nat.not_lt_zero _)⟩
theorem c_tellRoute (s : Sh8 h a) (e1 : m a 1 = nI n) (n0 : 0 < n) (n4 : n ≤ 4000) (e2 : m a 2 = 0) (hB : ∀ j, j < n → m (a + 4) j = nI (B j)) (hp : ∀ j, 0 < j → j < n → B j / 64 < j ∧ D j = D (B j / 64) + 1) (D0 : D 0 = 0) (hN : D (n - 1) = N) (N78 : N ≤ 78) : wp (fX8_tellRoute (wI h m) a) (fun r => ∃ m', r = wI h m' ∧ (∀ o, o ≠ a → o ≠ a + 1 → m' o = m o) ∧ (∀ j, j ≠ 2 → m' a j = m a j) ∧ m' a 2 = nI N ∧ ∀ i, i < N → m' (a + 1) i = nI (B (anc B (n - 1) (N - 1 - i)) % 64)) := by
  have B31 : ∀ j, 0 < j → j < n → B j < 2 ^ 31 := fun j j1 j2 => by have := (hp j j1 j2).1; omega
  have anc_ok : ∀ i, i ≤ N → anc B (n - 1) i < n ∧ D (anc B (n - 1) i) + i = N := by
    intro i
    induction i with
    | zero => intro _; exact ⟨show n - 1 < n by omega, hN⟩
    | succ i ih =>
      intro hi
      obtain ⟨i1, i2⟩ := ih (by omega)
      have pos : 0 < anc B (n - 1) i := Nat.pos_of_ne_zero fun z => by rw [z, D0] at i2; omega
      obtain ⟨p1, p2⟩ := hp _ pos i1
      exact ⟨show B (anc B (n - 1) i) / 64 < n by omega, show D (B (anc B (n - 1) i) / 64) + (i + 1) = N by omega⟩
  have pos : ∀ i, i < N → 0 < anc B (n - 1) i := fun i hi => Nat.pos_of_ne_zero fun z => by
    have := (anc_ok i (by omega)).2
    rw [z, D0] at this; omega
  have last0 : anc B (n - 1) N = 0 := Classical.byContradiction fun z => by
    obtain ⟨l1, l2⟩ := anc_ok N (Nat.le_refl _)
    have := (hp _ (Nat.pos_of_ne_zero z) l1).2
    omega
  unfold fX8_tellRoute
  rw [wp_bind, s.g1, e1, wp_bind, wp_some, show (nI n - (1 : Int32)) = nI (n - 1) from i_sub n0, wp_bind]
  refine wp_mono (Q := fun r => ∃ k, r = wI h k ∧ (∀ o, o ≠ a → k o = m o) ∧ (∀ j, j ≠ 2 → k a j = m a j) ∧ k a 2 = nI N) ?_ ?_
  · refine wp_for (κ := Mem) (fun i k => (nI (anc B (n - 1) i), wI h k)) N (fun i k => (∀ o, o ≠ a → k o = m o) ∧ (∀ j, j ≠ 2 → k a j = m a j) ∧ k a 2 = nI i) (fun i k hi hI => ?_) (fun k hI => ?_) 0 m (Nat.zero_le _) ⟨fun _ _ => rfl, fun _ _ => rfl, e2⟩ (by omega)
    · obtain ⟨k1, k2, k3⟩ := hI
      obtain ⟨a1, a2⟩ := anc_ok i (by omega)
      have p := pos i hi
      have b31 := B31 _ p a1
      simp only [bX8_tellRoute_7]
      rw [wp_f (by rw [z_le (by omega)]; omega), wp_bind, s.g2, k3, L_78, wp_f (by rw [i_le (by decide) (by omega)]; omega), wp_bind, s.g2, k3, wp_bind, s.p2, wp_bind, s.r12, wp_bind, s.l12 (by omega), up_r (by omega), k1 _ (by omega), hB _ a1, wp_bind, wp_some, pk_shrN b31 ((6 : Int32) &&& 31) 6 (by decide), wp_some, lq_l]
      refine ⟨_, rfl, fun o ho => by rw [up_r ho]; exact k1 o ho, fun j hj => by rw [up_ne (by omega)]; exact k2 j hj, ?_⟩
      rw [up_at, L_1, i_add]
    · obtain ⟨k1, k2, k3⟩ := hI
      simp only [bX8_tellRoute_7]
      rw [last0, wp_t (by decide), wp_some, lq_r]
      exact ⟨k, rfl, k1, k2, k3⟩
  · rintro r ⟨k, rfl, k1, k2, k3⟩
    rw [wp_bind, s.g1, k2 1 (by omega), e1, wp_bind, wp_some, show (nI n - (1 : Int32)) = nI (n - 1) from i_sub n0, wp_bind, s.g2, k3, wp_bind, wp_some, Int32.sub_eq_add_neg, wp_bind]
    refine wp_mono (Q := fun r => ∃ m', r = wI h m' ∧ (∀ o, o ≠ a → o ≠ a + 1 → m' o = m o) ∧ (∀ j, j ≠ 2 → m' a j = m a j) ∧ m' a 2 = nI N ∧ ∀ i, i < N → m' (a + 1) i = nI (B (anc B (n - 1) (N - 1 - i)) % 64)) ?_ (fun r hr => by rw [wp_some]; exact hr)
    refine wp_for (κ := Mem) (fun e k' => (nI (anc B (n - 1) e), nI (N - e) + mI, wI h k')) N (fun e k' => (∀ o, o ≠ a + 1 → k' o = k o) ∧ ∀ i, N - e ≤ i → i < N → k' (a + 1) i = nI (B (anc B (n - 1) (N - 1 - i)) % 64)) (fun e k' he hI => ?_) (fun k' hI => ?_) 0 k (Nat.zero_le _) ⟨fun _ _ => rfl, fun i h1 h2 => by omega⟩ (by omega)
    · obtain ⟨q1, q2⟩ := hI
      obtain ⟨a1, a2⟩ := anc_ok e (by omega)
      have p := pos e he
      have b31 := B31 _ p a1
      have q4 : k' (a + 4) = m (a + 4) := by rw [q1 _ (by omega), k1 _ (by omega)]
      simp only [bX8_tellRoute_57]
      rw [i_dec (by omega), wp_f (by rw [show (0 : Int32) = nI 0 from rfl, i_lt (by omega) (by decide)]; omega), wp_bind, s.r5, wp_bind, s.r12, wp_bind, s.l12 (by omega), q4, hB _ a1, wp_bind, s.t5 (by omega), wp_bind, s.r12, wp_bind, s.l12 (by omega), up_r (by omega), q4, hB _ a1, wp_bind, wp_some, pk_shrN b31 ((6 : Int32) &&& 31) 6 (by decide), wp_bind, wp_some, wp_some, lq_l, L_63, nx_andn, show B (anc B (n - 1) e) &&& 63 = B (anc B (n - 1) e) % 64 from Nat.and_two_pow_sub_one_eq_mod _ 6, mI_e]
      refine ⟨_, rfl, fun o ho => by rw [up_r ho]; exact q1 o ho, fun i h1 h2 => ?_⟩
      rw [up_a]
      by_cases z : i = N - e - 1
      · rw [if_pos z, show N - 1 - i = e by omega]
      · rw [if_neg z]; exact q2 i (by omega) h2
    · obtain ⟨q1, q2⟩ := hI
      simp only [bX8_tellRoute_57]
      rw [Nat.sub_self, wp_t (by decide), wp_some, lq_r]
      exact ⟨k', rfl, fun o h1 h2 => by rw [q1 o h2, k1 o h1], fun j hj => by rw [q1 a (by omega)]; exact k2 j hj, by rw [q1 a (by omega)]; exact k3, fun i hi => q2 i (by omega) hi⟩
end CTL

/-! the reference's shortest way: layWay -/
abbrev rE (r : Nat → Int32) (a b : Nat) : Prop := ¬ r (16 * a + b) ≤ 0
section LW
variable {m m0 : Mem} {f t : Nat}
theorem r_isEdge {a b : Nat} (ha : a < 16) (hb : b < 16) : gX12_isEdge m (nI a) (nI b) = some (b01 (rE (m 1) a b)) := by
  unfold gX12_isEdge gjX12_isEdge_21
  rw [z_add, L_16, i_mul, i_add, rd_nI (by omega) (by decide), Option.bind_some]
  by_cases h : m 1 (16 * a + b) ≤ 0
  · rw [if_pos h, bz_0]
    exact congrArg some (by unfold b01; rw [if_neg (fun z => z h)])
  · rw [if_neg h, bz_1]
    exact congrArg some (by unfold b01; rw [if_pos h])
theorem w_isEdge {a b : Nat} {Q : Int32 → Prop} (ha : a < 16) (hb : b < 16) : wp (gX12_isEdge m (nI a) (nI b)) Q = Q (b01 (rE (m 1) a b)) := wp_eq (r_isEdge ha hb)
theorem b01_z {p : Prop} [Decidable p] : (b01 p = 0) = ¬ p := propext b01_0
/-- what is told of how far each is: cell 16 -/
def fM (m : Mem) (d : Nat → Nat) : Prop := ∀ v, v < 16 → m 16 v = nI (d v) ∧ d v ≤ 268435456
def fS (E : Nat → Nat → Prop) (t : Nat) (d : Nat → Nat) : Prop := d t = 0 ∧ ∀ v, v < 16 → d v < 268435456 → wk 16 E t (d v) v
theorem lw_init (ht : t < 16) : wp (lp (gbX12_layWay_2 (nI f) (nI t)) FU (nI 0, m)) (fun m' => (∀ o, o ≠ 16 → m' o = m o) ∧ ∀ v, v < 16 → m' 16 v = nI (if v = t then 0 else 268435456)) := by
  refine wp_for (κ := Mem) (fun i c => (nI i, c)) 16 (fun i m' => (∀ o, o ≠ 16 → m' o = m o) ∧ ∀ v, v < i → m' 16 v = nI (if v = t then 0 else 268435456)) (fun i c hi H => ?_) (fun c H => ?_) 0 m (Nat.zero_le _) ⟨fun o _ => rfl, fun v hv => by omega⟩ (by decide)
  · have key : ∀ n : Nat, n = (if i = t then 0 else 268435456) → wp (gjX12_layWay_25 (nI f) (nI t) (nI i) (nI n) (nI i) c) (lq (fun s' => ∃ c', s' = (nI (i + 1), c') ∧ (∀ o, o ≠ 16 → c' o = m o) ∧ ∀ v, v < i + 1 → c' 16 v = nI (if v = t then 0 else 268435456)) (fun m' => (∀ o, o ≠ 16 → m' o = m o) ∧ ∀ v, v < 16 → m' 16 v = nI (if v = t then 0 else 268435456))) := by
      intro n hn
      unfold gjX12_layWay_25
      rw [wp_bind, w_wr hi (by decide), wp_bind, wp_some, wp_some, lq_l, nI_1]
      refine ⟨_, rfl, fun o ho => by rw [up_r ho]; exact H.1 o ho, fun v hv => ?_⟩
      rw [up_a]
      by_cases hvi : v = i
      · rw [if_pos hvi, hvi, hn]
      · rw [if_neg hvi]; exact H.2 v (by omega)
    by_cases hit : i = t
    · simp (disch := omega) only [gbX12_layWay_2, L_16, i_le, i_eq, wp_f, wp_t]
      exact key 0 (by rw [if_pos hit])
    · simp (disch := omega) only [gbX12_layWay_2, L_16, i_le, i_eq, wp_f]
      exact key 268435456 (by rw [if_neg hit])
  · simp (disch := omega) only [gbX12_layWay_2, L_16, i_le, wp_t, wp_some, lq_r]
    exact H
/-- within a pass: from d0, with the pairs done told by D -/
def pI2 (m0 : Mem) (E : Nat → Nat → Prop) (t : Nat) (d0 : Nat → Nat) (D : Nat → Nat → Prop) (c : Int32) (m : Mem) : Prop :=
  (∀ o, o ≠ 16 → m o = m0 o) ∧ ∃ d, fM m d ∧ fS E t d ∧ (∀ v, d v ≤ d0 v) ∧ (∀ a b, a < 16 → b < 16 → D a b → E a b → d a ≤ d0 b + 1) ∧ ((c = 0 ∧ ∀ v, v < 16 → d v = d0 v) ∨ (c = 1 ∧ ∃ v, v < 16 ∧ d v < d0 v))
theorem lw_row {d0 : Nat → Nat} {a : Nat} {c : Int32} (ha : a < 16) (H : pI2 m0 (rE (m0 1)) t d0 (fun x _ => x < a) c m) : wp (lp (gbX12_layWay_53 (nI f) (nI a)) FU (c, nI 0, m)) (fun r => pI2 m0 (rE (m0 1)) t d0 (fun x _ => x < a + 1) r.1 r.2) := by
  refine wp_for (κ := Int32 × Mem) (fun i c => (c.1, nI i, c.2)) 16 (fun i c => pI2 m0 (rE (m0 1)) t d0 (fun x y => x < a ∨ x = a ∧ y < i) c.1 c.2) (fun i c hi H => ?_) (fun c H => ?_) 0 (c, m) (Nat.zero_le _) ?_ (by decide)
  · obtain ⟨c, m⟩ := c
    simp only at H ⊢
    obtain ⟨fr, d, h1, h2, h3, h4, h5⟩ := H
    have e1 : m 1 = m0 1 := fr 1 (by decide)
    have f1 := h1 i hi
    have f2 := h1 a ha
    have skip : (rE (m0 1) a i → d a ≤ d0 i + 1) → wp (gjX12_layWay_111 (nI f) c (nI a) (nI i) m) (lq (fun s' => ∃ c' : Int32 × Mem, s' = (c'.1, nI (i + 1), c'.2) ∧ pI2 m0 (rE (m0 1)) t d0 (fun x y => x < a ∨ x = a ∧ y < i + 1) c'.1 c'.2) (fun r => pI2 m0 (rE (m0 1)) t d0 (fun x _ => x < a + 1) r.1 r.2)) := by
      intro hr
      unfold gjX12_layWay_111
      rw [wp_bind, wp_some, wp_some, lq_l, nI_1]
      refine ⟨(c, m), rfl, fr, d, h1, h2, h3, fun x y hx hy hD hE => ?_, h5⟩
      by_cases z : x = a ∧ y = i
      · rw [z.1, z.2]; rw [z.1, z.2] at hE; exact hr hE
      · exact h4 x y hx hy (by omega) hE
    simp (disch := omega) only [gbX12_layWay_53, L_16, i_le, wp_f, wp_bind, w_isEdge, e1, b01_z]
    by_cases hE : rE (m0 1) a i
    · rw [wp_f (fun z => z hE)]
      simp (disch := omega) only [wp_bind, w_rd, f1.1, f2.1, L_1, i_add, i_lt]
      by_cases hlt : d i + 1 < d a
      · simp (disch := omega) only [wp_t, w_rd, f1.1, w_wr, gjX12_layWay_111, wp_bind, wp_some, L_1, i_add]
        rw [lq_l]
        refine ⟨(nI 1, up m 16 a (nI (d i + 1))), rfl, fun o ho => by show up m 16 a _ o = _; rw [up_r ho]; exact fr o ho, fun v => if v = a then d i + 1 else d v, ?_, ⟨?_, ?_⟩, ?_, ?_, Or.inr ⟨rfl, a, ha, ?_⟩⟩
        · intro v hv
          show up m 16 a _ 16 v = nI (if v = a then d i + 1 else d v) ∧ (if v = a then d i + 1 else d v) ≤ 268435456
          rw [up_a]
          by_cases z : v = a
          · rw [if_pos z, if_pos z]; exact ⟨rfl, by omega⟩
          · rw [if_neg z, if_neg z]; exact h1 v hv
        · have : ¬ t = a := fun z => by rw [← z, h2.1] at hlt; omega
          simp only [this, if_false]; exact h2.1
        · intro v hv hd
          by_cases z : v = a
          · subst z
            simp only [if_true] at hd ⊢
            exact ⟨ha, i, hi, hE, h2.2 i hi (by omega)⟩
          · simp only [z, if_false] at hd ⊢
            exact h2.2 v hv hd
        · intro v
          by_cases z : v = a
          · subst z; simp only [if_true]; have := h3 v; omega
          · simp only [z, if_false]; exact h3 v
        · intro x y hx hy hD hEE
          by_cases z : x = a
          · subst z
            simp only [if_true]
            by_cases z2 : y = i
            · subst z2; have := h3 y; omega
            · have := h4 x y hx hy (by omega) hEE; omega
          · simp only [z, if_false]
            exact h4 x y hx hy (by omega) hEE
        · simp only [if_true]; have := h3 a; omega
      · rw [wp_f hlt]
        exact skip fun _ => by have := h3 i; omega
    · rw [wp_t hE]
      exact skip fun z => absurd z hE
  · simp (disch := omega) only [gbX12_layWay_53, L_16, i_le, wp_t, wp_some, lq_r]
    obtain ⟨fr, d, h1, h2, h3, h4, h5⟩ := H
    exact ⟨fr, d, h1, h2, h3, fun x y hx hy hD hE => h4 x y hx hy (by omega) hE, h5⟩
  · obtain ⟨fr, d, h1, h2, h3, h4, h5⟩ := H
    exact ⟨fr, d, h1, h2, h3, fun x y hx hy hD hE => h4 x y hx hy (by omega) hE, h5⟩
theorem lw_pass {d0 : Nat → Nat} (h1 : fM m d0) (h2 : fS (rE (m0 1)) t d0) (fr : ∀ o, o ≠ 16 → m o = m0 o) : wp (lp (gbX12_layWay_43 (nI f)) FU (nI 0, nI 0, m)) (fun r => pI2 m0 (rE (m0 1)) t d0 (fun _ _ => True) r.1 r.2) := by
  refine wp_for (κ := Int32 × Mem) (fun i c => (c.1, nI i, c.2)) 16 (fun i c => pI2 m0 (rE (m0 1)) t d0 (fun x _ => x < i) c.1 c.2) (fun i c hi H => ?_) (fun c H => ?_) 0 (nI 0, m) (Nat.zero_le _) ⟨fr, d0, h1, h2, fun _ => Nat.le_refl _, fun a b _ _ z => absurd z (Nat.not_lt_zero _), Or.inl ⟨rfl, fun _ _ => rfl⟩⟩ (by decide)
  · simp (disch := omega) only [gbX12_layWay_43, L_16, i_le, wp_f, wp_bind]
    refine wp_mono (lw_row hi H) (fun r hr => ?_)
    rw [wp_some, wp_some, lq_l, nI_1]
    exact ⟨r, rfl, hr⟩
  · simp (disch := omega) only [gbX12_layWay_43, L_16, i_le, wp_t, wp_some, lq_r]
    obtain ⟨fr, d, h1, h2, h3, h4, h5⟩ := H
    exact ⟨fr, d, h1, h2, h3, fun x y hx hy _ hE => h4 x y hx hy hx hE, h5⟩
/-- at the end: just as far as they are -/
def fX (E : Nat → Nat → Prop) (t : Nat) (d : Nat → Nat) : Prop := ∀ v, v < 16 → ∀ k, ds 16 E t k v ↔ k < 268435456 ∧ d v = k
theorem fX_of {E : Nat → Nat → Prop} {d : Nat → Nat} (ht : t < 16) (h2 : fS E t d) (h : ∀ k v, ds 16 E t k v → d v ≤ k) : fX E t d := by
  intro v hv k
  constructor
  · intro hd
    have h3 := h k v hd
    have h4 := ds_k ht hd
    refine ⟨by omega, ?_⟩
    rcases Nat.lt_or_ge (d v) k with z | z
    · exact absurd (h2.2 v hv (by omega)) (hd.2 _ z)
    · omega
  · rintro ⟨h3, h4⟩
    obtain ⟨j, h5, h6⟩ := ds_of (h2.2 v hv (by omega))
    have h7 := h j v h6
    rw [show k = j by omega]; exact h6
theorem lw_far (ht : t < 16) {d0 : Nat → Nat} (h1 : fM m d0) (h2 : fS (rE (m0 1)) t d0) (fr : ∀ o, o ≠ 16 → m o = m0 o) : wp (lp (gbX12_layWay_34 (nI f)) FU (nI 1, m)) (fun m' => (∀ o, o ≠ 16 → m' o = m0 o) ∧ ∃ d, fM m' d ∧ fX (rE (m0 1)) t d) := by
  refine wp_lp (fun n s => (∀ o, o ≠ 16 → s.2 o = m0 o) ∧ ∃ d, fM s.2 d ∧ fS (rE (m0 1)) t d ∧ ((s.1 = 1 ∧ 1 ≤ n ∧ ∃ r, r + n = 18 ∧ ∀ k v, k ≤ r → ds 16 (rE (m0 1)) t k v → d v ≤ k) ∨ (s.1 = 0 ∧ n = 0 ∧ fX (rE (m0 1)) t d))) (fun n s H => ?_) (n := 18) ⟨fr, d0, h1, h2, Or.inl ⟨rfl, by decide, 0, rfl, fun k v hk hd => ?_⟩⟩ (by decide)
  · obtain ⟨c, m⟩ := s
    obtain ⟨fr, d, h1, h2, H⟩ := H
    simp only at fr h1 H ⊢
    rcases H with ⟨rfl, hn, r, hr, hJ⟩ | ⟨rfl, hn, hX⟩
    · have : ¬ (1 : Int32) = 0 := by decide
      unfold gbX12_layWay_34
      rw [wp_f this, wp_bind]
      refine wp_mono (lw_pass h1 h2 fr) ?_
      rintro ⟨c', m'⟩ ⟨fr', d', g1, g2, g3, g4, g5⟩
      rw [wp_some, lq_l]
      have nx : ∀ k v, k ≤ r + 1 → ds 16 (rE (m0 1)) t k v → d' v ≤ k := by
        intro k v hk hd
        rcases Nat.lt_or_ge r k with z | z
        · obtain ⟨q, rfl⟩ : ∃ q, k = q + 1 := ⟨k - 1, by omega⟩
          obtain ⟨hv, ⟨w, hw, hE, hdw⟩, _⟩ := (ds_s ht).mp hd
          have := g4 v w hv hw trivial hE
          have := hJ q w (by omega) hdw
          omega
        · have := hJ k v z hd
          have := g3 v
          omega
      rcases g5 with ⟨rfl, g6⟩ | ⟨rfl, v, hv, g6⟩
      · refine ⟨0, by omega, fr', d', g1, g2, Or.inr ⟨rfl, rfl, fX_of ht g2 ?_⟩⟩
        intro k
        induction k with
        | zero => intro v hd; rw [ds_0.mp hd, g2.1]; exact Nat.le_refl _
        | succ k ih =>
          intro v hd
          obtain ⟨hv, ⟨w, hw, hE, hdw⟩, _⟩ := (ds_s ht).mp hd
          have h7 := g4 v w hv hw trivial hE
          have h8 := ih w hdw
          have h9 := g6 w hw
          omega
      · refine ⟨n - 1, by omega, fr', d', g1, g2, Or.inl ⟨rfl, ?_, r + 1, by omega, nx⟩⟩
        refine Nat.le_of_not_lt fun hn1 => ?_
        have hX : fX (rE (m0 1)) t d := fX_of ht h2 fun k v hd => hJ k v (by have := ds_k ht hd; omega) hd
        have hle := (h1 v hv).2
        have h7 := g2.2 v hv (by omega)
        obtain ⟨j, h8, h9⟩ := ds_of h7
        have := (hX v hv j).mp h9
        omega
    · unfold gbX12_layWay_34
      rw [wp_t rfl, wp_some, lq_r]
      exact ⟨fr, d, h1, hX⟩
  · rw [show k = 0 by omega] at hd
    rw [ds_0.mp hd, h2.1]; exact Nat.zero_le _
theorem lw_least (hf : f < 16) {d : Nat → Nat} (h1 : fM m d) : wp (lp (gbX12_layWay_134 (nI f) m) FU (nI 268435456, nI 0)) (fun r => ∃ L, r = nI L ∧ L ≤ 268435456 ∧ (∀ b, b < 16 → rE (m 1) f b → L ≤ d b) ∧ (L = 268435456 ∨ ∃ b, b < 16 ∧ rE (m 1) f b ∧ d b = L)) := by
  refine wp_for (κ := Nat) (fun i c => (nI c, nI i)) 16 (fun i L => L ≤ 268435456 ∧ (∀ b, b < i → rE (m 1) f b → L ≤ d b) ∧ (L = 268435456 ∨ ∃ b, b < 16 ∧ rE (m 1) f b ∧ d b = L)) (fun i L hi H => ?_) (fun L H => ?_) 0 268435456 (Nat.zero_le _) ⟨Nat.le_refl _, fun b hb => by omega, Or.inl rfl⟩ (by decide)
  · obtain ⟨H1, H2, H3⟩ := H
    have f1 := h1 i hi
    simp (disch := omega) only [gbX12_layWay_134, L_16, i_le, wp_f, wp_bind, w_isEdge, b01_z]
    by_cases hE : rE (m 1) f i
    · rw [wp_f (fun z => z hE)]
      simp (disch := omega) only [wp_bind, w_rd, f1.1, i_le]
      by_cases hle : L ≤ d i
      · rw [wp_t hle]
        simp only [gjX12_layWay_173, gjX12_layWay_175, wp_bind, wp_some, lq_l, L_1, i_add]
        refine ⟨L, rfl, H1, fun b hb hE => ?_, H3⟩
        by_cases z : b = i
        · rw [z]; exact hle
        · exact H2 b (by omega) hE
      · rw [wp_f hle]
        simp (disch := omega) only [w_rd, f1.1, gjX12_layWay_173, gjX12_layWay_175, wp_bind, wp_some, lq_l, L_1, i_add]
        refine ⟨d i, rfl, f1.2, fun b hb hE => ?_, Or.inr ⟨i, hi, hE, rfl⟩⟩
        by_cases z : b = i
        · rw [z]; exact Nat.le_refl _
        · have := H2 b (by omega) hE; omega
    · rw [wp_t hE]
      simp only [gjX12_layWay_173, gjX12_layWay_175, wp_bind, wp_some, lq_l, L_1, i_add]
      refine ⟨L, rfl, H1, fun b hb hE' => ?_, H3⟩
      by_cases z : b = i
      · rw [z] at hE'; exact absurd hE' hE
      · exact H2 b (by omega) hE'
  · simp (disch := omega) only [gbX12_layWay_134, L_16, i_le, wp_t, wp_some, lq_r]
    exact ⟨L, rfl, H⟩
theorem lw_next {n left q : Nat} {d : Nat → Nat} (h1 : fM m d) (hn : 1 ≤ n) (hn2 : n < 20) (hl : left ≤ 268435456) (hq : q < 16) (hx : m 17 (n - 1) = nI q) (ex : ∃ b, b < 16 ∧ rE (m 1) q b ∧ d b = left) : wp (lp (gbX12_layWay_215 (nI n) (nI left) m) FU (nI 0)) (fun r => ∃ b, r = nI b ∧ b < 16 ∧ rE (m 1) q b ∧ d b = left ∧ ∀ b', b' < b → ¬ (rE (m 1) q b' ∧ d b' = left)) := by
  refine wp_for (κ := Unit) (fun i _ => nI i) 16 (fun i _ => ∀ b', b' < i → ¬ (rE (m 1) q b' ∧ d b' = left)) (fun i _ hi H => ?_) (fun _ H => ?_) 0 () (Nat.zero_le _) (fun b hb => by omega) (by decide)
  · have f1 := h1 i hi
    simp (disch := omega) only [gbX12_layWay_215, L_1, i_sub, w_rd, hx, wp_bind, w_isEdge, b01_z]
    by_cases hE : rE (m 1) q i
    · rw [wp_f (fun z => z hE)]
      simp (disch := omega) only [wp_bind, w_rd, f1.1, i_eq]
      by_cases hd : d i = left
      · rw [wp_t hd, wp_some, lq_r]
        exact ⟨i, rfl, hi, hE, hd, H⟩
      · rw [wp_f hd]
        simp only [gjX12_layWay_245, wp_bind, wp_some, lq_l, L_1, i_add]
        refine ⟨(), by trivial, fun b hb hz => ?_⟩
        by_cases z : b = i
        · rw [z] at hz; exact hd hz.2
        · exact H b (by omega) hz
    · rw [wp_t hE]
      simp only [gjX12_layWay_245, wp_bind, wp_some, lq_l, L_1, i_add]
      refine ⟨(), by trivial, fun b hb hz => ?_⟩
      by_cases z : b = i
      · rw [z] at hz; exact hE hz.1
      · exact H b (by omega) hz
  · obtain ⟨b, h2, h3, h4⟩ := ex
    exact absurd ⟨h3, h4⟩ (H b h2)
theorem lw_nodes (hf : f < 16) (ht : t < 16) {d : Nat → Nat} {L : Nat} (h1 : fM m d) (hX : fX (rE (m 1)) t d) (hL : L < 16) (h0 : m 17 0 = nI f) (ex : ∃ b, b < 16 ∧ rE (m 1) f b ∧ d b = L) : wp (lp gbX12_layWay_207 FU (nI 1, nI L, m)) (fun r => ∃ (m' : Mem) (x : Nat → Nat), r = (nI (L + 2), m') ∧ (∀ o, o ≠ 17 → m' o = m o) ∧ (x 0 = f ∧ (∀ i, i ≤ L + 1 → m' 17 i = nI (x i)) ∧ ∀ i, i < L + 1 → x (i + 1) < 16 ∧ rE (m 1) (x i) (x (i + 1)) ∧ ds 16 (rE (m 1)) t (L + 1 - (i + 1)) (x (i + 1)) ∧ ∀ b, b < x (i + 1) → ¬ (rE (m 1) (x i) b ∧ ds 16 (rE (m 1)) t (L + 1 - (i + 1)) b))) := by
  refine wp_for (κ := Mem) (fun i c => (nI (i + 1), (if i = L + 1 then mI else nI (L - i)), c)) (L + 1) (fun i m' => (∀ o, o ≠ 17 → m' o = m o) ∧ ∃ x : Nat → Nat, (x 0 = f ∧ (∀ j, j ≤ i → m' 17 j = nI (x j)) ∧ ∀ j, j < i → x (j + 1) < 16 ∧ rE (m 1) (x j) (x (j + 1)) ∧ ds 16 (rE (m 1)) t (L + 1 - (j + 1)) (x (j + 1)) ∧ ∀ b, b < x (j + 1) → ¬ (rE (m 1) (x j) b ∧ ds 16 (rE (m 1)) t (L + 1 - (j + 1)) b))) (fun i c hi H => ?_) (fun c H => ?_) 0 m (by omega) ⟨fun _ _ => rfl, fun _ => f, rfl, fun j hj => by rw [show j = 0 by omega]; exact h0, fun j hj => by omega⟩ (by omega)
  · obtain ⟨fr, x, x0, hx, hc⟩ := H
    have e1 : c 1 = m 1 := fr 1 (by decide)
    have e16 : fM c d := fun v hv => by rw [fr 16 (by decide)]; exact h1 v hv
    have xi : x i < 16 := by
      cases i with
      | zero => rw [x0]; exact hf
      | succ i => exact (hc i (by omega)).1
    have nx : ∃ b, b < 16 ∧ rE (c 1) (x i) b ∧ d b = L - i := by
      rw [e1]
      cases i with
      | zero => rw [x0]; exact ex
      | succ i =>
        obtain ⟨_, _, h3, _⟩ := hc i (by omega)
        rw [show L + 1 - (i + 1) = (L - (i + 1)) + 1 by omega, ds_s ht] at h3
        obtain ⟨q, h4, h5, h6⟩ := h3.2.1
        exact ⟨q, h4, h5, ((hX q h4 _).mp h6).2⟩
    have le1 : ¬ i = L + 1 := by omega
    simp only [le1, if_false]
    simp (disch := omega) only [gbX12_layWay_207, nI_lt0, if_false, wp_bind]
    refine wp_mono (lw_next (n := i + 1) e16 (by omega) (by omega) (by omega) xi (by rw [Nat.add_sub_cancel]; exact hx i (Nat.le_refl _)) nx) ?_
    rintro r ⟨b, rfl, hb, hE, hd, hl⟩
    rw [e1] at hE hl
    simp (disch := omega) only [↓mI_e, w_wr, wp_bind, wp_some, lq_l, L_1, i_add]
    refine ⟨up c 17 (i + 1) (nI b), ?_, fun o ho => by rw [up_r ho]; exact fr o ho, fun j => if j = i + 1 then b else x j, ?_, ?_, ?_⟩
    · by_cases z : i + 1 = L + 1
      · rw [if_pos z, show L - i = 0 by omega, nI_0, z_add]
      · rw [if_neg z, i_dec (by omega), show L - i - 1 = L - (i + 1) by omega]
    · simp only [show ¬ 0 = i + 1 by omega, if_false]; exact x0
    · intro j hj
      rw [up_a]
      by_cases z : j = i + 1
      · show _ = nI (if j = i + 1 then b else x j); rw [if_pos z, if_pos z]
      · show _ = nI (if j = i + 1 then b else x j); rw [if_neg z, if_neg z]; exact hx j (by omega)
    · intro j hj
      simp only [show ¬ j = i + 1 by omega, if_false]
      by_cases z : j + 1 = i + 1
      · simp only [z, if_true]
        rw [show j = i by omega, show L + 1 - (i + 1) = L - i by omega]
        refine ⟨hb, hE, (hX b hb _).mpr ⟨by omega, hd⟩, fun b' hb' hz => hl b' hb' ⟨hz.1, ((hX b' (by omega) _).mp hz.2).2⟩⟩
      · simp only [z, if_false]; exact hc j (by omega)
  · obtain ⟨fr, x, x0, hx, hc⟩ := H
    simp only [if_true, gbX12_layWay_207, m_lt0, wp_some, lq_r]
    exact ⟨c, x, rfl, fr, x0, hx, hc⟩
/-- the reference's layWay -/
theorem r_layWay (hf : f < 16) (ht : t < 16) : wp (gX12_layWay m (nI f) (nI t)) (fun r => (∀ o, o ≠ 16 → o ≠ 17 → r.2 o = m o) ∧ ((∃ K x, Way 16 (rE (m 1)) f t K x ∧ r.1 = nI (K + 1) ∧ ∀ i, i ≤ K → r.2 17 i = nI (x i)) ∨ (r.1 = 0 ∧ noWay 16 (rE (m 1)) f t))) := by
  unfold gX12_layWay
  rw [wp_bind]
  refine wp_mono (lw_init (f := f) (m := m) ht) (fun m1 ⟨fr1, hd⟩ => ?_)
  rw [wp_bind]
  have e1 : m1 1 = m 1 := fr1 1 (by decide)
  refine wp_mono (lw_far (m0 := m1) (f := f) ht (d0 := fun v => if v = t then 0 else 268435456) (fun v hv => ⟨hd v hv, by by_cases z : v = t <;> simp [z]⟩) ⟨by simp, fun v hv hlt => ?_⟩ (fun _ _ => rfl)) (fun m2 ⟨fr2, d, h1, hX⟩ => ?_)
  · by_cases z : v = t
    · simp only [z, if_true]; rfl
    · simp only [z, if_false] at hlt; exact absurd hlt (Nat.lt_irrefl _)
  · have e2 : m2 1 = m1 1 := fr2 1 (by decide)
    rw [wp_bind]
    refine wp_mono (lw_least (f := f) hf h1) ?_
    rintro r ⟨L, rfl, hL, h2, h3⟩
    rw [e2, e1] at h2 h3
    rw [e1] at hX
    by_cases hLF : L = 268435456
    · rw [hLF, wp_t (show nI 268435456 = (268435456 : Int32) from rfl), wp_some]
      refine ⟨fun o h16 _ => by show m2 o = _; rw [fr2 o h16, fr1 o h16], Or.inr ⟨rfl, fun k b hb hE hds => ?_⟩⟩
      have := (hX b hb k).mp hds
      have := h2 b hb hE
      omega
    · obtain ⟨b, hb, hE, hdb⟩ := h3.resolve_left hLF
      have hds := (hX b hb L).mpr ⟨by omega, hdb⟩
      have hL16 := ds_k ht hds
      have ne : ¬ nI L = (268435456 : Int32) := by rw [L_268435456, i_eq (by omega) (by decide)]; exact hLF
      rw [wp_f ne, wp_bind, show (0 : Int32) = nI 0 from rfl, w_wr (by decide) (by decide), wp_bind]
      have eu : up m2 17 0 (nI f) 1 = m 1 := by rw [up_r (by decide), e2, e1]
      refine wp_mono (lw_nodes (m := up m2 17 0 (nI f)) (f := f) (t := t) (d := d) (L := L) hf ht (fun v hv => by rw [up_r (by decide)]; exact h1 v hv) (by rw [eu]; exact hX) hL16 up_at ⟨b, hb, by rw [eu]; exact hE, hdb⟩) ?_
      rintro r ⟨m3, x, rfl, fr3, x0, hx, hc⟩
      rw [eu] at hc
      rw [wp_some]
      refine ⟨fun o h16 h17 => by show m3 o = _; rw [fr3 o h17, up_r h17, fr2 o h16, fr1 o h16], Or.inl ⟨L + 1, x, ⟨by omega, fun j b hj hb hE hds => ?_, x0, hc⟩, rfl, hx⟩⟩
      have := (hX b hb j).mp hds
      have := h2 b hb hE
      omega
end LW

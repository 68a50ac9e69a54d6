/-! the reference: how far each processor is from one, by who waits on whom -/
abbrev wE (r : Nat → Int32) (a b : Nat) : Prop := bt (r a) b = true
section RAP
variable {m m0 : Mem} {t : Nat}
def fM6 (m : Mem) (d : Nat → Nat) : Prop := ∀ v, v < 6 → m 35 v = nI (d v) ∧ d v ≤ 268435456
def fS6 (E : Nat → Nat → Prop) (t : Nat) (d : Nat → Nat) : Prop := d t = 0 ∧ ∀ v, v < 6 → d v < 268435456 → wk 6 E t (d v) v
def fX6 (E : Nat → Nat → Prop) (t : Nat) (d : Nat → Nat) : Prop := ∀ v, v < 6 → ∀ k, ds 6 E t k v ↔ k < 268435456 ∧ d v = k
theorem ap_init (ht : t < 6) : wp (lp (gbX12_layApart_2 (nI t)) FU (nI 0, m)) (fun m' => (∀ o, o ≠ 35 → m' o = m o) ∧ ∀ v, v < 6 → m' 35 v = nI (if v = t then 0 else 268435456)) := by
  refine wp_for (κ := Mem) (fun i c => (nI i, c)) 6 (fun i m' => (∀ o, o ≠ 35 → m' o = m o) ∧ ∀ v, v < i → m' 35 v = nI (if v = t then 0 else 268435456)) (fun i c hi H => ?_) (fun c H => ?_) 0 m (Nat.zero_le _) ⟨fun o _ => rfl, fun v hv => by omega⟩ (by decide)
  · have key : ∀ n : Nat, n = (if i = t then 0 else 268435456) → wp (gjX12_layApart_25 (nI t) (nI i) (nI n) (nI i) c) (lq (fun s' => ∃ c', s' = (nI (i + 1), c') ∧ (∀ o, o ≠ 35 → c' o = m o) ∧ ∀ v, v < i + 1 → c' 35 v = nI (if v = t then 0 else 268435456)) (fun m' => (∀ o, o ≠ 35 → m' o = m o) ∧ ∀ v, v < 6 → m' 35 v = nI (if v = t then 0 else 268435456))) := by
      intro n hn
      unfold gjX12_layApart_25
      rw [wp_bind, w_wr hi (by decide), wp_bind, wp_some, wp_some, lq_l, nI_1]
      refine ⟨_, rfl, fun o ho => by rw [up_r ho]; exact H.1 o ho, fun v hv => ?_⟩
      rw [up_a]
      by_cases hvi : v = i
      · rw [if_pos hvi, hvi, hn]
      · rw [if_neg hvi]; exact H.2 v (by omega)
    by_cases hit : i = t
    · simp (disch := omega) only [gbX12_layApart_2, L_6, i_le, i_eq, wp_f, wp_t]
      exact key 0 (by rw [if_pos hit])
    · simp (disch := omega) only [gbX12_layApart_2, L_6, i_le, i_eq, wp_f]
      exact key 268435456 (by rw [if_neg hit])
  · simp (disch := omega) only [gbX12_layApart_2, L_6, i_le, wp_t, wp_some, lq_r]
    exact H
/-- within a pass: from d0, with the pairs done told by D -/
def pI6 (m0 : Mem) (E : Nat → Nat → Prop) (t : Nat) (d0 : Nat → Nat) (D : Nat → Nat → Prop) (m : Mem) : Prop :=
  (∀ o, o ≠ 35 → m o = m0 o) ∧ ∃ d, fM6 m d ∧ fS6 E t d ∧ (∀ v, d v ≤ d0 v) ∧ (∀ a b, a < 6 → b < 6 → D a b → E a b → d a ≤ d0 b + 1)
theorem ap_row {d0 : Nat → Nat} {a r : Nat} (ht : t < 6) (ha : a < 6) (H : pI6 m0 (wE (m0 33)) t d0 (fun x _ => x < a) m) : wp (lp (gbX12_layApart_51 (nI t) (nI r) (nI a)) FU (nI 0, m)) (fun m' => pI6 m0 (wE (m0 33)) t d0 (fun x _ => x < a + 1) m') := by
  refine wp_for (κ := Mem) (fun i c => (nI i, c)) 6 (fun i c => pI6 m0 (wE (m0 33)) t d0 (fun x y => x < a ∨ x = a ∧ y < i) c) (fun i m hi H => ?_) (fun c H => ?_) 0 m (Nat.zero_le _) ?_ (by decide)
  · obtain ⟨fr, d, h1, h2, h3, h4⟩ := H
    have e1 : m 33 = m0 33 := fr 33 (by decide)
    have f1 := h1 i hi
    have f2 := h1 a ha
    have skip : (wE (m0 33) a i → d a ≤ d0 i + 1) → wp (gjX12_layApart_110 (nI t) (nI r) (nI a) (nI i) m) (lq (fun s' => ∃ c' : Mem, s' = (nI (i + 1), c') ∧ pI6 m0 (wE (m0 33)) t d0 (fun x y => x < a ∨ x = a ∧ y < i + 1) c') (fun m' => pI6 m0 (wE (m0 33)) t d0 (fun x _ => x < a + 1) m')) := by
      intro hr
      unfold gjX12_layApart_110
      rw [wp_bind, wp_some, wp_some, lq_l, nI_1]
      refine ⟨m, rfl, fr, d, h1, h2, h3, fun x y hx hy hD hE => ?_⟩
      by_cases z : x = a ∧ y = i
      · rw [z.1, z.2]; rw [z.1, z.2] at hE; exact hr hE
      · exact h4 x y hx hy (by omega) hE
    simp only [gbX12_layApart_51]
    rw [L_6, wp_f (by rw [i_le (by decide) (by omega)]; omega)]
    by_cases hat : a = t
    · rw [wp_t (by rw [hat])]
      exact skip fun _ => by rw [hat, h2.1]; omega
    · rw [wp_f (by rw [i_eq (by omega) (by omega)]; exact hat), wp_bind, w_rd ha (by decide), wp_bind, e1, w_hasR (by omega)]
      by_cases hE : wE (m0 33) a i
      · rw [b01_t hE, wp_f (by decide), wp_bind, w_rd hi (by decide), wp_bind, w_rd ha (by decide), f1.1, f2.1, L_1, i_add]
        by_cases hle : d a ≤ d i + 1
        · rw [wp_t (by rw [i_le (by omega) (by omega)]; exact hle)]
          exact skip fun _ => by have := h3 i; omega
        · rw [wp_f (by rw [i_le (by omega) (by omega)]; exact hle), wp_bind, w_rd hi (by decide), f1.1, i_add, wp_bind, w_wr ha (by decide)]
          unfold gjX12_layApart_110
          rw [wp_bind, wp_some, wp_some, lq_l, nI_1]
          refine ⟨up m 35 a (nI (d i + 1)), rfl, fun o ho => by rw [up_r ho]; exact fr o ho, fun v => if v = a then d i + 1 else d v, ?_, ⟨?_, ?_⟩, ?_, ?_⟩
          · intro v hv
            show up m 35 a _ 35 v = nI (if v = a then d i + 1 else d v) ∧ (if v = a then d i + 1 else d v) ≤ 268435456
            rw [up_a]
            by_cases z : v = a
            · rw [if_pos z, if_pos z]; exact ⟨rfl, by omega⟩
            · rw [if_neg z, if_neg z]; exact h1 v hv
          · have : ¬ t = a := fun z => hat z.symm
            simp only [this, if_false]; exact h2.1
          · intro v hv hd
            by_cases z : v = a
            · subst z
              simp only [if_true] at hd ⊢
              exact ⟨ha, i, hi, hE, h2.2 i hi (by omega)⟩
            · simp only [z, if_false] at hd ⊢
              exact h2.2 v hv hd
          · intro v
            by_cases z : v = a
            · subst z; simp only [if_true]; have := h3 v; omega
            · simp only [z, if_false]; exact h3 v
          · intro x y hx hy hD hEE
            by_cases z : x = a
            · subst z
              simp only [if_true]
              by_cases z2 : y = i
              · subst z2; have := h3 y; omega
              · have := h4 x y hx hy (by omega) hEE; omega
            · simp only [z, if_false]
              exact h4 x y hx hy (by omega) hEE
      · rw [b01_n hE, wp_t rfl]
        exact skip fun z => absurd z hE
  · simp only [gbX12_layApart_51]
    rw [L_6, wp_t (by rw [i_le (by decide) (by omega)]; omega), wp_some, lq_r]
    obtain ⟨fr, d, h1, h2, h3, h4⟩ := H
    exact ⟨fr, d, h1, h2, h3, fun x y hx hy hD hE => h4 x y hx hy (by omega) hE⟩
  · obtain ⟨fr, d, h1, h2, h3, h4⟩ := H
    exact ⟨fr, d, h1, h2, h3, fun x y hx hy hD hE => h4 x y hx hy (by omega) hE⟩
theorem ap_pass {d0 : Nat → Nat} {r : Nat} (ht : t < 6) (h1 : fM6 m d0) (h2 : fS6 (wE (m0 33)) t d0) (fr : ∀ o, o ≠ 35 → m o = m0 o) : wp (lp (gbX12_layApart_42 (nI t) (nI r)) FU (nI 0, m)) (fun m' => pI6 m0 (wE (m0 33)) t d0 (fun _ _ => True) m') := by
  refine wp_for (κ := Mem) (fun i c => (nI i, c)) 6 (fun i c => pI6 m0 (wE (m0 33)) t d0 (fun x _ => x < i) c) (fun i c hi H => ?_) (fun c H => ?_) 0 m (Nat.zero_le _) ⟨fr, d0, h1, h2, fun _ => Nat.le_refl _, fun a b _ _ z => absurd z (Nat.not_lt_zero _)⟩ (by decide)
  · simp only [gbX12_layApart_42]
    rw [L_6, wp_f (by rw [i_le (by decide) (by omega)]; omega), wp_bind]
    refine wp_mono (ap_row (r := r) ht hi H) (fun m' hm => ?_)
    rw [wp_bind, wp_some, wp_some, lq_l, nI_1]
    exact ⟨m', rfl, hm⟩
  · simp only [gbX12_layApart_42]
    rw [L_6, wp_t (by rw [i_le (by decide) (by omega)]; omega), wp_some, lq_r]
    obtain ⟨fr, d, h1, h2, h3, h4⟩ := H
    exact ⟨fr, d, h1, h2, h3, fun x y hx hy _ hE => h4 x y hx hy hx hE⟩
theorem r_layApart (ht : t < 6) : wp (gX12_layApart m (nI t)) (fun m' => (∀ o, o ≠ 35 → m' o = m o) ∧ ∃ d, fM6 m' d ∧ fX6 (wE (m 33)) t d) := by
  unfold gX12_layApart
  rw [wp_bind]
  refine wp_mono (ap_init (m := m) ht) (fun m1 ⟨fr1, hd⟩ => ?_)
  rw [wp_bind]
  refine wp_mono (Q := fun m' => (∀ o, o ≠ 35 → m' o = m o) ∧ ∃ d, fM6 m' d ∧ fX6 (wE (m 33)) t d) ?_ (fun _ hr => by rw [wp_some]; exact hr)
  refine wp_for (κ := Mem) (fun i c => (nI i, c)) 6 (fun i c => (∀ o, o ≠ 35 → c o = m o) ∧ ∃ d, fM6 c d ∧ fS6 (wE (m 33)) t d ∧ ∀ k v, k ≤ i → ds 6 (wE (m 33)) t k v → d v ≤ k) (fun i c hi H => ?_) (fun c H => ?_) 0 m1 (Nat.zero_le _) ⟨fr1, fun v => if v = t then 0 else 268435456, fun v hv => ⟨hd v hv, by by_cases z : v = t <;> simp [z]⟩, ⟨by simp, fun v hv hlt => ?_⟩, fun k v hk hd' => ?_⟩ (by decide)
  · obtain ⟨fr, d, h1, h2, hJ⟩ := H
    simp only [gbX12_layApart_34]
    rw [L_6, wp_f (by rw [i_le (by decide) (by omega)]; omega), wp_bind]
    refine wp_mono (ap_pass (m0 := m) (r := i) ht h1 h2 fr) ?_
    rintro m' ⟨fr', d', g1, g2, g3, g4⟩
    rw [wp_bind, wp_some, wp_some, lq_l, nI_1]
    refine ⟨m', rfl, fr', d', g1, g2, fun k v hk hd => ?_⟩
    rcases Nat.lt_or_ge i k with z | z
    · obtain ⟨q, rfl⟩ : ∃ q, k = q + 1 := ⟨k - 1, by omega⟩
      obtain ⟨hv, ⟨w, hw, hE, hdw⟩, _⟩ := (ds_s ht).mp hd
      have := g4 v w hv hw trivial hE
      have := hJ q w (by omega) hdw
      omega
    · have := hJ k v z hd
      have := g3 v
      omega
  · obtain ⟨fr, d, h1, h2, hJ⟩ := H
    simp only [gbX12_layApart_34]
    rw [L_6, wp_t (by rw [i_le (by decide) (by omega)]; omega), wp_some, lq_r]
    refine ⟨fr, d, h1, fun v hv k => ⟨fun hd => ?_, fun ⟨h3, h4⟩ => ?_⟩⟩
    · have h4 := ds_k ht hd
      have h3 := hJ k v (by omega) hd
      refine ⟨by omega, ?_⟩
      rcases Nat.lt_or_ge (d v) k with z | z
      · exact absurd (h2.2 v hv (by omega)) (hd.2 _ z)
      · omega
    · obtain ⟨j, h5, h6⟩ := ds_of (h2.2 v hv (by omega))
      have h8 := ds_k ht h6
      have h7 := hJ j v (by omega) h6
      rw [show k = j by omega]; exact h6
  · by_cases z : v = t
    · simp only [z, if_true]; rfl
    · simp only [z, if_false] at hlt; exact absurd hlt (Nat.lt_irrefl _)
  · rw [show k = 0 by omega] at hd'
    have := ds_0.mp hd'
    simp [this]
end RAP

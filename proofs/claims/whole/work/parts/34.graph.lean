/-! ways in a graph of N nodes: walks, how far, the shortest way and of like ones the least -/
theorem pigeon : ∀ (N k : Nat) (x : Nat → Nat), (∀ j, j ≤ k → x j < N) → (∀ i j, i ≤ k → j ≤ k → x i = x j → i = j) → k < N := by
  intro N
  induction N with
  | zero => intro k x h; exact absurd (h 0 (Nat.zero_le _)) (Nat.not_lt_zero _)
  | succ N ih =>
    intro k x h inj
    cases k with
    | zero => omega
    | succ k =>
      refine Nat.succ_lt_succ ?_
      by_cases hx : ∃ i, i ≤ k + 1 ∧ x i = N
      · obtain ⟨i, hi, hxi⟩ := hx
        refine ih k (fun j => if j = i then x (k + 1) else x j) (fun j hj => ?_) (fun a b ha hb hab => ?_)
        · by_cases hji : j = i
          · subst hji
            have h1 := h (k + 1) (Nat.le_refl _)
            have h2 : x (k + 1) ≠ N := fun e => by
              have := inj j (k + 1) (by omega) (Nat.le_refl _) (by rw [hxi, e])
              omega
            simp only [if_true]
            omega
          · simp only [hji, if_false]
            have h1 := h j (by omega)
            have h2 : x j ≠ N := fun e => hji (inj j i (by omega) hi (by rw [hxi, e]))
            omega
        · by_cases h1 : a = i
          · by_cases h2 : b = i
            · omega
            · rw [if_pos h1, if_neg h2] at hab
              have := inj (k + 1) b (Nat.le_refl _) (by omega) hab
              omega
          · by_cases h2 : b = i
            · rw [if_neg h1, if_pos h2] at hab
              have := inj a (k + 1) (by omega) (Nat.le_refl _) hab
              omega
            · rw [if_neg h1, if_neg h2] at hab
              exact inj a b (by omega) (by omega) hab
      · refine ih k x (fun j hj => ?_) (fun a b ha hb => inj a b (by omega) (by omega))
        have h1 := h j (by omega)
        have h2 : x j ≠ N := fun e => hx ⟨j, by omega, e⟩
        omega
/-- a walk of k edges from v to t -/
def wk (N : Nat) (E : Nat → Nat → Prop) (t : Nat) : Nat → Nat → Prop
  | 0, v => v = t
  | k + 1, v => v < N ∧ ∃ w, w < N ∧ E v w ∧ wk N E t k w
/-- so far is v from t -/
def ds (N : Nat) (E : Nat → Nat → Prop) (t k v : Nat) : Prop := wk N E t k v ∧ ∀ j, j < k → ¬ wk N E t j v
section GR
variable {N : Nat} {E : Nat → Nat → Prop} {t : Nat}
theorem ds_of {k v : Nat} (h : wk N E t k v) : ∃ j, j ≤ k ∧ ds N E t j v := by
  obtain ⟨j, h1, h2⟩ := pk_least (fun j => wk N E t j v) ⟨k, h⟩
  refine ⟨j, ?_, h1, h2⟩
  exact Nat.le_of_not_lt fun hk => h2 k hk h
theorem ds_lt {k v : Nat} (ht : t < N) (h : wk N E t k v) : v < N := by
  cases k with
  | zero => rw [show v = t from h]; exact ht
  | succ k => exact h.1
theorem ds_un {i j v : Nat} (h : ds N E t i v) (h' : ds N E t j v) : i = j := by
  rcases Nat.lt_trichotomy i j with z | z | z
  · exact absurd h.1 (h'.2 i z)
  · exact z
  · exact absurd h'.1 (h.2 j z)
theorem ds_0 {v : Nat} : ds N E t 0 v ↔ v = t := ⟨fun h => h.1, fun h => ⟨h, fun j hj => by omega⟩⟩
theorem ds_s {k v : Nat} (ht : t < N) : ds N E t (k + 1) v ↔ v < N ∧ (∃ w, w < N ∧ E v w ∧ ds N E t k w) ∧ ∀ j, j ≤ k → ¬ ds N E t j v := by
  constructor
  · rintro ⟨⟨h1, w, h2, h3, h4⟩, h5⟩
    refine ⟨h1, ⟨w, h2, h3, h4, fun j hj hw => h5 (j + 1) (by omega) ⟨h1, w, h2, h3, hw⟩⟩, fun j hj hd => h5 j (by omega) hd.1⟩
  · rintro ⟨h1, ⟨w, h2, h3, h4⟩, h5⟩
    refine ⟨⟨h1, w, h2, h3, h4.1⟩, fun j hj hw => ?_⟩
    obtain ⟨i, hi, hd⟩ := ds_of hw
    exact h5 i (by omega) hd
/-- from a node that is so far, one at each nearer -/
theorem ds_ch (ht : t < N) : ∀ k v, ds N E t k v → ∃ x : Nat → Nat, ∀ j, j ≤ k → ds N E t j (x j) := by
  intro k
  induction k with
  | zero => intro v h; exact ⟨fun _ => v, fun j hj => by rw [show j = 0 by omega]; exact h⟩
  | succ k ih =>
    intro v h
    obtain ⟨_, ⟨w, _, _, h2⟩, _⟩ := (ds_s ht).mp h
    obtain ⟨x, hx⟩ := ih w h2
    refine ⟨fun j => if j = k + 1 then v else x j, fun j hj => ?_⟩
    by_cases h3 : j = k + 1
    · subst h3; simp only [if_true]; exact h
    · simp only [h3, if_false]; exact hx j (by omega)
theorem ds_k {k v : Nat} (ht : t < N) (h : ds N E t k v) : k < N := by
  obtain ⟨x, hx⟩ := ds_ch ht k v h
  refine pigeon N k x (fun j hj => ds_lt ht (hx j hj).1) (fun i j hi hj e => ?_)
  have h1 := hx i hi
  rw [e] at h1
  exact ds_un h1 (hx j hj)
theorem ds_emp {k j v : Nat} (ht : t < N) (h : ∀ v, ¬ ds N E t k v) (hj : k ≤ j) : ¬ ds N E t j v := by
  intro hd
  obtain ⟨x, hx⟩ := ds_ch ht j v hd
  exact h _ (hx k hj)
end GR
/-- the shortest way from f to t, of like ones the least: K edges, nodes x 0 .. x K -/
def Way (N : Nat) (E : Nat → Nat → Prop) (f t K : Nat) (x : Nat → Nat) : Prop :=
  0 < K ∧ (∀ j b, j + 1 < K → b < N → E f b → ¬ ds N E t j b) ∧ x 0 = f ∧ ∀ i, i < K → x (i + 1) < N ∧ E (x i) (x (i + 1)) ∧ ds N E t (K - (i + 1)) (x (i + 1)) ∧ ∀ b, b < x (i + 1) → ¬ (E (x i) b ∧ ds N E t (K - (i + 1)) b)
def noWay (N : Nat) (E : Nat → Nat → Prop) (f t : Nat) : Prop := ∀ k b, b < N → E f b → ¬ ds N E t k b
section GW
variable {N : Nat} {E : Nat → Nat → Prop} {f t : Nat}
theorem Way.no {K : Nat} {x : Nat → Nat} (h : Way N E f t K x) (hn : noWay N E f t) : False := by
  obtain ⟨h1, h2⟩ := h.2.2.2 0 h.1
  rw [h.2.2.1] at h2
  exact hn _ _ h1 h2.1 h2.2.1
theorem Way.len {K K' : Nat} {x x' : Nat → Nat} (h : Way N E f t K x) (h' : Way N E f t K' x') : K ≤ K' := by
  refine Nat.le_of_not_lt fun hlt => ?_
  obtain ⟨h1, h2⟩ := h'.2.2.2 0 h'.1
  rw [h'.2.2.1] at h2
  have := h'.1
  exact h.2.1 (K' - 1) _ (by omega) h1 h2.1 h2.2.1
theorem Way.K {K K' : Nat} {x x' : Nat → Nat} (h : Way N E f t K x) (h' : Way N E f t K' x') : K = K' := Nat.le_antisymm (h.len h') (h'.len h)
theorem Way.nodes {K : Nat} {x x' : Nat → Nat} (h : Way N E f t K x) (h' : Way N E f t K x') : ∀ i, i ≤ K → x i = x' i := by
  intro i
  induction i with
  | zero => intro _; rw [h.2.2.1, h'.2.2.1]
  | succ i ih =>
    intro hi
    have e := ih (by omega)
    obtain ⟨a1, a2, a3, a4⟩ := h.2.2.2 i (by omega)
    obtain ⟨b1, b2, b3, b4⟩ := h'.2.2.2 i (by omega)
    rcases Nat.lt_trichotomy (x (i + 1)) (x' (i + 1)) with z | z | z
    · exact absurd ⟨by rw [← e]; exact a2, a3⟩ (b4 _ z)
    · exact z
    · exact absurd ⟨by rw [e]; exact b2, b3⟩ (a4 _ z)
theorem Way.leK {K : Nat} {x : Nat → Nat} (ht : t < N) (h : Way N E f t K x) : K ≤ N := by
  obtain ⟨h1, h2⟩ := h.2.2.2 0 h.1
  have := ds_k ht h2.2.1
  have := h.1
  omega
theorem Way.lt {K : Nat} {x : Nat → Nat} (hf : f < N) (h : Way N E f t K x) : ∀ i, i ≤ K → x i < N := by
  intro i hi
  cases i with
  | zero => rw [h.2.2.1]; exact hf
  | succ i => exact (h.2.2.2 i (by omega)).1
theorem Way.end {K : Nat} {x : Nat → Nat} (h : Way N E f t K x) : x K = t := by
  have h0 := h.1
  obtain ⟨_, _, h2, _⟩ := h.2.2.2 (K - 1) (by omega)
  rw [show K - 1 + 1 = K by omega, Nat.sub_self] at h2
  exact ds_0.mp h2
/-- whether there is one is whether some walk leads there -/
theorem noWay_iff : noWay N E f t ↔ ∀ k, ¬ ∃ b, b < N ∧ E f b ∧ wk N E t k b := by
  constructor
  · rintro h k ⟨b, h1, h2, h3⟩
    obtain ⟨j, _, hj⟩ := ds_of h3
    exact h j b h1 h2 hj
  · intro h k b h1 h2 h3
    exact h k ⟨b, h1, h2, h3.1⟩
end GW

/-! a table with linear probing -/
theorem mod_inj {N h i j : Nat} (hi : i < N) (hj : j < N) (e : (h + i) % N = (h + j) % N) : i = j := by
  have b1 := Nat.div_add_mod (h + i) N
  have b2 := Nat.div_add_mod (h + j) N
  rw [e] at b1
  generalize (h + i) / N = u at *
  generalize (h + j) / N = v at *
  generalize (h + j) % N = r at *
  rcases Nat.lt_trichotomy u v with q | q | q
  · have := Nat.mul_le_mul_left N (show u + 1 ≤ v by omega)
    rw [Nat.mul_add, Nat.mul_one] at this
    omega
  · subst q; omega
  · have := Nat.mul_le_mul_left N (show v + 1 ≤ u by omega)
    rw [Nat.mul_add, Nat.mul_one] at this
    omega
section TBL
variable {κ : Type}
/-- N slots, H where a key begins, K the keys of what is kept, n how many, T what a slot holds -/
def TB (N : Nat) (H : κ → Nat) (n : Nat) (K : Nat → κ) (T : Nat → Option Nat) : Prop := (∀ s i, s < N → T s = some i → i < n) ∧ (∀ i, i < n → ∃ d, d < N ∧ T ((H (K i) + d) % N) = some i ∧ ∀ d', d' < d → T ((H (K i) + d') % N) ≠ none) ∧ ∀ s s' i, s < N → s' < N → T s = some i → T s' = some i → s = s'
/-- so far it was not there -/
def PB (N : Nat) (H : κ → Nat) (K : Nat → κ) (T : Nat → Option Nat) (x : κ) (d : Nat) : Prop := ∀ d', d' < d → ∃ i, T ((H x + d') % N) = some i ∧ K i ≠ x
variable {N : Nat} {H : κ → Nat} {n : Nat} {K : Nat → κ} {T : Nat → Option Nat} {x : κ} {d i : Nat}
theorem TB.new (h0 : ∀ s, s < N → T s = none) : TB N H 0 K T := ⟨fun s i hs e => (by rw [h0 s hs] at e; cases e), fun i hi => absurd hi (Nat.not_lt_zero _), fun s s' i hs _ e _ => (by rw [h0 s hs] at e; cases e)⟩
/-- a free slot: it is not there -/
theorem TB.miss (t : TB N H n K T) (p : PB N H K T x d) (e : T ((H x + d) % N) = none) : ∀ i, i < n → K i ≠ x := by
  intro i hi hx
  obtain ⟨d0, h1, h2, h3⟩ := t.2.1 i hi
  rw [hx] at h2 h3
  rcases Nat.lt_trichotomy d d0 with q | q | q
  · exact h3 d q e
  · rw [← q, e] at h2; cases h2
  · obtain ⟨j, j1, j2⟩ := p d0 q
    rw [h2] at j1
    cases j1
    exact j2 hx
/-- there is a free slot -/
theorem TB.room (t : TB N H n K T) (hn : n < N) (p : PB N H K T x N) : False := by
  have hN : 0 < N := by omega
  have key : ∀ d, d < N → ∃ i, T ((H x + d) % N) = some i ∧ i < n := fun d hd => by
    obtain ⟨i, e, _⟩ := p d hd
    exact ⟨i, e, t.1 _ i (Nat.mod_lt _ hN) e⟩
  let f : Nat → Nat := fun d => if hd : d < N then Classical.choose (key d hd) else 0
  have fs : ∀ d, d < N → T ((H x + d) % N) = some (f d) ∧ f d < n := fun d hd => by
    have := Classical.choose_spec (key d hd)
    show T ((H x + d) % N) = some (if hd : d < N then Classical.choose (key d hd) else 0) ∧ (if hd : d < N then Classical.choose (key d hd) else 0) < n
    rw [dif_pos hd]
    exact this
  have := pigeon n (N - 1) f (fun j hj => (fs j (by omega)).2) (fun i j hi hj e => by
    have a1 := (fs i (by omega)).1
    have a2 := (fs j (by omega)).1
    rw [← e] at a2
    have a3 := t.2.2 _ _ _ (Nat.mod_lt _ hN) (Nat.mod_lt _ hN) a1 a2
    exact mod_inj (by omega) (by omega) a3)
  omega
theorem mod_next {N h d : Nat} (hN : 0 < N) : ((h + d) % N + 1) % N = (h + (d + 1)) % N := by
  rw [← Nat.add_assoc, Nat.add_mod (h + d) 1 N, Nat.add_mod ((h + d) % N) 1 N, Nat.mod_mod]
theorem PB.next (p : PB N H K T x d) (e : T ((H x + d) % N) = some i) (hk : K i ≠ x) : PB N H K T x (d + 1) := fun d' hd' => by
  rcases Nat.lt_or_ge d' d with q | q
  · exact p d' q
  · rw [show d' = d by omega]; exact ⟨i, e, hk⟩
/-- one more, where the probing ended -/
theorem TB.put (t : TB N H n K T) (hN : 0 < N) (hd : d < N) (p : PB N H K T x d) (e : T ((H x + d) % N) = none) : TB N H (n + 1) (sbf K n x) (sbf T ((H x + d) % N) (some n)) := by
  have keep : ∀ s, T s ≠ none → sbf T ((H x + d) % N) (some n) s = T s := fun s hs => sbf_ne fun q => hs (by rw [q, e])
  refine ⟨fun s i hs h => ?_, fun i hi => ?_, fun s s' i hs hs' h h' => ?_⟩
  · by_cases q : s = (H x + d) % N
    · rw [q, sbf_at] at h; cases h; omega
    · rw [sbf_ne q] at h; have := t.1 s i hs h; omega
  · by_cases q : i = n
    · subst q
      refine ⟨d, hd, by rw [sbf_at, sbf_at], fun d' hd' => ?_⟩
      rw [sbf_at]
      obtain ⟨j, j1, _⟩ := p d' hd'
      rw [keep _ (by rw [j1]; exact fun z => by cases z), j1]
      exact fun z => by cases z
    · obtain ⟨d0, h1, h2, h3⟩ := t.2.1 i (by omega)
      rw [sbf_ne q]
      refine ⟨d0, h1, ?_, fun d' hd' => ?_⟩
      · rw [keep _ (by rw [h2]; exact fun z => by cases z), h2]
      · rw [keep _ (h3 d' hd')]; exact h3 d' hd'
  · by_cases q : s = (H x + d) % N
    · by_cases q' : s' = (H x + d) % N
      · rw [q, q']
      · rw [q, sbf_at] at h; cases h
        rw [sbf_ne q'] at h'
        have := t.1 s' n hs' h'; omega
    · by_cases q' : s' = (H x + d) % N
      · rw [q', sbf_at] at h'; cases h'
        rw [sbf_ne q] at h
        have := t.1 s n hs h; omega
      · rw [sbf_ne q] at h; rw [sbf_ne q'] at h'; exact t.2.2 s s' i hs hs' h h'
end TBL

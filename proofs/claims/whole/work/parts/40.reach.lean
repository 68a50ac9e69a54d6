/-! what can be reached, and an edge more -/
def Rc (N : Nat) (E : Nat → Nat → Prop) (x y : Nat) : Prop := ∃ k b, b < N ∧ E x b ∧ wk N E y k b
section RCH
variable {N : Nat} {E E' : Nat → Nat → Prop} {f t x y z : Nat}
theorem Rc_iff : Rc N E x y ↔ ¬ noWay N E x y := by
  constructor
  · rintro ⟨k, b, h1, h2, h3⟩ hn
    exact noWay_iff.mp hn k ⟨b, h1, h2, h3⟩
  · intro h
    refine Classical.byContradiction fun hc => h (noWay_iff.mpr fun k ⟨b, h1, h2, h3⟩ => hc ⟨k, b, h1, h2, h3⟩)
theorem Rc_way (ht : t < N) (h : Rc N E f t) : ∃ K x, Way N E f t K x := by
  have h1 : ∃ k b, b < N ∧ E f b ∧ ds N E t k b := by
    obtain ⟨k, b, h1, h2, h3⟩ := h
    obtain ⟨j, _, h4⟩ := ds_of h3
    exact ⟨j, b, h1, h2, h4⟩
  obtain ⟨k, ⟨b, h2⟩, h3⟩ := pk_least (fun k => ∃ b, b < N ∧ E f b ∧ ds N E t k b) h1
  have nxt : ∀ i v, i ≤ k → (∃ b, b < N ∧ E v b ∧ ds N E t (k - i) b) → ∃ b, (b < N ∧ E v b ∧ ds N E t (k - i) b) ∧ ∀ b', b' < b → ¬ (b' < N ∧ E v b' ∧ ds N E t (k - i) b') := fun i v _ h => pk_least _ h
  have key : ∀ n, n ≤ k + 1 → ∃ x : Nat → Nat, x 0 = f ∧ ∀ i, i < n → x (i + 1) < N ∧ E (x i) (x (i + 1)) ∧ ds N E t (k + 1 - (i + 1)) (x (i + 1)) ∧ ∀ b, b < x (i + 1) → ¬ (E (x i) b ∧ ds N E t (k + 1 - (i + 1)) b) := by
    intro n
    induction n with
    | zero => intro _; exact ⟨fun _ => f, rfl, fun i hi => by omega⟩
    | succ n ih =>
      intro hn
      obtain ⟨x, x0, hx⟩ := ih (by omega)
      have ne : ∃ b, b < N ∧ E (x n) b ∧ ds N E t (k - n) b := by
        cases n with
        | zero => rw [x0]; exact ⟨b, h2⟩
        | succ n =>
          obtain ⟨_, _, h5, _⟩ := hx n (by omega)
          rw [show k + 1 - (n + 1) = (k - (n + 1)) + 1 by omega, ds_s ht] at h5
          obtain ⟨q, h6, h7, h8⟩ := h5.2.1
          exact ⟨q, h6, h7, h8⟩
      obtain ⟨q, h6, h7⟩ := nxt n (x n) (by omega) ne
      refine ⟨fun i => if i = n + 1 then q else x i, ?_, fun i hi => ?_⟩
      · simp only [show ¬ 0 = n + 1 by omega, if_false]; exact x0
      · simp only [show ¬ i = n + 1 by omega, if_false]
        by_cases z : i + 1 = n + 1
        · simp only [z, if_true]
          rw [show i = n by omega, show k + 1 - (n + 1) = k - n by omega]
          exact ⟨h6.1, h6.2.1, h6.2.2, fun b hb hz => h7 b hb ⟨ds_lt ht hz.2.1, hz⟩⟩
        · simp only [z, if_false]; exact hx i (by omega)
  obtain ⟨x, x0, hx⟩ := key (k + 1) (Nat.le_refl _)
  exact ⟨k + 1, x, by omega, fun j b hj hb hE hd => h3 j (by omega) ⟨b, hb, hE, hd⟩, x0, hx⟩
theorem wk_mono (h : ∀ a b, E a b → E' a b) : ∀ k v, wk N E y k v → wk N E' y k v := by
  intro k
  induction k with
  | zero => intro v hv; exact hv
  | succ k ih => rintro v ⟨h1, w, h2, h3, h4⟩; exact ⟨h1, w, h2, h _ _ h3, ih w h4⟩
theorem Rc_mono (h : ∀ a b, E a b → E' a b) : Rc N E x y → Rc N E' x y := fun ⟨k, b, h1, h2, h3⟩ => ⟨k, b, h1, h _ _ h2, wk_mono h k b h3⟩
theorem wk_app (hy : y < N) {j : Nat} (hz : wk N E z (j + 1) y) : ∀ k v, wk N E y k v → wk N E z (k + (j + 1)) v := by
  intro k
  induction k with
  | zero => intro v hv; rw [show v = y from hv, Nat.zero_add]; exact hz
  | succ k ih => rintro v ⟨h1, w, h2, h3, h4⟩; rw [show k + 1 + (j + 1) = (k + (j + 1)) + 1 by omega]; exact ⟨h1, w, h2, h3, ih w h4⟩
theorem Rc_tr (hy : y < N) (h1 : Rc N E x y) (h2 : Rc N E y z) : Rc N E x z := by
  obtain ⟨k, b, a1, a2, a3⟩ := h1
  obtain ⟨j, c, b1, b2, b3⟩ := h2
  exact ⟨k + (j + 1), b, a1, a2, wk_app hy ⟨hy, c, b1, b2, b3⟩ k b a3⟩
theorem Rc_1 (hy : y < N) (h : E x y) : Rc N E x y := ⟨0, y, hy, h, rfl⟩
theorem Rc_c (hx : z < N) (h : E x z) (h2 : Rc N E z y) : Rc N E x y := by
  obtain ⟨k, b, a1, a2, a3⟩ := h2
  exact ⟨k + 1, z, hx, h, hx, b, a1, a2, a3⟩
/-- one edge more -/
theorem Rc_more (hE : ∀ a b, a < N → b < N → (E' a b ↔ E a b ∨ (a = f ∧ b = t))) (hf : f < N) (ht : t < N) (hx : x < N) (hy : y < N) : Rc N E' x y ↔ Rc N E x y ∨ ((x = f ∨ Rc N E x f) ∧ (y = t ∨ Rc N E t y)) := by
  constructor
  · rintro ⟨k, b, h1, h2, h3⟩
    have key : ∀ k v, v < N → wk N E' y k v → v = y ∨ Rc N E v y ∨ ((v = f ∨ Rc N E v f) ∧ (y = t ∨ Rc N E t y)) := by
      intro k
      induction k with
      | zero => intro v _ hv; exact Or.inl hv
      | succ k ih =>
        rintro v hv ⟨_, w, hw, hE', hk⟩
        right
        rcases (hE v w hv hw).mp hE' with q | ⟨rfl, rfl⟩
        · rcases ih w hw hk with rfl | z | ⟨z1, z2⟩
          · exact Or.inl (Rc_1 hw q)
          · exact Or.inl (Rc_c hw q z)
          · refine Or.inr ⟨Or.inr ?_, z2⟩
            rcases z1 with rfl | z1
            · exact Rc_1 hw q
            · exact Rc_c hw q z1
        · rcases ih w hw hk with z | z | ⟨z1, z2⟩
          · exact Or.inr ⟨Or.inl rfl, Or.inl z.symm⟩
          · exact Or.inr ⟨Or.inl rfl, Or.inr z⟩
          · exact Or.inr ⟨Or.inl rfl, z2⟩
    rcases (hE x b hx h1).mp h2 with q | ⟨rfl, rfl⟩
    · rcases key k b h1 h3 with rfl | z | ⟨z1, z2⟩
      · exact Or.inl (Rc_1 h1 q)
      · exact Or.inl (Rc_c h1 q z)
      · refine Or.inr ⟨Or.inr ?_, z2⟩
        rcases z1 with rfl | z1
        · exact Rc_1 h1 q
        · exact Rc_c h1 q z1
    · rcases key k b h1 h3 with z | z | ⟨z1, z2⟩
      · exact Or.inr ⟨Or.inl rfl, Or.inl z.symm⟩
      · exact Or.inr ⟨Or.inl rfl, Or.inr z⟩
      · exact Or.inr ⟨Or.inl rfl, z2⟩
  · have mono : ∀ a b, a < N → b < N → Rc N E a b → Rc N E' a b := by
      have wm : ∀ q k v, v < N → wk N E q k v → wk N E' q k v := by
        intro q k
        induction k with
        | zero => intro v _ hv; exact hv
        | succ k ih => rintro v hv ⟨h1, w, h2, h3, h4⟩; exact ⟨h1, w, h2, (hE v w hv h2).mpr (Or.inl h3), ih w h2 h4⟩
      rintro a b ha hb ⟨k, c, h1, h2, h3⟩
      exact ⟨k, c, h1, (hE a c ha h1).mpr (Or.inl h2), wm b k c h1 h3⟩
    have ft : Rc N E' f t := Rc_1 ht ((hE f t hf ht).mpr (Or.inr ⟨rfl, rfl⟩))
    rintro (q | ⟨q1, q2⟩)
    · exact mono x y hx hy q
    · have h1 : Rc N E' x t := by
        rcases q1 with rfl | q1
        · exact ft
        · exact Rc_tr hf (mono x f hx hf q1) ft
      rcases q2 with rfl | q2
      · exact h1
      · exact Rc_tr ht h1 (mono t y ht hy q2)
theorem Way.ds {K : Nat} {x : Nat → Nat} (hf : f < N) (h : Way N E f t K x) (hne : f ≠ t) : ds N E t K f := by
  obtain ⟨h0, h1, h2, h3⟩ := h
  obtain ⟨q1, q2, q3, _⟩ := h3 0 h0
  rw [h2] at q2
  constructor
  · rw [show K = (K - (0 + 1)) + 1 by omega]
    exact ⟨hf, _, q1, q2, q3.1⟩
  · intro j hj hw
    cases j with
    | zero => exact hne hw
    | succ j =>
      obtain ⟨_, w, a1, a2, a3⟩ := hw
      obtain ⟨i, b1, b2⟩ := ds_of a3
      exact h1 i w (by omega) a1 a2 b2
theorem Way.ltN {K : Nat} {x : Nat → Nat} (hf : f < N) (ht : t < N) (h : Way N E f t K x) (hne : f ≠ t) : K < N := ds_k ht (h.ds hf hne)
/-- a way depends on the edges alone -/
theorem wk_congr (h : ∀ a b, a < N → b < N → (E a b ↔ E' a b)) : ∀ k v, wk N E y k v ↔ wk N E' y k v := by
  intro k
  induction k with
  | zero => intro v; exact Iff.rfl
  | succ k ih =>
    intro v
    constructor
    · rintro ⟨h1, w, h2, h3, h4⟩; exact ⟨h1, w, h2, (h v w h1 h2).mp h3, (ih w).mp h4⟩
    · rintro ⟨h1, w, h2, h3, h4⟩; exact ⟨h1, w, h2, (h v w h1 h2).mpr h3, (ih w).mpr h4⟩
theorem ds_congr (h : ∀ a b, a < N → b < N → (E a b ↔ E' a b)) (k v : Nat) : ds N E y k v ↔ ds N E' y k v := by
  unfold ds
  rw [wk_congr h]
  constructor
  · rintro ⟨h1, h2⟩; exact ⟨h1, fun j hj hw => h2 j hj ((wk_congr h j v).mpr hw)⟩
  · rintro ⟨h1, h2⟩; exact ⟨h1, fun j hj hw => h2 j hj ((wk_congr h j v).mp hw)⟩
theorem Way_congr (h : ∀ a b, a < N → b < N → (E a b ↔ E' a b)) (hf : f < N) {K : Nat} {x : Nat → Nat} (w : Way N E f t K x) : Way N E' f t K x := by
  have xl := w.lt hf
  obtain ⟨h0, h1, h2, h3⟩ := w
  refine ⟨h0, fun j b hj hb hE hd => h1 j b hj hb ((h f b hf hb).mpr hE) ((ds_congr h _ _).mpr hd), h2, fun i hi => ?_⟩
  obtain ⟨q1, q2, q3, q4⟩ := h3 i hi
  refine ⟨q1, (h _ _ (xl i (by omega)) q1).mp q2, (ds_congr h _ _).mp q3, fun b hb hz => q4 b hb ⟨(h _ _ (xl i (by omega)) (by omega)).mpr hz.1, (ds_congr h _ _).mpr hz.2⟩⟩
theorem noWay_congr (h : ∀ a b, a < N → b < N → (E a b ↔ E' a b)) (hf : f < N) : noWay N E f t ↔ noWay N E' f t := by
  constructor
  · intro q k b hb hE hd; exact q k b hb ((h f b hf hb).mpr hE) ((ds_congr h _ _).mpr hd)
  · intro q k b hb hE hd; exact q k b hb ((h f b hf hb).mp hE) ((ds_congr h _ _).mp hd)
end RCH

/-! rings, and an order where there is none -/
section CYC
variable {E E' : Nat → Nat → Prop}
def cyc (E : Nat → Nat → Prop) : Prop := ∃ x, x < 16 ∧ Rc 16 E x x
def onC (E : Nat → Nat → Prop) (x : Nat) : Prop := x < 16 ∧ Rc 16 E x x
theorem wk_le (hE : ∀ a b, a < 16 → b < 16 → E a b → E' a b) {t : Nat} : ∀ k v, wk 16 E t k v → wk 16 E' t k v
  | 0, _, h => h
  | k + 1, v, ⟨h1, w, h2, h3, h4⟩ => ⟨h1, w, h2, hE v w h1 h2 h3, wk_le hE k w h4⟩
theorem cyc_le (hE : ∀ a b, a < 16 → b < 16 → E a b → E' a b) : cyc E → cyc E' := fun ⟨x, hx, k, b, h1, h2, h3⟩ => ⟨x, hx, k, b, h1, hE x b hx h1 h2, wk_le hE k b h3⟩
theorem cyc_iff (hE : ∀ a b, a < 16 → b < 16 → (E a b ↔ E' a b)) : cyc E ↔ cyc E' := ⟨cyc_le (fun a b h1 h2 => (hE a b h1 h2).mp), cyc_le (fun a b h1 h2 => (hE a b h1 h2).mpr)⟩
/-- a row of nodes of S, each from the one ahead -/
theorem seq_of {S : Nat → Prop} {R : Nat → Nat → Prop} (hS : ∀ x, S x → ∃ a, S a ∧ R x a) {x0 : Nat} (h0 : S x0) : ∃ x : Nat → Nat, ∀ i, S (x i) ∧ R (x i) (x (i + 1)) := by
  have hf : ∃ f : Nat → Nat, ∀ y, S y → S (f y) ∧ R y (f y) := by
    refine ⟨fun y => @dite _ (S y) (Classical.propDecidable _) (fun h => Classical.choose (hS y h)) (fun _ => 0), fun y hy => ?_⟩
    simp only [dif_pos hy]
    exact Classical.choose_spec (hS y hy)
  obtain ⟨f, hf⟩ := hf
  have hx : ∀ i, S (Nat.rec x0 (fun _ y => f y) i : Nat) := by
    intro i
    induction i with
    | zero => exact h0
    | succ i ih => exact (hf _ ih).1
  exact ⟨fun i => Nat.rec x0 (fun _ y => f y) i, fun i => ⟨hx i, (hf _ (hx i)).2⟩⟩
theorem seq_two {x : Nat → Nat} (hx : ∀ i, x i < 16) : ∃ i d, x i = x (i + d + 1) := by
  refine Classical.byContradiction fun hc => ?_
  have := pigeon 16 16 x (fun j _ => hx j) (fun i j _ _ e => by
    rcases Nat.lt_trichotomy i j with z | z | z
    · exact absurd ⟨i, j - i - 1, by rw [e]; congr 1; omega⟩ hc
    · exact z
    · exact absurd ⟨j, i - j - 1, by rw [← e]; congr 1; omega⟩ hc)
  omega
theorem cyc_succ {S : Nat → Prop} (h16 : ∀ x, S x → x < 16) (hS : ∀ x, S x → ∃ a, S a ∧ E x a) {x0 : Nat} (h0 : S x0) : cyc E := by
  obtain ⟨x, hx⟩ := seq_of hS h0
  have path : ∀ d i, Rc 16 E (x i) (x (i + d + 1)) := by
    intro d
    induction d with
    | zero => intro i; exact Rc_1 (h16 _ (hx _).1) (hx i).2
    | succ d ih => intro i; rw [show i + (d + 1) + 1 = (i + 1) + d + 1 by omega]; exact Rc_c (h16 _ (hx _).1) (hx i).2 (ih (i + 1))
  obtain ⟨i, d, e⟩ := seq_two (fun i => h16 _ (hx i).1)
  have := path d i
  rw [← e] at this
  exact ⟨x i, h16 _ (hx i).1, this⟩
theorem cyc_pred {S : Nat → Prop} (h16 : ∀ x, S x → x < 16) (hS : ∀ x, S x → ∃ a, S a ∧ E a x) {x0 : Nat} (h0 : S x0) : cyc E := by
  obtain ⟨x, hx⟩ := seq_of (R := fun x a => E a x) hS h0
  have path : ∀ d i, Rc 16 E (x (i + d + 1)) (x i) := by
    intro d
    induction d with
    | zero => intro i; exact Rc_1 (h16 _ (hx _).1) (hx i).2
    | succ d ih => intro i; exact Rc_c (h16 _ (hx _).1) (hx (i + d + 1)).2 (ih i)
  obtain ⟨i, d, e⟩ := seq_two (fun i => h16 _ (hx i).1)
  have := path d i
  rw [← e] at this
  exact ⟨x i, h16 _ (hx i).1, this⟩
theorem Rc_last {y : Nat} : ∀ k x b, x < 16 → b < 16 → E x b → wk 16 E y k b → ∃ a, a < 16 ∧ E a y ∧ (a = x ∨ Rc 16 E x a)
  | 0, x, b, hx, hb, hE, hw => ⟨x, hx, by rw [← show b = y from hw]; exact hE, Or.inl rfl⟩
  | k + 1, x, b, hx, hb, hE, ⟨_, w, h2, h3, h4⟩ => by
    obtain ⟨a, a1, a2, a3⟩ := Rc_last k b w hb h2 h3 h4
    refine ⟨a, a1, a2, Or.inr ?_⟩
    rcases a3 with rfl | z
    · exact Rc_1 hb hE
    · exact Rc_c hb hE z
theorem onC_pred {y : Nat} (h : onC E y) : ∃ a, onC E a ∧ E a y := by
  obtain ⟨hy, k, b, h1, h2, h3⟩ := h
  obtain ⟨a, a1, a2, a3⟩ := Rc_last k y b hy h1 h2 h3
  refine ⟨a, ⟨a1, ?_⟩, a2⟩
  rcases a3 with rfl | z
  · exact ⟨k, b, h1, h2, h3⟩
  · exact Rc_c hy a2 z
theorem onC_succ {y : Nat} (h : onC E y) : ∃ a, onC E a ∧ E y a := by
  obtain ⟨hy, k, b, h1, h2, h3⟩ := h
  cases k with
  | zero =>
    have e : b = y := h3
    exact ⟨b, ⟨h1, by rw [e] at h2 ⊢; exact Rc_1 hy h2⟩, h2⟩
  | succ k =>
    obtain ⟨_, w, w1, w2, w3⟩ := h3
    exact ⟨b, ⟨h1, Rc_tr hy ⟨k, w, w1, w2, w3⟩ (Rc_1 h1 h2)⟩, h2⟩
/-- nodes with edges -/
def nd0 (E : Nat → Nat → Prop) (x : Nat) : Prop := x < 16 ∧ ∃ y, y < 16 ∧ (E x y ∨ E y x)
/-- of these, what is left behind the first n of a list -/
def ps (E : Nat → Nat → Prop) (l : Nat → Nat) (n x : Nat) : Prop := nd0 E x ∧ ∀ j, j < n → l j ≠ x
/-- the least that none of S leads to -/
def isF (E : Nat → Nat → Prop) (S : Nat → Prop) (k : Nat) : Prop := S k ∧ (∀ a, a < 16 → S a → ¬ E a k) ∧ ∀ k', k' < k → S k' → ∃ a, a < 16 ∧ S a ∧ E a k'
def lst (E : Nat → Nat → Prop) (l : Nat → Nat) (n : Nat) : Prop := ∀ i, i < n → isF E (ps E l i) (l i)
theorem isF_un {S : Nat → Prop} {k k' : Nat} (h : isF E S k) (h' : isF E S k') : k = k' := by
  rcases Nat.lt_trichotomy k k' with z | z | z
  · obtain ⟨a, a1, a2, a3⟩ := h'.2.2 k z h.1
    exact absurd a3 (h.2.1 a a1 a2)
  · exact z
  · obtain ⟨a, a1, a2, a3⟩ := h.2.2 k' z h'.1
    exact absurd a3 (h'.2.1 a a1 a2)
theorem isF_iff {S S' : Nat → Prop} (hS : ∀ x, S x ↔ S' x) {k : Nat} : isF E S k ↔ isF E S' k := by
  have e : S = S' := funext fun x => propext (hS x)
  rw [e]
theorem ps_congr {l l' : Nat → Nat} {n : Nat} (h : ∀ j, j < n → l j = l' j) (x : Nat) : ps E l n x ↔ ps E l' n x := by
  unfold ps
  exact ⟨fun z => ⟨z.1, fun j hj => by rw [← h j hj]; exact z.2 j hj⟩, fun z => ⟨z.1, fun j hj => by rw [h j hj]; exact z.2 j hj⟩⟩
theorem ps_sbf {l : Nat → Nat} {n k x : Nat} : ps E (sbf l n k) (n + 1) x ↔ ps E l n x ∧ x ≠ k := by
  unfold ps
  constructor
  · rintro ⟨z1, z2⟩
    refine ⟨⟨z1, fun j hj => ?_⟩, fun e => ?_⟩
    · have := z2 j (by omega)
      rw [sbf_ne (by omega)] at this
      exact this
    · have := z2 n (by omega)
      rw [sbf_at] at this
      exact this e.symm
  · rintro ⟨⟨z1, z2⟩, z3⟩
    refine ⟨z1, fun j hj => ?_⟩
    by_cases e : j = n
    · rw [e, sbf_at]; exact fun q => z3 q.symm
    · rw [sbf_ne e]; exact z2 j (by omega)
theorem lst_sbf {l : Nat → Nat} {n k : Nat} (h : lst E l n) (hk : isF E (ps E l n) k) : lst E (sbf l n k) (n + 1) := by
  intro i hi
  have e : ∀ x, ps E (sbf l n k) i x ↔ ps E l i x := ps_congr (fun j hj => sbf_ne (by omega))
  by_cases z : i = n
  · subst z
    rw [sbf_at, isF_iff e]; exact hk
  · rw [sbf_ne z, isF_iff e]; exact h i (by omega)
theorem lst_lt {l : Nat → Nat} {n : Nat} (h : lst E l n) {x : Nat} (hx : ps E l n x) : n < 16 := by
  have hl : ∀ j, j < n → ps E l j (l j) := fun j hj => (h j hj).1
  refine pigeon 16 n (sbf l n x) (fun j hj => ?_) (fun i j hi hj e => ?_)
  · by_cases z : j = n
    · rw [z, sbf_at]; exact hx.1.1
    · rw [sbf_ne z]; exact (hl j (by omega)).1.1
  · have ne : ∀ i j, i < j → j ≤ n → sbf l n x i ≠ sbf l n x j := fun i j hij hj => by
      rw [sbf_ne (by omega)]
      by_cases z : j = n
      · rw [z, sbf_at]; exact hx.2 i (by omega)
      · rw [sbf_ne z]; exact (hl j (by omega)).2 i hij
    rcases Nat.lt_trichotomy i j with z | z | z
    · exact absurd e (ne i j z hj)
    · exact z
    · exact absurd e.symm (ne j i z hi)
end CYC
/-! the reference's order -/
section RLO
variable {m : Mem} {E : Nat → Nat → Prop}
theorem r_isLedTo {k : Nat} {u : Int32} (hk : k < 16) (hE : ∀ a b, a < 16 → b < 16 → (rE (m 1) a b ↔ E a b)) : wp (gX12_isLedTo m (nI k) u) (fun r => (r = 1 ∧ ∃ a, a < 16 ∧ bt u a = true ∧ E a k) ∨ (r = 0 ∧ ¬ ∃ a, a < 16 ∧ bt u a = true ∧ E a k)) := by
  unfold gX12_isLedTo
  rw [wp_bind]
  refine wp_mono (Q := fun e => (e = .inr () ∧ ∃ a, a < 16 ∧ bt u a = true ∧ E a k) ∨ (e = .inl () ∧ ¬ ∃ a, a < 16 ∧ bt u a = true ∧ E a k)) ?_ ?_
  · refine wp_for (κ := Unit) (fun i _ => nI i) 16 (fun i _ => ∀ a, a < i → ¬ (bt u a = true ∧ E a k)) (fun i c hi hI => ?_) (fun c hI => ?_) 0 () (by decide) (fun a ha => absurd ha (Nat.not_lt_zero _)) (by decide)
    · have go : ¬ (bt u i = true ∧ E i k) → wp (gjX12_isLedTo_27 (nI k) u (nI i) m) (lq (fun s' => ∃ c' : Unit, s' = nI (i + 1) ∧ ∀ a, a < i + 1 → ¬ (bt u a = true ∧ E a k)) (fun e => (e = .inr () ∧ ∃ a, a < 16 ∧ bt u a = true ∧ E a k) ∨ (e = .inl () ∧ ¬ ∃ a, a < 16 ∧ bt u a = true ∧ E a k))) := fun hn => by
        unfold gjX12_isLedTo_27
        rw [wp_bind, wp_some, wp_some, lq_l]
        refine ⟨(), nI_1 i, fun a ha => ?_⟩
        by_cases z : a = i
        · rw [z]; exact hn
        · exact hI a (by omega)
      unfold gbX12_isLedTo_2
      rw [L_16, wp_f (fun z => by have := (nI_leI (by decide) (by omega)).mp z; omega), wp_bind, w_hasR (by omega)]
      by_cases h1 : bt u i = true
      · rw [b01_t h1, wp_f (by decide), wp_bind, w_isEdge hi hk]
        by_cases h2 : E i k
        · rw [b01_t ((hE i k hi hk).mpr h2), wp_f (by decide), wp_some, lq_r]
          exact Or.inl ⟨rfl, i, hi, h1, h2⟩
        · rw [b01_n (fun z => h2 ((hE i k hi hk).mp z)), wp_t rfl]
          exact go (fun z => h2 z.2)
      · rw [b01_n h1, wp_t rfl]
        exact go (fun z => h1 z.1)
    · unfold gbX12_isLedTo_2
      rw [L_16, wp_t (nI_le (Nat.le_refl _) (by decide)), wp_some, lq_r]
      exact Or.inr ⟨rfl, fun ⟨a, a1, a2, a3⟩ => hI a a1 ⟨a2, a3⟩⟩
  · rintro e (⟨rfl, h⟩ | ⟨rfl, h⟩)
    · rw [wp_some]; exact Or.inl ⟨rfl, h⟩
    · rw [wp_some]; exact Or.inr ⟨rfl, h⟩
theorem r_lo65 {u u2 : Int32} {S : Nat → Prop} (hS : ∀ x, x < 32 → (bt u x = true ↔ S x)) (hE : ∀ a b, a < 16 → b < 16 → (rE (m 1) a b ↔ E a b)) : wp (lp (gbX12_layOrder_65 u u2 m) FU 0) (fun r => (r = 16 ∧ ∀ k, k < 16 → S k → ∃ a, a < 16 ∧ S a ∧ E a k) ∨ ∃ k, k < 16 ∧ r = nI k ∧ isF E S k) := by
  refine wp_for (κ := Unit) (fun i _ => nI i) 16 (fun i _ => ∀ k, k < i → S k → ∃ a, a < 16 ∧ S a ∧ E a k) (fun i c hi hI => ?_) (fun c hI => ?_) 0 () (by decide) (fun a ha => absurd ha (Nat.not_lt_zero _)) (by decide)
  · have go : (S i → ∃ a, a < 16 ∧ S a ∧ E a i) → wp (gjX12_layOrder_88 u u2 (nI i) m) (lq (fun s' => ∃ c' : Unit, s' = nI (i + 1) ∧ ∀ k, k < i + 1 → S k → ∃ a, a < 16 ∧ S a ∧ E a k) (fun r => (r = 16 ∧ ∀ k, k < 16 → S k → ∃ a, a < 16 ∧ S a ∧ E a k) ∨ ∃ k, k < 16 ∧ r = nI k ∧ isF E S k)) := fun hn => by
      unfold gjX12_layOrder_88
      rw [wp_bind, wp_some, wp_some, lq_l]
      refine ⟨(), nI_1 i, fun a ha => ?_⟩
      by_cases z : a = i
      · rw [z]; exact hn
      · exact hI a (by omega)
    unfold gbX12_layOrder_65
    rw [L_16, wp_f (fun z => by have := (nI_leI (by decide) (by omega)).mp z; omega), wp_bind, w_hasR (by omega)]
    by_cases h1 : bt u i = true
    · rw [b01_t h1, wp_f (by decide), wp_bind]
      refine wp_mono (r_isLedTo hi hE) ?_
      rintro r (⟨rfl, a, a1, a2, a3⟩ | ⟨rfl, hn⟩)
      · rw [wp_f (by decide)]
        exact go (fun _ => ⟨a, a1, (hS a (by omega)).mp a2, a3⟩)
      · rw [wp_t rfl, wp_some, lq_r]
        exact Or.inr ⟨i, hi, rfl, (hS i (by omega)).mp h1, fun a a1 a2 a3 => hn ⟨a, a1, (hS a (by omega)).mpr a2, a3⟩, hI⟩
    · rw [b01_n h1, wp_t rfl]
      exact go (fun z => absurd ((hS i (by omega)).mpr z) h1)
  · unfold gbX12_layOrder_65
    rw [L_16, wp_t (nI_le (Nat.le_refl _) (by decide)), wp_some, lq_r]
    exact Or.inl ⟨rfl, hI⟩
theorem r_lo15 {a : Nat} {u2 c0 : Int32} (ha : a < 16) (hE : ∀ a b, a < 16 → b < 16 → (rE (m 1) a b ↔ E a b)) : wp (lp (gbX12_layOrder_15 u2 (nI a) m) FU (c0, 0)) (fun r => ∀ x, x < 32 → (bt r x = true ↔ bt c0 x = true ∨ ∃ b, b < 16 ∧ E a b ∧ (x = a ∨ x = b))) := by
  refine wp_for (κ := Int32) (fun i c => (c, nI i)) 16 (fun i c => ∀ x, x < 32 → (bt c x = true ↔ bt c0 x = true ∨ ∃ b, b < i ∧ E a b ∧ (x = a ∨ x = b))) (fun i c hi hI => ?_) (fun c hI => ?_) 0 c0 (by decide) (fun x hx => ⟨Or.inl, fun z => z.elim id (fun ⟨b, hb, _⟩ => absurd hb (Nat.not_lt_zero _))⟩) (by decide)
  · simp only [gbX12_layOrder_15, gjX12_layOrder_45]
    rw [L_16, wp_f (fun z => by have := (nI_leI (by decide) (by omega)).mp z; omega), wp_bind, w_isEdge ha hi]
    by_cases h2 : E a i
    · rw [b01_t ((hE a i ha hi).mpr h2), wp_f (by decide), wp_bind, wp_some, wp_bind, wp_some, wp_some, lq_l]
      refine ⟨_, by rw [nI_1], fun x hx => ?_⟩
      rw [b_or, b_or, Bool.or_eq_true, Bool.or_eq_true, b_shl1 (by omega) hx, b_shl1 (by omega) hx, decide_eq_true_iff, decide_eq_true_iff, hI x hx]
      constructor
      · rintro ((z | ⟨b, b1, b2⟩) | z)
        · exact Or.inl z
        · exact Or.inr ⟨b, by omega, b2⟩
        · exact Or.inr ⟨i, by omega, h2, z⟩
      · rintro (z | ⟨b, b1, b2, b3⟩)
        · exact Or.inl (Or.inl z)
        · by_cases e : b = i
          · subst e; exact Or.inr b3
          · exact Or.inl (Or.inr ⟨b, by omega, b2, b3⟩)
    · rw [b01_n (fun z => h2 ((hE a i ha hi).mp z)), wp_t rfl, wp_bind, wp_some, wp_bind, wp_some, wp_some, lq_l]
      refine ⟨_, by rw [nI_1], fun x hx => ?_⟩
      rw [b_or, b_0, Bool.or_false, hI x hx]
      constructor
      · rintro (z | ⟨b, b1, b2⟩)
        · exact Or.inl z
        · exact Or.inr ⟨b, by omega, b2⟩
      · rintro (z | ⟨b, b1, b2, b3⟩)
        · exact Or.inl z
        · by_cases e : b = i
          · subst e; exact absurd b2 h2
          · exact Or.inr ⟨b, by omega, b2, b3⟩
  · simp only [gbX12_layOrder_15]
    rw [L_16, wp_t (nI_le (Nat.le_refl _) (by decide)), wp_some, lq_r]
    exact hI
theorem r_lo6 {u2 : Int32} (hE : ∀ a b, a < 16 → b < 16 → (rE (m 1) a b ↔ E a b)) : wp (lp (gbX12_layOrder_6 u2 m) FU (0, 0)) (fun r => ∀ x, x < 32 → (bt r x = true ↔ nd0 E x)) := by
  refine wp_for (κ := Int32) (fun i c => (c, nI i)) 16 (fun i c => ∀ x, x < 32 → (bt c x = true ↔ ∃ a, a < i ∧ ∃ b, b < 16 ∧ E a b ∧ (x = a ∨ x = b))) (fun i c hi hI => ?_) (fun c hI => ?_) 0 0 (by decide) (fun x hx => by rw [b_0]; exact ⟨fun z => (by cases z), fun ⟨a, ha, _⟩ => absurd ha (Nat.not_lt_zero _)⟩) (by decide)
  · simp only [gbX12_layOrder_6]
    rw [L_16, wp_f (fun z => by have := (nI_leI (by decide) (by omega)).mp z; omega), wp_bind]
    refine wp_mono (r_lo15 hi hE) (fun r hr => ?_)
    rw [wp_bind, wp_some, wp_some, lq_l]
    refine ⟨_, by rw [nI_1], fun x hx => ?_⟩
    rw [hr x hx, hI x hx]
    constructor
    · rintro (⟨a, a1, a2⟩ | z)
      · exact ⟨a, by omega, a2⟩
      · exact ⟨i, by omega, z⟩
    · rintro ⟨a, a1, a2⟩
      by_cases e : a = i
      · subst e; exact Or.inr a2
      · exact Or.inl ⟨a, by omega, a2⟩
  · simp only [gbX12_layOrder_6]
    rw [L_16, wp_t (nI_le (Nat.le_refl _) (by decide)), wp_some, lq_r]
    intro x hx
    rw [hI x hx]
    unfold nd0
    constructor
    · rintro ⟨a, a1, b, b1, b2, b3⟩
      rcases b3 with rfl | rfl
      · exact ⟨a1, b, b1, Or.inl b2⟩
      · exact ⟨b1, a, a1, Or.inr b2⟩
    · rintro ⟨x1, y, y1, y2 | y2⟩
      · exact ⟨x, x1, y, y1, y2, Or.inl rfl⟩
      · exact ⟨y, y1, x, x1, y2, Or.inr rfl⟩
theorem r_layOrder (hE : ∀ a b, a < 16 → b < 16 → (rE (m 1) a b ↔ E a b)) : wp (gX12_layOrder m) (fun r => (∀ o, o ≠ 21 → r.2 o = m o) ∧ ((r.1 = mI ∧ cyc E) ∨ ∃ n l, n ≤ 16 ∧ r.1 = nI n ∧ ¬ cyc E ∧ lst E l n ∧ (∀ x, ¬ ps E l n x) ∧ ∀ i, i < n → r.2 21 i = nI (l i))) := by
  unfold gX12_layOrder
  rw [wp_bind]
  refine wp_mono (r_lo6 hE) (fun c0 h0 => ?_)
  rw [wp_bind]
  refine wp_mono (Q := fun e => (∃ m', e = .inr m' ∧ (∀ o, o ≠ 21 → m' o = m o) ∧ cyc E) ∨ ∃ n l m', e = .inl (nI n, m') ∧ (∀ o, o ≠ 21 → m' o = m o) ∧ n ≤ 16 ∧ ¬ cyc E ∧ lst E l n ∧ (∀ x, ¬ ps E l n x) ∧ ∀ i, i < n → m' 21 i = nI (l i)) ?_ ?_
  · refine wp_for (κ := Int32 × Mem × (Nat → Nat)) (fun i c => (c.1, nI i, c.2.1)) 16 (fun i c => (∀ o, o ≠ 21 → c.2.1 o = m o) ∧ (∀ x, x < 32 → (bt c.1 x = true ↔ ps E c.2.2 i x)) ∧ lst E c.2.2 i ∧ (∀ j, j < i → c.2.1 21 j = nI (c.2.2 j) ∧ ¬ onC E (c.2.2 j))) (fun i c hi hI => ?_) (fun c hI => ?_) 0 (c0, m, fun _ => 0) (by decide) ⟨fun _ _ => rfl, fun x hx => by rw [h0 x hx]; exact ⟨fun z => ⟨z, fun j hj => absurd hj (Nat.not_lt_zero _)⟩, fun z => z.1⟩, fun j hj => absurd hj (Nat.not_lt_zero _), fun j hj => absurd hj (Nat.not_lt_zero _)⟩ (by decide)
    all_goals
      obtain ⟨u, mm, l⟩ := c
      obtain ⟨fr, hu, hl, hm⟩ := hI
      simp only at fr hu hl hm
      have no : u = 0 → ¬ cyc E ∧ ∀ x, ¬ ps E l _ x := fun e => by
        have np : ∀ x, ¬ ps E l _ x := fun x hx => by
          have := (hu x (by have := hx.1.1; omega)).mpr hx
          rw [e, b_0] at this
          cases this
        refine ⟨fun ⟨x, hx, hr⟩ => ?_, np⟩
        obtain ⟨a, a1, a2⟩ := onC_succ (E := E) ⟨hx, hr⟩
        exact np x ⟨⟨hx, a, a1.1, Or.inl a2⟩, fun j hj e => (hm j hj).2 (by rw [e]; exact ⟨hx, hr⟩)⟩
      simp only [gbX12_layOrder_59]
    · by_cases e : u = 0
      · rw [wp_t e, wp_some, lq_r]
        exact Or.inr ⟨i, l, mm, rfl, fr, by omega, (no e).1, hl, (no e).2, fun j hj => (hm j hj).1⟩
      · have hE' : ∀ a b, a < 16 → b < 16 → (rE (mm 1) a b ↔ E a b) := by rw [fr 1 (by decide)]; exact hE
        rw [wp_f e, wp_bind]
        refine wp_mono (r_lo65 hu hE') ?_
        rintro r (⟨rfl, hall⟩ | ⟨k, hk, rfl, hF⟩)
        · rw [wp_t rfl, wp_some, lq_r]
          obtain ⟨x, x1, x2, _⟩ := b_least e
          have hx := (hu x x1).mp x2
          exact Or.inl ⟨mm, rfl, fr, cyc_pred (S := ps E l i) (fun x hx => hx.1.1) (fun x hx => by obtain ⟨a, a1, a2, a3⟩ := hall x hx.1.1 hx; exact ⟨a, a2, a3⟩) hx⟩
        · rw [L_16, wp_f (fun z => by have := (nI_eq (by omega) (by decide)).mp z; omega), wp_bind, w_wr (by omega) (by decide), wp_bind, wp_some, wp_bind, wp_some, wp_some, lq_l]
          refine ⟨(u &&& (((1 : Int32) <<< (nI k &&& 31)) ^^^ (-1)), up mm 21 i (nI k), sbf l i k), by rw [nI_1], fun o ho => by show up mm 21 i (nI k) o = _; rw [up_r ho]; exact fr o ho, fun x hx => ?_, lst_sbf hl hF, fun j hj => ?_⟩
          · show bt (u &&& (((1 : Int32) <<< (nI k &&& 31)) ^^^ (-1))) x = true ↔ ps E (sbf l i k) (i + 1) x
            rw [b_andn _ _ hx, b_shl1 (by omega) hx, ps_sbf, ← hu x hx]
            simp
          · show up mm 21 i (nI k) 21 j = nI (sbf l i k j) ∧ ¬ onC E (sbf l i k j)
            rw [up_a]
            by_cases z : j = i
            · rw [if_pos z, z, sbf_at]
              refine ⟨rfl, fun hc => ?_⟩
              obtain ⟨a, a1, a2⟩ := onC_pred hc
              exact hF.2.1 a a1.1 ⟨⟨a1.1, k, hk, Or.inl a2⟩, fun q hq e => (hm q hq).2 (by rw [e]; exact a1)⟩ a2
            · rw [if_neg z, sbf_ne z]; exact hm j (by omega)
    · have e : u = 0 := Classical.byContradiction fun e => by
        obtain ⟨x, x1, x2, _⟩ := b_least e
        have := lst_lt hl ((hu x x1).mp x2)
        omega
      rw [wp_t e, wp_some, lq_r]
      exact Or.inr ⟨16, l, mm, rfl, fr, Nat.le_refl _, (no e).1, hl, (no e).2, fun j hj => (hm j hj).1⟩
  · rintro e (⟨m', rfl, fr, hc⟩ | ⟨n, l, m', rfl, fr, h16, hc, hl, hp, hm⟩)
    · rw [wp_some]; exact ⟨fr, Or.inl ⟨rfl, hc⟩⟩
    · rw [wp_some]; exact ⟨fr, Or.inr ⟨n, l, h16, rfl, hc, hl, hp, hm⟩⟩
end RLO

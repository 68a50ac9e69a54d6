/-! edges that would have to go, so that there is no ring -/
section MND
variable {E : Nat → Nat → Prop}
def rem1 (E : Nat → Nat → Prop) (e : Nat) : Nat → Nat → Prop := fun a b => E a b ∧ 16 * a + b ≠ e
def remN (E : Nat → Nat → Prop) (f : Nat → Nat) (k : Nat) : Nat → Nat → Prop := fun a b => E a b ∧ ∀ i, i < k → f i ≠ 16 * a + b
/-- so many do -/
def Wd (E : Nat → Nat → Prop) (k : Nat) : Prop := ∃ f : Nat → Nat, ¬ cyc (remN E f k)
theorem Wd_0 : Wd E 0 ↔ ¬ cyc E := by
  have e : ∀ f, cyc (remN E f 0) ↔ cyc E := fun f => cyc_iff (fun a b _ _ => ⟨fun z => z.1, fun z => ⟨z, fun i hi => absurd hi (Nat.not_lt_zero _)⟩⟩)
  exact ⟨fun ⟨f, hf⟩ => fun z => hf ((e f).mpr z), fun z => ⟨fun _ => 0, fun q => z ((e _).mp q)⟩⟩
theorem Wd_s {e k : Nat} (h : Wd (rem1 E e) k) : Wd E (k + 1) := by
  obtain ⟨f, hf⟩ := h
  refine ⟨sbf f k e, fun z => hf (cyc_le (fun a b _ _ q => ?_) z)⟩
  obtain ⟨q1, q2⟩ := q
  refine ⟨⟨q1, fun y => ?_⟩, fun i hi y => ?_⟩
  · have := q2 k (by omega)
    rw [sbf_at] at this
    exact this y.symm
  · have := q2 i (by omega)
    rw [sbf_ne (by omega)] at this
    exact this y
theorem Wd_m {k : Nat} (h : Wd E k) : Wd E (k + 1) := by
  obtain ⟨f, hf⟩ := h
  exact ⟨f, fun z => hf (cyc_le (fun a b _ _ q => ⟨q.1, fun i hi => q.2 i (by omega)⟩) z)⟩
theorem Wd_le {j k : Nat} (hjk : j ≤ k) (h : Wd E j) : Wd E k := by
  obtain ⟨d, rfl⟩ : ∃ d, k = j + d := ⟨k - j, by omega⟩
  clear hjk
  induction d with
  | zero => exact h
  | succ d ih => exact Wd_m ih
theorem sub_f {f : Nat → Nat} {j k x : Nat} (hj : j < k + 1) (hne : f j ≠ x) (hq : ∀ q, q < k → sbf f j (f k) q ≠ x) : ∀ q, q < k + 1 → f q ≠ x := by
  intro q h
  by_cases e : q = j
  · rw [e]; exact hne
  · by_cases e2 : q = k
    · have := hq j (by omega)
      rw [sbf_at] at this
      rw [e2]; exact this
    · have := hq q (by omega)
      rw [sbf_ne e] at this
      exact this
theorem Wd_drop {f : Nat → Nat} {j k : Nat} (hj : j < k + 1) (h : ¬ cyc (remN E f (k + 1))) : ¬ cyc (remN (rem1 E (f j)) (sbf f j (f k)) k) := fun z => h (cyc_le (fun a b _ _ q => ⟨q.1.1, sub_f hj (fun y => q.1.2 y.symm) q.2⟩) z)
theorem Wd_less {f : Nat → Nat} {j k : Nat} (hj : j < k + 1) (hu : ∀ a b, a < 16 → b < 16 → E a b → 16 * a + b ≠ f j) (h : ¬ cyc (remN E f (k + 1))) : Wd E k := ⟨sbf f j (f k), fun z => h (cyc_le (fun a b h1 h2 q => ⟨q.1, sub_f hj (fun y => hu a b h1 h2 q.1 y.symm) q.2⟩) z)⟩
/-- a ring -/
def Rg (E : Nat → Nat → Prop) (r : Nat → Nat) (K : Nat) : Prop := 0 < K ∧ (∀ i, i ≤ K → r i < 16) ∧ (∀ i, i < K → E (r i) (r (i + 1))) ∧ r K = r 0
theorem Rg.cyc {r : Nat → Nat} {K : Nat} (h : Rg E r K) : cyc E := by
  obtain ⟨h1, h2, h3, h4⟩ := h
  have p : ∀ d, d < K → Rc 16 E (r 0) (r (d + 1)) := by
    intro d
    induction d with
    | zero => intro hd; exact Rc_1 (h2 _ (by omega)) (h3 0 hd)
    | succ d ih => intro hd; exact Rc_tr (h2 (d + 1) (by omega)) (ih (by omega)) (Rc_1 (h2 _ (by omega)) (h3 _ hd))
  have := p (K - 1) (by omega)
  rw [show K - 1 + 1 = K by omega, h4] at this
  exact ⟨r 0, h2 0 (by omega), this⟩
theorem Wd_ring {r : Nat → Nat} {K k : Nat} (h : Rg E r K) : Wd E (k + 1) ↔ ∃ i, i < K ∧ Wd (rem1 E (16 * r i + r (i + 1))) k := by
  constructor
  · rintro ⟨f, hf⟩
    refine Classical.byContradiction fun hc => hf ?_
    refine Rg.cyc (r := r) (K := K) ⟨h.1, h.2.1, fun i hi => ⟨h.2.2.1 i hi, fun j hj e => hc ⟨i, hi, ?_⟩⟩, h.2.2.2⟩
    rw [← e]
    exact ⟨_, Wd_drop hj hf⟩
  · rintro ⟨i, _, hi⟩
    exact Wd_s hi
theorem Wd_no {k : Nat} (hc : cyc E) (h : ¬ ∃ a b, a < 16 ∧ b < 16 ∧ E a b) : False := by
  obtain ⟨x, hx, k, b, h1, h2, _⟩ := hc
  exact h ⟨x, b, hx, h1, h2⟩
/-- one behind another, out of a list -/
def Yx (pl : Nat → Nat) (n : Nat) : Nat → (Nat → Nat → Prop) → Nat → Prop
  | 0, E, _ => ¬ cyc E
  | j + 1, E, fr => ∃ k, fr ≤ k ∧ k < n ∧ Yx pl n j (rem1 E (pl k)) (k + 1)
theorem Yx_W {pl : Nat → Nat} {n : Nat} : ∀ (j : Nat) (E : Nat → Nat → Prop) (fr : Nat), Yx pl n j E fr → Wd E j
  | 0, _, _, h => Wd_0.mpr h
  | j + 1, _, _, ⟨_, _, _, h⟩ => Wd_s (Yx_W j _ _ h)
theorem W_Y {pl : Nat → Nat} {n : Nat} (mono : ∀ k k', k < k' → k' < n → pl k < pl k') : ∀ (j : Nat) (E : Nat → Nat → Prop) (fr : Nat) (f : Nat → Nat), ¬ cyc (remN E f (j + 1)) → (∀ i, i < j + 1 → ¬ Wd E i) → (∀ i, i < j + 1 → ∃ k, fr ≤ k ∧ k < n ∧ pl k = f i) → ∃ k, fr ≤ k ∧ k < n ∧ (∀ i, i < j + 1 → pl k ≤ f i) ∧ Yx pl n j (rem1 E (pl k)) (k + 1) := by
  intro j
  induction j with
  | zero =>
    intro E fr f hf hmin hix
    obtain ⟨k, k1, k2, k3⟩ := hix 0 (by omega)
    refine ⟨k, k1, k2, fun i hi => by rw [show i = 0 by omega, k3]; exact Nat.le_refl _, fun z => hf (cyc_le (fun a b _ _ q => ⟨q.1, fun i hi => ?_⟩) z)⟩
    rw [show i = 0 by omega, ← k3]
    exact fun y => q.2 y.symm
  | succ j ih =>
    intro E fr f hf hmin hix
    obtain ⟨k, ⟨k1, k2, i0, i1, k3⟩, k4⟩ := pk_least (fun k => fr ≤ k ∧ k < n ∧ ∃ i, i < j + 1 + 1 ∧ pl k = f i) (by
      obtain ⟨k, k1, k2, k3⟩ := hix 0 (by omega)
      exact ⟨k, k1, k2, 0, by omega, k3⟩)
    have least : ∀ i, i < j + 1 + 1 → ∃ k', k ≤ k' ∧ k' < n ∧ pl k' = f i := fun i hi => by
      obtain ⟨k', q1, q2, q3⟩ := hix i hi
      exact ⟨k', Nat.le_of_not_lt fun z => k4 k' z ⟨q1, q2, i, hi, q3⟩, q2, q3⟩
    have hf' := Wd_drop i1 hf
    rw [← k3] at hf'
    have hmin' : ∀ i, i < j + 1 → ¬ Wd (rem1 E (pl k)) i := fun i hi z => hmin (i + 1) (by omega) (Wd_s z)
    have hix' : ∀ i, i < j + 1 → ∃ k', k + 1 ≤ k' ∧ k' < n ∧ pl k' = sbf f i0 (f (j + 1)) i := fun i hi => by
      have hq : ∃ q, q < j + 1 + 1 ∧ sbf f i0 (f (j + 1)) i = f q := by
        by_cases e : i = i0
        · exact ⟨j + 1, by omega, by rw [e, sbf_at]⟩
        · exact ⟨i, by omega, sbf_ne e⟩
      obtain ⟨q, hq1, hq2⟩ := hq
      obtain ⟨k', q1, q2, q3⟩ := least q hq1
      refine ⟨k', ?_, q2, by rw [hq2]; exact q3⟩
      refine Nat.lt_of_le_of_ne q1 fun e => ?_
      subst e
      exact hmin' j (by omega) (Wd_less (j := i) hi (fun a b _ _ z => by rw [hq2, ← q3]; exact z.2) hf')
    obtain ⟨k', q1, q2, _, q4⟩ := ih (rem1 E (pl k)) (k + 1) _ hf' hmin' hix'
    refine ⟨k, k1, k2, fun i hi => ?_, k', q1, q2, q4⟩
    obtain ⟨k'', y1, y2, y3⟩ := least i hi
    rw [← y3]
    rcases Nat.lt_or_ge k k'' with z | z
    · exact Nat.le_of_lt (mono k k'' z y2)
    · rw [show k'' = k by omega]; exact Nat.le_refl _
/-- a list of all edges, least first -/
def Pls (E : Nat → Nat → Prop) (pl : Nat → Nat) (n : Nat) : Prop := (∀ k k', k < k' → k' < n → pl k < pl k') ∧ (∀ k, k < n → ∃ a b, a < 16 ∧ b < 16 ∧ E a b ∧ pl k = 16 * a + b) ∧ ∀ a b, a < 16 → b < 16 → E a b → ∃ k, k < n ∧ pl k = 16 * a + b
theorem W_Y0 {pl : Nat → Nat} {n j : Nat} {f : Nat → Nat} (P : Pls E pl n) (hf : ¬ cyc (remN E f (j + 1))) (hmin : ∀ i, i < j + 1 → ¬ Wd E i) : ∃ k, k < n ∧ (∀ i, i < j + 1 → pl k ≤ f i) ∧ Yx pl n j (rem1 E (pl k)) (k + 1) := by
  obtain ⟨k, _, k2, k3, k4⟩ := W_Y P.1 j E 0 f hf hmin (fun i hi => by
    have ex : ∃ a b, a < 16 ∧ b < 16 ∧ E a b ∧ 16 * a + b = f i := Classical.byContradiction fun hc => hmin j (by omega) (Wd_less (j := i) hi (fun a b h1 h2 h3 e => hc ⟨a, b, h1, h2, h3, e⟩) hf)
    obtain ⟨a, b, h1, h2, h3, e⟩ := ex
    obtain ⟨k, q1, q2⟩ := P.2.2 a b h1 h2 h3
    exact ⟨k, Nat.zero_le _, q1, by rw [q2, e]⟩)
  exact ⟨k, k2, k3, k4⟩
/-- the least edge that will do is the list's first that does with what stands behind it -/
theorem first_eq {pl : Nat → Nat} {n j k e : Nat} (P : Pls E pl n) (hmin : ∀ i, i < j + 1 → ¬ Wd E i) (hk : k < n) (Yk : Yx pl n j (rem1 E (pl k)) (k + 1)) (lk : ∀ k', k' < k → ¬ Yx pl n j (rem1 E (pl k')) (k' + 1)) (he : ∃ a b, a < 16 ∧ b < 16 ∧ E a b ∧ e = 16 * a + b) (We : Wd (rem1 E e) j) (le : ∀ a b, a < 16 → b < 16 → E a b → 16 * a + b < e → ¬ Wd (rem1 E (16 * a + b)) j) : pl k = e := by
  have h1 : e ≤ pl k := by
    obtain ⟨a, b, q1, q2, q3, q4⟩ := P.2.1 k hk
    refine Nat.le_of_not_lt fun z => le a b q1 q2 q3 (by rw [← q4]; exact z) ?_
    rw [← q4]
    exact Yx_W j _ _ Yk
  obtain ⟨f, hf⟩ := We
  have hf' : ¬ cyc (remN E (sbf f j e) (j + 1)) := fun z => hf (cyc_le (fun a b _ _ q => ?_) z)
  · obtain ⟨k', q1, q2, q3⟩ := W_Y0 P hf' hmin
    have h2 := q2 j (by omega)
    rw [sbf_at] at h2
    have h3 : k ≤ k' := Nat.le_of_not_lt fun z => lk k' z q3
    have h4 : pl k ≤ pl k' := by
      rcases Nat.lt_or_ge k k' with z | z
      · exact Nat.le_of_lt (P.1 k k' z q1)
      · rw [show k' = k by omega]; exact Nat.le_refl _
    omega
  · obtain ⟨z1, z2⟩ := q
    refine ⟨⟨z1, fun y => ?_⟩, fun i hi => ?_⟩
    · have := z2 j (by omega)
      rw [sbf_at] at this
      exact this y.symm
    · have := z2 i (by omega)
      rw [sbf_ne (by omega)] at this
      exact this
end MND

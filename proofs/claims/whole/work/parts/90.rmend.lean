/-! what would put it right: the reference, and both -/
section RMD
variable {m : Mem} {E : Nat → Nat → Prop} {pl : Nat → Nat} {n : Nat}
def FR1 (m m' : Mem) : Prop := ∀ o, o ≠ 21 → m' o = m o
def ER (m : Mem) (E : Nat → Nat → Prop) : Prop := ∀ a b, a < 16 → b < 16 → (rE (m 1) a b ↔ E a b)
def PL (m : Mem) (pl : Nat → Nat) (n : Nat) : Prop := n ≤ 256 ∧ ∀ k, k < n → m 22 k = nI (pl k) ∧ pl k < 256
theorem er_up {e : Nat} (h : ER m E) : ER (up m 1 e 0) (rem1 E e) := fun a b ha hb => by
  unfold rem1
  rw [← h a b ha hb]
  show ¬ up m 1 e 0 1 (16 * a + b) ≤ 0 ↔ _
  rw [up_a]
  by_cases z : 16 * a + b = e
  · rw [if_pos z]
    exact ⟨fun q => absurd (show (0 : Int32) ≤ 0 by decide) q, fun q => absurd z q.2⟩
  · rw [if_neg z]
    exact ⟨fun q => ⟨q, z⟩, fun q => q.1⟩
theorem up_bk {m m2 : Mem} {e : Nat} (h2 : FR1 (up m 1 e 0) m2) : FR1 m (up m2 1 e (m 1 e)) := fun o ho => by
  by_cases z : o = 1
  · subst z
    funext j
    rw [up_a]
    by_cases y : j = e
    · rw [if_pos y, y]
    · rw [if_neg y, h2 1 (by decide), up_a, if_neg y]
  · rw [up_r z, h2 o ho, up_r z]
theorem r_lay0 {β : Type} {Q : β → Prop} {A B : Mem → Option β} (hE : ER m E) (HA : ∀ m', FR1 m m' → cyc E → wp (A m') Q) (HB : ∀ m', FR1 m m' → ¬ cyc E → wp (B m') Q) : wp ((gX12_layOrder m).bind fun x => if x.1 < 0 then A x.2 else B x.2) Q := by
  rw [wp_bind]
  refine wp_mono (r_layOrder hE) ?_
  rintro ⟨r, m'⟩ ⟨fr, hr⟩
  rcases hr with ⟨z1, z2⟩ | ⟨k, l, k16, z1, nc, _⟩
  · have z1' : r = mI := z1
    subst z1'
    rw [wp_t (show mI < 0 by decide)]
    exact HA m' fr z2
  · have z1' : r = nI k := z1
    subst z1'
    rw [wp_f (show ¬ nI k < 0 from nI_pos (by omega))]
    exact HB m' fr nc
theorem r_last {fr : Nat} (hE : ER m E) (hp : PL m pl n) (hf : fr ≤ n) : wp (gX12_canMendLast m (nI fr) (nI n)) (fun r => FR1 m r.2 ∧ ((r.1 = 1 ∧ Yx pl n 1 E fr) ∨ (r.1 = 0 ∧ ¬ Yx pl n 1 E fr))) := by
  obtain ⟨n256, hpl⟩ := hp
  unfold gX12_canMendLast
  rw [wp_bind]
  refine wp_mono (Q := fun e => (∃ m', e = .inl m' ∧ FR1 m m' ∧ ¬ Yx pl n 1 E fr) ∨ ∃ m', e = .inr m' ∧ FR1 m m' ∧ Yx pl n 1 E fr) ?_ ?_
  · refine wp_for (κ := Mem) (fun k c => (nI k, c)) n (fun k c => fr ≤ k ∧ FR1 m c ∧ ∀ q, fr ≤ q → q < k → ¬ Yx pl n 0 (rem1 E (pl q)) (q + 1)) (fun k c hk hI => ?_) (fun c hI => ?_) fr m hf ⟨Nat.le_refl _, fun _ _ => rfl, fun q h1 h2 => absurd h1 (by omega)⟩ (by omega)
    · obtain ⟨hfk, fc, hno⟩ := hI
      have r22 : ∀ {c' : Mem} {Q : Int32 → Prop}, FR1 m c' → wp (rd c' 22 256 (nI k)) Q = Q (nI (pl k)) := fun {c' Q} f => by rw [w_rd (by omega) (by decide), f 22 (by decide), (hpl k hk).1]
      have p256 := (hpl k hk).2
      have hEc : ER c E := fun a b ha hb => by rw [fc 1 (by decide)]; exact hE a b ha hb
      have fin : ∀ m' y, FR1 (up c 1 (pl k) 0) m' → ((y = 1 ∧ ¬ cyc (rem1 E (pl k))) ∨ (y = 0 ∧ cyc (rem1 E (pl k)))) → wp (gjX12_canMendLast_48 (nI n) (nI k) (c 1 (pl k)) y m') (lq (fun s' => ∃ c', s' = (nI (k + 1), c') ∧ fr ≤ k + 1 ∧ FR1 m c' ∧ ∀ q, fr ≤ q → q < k + 1 → ¬ Yx pl n 0 (rem1 E (pl q)) (q + 1)) (fun e => (∃ m', e = .inl m' ∧ FR1 m m' ∧ ¬ Yx pl n 1 E fr) ∨ ∃ m', e = .inr m' ∧ FR1 m m' ∧ Yx pl n 1 E fr)) := fun m' y f' hy => by
        have fb := up_bk f'
        have f22 : m' 22 = c 22 := by rw [f' 22 (by decide), up_r (by decide)]
        have fm : FR1 m (up m' 1 (pl k) (c 1 (pl k))) := fun o ho => (fb o ho).trans (fc o ho)
        have r22' : ∀ {Q : Int32 → Prop}, wp (rd m' 22 256 (nI k)) Q = Q (nI (pl k)) := fun {Q} => by rw [w_rd (by omega) (by decide), f22, fc 22 (by decide), (hpl k hk).1]
        unfold gjX12_canMendLast_48
        rw [wp_bind, r22', z_add, wp_bind, w_wr (by omega) (by decide)]
        rcases hy with ⟨rfl, hy⟩ | ⟨rfl, hy⟩
        · rw [wp_f (by decide), wp_some, lq_r]
          exact Or.inr ⟨_, rfl, fm, k, hfk, hk, hy⟩
        · rw [wp_t rfl, wp_bind, wp_some, wp_some, lq_l]
          refine ⟨_, by rw [nI_1], by omega, fm, fun q h1 h2 => ?_⟩
          by_cases e : q = k
          · rw [e]; exact fun z => z hy
          · exact hno q h1 (by omega)
      simp only [gbX12_canMendLast_2]
      rw [wp_f (fun z => by have := (nI_leI (by omega) (by omega)).mp z; omega), wp_bind, r22 fc, z_add, wp_bind, w_rd (by omega) (by decide), wp_bind, r22 fc, z_add, wp_bind, w_wr (by omega) (by decide)]
      exact r_lay0 (A := fun m' => gjX12_canMendLast_48 (nI n) (nI k) (c 1 (pl k)) 0 m') (B := fun m' => gjX12_canMendLast_48 (nI n) (nI k) (c 1 (pl k)) 1 m') (er_up hEc) (fun m' f' hc => fin m' 0 f' (Or.inr ⟨rfl, hc⟩)) (fun m' f' hc => fin m' 1 f' (Or.inl ⟨rfl, hc⟩))
    · obtain ⟨hfk, fc, hno⟩ := hI
      simp only [gbX12_canMendLast_2]
      rw [wp_t (nI_le (Nat.le_refl _) (by omega)), wp_some, lq_r]
      exact Or.inl ⟨c, rfl, fc, fun ⟨k, k1, k2, k3⟩ => hno k k1 k2 k3⟩
  · rintro e (⟨m', rfl, f, hn⟩ | ⟨m', rfl, f, hy⟩)
    · rw [wp_some]; exact ⟨f, Or.inr ⟨rfl, hn⟩⟩
    · rw [wp_some]; exact ⟨f, Or.inl ⟨rfl, hy⟩⟩
theorem r_more {j fr : Nat} (hj : j ≤ 1) (hE : ER m E) (hp : PL m pl n) (hf : fr ≤ n) : wp (gX12_canMendMore m (nI (j + 1)) (nI fr) (nI n)) (fun r => FR1 m r.2 ∧ ((r.1 = 1 ∧ Yx pl n (j + 1) E fr) ∨ (r.1 = 0 ∧ ¬ Yx pl n (j + 1) E fr))) := by
  have hp' := hp
  obtain ⟨n256, hpl⟩ := hp
  unfold gX12_canMendMore
  rw [wp_bind]
  refine wp_mono (Q := fun e => (∃ m', e = .inl m' ∧ FR1 m m' ∧ ¬ Yx pl n (j + 1) E fr) ∨ ∃ m', e = .inr m' ∧ FR1 m m' ∧ Yx pl n (j + 1) E fr) ?_ ?_
  · refine wp_for (κ := Mem) (fun k c => (nI k, c)) n (fun k c => fr ≤ k ∧ FR1 m c ∧ ∀ q, fr ≤ q → q < k → ¬ Yx pl n j (rem1 E (pl q)) (q + 1)) (fun k c hk hI => ?_) (fun c hI => ?_) fr m hf ⟨Nat.le_refl _, fun _ _ => rfl, fun q h1 h2 => absurd h1 (by omega)⟩ (by omega)
    · obtain ⟨hfk, fc, hno⟩ := hI
      have r22 : ∀ {c' : Mem} {Q : Int32 → Prop}, FR1 m c' → wp (rd c' 22 256 (nI k)) Q = Q (nI (pl k)) := fun {c' Q} f => by rw [w_rd (by omega) (by decide), f 22 (by decide), (hpl k hk).1]
      have p256 := (hpl k hk).2
      have hEc : ER c E := fun a b ha hb => by rw [fc 1 (by decide)]; exact hE a b ha hb
      have fin : ∀ m' y, FR1 (up c 1 (pl k) 0) m' → ((y = 1 ∧ Yx pl n j (rem1 E (pl k)) (k + 1)) ∨ (y = 0 ∧ ¬ Yx pl n j (rem1 E (pl k)) (k + 1))) → wp (gjX12_canMendMore_69 (nI (j + 1)) (nI n) (nI k) (c 1 (pl k)) y m') (lq (fun s' => ∃ c', s' = (nI (k + 1), c') ∧ fr ≤ k + 1 ∧ FR1 m c' ∧ ∀ q, fr ≤ q → q < k + 1 → ¬ Yx pl n j (rem1 E (pl q)) (q + 1)) (fun e => (∃ m', e = .inl m' ∧ FR1 m m' ∧ ¬ Yx pl n (j + 1) E fr) ∨ ∃ m', e = .inr m' ∧ FR1 m m' ∧ Yx pl n (j + 1) E fr)) := fun m' y f' hy => by
        have fb := up_bk f'
        have f22 : m' 22 = c 22 := by rw [f' 22 (by decide), up_r (by decide)]
        have fm : FR1 m (up m' 1 (pl k) (c 1 (pl k))) := fun o ho => (fb o ho).trans (fc o ho)
        have r22' : ∀ {Q : Int32 → Prop}, wp (rd m' 22 256 (nI k)) Q = Q (nI (pl k)) := fun {Q} => by rw [w_rd (by omega) (by decide), f22, fc 22 (by decide), (hpl k hk).1]
        unfold gjX12_canMendMore_69
        rw [wp_bind, r22', z_add, wp_bind, w_wr (by omega) (by decide)]
        rcases hy with ⟨rfl, hy⟩ | ⟨rfl, hy⟩
        · rw [wp_f (by decide), wp_some, lq_r]
          exact Or.inr ⟨_, rfl, fm, k, hfk, hk, hy⟩
        · rw [wp_t rfl, wp_bind, wp_some, wp_some, lq_l]
          refine ⟨_, by rw [nI_1], by omega, fm, fun q h1 h2 => ?_⟩
          by_cases e : q = k
          · rw [e]; exact hy
          · exact hno q h1 (by omega)
      simp only [gbX12_canMendMore_3]
      rw [wp_f (fun z => by have := (nI_leI (by omega) (by omega)).mp z; omega), wp_bind, r22 fc, z_add, wp_bind, w_rd (by omega) (by decide), wp_bind, r22 fc, z_add, wp_bind, w_wr (by omega) (by decide)]
      rcases (by omega : j = 0 ∨ j = 1) with rfl | rfl
      · rw [wp_t (show nI (0 + 1) = 1 from rfl)]
        exact r_lay0 (A := fun m' => gjX12_canMendMore_69 (nI (0 + 1)) (nI n) (nI k) (c 1 (pl k)) 0 m') (B := fun m' => gjX12_canMendMore_69 (nI (0 + 1)) (nI n) (nI k) (c 1 (pl k)) 1 m') (er_up hEc) (fun m' f' hc => fin m' 0 f' (Or.inr ⟨rfl, fun z => z hc⟩)) (fun m' f' hc => fin m' 1 f' (Or.inl ⟨rfl, hc⟩))
      · rw [wp_f (show ¬ nI (1 + 1) = 1 by decide), wp_bind, show nI k + 1 = nI (k + 1) from i_add _ 1]
        refine wp_mono (r_last (m := up c 1 (pl k) 0) (er_up hEc) ⟨n256, fun q hq => by rw [up_r (by decide), fc 22 (by decide)]; exact hpl q hq⟩ (by omega)) ?_
        rintro ⟨y, m'⟩ ⟨f', hy⟩
        exact fin m' y f' hy
    · obtain ⟨hfk, fc, hno⟩ := hI
      simp only [gbX12_canMendMore_3]
      rw [wp_t (nI_le (Nat.le_refl _) (by omega)), wp_some, lq_r]
      exact Or.inl ⟨c, rfl, fc, fun ⟨k, k1, k2, k3⟩ => hno k k1 k2 k3⟩
  · rintro e (⟨m', rfl, f, hn⟩ | ⟨m', rfl, f, hy⟩)
    · rw [wp_some]; exact ⟨f, Or.inr ⟨rfl, hn⟩⟩
    · rw [wp_some]; exact ⟨f, Or.inl ⟨rfl, hy⟩⟩
/-- 35 alone is changed of the numbers -/
def FR2 (m m' : Mem) : Prop := (∀ o, o ≠ 0 → o ≠ 21 → m' o = m o) ∧ ∀ j, j ≠ 35 → m' 0 j = m 0 j
theorem r_can0 (hE : ER m E) {v2 v3 : Int32} : wp (gX12_canMend m 0 v2 v3) (fun r => FR1 m r.2 ∧ ((r.1 = 1 ∧ ¬ cyc E) ∨ (r.1 = 0 ∧ cyc E))) := by
  unfold gX12_canMend gjX12_canMend_16
  rw [wp_t rfl]
  refine r_lay0 (A := fun m' => (bz 0).bind fun x22 => some (x22, m')) (B := fun m' => (bz 1).bind fun x22 => some (x22, m')) hE (fun m' f hc => ?_) (fun m' f hc => ?_)
  · rw [wp_bind, wp_eq bz_0, wp_some]; exact ⟨f, Or.inr ⟨rfl, hc⟩⟩
  · rw [wp_bind, wp_eq bz_1, wp_some]; exact ⟨f, Or.inl ⟨rfl, hc⟩⟩
theorem r_can {j : Nat} (hj : j ≤ 2) (hE : ER m E) (hp : PL m pl n) : wp (gX12_canMend m (nI (j + 1)) 0 (nI n)) (fun r => FR2 m r.2 ∧ ((r.1 = 1 ∧ ∃ k, k < n ∧ Yx pl n j (rem1 E (pl k)) (k + 1) ∧ (∀ k', k' < k → ¬ Yx pl n j (rem1 E (pl k')) (k' + 1)) ∧ r.2 0 35 = nI (pl k)) ∨ (r.1 = 0 ∧ ∀ k, k < n → ¬ Yx pl n j (rem1 E (pl k)) (k + 1)))) := by
  have hp' := hp
  obtain ⟨n256, hpl⟩ := hp
  unfold gX12_canMend
  rw [wp_f (fun z => by have := (nI_z (by omega)).mp z; omega), wp_bind]
  refine wp_mono (Q := fun e => (∃ m', e = .inl m' ∧ FR1 m m' ∧ ∀ k, k < n → ¬ Yx pl n j (rem1 E (pl k)) (k + 1)) ∨ ∃ m' k, e = .inr (nI k, m') ∧ FR1 m m' ∧ k < n ∧ Yx pl n j (rem1 E (pl k)) (k + 1) ∧ ∀ k', k' < k → ¬ Yx pl n j (rem1 E (pl k')) (k' + 1)) ?_ ?_
  · refine wp_for (κ := Mem) (fun k c => (nI k, c)) n (fun k c => FR1 m c ∧ ∀ q, q < k → ¬ Yx pl n j (rem1 E (pl q)) (q + 1)) (fun k c hk hI => ?_) (fun c hI => ?_) 0 m (Nat.zero_le _) ⟨fun _ _ => rfl, fun q h2 => absurd h2 (Nat.not_lt_zero _)⟩ (by omega)
    · obtain ⟨fc, hno⟩ := hI
      have r22 : ∀ {c' : Mem} {Q : Int32 → Prop}, FR1 m c' → wp (rd c' 22 256 (nI k)) Q = Q (nI (pl k)) := fun {c' Q} f => by rw [w_rd (by omega) (by decide), f 22 (by decide), (hpl k hk).1]
      have p256 := (hpl k hk).2
      have hEc : ER c E := fun a b ha hb => by rw [fc 1 (by decide)]; exact hE a b ha hb
      have fin : ∀ m' y, FR1 (up c 1 (pl k) 0) m' → ((y = 1 ∧ Yx pl n j (rem1 E (pl k)) (k + 1)) ∨ (y = 0 ∧ ¬ Yx pl n j (rem1 E (pl k)) (k + 1))) → wp (gjX12_canMend_89 (nI (j + 1)) (nI n) (nI k) (c 1 (pl k)) y m') (lq (fun s' => ∃ c', s' = (nI (k + 1), c') ∧ FR1 m c' ∧ ∀ q, q < k + 1 → ¬ Yx pl n j (rem1 E (pl q)) (q + 1)) (fun e => (∃ m', e = .inl m' ∧ FR1 m m' ∧ ∀ k, k < n → ¬ Yx pl n j (rem1 E (pl k)) (k + 1)) ∨ ∃ m' k, e = .inr (nI k, m') ∧ FR1 m m' ∧ k < n ∧ Yx pl n j (rem1 E (pl k)) (k + 1) ∧ ∀ k', k' < k → ¬ Yx pl n j (rem1 E (pl k')) (k' + 1))) := fun m' y f' hy => by
        have fb := up_bk f'
        have f22 : m' 22 = c 22 := by rw [f' 22 (by decide), up_r (by decide)]
        have fm : FR1 m (up m' 1 (pl k) (c 1 (pl k))) := fun o ho => (fb o ho).trans (fc o ho)
        have r22' : ∀ {Q : Int32 → Prop}, wp (rd m' 22 256 (nI k)) Q = Q (nI (pl k)) := fun {Q} => by rw [w_rd (by omega) (by decide), f22, fc 22 (by decide), (hpl k hk).1]
        unfold gjX12_canMend_89
        rw [wp_bind, r22', z_add, wp_bind, w_wr (by omega) (by decide)]
        rcases hy with ⟨rfl, hy⟩ | ⟨rfl, hy⟩
        · rw [wp_f (by decide), wp_some, lq_r]
          exact Or.inr ⟨_, k, rfl, fm, hk, hy, hno⟩
        · rw [wp_t rfl, wp_bind, wp_some, wp_some, lq_l]
          refine ⟨_, by rw [nI_1], fm, fun q h2 => ?_⟩
          by_cases e : q = k
          · rw [e]; exact hy
          · exact hno q (by omega)
      simp only [gbX12_canMend_20]
      rw [wp_f (fun z => by have := (nI_leI (by omega) (by omega)).mp z; omega), wp_bind, r22 fc, z_add, wp_bind, w_rd (by omega) (by decide), wp_bind, r22 fc, z_add, wp_bind, w_wr (by omega) (by decide)]
      by_cases j0 : j = 0
      · subst j0
        rw [wp_t (show nI (0 + 1) = 1 from rfl)]
        exact r_lay0 (A := fun m' => gjX12_canMend_89 (nI (0 + 1)) (nI n) (nI k) (c 1 (pl k)) 0 m') (B := fun m' => gjX12_canMend_89 (nI (0 + 1)) (nI n) (nI k) (c 1 (pl k)) 1 m') (er_up hEc) (fun m' f' hc => fin m' 0 f' (Or.inr ⟨rfl, fun z => z hc⟩)) (fun m' f' hc => fin m' 1 f' (Or.inl ⟨rfl, hc⟩))
      · obtain ⟨j', rfl⟩ : ∃ j', j = j' + 1 := ⟨j - 1, by omega⟩
        rw [wp_f (fun z => by have := (nI_eq (b := 1) (by omega) (by decide)).mp z; omega), wp_bind, show nI k + 1 = nI (k + 1) from i_add _ 1, show nI (j' + 1 + 1) - 1 = nI (j' + 1) from by rw [L_1, i_sub (by omega)]; rfl]
        refine wp_mono (r_more (m := up c 1 (pl k) 0) (j := j') (by omega) (er_up hEc) ⟨n256, fun q hq => by rw [up_r (by decide), fc 22 (by decide)]; exact hpl q hq⟩ (by omega)) ?_
        rintro ⟨y, m'⟩ ⟨f', hy⟩
        exact fin m' y f' hy
    · obtain ⟨fc, hno⟩ := hI
      simp only [gbX12_canMend_20]
      rw [wp_t (nI_le (Nat.le_refl _) (by omega)), wp_some, lq_r]
      exact Or.inl ⟨c, rfl, fc, hno⟩
  · rintro e (⟨m', rfl, f, hn⟩ | ⟨m', k, rfl, f, hk, hy, hl⟩)
    · rw [wp_some]; exact ⟨⟨fun o _ h2 => f o h2, fun j _ => congrFun (f 0 (by decide)) j⟩, Or.inr ⟨rfl, hn⟩⟩
    · have r22 : ∀ {Q : Int32 → Prop}, wp (rd m' 22 256 (nI k)) Q = Q (nI (pl k)) := fun {Q} => by rw [w_rd (by omega) (by decide), f 22 (by decide), (hpl k hk).1]
      rw [wp_bind]
      show wp (rd m' 22 256 (nI k)) _
      rw [r22, wp_bind, wp_some, wp_some]
      refine ⟨⟨fun o h1 h2 => by show up m' 0 35 _ o = _; rw [up_r h1]; exact f o h2, fun j hj => by show up m' 0 35 _ 0 j = _; rw [up_a, if_neg hj, show m' 0 = m 0 from f 0 (by decide)]⟩, Or.inl ⟨rfl, k, hk, hy, hl, (show up m' 0 35 (nI (pl k)) 0 35 = nI (pl k) from up_at)⟩⟩
/-- all edges, listed -/
theorem r_list {v : Int32} (hz : ∀ a b, a < 16 → b < 16 → (m 1 (16 * a + b) = 0 ↔ ¬ E a b)) : wp (lp (gbX12_mends_15 v) FU (0, 0, m)) (fun r => ∃ n pl m', r = (nI n, m') ∧ (∀ o, o ≠ 22 → m' o = m o) ∧ PL m' pl n ∧ Pls E pl n) := by
  refine wp_for (κ := Nat × Mem × (Nat → Nat)) (fun k c => (nI c.1, nI k, c.2.1)) 256 (fun k c => c.1 ≤ k ∧ (∀ o, o ≠ 22 → c.2.1 o = m o) ∧ (∀ q, q < c.1 → c.2.1 22 q = nI (c.2.2 q) ∧ c.2.2 q < k) ∧ (∀ q q', q < q' → q' < c.1 → c.2.2 q < c.2.2 q') ∧ (∀ q, q < c.1 → ∃ a b, a < 16 ∧ b < 16 ∧ E a b ∧ c.2.2 q = 16 * a + b) ∧ ∀ a b, a < 16 → b < 16 → E a b → 16 * a + b < k → ∃ q, q < c.1 ∧ c.2.2 q = 16 * a + b) (fun k c hk hI => ?_) (fun c hI => ?_) 0 (0, m, fun _ => 0) (by decide) ⟨Nat.le_refl _, fun _ _ => rfl, fun q hq => absurd hq (Nat.not_lt_zero _), fun q q' _ hq => absurd hq (Nat.not_lt_zero _), fun q hq => absurd hq (Nat.not_lt_zero _), fun a b _ _ _ hq => absurd hq (Nat.not_lt_zero _)⟩ (by decide)
  · obtain ⟨n, mm, pl⟩ := c
    obtain ⟨nk, fr, h1, h2, h3, h4⟩ := hI
    simp only at nk fr h1 h2 h3 h4
    have hza := hz (k / 16) (k % 16) (by omega) (by omega)
    rw [show 16 * (k / 16) + k % 16 = k by omega] at hza
    simp only [gbX12_mends_15, gjX12_mends_46]
    rw [L_256, wp_f (fun z => by have := (nI_leI (by decide) (by omega)).mp z; omega), wp_bind, z_add, w_rd (by omega) (by decide), fr 1 (by decide)]
    by_cases z : m 1 k = 0
    · rw [wp_t z, wp_bind, wp_some, wp_some, lq_l]
      refine ⟨(n, mm, pl), by rw [nI_1], by show n ≤ k + 1; omega, fr, fun q hq => ⟨(h1 q hq).1, by have := (h1 q hq).2; show pl q < k + 1; omega⟩, h2, h3, fun a b ha hb hE hlt => ?_⟩
      by_cases e : 16 * a + b = k
      · refine absurd hE ?_
        rw [show a = k / 16 by omega, show b = k % 16 by omega]
        exact hza.mp z
      · exact h4 a b ha hb hE (by omega)
    · have hE : E (k / 16) (k % 16) := Classical.byContradiction fun q => z (hza.mpr q)
      rw [wp_f z, wp_bind, w_wr (by omega) (by decide), wp_bind, wp_some, wp_bind, wp_some, wp_some, lq_l]
      refine ⟨(n + 1, up mm 22 n (nI k), sbf pl n k), by rw [nI_1, nI_1], by show n + 1 ≤ k + 1; omega, fun o ho => by show up mm 22 n (nI k) o = _; rw [up_r ho]; exact fr o ho, fun q hq => ?_, fun q q' hq hq' => ?_, fun q hq => ?_, fun a b ha hb hE' hlt => ?_⟩
      · have hq' : q < n + 1 := hq
        show up mm 22 n (nI k) 22 q = nI (sbf pl n k q) ∧ sbf pl n k q < k + 1
        rw [up_a]
        by_cases e : q = n
        · rw [if_pos e, e, sbf_at]; exact ⟨rfl, by omega⟩
        · rw [if_neg e, sbf_ne e]
          have := h1 q (by omega)
          exact ⟨this.1, by omega⟩
      · have hq2 : q' < n + 1 := hq'
        show sbf pl n k q < sbf pl n k q'
        rw [sbf_ne (by omega)]
        by_cases e : q' = n
        · rw [e, sbf_at]; exact (h1 q (by omega)).2
        · rw [sbf_ne e]; exact h2 q q' hq (by omega)
      · have hq' : q < n + 1 := hq
        show ∃ a b, a < 16 ∧ b < 16 ∧ E a b ∧ sbf pl n k q = 16 * a + b
        by_cases e : q = n
        · rw [e, sbf_at]; exact ⟨k / 16, k % 16, by omega, by omega, hE, by omega⟩
        · rw [sbf_ne e]; exact h3 q (by omega)
      · show ∃ q, q < n + 1 ∧ sbf pl n k q = 16 * a + b
        by_cases e : 16 * a + b = k
        · exact ⟨n, by omega, by rw [sbf_at]; exact e.symm⟩
        · obtain ⟨q, q1, q2⟩ := h4 a b ha hb hE' (by omega)
          have q1' : q < n := q1
          exact ⟨q, by omega, by rw [sbf_ne (by omega)]; exact q2⟩
  · obtain ⟨n, mm, pl⟩ := c
    obtain ⟨nk, fr, h1, h2, h3, h4⟩ := hI
    simp only at nk fr h1 h2 h3 h4
    simp only [gbX12_mends_15]
    rw [L_256, wp_t (nI_le (Nat.le_refl _) (by decide)), wp_some, lq_r]
    exact ⟨n, pl, mm, rfl, fr, ⟨nk, h1⟩, h2, h3, fun a b ha hb hE => h4 a b ha hb hE (by omega)⟩
theorem r_mends {v x y : Int32} (hE : ER m E) (hz : ∀ a b, a < 16 → b < 16 → (m 1 (16 * a + b) = 0 ↔ ¬ E a b)) (hv : inN v 2) (M : Mnd E x y) : wp (gX12_mends m v) (fun r => r.1 = (if x ≤ 3 then (if v = 0 then x else y) else -2) ∧ (∀ o, o ≠ 0 → o ≠ 21 → o ≠ 22 → r.2 o = m o) ∧ ∀ j, j ≠ 35 → r.2 0 j = m 0 j) := by
  have isin : ∀ {Q : Int32 → Prop}, wp (gX12_isIn v 0 1) Q = Q (b01 (inN v 2)) := fun {Q} => w_isInK (K := 1) (by decide)
  unfold gX12_mends
  rw [wp_bind, isin, b01_t hv, wp_f (by decide), wp_bind]
  refine wp_mono (r_list (v := v) hz) ?_
  rintro r ⟨n, pl, m1, rfl, f1, hPL, hPls⟩
  rw [wp_bind]
  refine wp_mono (Q := fun e => (∃ m', e = .inl m' ∧ ((∀ o, o ≠ 0 → o ≠ 21 → m' o = m1 o) ∧ ∀ j, j ≠ 35 → m' 0 j = m1 0 j) ∧ ∀ i, i < 4 → ¬ Wd E i) ∨ ∃ F m', e = .inr (nI F, m') ∧ F ≤ 3 ∧ ((∀ o, o ≠ 0 → o ≠ 21 → m' o = m1 o) ∧ ∀ j, j ≠ 35 → m' 0 j = m1 0 j) ∧ Wd E F ∧ (∀ i, i < F → ¬ Wd E i) ∧ ((F = 0 ∧ m' 0 35 = mI) ∨ ∃ j k, F = j + 1 ∧ k < n ∧ Yx pl n j (rem1 E (pl k)) (k + 1) ∧ (∀ k', k' < k → ¬ Yx pl n j (rem1 E (pl k')) (k' + 1)) ∧ m' 0 35 = nI (pl k))) ?_ ?_
  · refine wp_for (κ := Mem) (fun F c => (nI F, c)) 4 (fun F c => ((∀ o, o ≠ 0 → o ≠ 21 → c o = m1 o) ∧ ∀ j, j ≠ 35 → c 0 j = m1 0 j) ∧ ∀ i, i < F → ¬ Wd E i) (fun F c hF hI => ?_) (fun c hI => ?_) 0 m1 (by decide) ⟨⟨fun _ _ _ => rfl, fun _ _ => rfl⟩, fun i hi => absurd hi (Nat.not_lt_zero _)⟩ (by decide)
    · obtain ⟨fc, hno⟩ := hI
      have e1 : up c 0 35 (-1) 1 = m 1 := by rw [up_r (by decide), fc.1 1 (by decide) (by decide), f1 1 (by decide)]
      have hEc : ER (up c 0 35 (-1)) E := fun a b ha hb => by rw [e1]; exact hE a b ha hb
      have hPc : PL (up c 0 35 (-1)) pl n := ⟨hPL.1, fun k hk => by rw [up_r (by decide), fc.1 22 (by decide) (by decide)]; exact hPL.2 k hk⟩
      have fu : FR2 m1 (up c 0 35 (-1)) := ⟨fun o h0 h1 => by rw [up_r h0]; exact fc.1 o h0 h1, fun j hj => by rw [up_a, if_neg hj]; exact fc.2 j hj⟩
      simp only [gbX12_mends_54]
      rw [L_4, wp_f (fun z => by have := (nI_leI (by decide) (by omega)).mp z; omega), wp_bind, wp_some, wp_bind]
      by_cases F0 : F = 0
      · subst F0
        refine wp_mono (r_can0 hEc) ?_
        rintro ⟨b, m2⟩ ⟨f2, hb⟩
        have f2' : ∀ o, o ≠ 21 → m2 o = up c 0 35 (-1) o := f2
        have fm : (∀ o, o ≠ 0 → o ≠ 21 → m2 o = m1 o) ∧ ∀ j, j ≠ 35 → m2 0 j = m1 0 j := ⟨fun o h0 h1 => by rw [f2' o h1]; exact fu.1 o h0 h1, fun j hj => by rw [f2' 0 (by decide)]; exact fu.2 j hj⟩
        rcases hb with ⟨z1, z2⟩ | ⟨z1, z2⟩
        · have z1' : b = 1 := z1
          subst z1'
          rw [wp_f (show ¬ (1 : Int32) = 0 by decide), wp_some, lq_r]
          exact Or.inr ⟨0, m2, rfl, by decide, fm, Wd_0.mpr z2, hno, Or.inl ⟨rfl, by rw [f2' 0 (by decide), up_at]; rfl⟩⟩
        · have z1' : b = 0 := z1
          subst z1'
          rw [wp_t rfl, wp_bind, wp_some, wp_some, lq_l]
          refine ⟨m2, by rw [nI_1], fm, fun i hi => ?_⟩
          rw [show i = 0 by omega]; exact fun q => Wd_0.mp q z2
      · obtain ⟨j, rfl⟩ : ∃ j, F = j + 1 := ⟨F - 1, by omega⟩
        refine wp_mono (r_can (by omega) hEc hPc) ?_
        rintro ⟨b, m2⟩ ⟨f2, hb⟩
        have fm : (∀ o, o ≠ 0 → o ≠ 21 → m2 o = m1 o) ∧ ∀ j, j ≠ 35 → m2 0 j = m1 0 j := ⟨fun o h0 h1 => (f2.1 o h0 h1).trans (fu.1 o h0 h1), fun j hj => (f2.2 j hj).trans (fu.2 j hj)⟩
        rcases hb with ⟨z1, k, k1, k2, k3, k4⟩ | ⟨z1, z2⟩
        · have z1' : b = 1 := z1
          subst z1'
          rw [wp_f (show ¬ (1 : Int32) = 0 by decide), wp_some, lq_r]
          exact Or.inr ⟨j + 1, m2, rfl, by omega, fm, Wd_s (Yx_W j _ _ k2), hno, Or.inr ⟨j, k, rfl, k1, k2, k3, k4⟩⟩
        · have z1' : b = 0 := z1
          subst z1'
          rw [wp_t rfl, wp_bind, wp_some, wp_some, lq_l]
          refine ⟨m2, by rw [nI_1], fm, fun i hi => ?_⟩
          by_cases e : i = j + 1
          · rw [e]
            rintro ⟨f, hf⟩
            obtain ⟨k, k1, _, k3⟩ := W_Y0 hPls hf hno
            exact z2 k k1 k3
          · exact hno i (by omega)
    · obtain ⟨fc, hno⟩ := hI
      simp only [gbX12_mends_54]
      rw [L_4, wp_t (nI_le (Nat.le_refl _) (by decide)), wp_some, lq_r]
      exact Or.inl ⟨c, rfl, fc, hno⟩
  · have frm : ∀ m' : Mem, ((∀ o, o ≠ 0 → o ≠ 21 → m' o = m1 o) ∧ ∀ j, j ≠ 35 → m' 0 j = m1 0 j) → (∀ o, o ≠ 0 → o ≠ 21 → o ≠ 22 → m' o = m o) ∧ ∀ j, j ≠ 35 → m' 0 j = m 0 j := fun m' f => ⟨fun o h0 h1 h2 => (f.1 o h0 h1).trans (f1 o h2), fun j hj => (f.2 j hj).trans (by rw [f1 0 (by decide)])⟩
    rintro e (⟨m', rfl, f, hn⟩ | ⟨F, m', rfl, F3, f, hW, hno, hfst⟩)
    · rw [wp_some]
      refine ⟨?_, frm m' f⟩
      rcases M with ⟨rfl, _⟩ | ⟨F', h3, _, hW', _⟩
      · rw [if_neg (by decide)]
      · exact absurd hW' (hn F' (by omega))
    · unfold gjX12_mends_86
      rcases M with ⟨_, hn'⟩ | ⟨F', h3, rfl, hW', hno', hfst'⟩
      · exact absurd hW (hn' F (by omega))
      · have e : F' = F := by
          rcases Nat.lt_trichotomy F' F with z | z | z
          · exact absurd hW' (hno F' z)
          · exact z
          · exact absurd hW (hno' F z)
        subst e
        rw [L_3, if_pos (nI_le h3 (by decide))]
        by_cases v0 : v = 0
        · rw [wp_t v0, wp_some, if_pos v0]
          exact ⟨rfl, frm m' f⟩
        · rw [wp_f v0, wp_some, if_neg v0]
          refine ⟨?_, frm m' f⟩
          show m' 0 35 = y
          rcases hfst with ⟨z0, z1⟩ | ⟨j, k, z0, k1, k2, k3, k4⟩
          · rcases hfst' with ⟨_, y1⟩ | ⟨j, _, _, y0, _⟩
            · rw [z1, y1]
            · omega
          · rcases hfst' with ⟨y0, _⟩ | ⟨j', a, b, y0, ha, hb, hE', ey, hW2, hl2⟩
            · omega
            · have : j' = j := by omega
              subst this
              rw [k4, ey, first_eq hPls (by rw [← z0]; exact hno) k1 k2 k3 ⟨a, b, ha, hb, hE', rfl⟩ hW2 hl2]
end RMD
section OMD
variable {h : Hp} {m : Mem} {g : GS} {own : Nat → Nat} {ad : Nat → Option Nat}
theorem o_mends (I : IC h g own ad) (J : IR m g) (ok : okG g) (v : Int32) : ∃ r h1 m1, fX11_mends h 0 v = some (r, h1) ∧ gX12_mends m v = some (r, m1) ∧ AFT h h1 m1 own g := by
  have I' := I
  have J' := J
  have ok' := ok
  obtain ⟨cs, ow, ⟨t1, t2⟩, ⟨f1, f2⟩, ⟨P, hP, p1, p2, pc⟩, ⟨a1, a2⟩, r52, r19, r36, r15, sl, li, bx⟩ := I
  obtain ⟨⟨j1, j2⟩, ⟨j3, j4⟩, jp, ⟨j5, j6⟩, jl, jw, ju, jb, jx⟩ := J
  obtain ⟨o1, pw, o2, o3, o4, o5⟩ := ok
  obtain ⟨b, n, hb, L⟩ := li (sA g) o2
  have rb : hR h 19 (sA g) = some b := by rw [r19 _ (by omega)]; exact hb
  have pr : ∀ {Q : Nat → Prop}, wp (fX2_present (wI h (hI h)) 18) Q = Q b := fun {Q} => cs.present a1 (by omega) rb
  have s2 := cs.s2
  have okA0 := o4 (sA g) o2
  have s1 : Sh1 h (b + 4) := L.1.s3
  have R := L.2.2.1
  have h120 := cs.1
  have M : MS h := by
    obtain ⟨c20, c21, c22, c23, c24, c25⟩ := cs.2.2.2.2.2.2.2.2.2.2.2.1
    refine ⟨cs.s4, by omega, c20, c21, r52, fun i hi => ?_⟩
    rcases (by omega : i = 0 ∨ i = 1 ∨ i = 2 ∨ i = 3) with rfl | rfl | rfl | rfl
    · exact c22
    · exact c23
    · exact c24
    · exact c25
  have isin : ∀ {Q : Int32 → Prop}, wp (gX12_isIn v 0 1) Q = Q (b01 (inN v 2)) := fun {Q} => w_isInK (K := 1) (by decide)
  have hE : ER m (gE (aG (sH g (sA g)))) := fun a b ha hb => jl.2.1.E okA0.1.2.1 ha hb
  have hz : ∀ a b, a < 16 → b < 16 → (m 1 (16 * a + b) = 0 ↔ ¬ gE (aG (sH g (sA g))) a b) := fun a b ha hb => by
    rw [jl.2.1 a b ha hb]
    unfold gE plI
    cases hG : aG (sH g (sA g)) a b with
    | none => simp
    | some p =>
      have := okA0.1.2.1 a b p hG
      simp only [ne_eq, reduceCtorEq, not_false_eq_true, not_true_eq_false, iff_false]
      exact fun z => by have := (nI_z (by omega)).mp z; omega
  refine bo2 (R := fun h1 m1 => AFT h h1 m1 own g) ?_
  show wp (fX11_mends (wI h (hI h)) 0 v) _
  unfold fX11_mends jX11_mends_9
  have nope : ¬ inN v 2 → wp (gX12_mends m v) (fun r' => r'.1 = (-1 : Int32) ∧ AFT h (wI h (hI h)) r'.2 own g) := fun hn => by
    unfold gX12_mends
    rw [wp_bind, isin, b01_n hn, wp_t rfl, wp_some]
    exact ⟨rfl, AFT.same I' J' ok'⟩
  by_cases c1 : v < 0
  · rw [wp_t c1, wp_some]
    exact nope (fun z => z.1 c1)
  · rw [wp_f c1]
    obtain ⟨k, hk, e⟩ := nI_of c1
    subst e
    rw [L_1]
    by_cases c2 : k ≤ 1
    · have hv : inN (nI k) 2 := (inN_nI hk).mpr (by omega)
      rw [wp_t (nI_le c2 (by decide)), wp_bind, cs.gr cs.r10, wp_bind, cs.gr cs.r5, wp_bind, s2.o, wp_bind, pr, wp_bind, L.1.r3, wp_bind, s1.r1, wp_bind, M.1.o, wp_bind]
      refine wp_mono (c_mend M (show b + 4 + 1 < hN h by have := s1.1; omega) s1.2.2.1.2 (fun x hx y hy => (R.2 x hx).1 y hy)) ?_
      rintro r ⟨m2, rfl, fr2, hM⟩
      obtain ⟨IC2, NF2⟩ := I'.sc o3 (m' := m2) (fun a z1 z2 => fr2 a (by omega))
      have key : ∀ m1, ((∀ o, o ≠ 0 → o ≠ 21 → o ≠ 22 → m1 o = m o) ∧ ∀ j, j ≠ 35 → m1 0 j = m 0 j) → AFT h (wI h m2) m1 own g := fun m1 f => ⟨IR.go J' (fun o ho => f.1 o (by omega) (by omega) (by omega)) (fun j hj => f.2 j (by omega)), ok', own, ad, IC2, NF2, fun _ _ z => z, fun _ z => z, by show hN h ≤ hN h + 20; omega, by show hZ h ≤ hZ h + 10200; omega⟩
      have rm := r_mends (v := nI k) hE hz hv hM
      rw [wp_bind, cs.gr cs.r10, wp_bind, M.1.g0]
      by_cases c3 : m2 47 0 ≤ 3
      · rw [wp_t c3]
        rw [if_pos c3] at rm
        unfold jX11_mends_66
        by_cases c4 : nI k = 0
        · rw [if_pos c4] at rm
          rw [wp_t c4, wp_bind, cs.gr cs.r10, wp_bind, M.1.g0, wp_some]
          exact wp_mono rm (fun r' hr => ⟨hr.1, key _ hr.2⟩)
        · rw [if_neg c4] at rm
          rw [wp_f c4, wp_bind, cs.gr cs.r10, wp_bind, M.1.g1, wp_some]
          exact wp_mono rm (fun r' hr => ⟨hr.1, key _ hr.2⟩)
      · rw [wp_f c3, wp_some]
        rw [if_neg c3] at rm
        exact wp_mono rm (fun r' hr => ⟨hr.1, key _ hr.2⟩)
    · rw [wp_f (fun z => c2 ((nI_leI (by omega) (by decide)).mp z)), wp_some]
      exact nope (fun z => by have := (inN_nI hk).mp z; omega)
end OMD

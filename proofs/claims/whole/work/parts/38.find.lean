section FJ
theorem b_andm (x y : Int32) {i : Nat} (hi : i < 32) : bt (x &&& (y ^^^ mI)) i = (bt x i && !bt y i) := b_andn x y hi
variable {h : Hp} {m0 : Mem} {w g N f t : Nat}
def lvI (m0 : Mem) (w g N f t i : Nat) (seen : Int32) (m' : Mem) : Prop :=
  (∀ a, a ≠ w + 2 → m' a = m0 a) ∧ (∀ j, j ≤ i → ∀ b, b < 32 → (bt (m' (w + 2) j) b = true ↔ ds N (nE (m0 g)) t j b)) ∧ (∀ b, b < 32 → (bt seen b = true ↔ ∃ j, j ≤ i ∧ ds N (nE (m0 g)) t j b)) ∧ ∀ j, j < i → ∀ b, b < N → nE (m0 g) f b → ¬ ds N (nE (m0 g)) t j b
theorem lv_hit {m' : Mem} {seen : Int32} {i : Nat} (hn : N ≤ 16) (ht : t < N) (H : lvI m0 w g N f t i seen m') : m0 g f &&& m' (w + 2) i = 0 ↔ ∀ b, b < N → nE (m0 g) f b → ¬ ds N (nE (m0 g)) t i b := by
  rw [b_and0]
  constructor
  · intro z b hb h1 h2
    exact z b (by omega) ⟨h1, (H.2.1 i (Nat.le_refl _) b (by omega)).mpr h2⟩
  · rintro z b hb ⟨h1, h2⟩
    have h3 := (H.2.1 i (Nat.le_refl _) b hb).mp h2
    exact z b (ds_lt ht h3.1) h1 h3
theorem find_lv (s : Sh10 h w) (hg : g < hN h) (hs : hS h g = .inr (.int, N)) (hn : N ≤ 16) (g2 : g ≠ w + 2) (hf : f < N) (ht : t < N) {seen : Int32} {m1 : Mem} (H0 : lvI m0 w g N f t 0 seen m1) : wp (lp (bX10_find_20 w g (nI f)) FU (nI 0, seen, wI h m1)) (fun r => ∃ i seen m', i ≤ 15 ∧ r = (nI i, wI h m') ∧ lvI m0 w g N f t i seen m' ∧ (i = 15 ∨ (∀ b, ¬ ds N (nE (m0 g)) t i b) ∨ ∃ b, b < N ∧ nE (m0 g) f b ∧ ds N (nE (m0 g)) t i b)) := by
  refine wp_for (κ := Int32 × Mem) (fun i c => (nI i, c.1, wI h c.2)) 15 (fun i c => lvI m0 w g N f t i c.1 c.2) (fun i c hi H => ?_) (fun c H => ?_) 0 (seen, m1) (Nat.zero_le _) H0 (by decide)
  · obtain ⟨sn, m'⟩ := c
    simp only at H ⊢
    have eg : m' g = m0 g := H.1 g g2
    have hl := lv_hit hn ht H
    by_cases e1 : m' (w + 2) i = 0
    · simp (disch := omega) only [bX10_find_20, wp_bind, wp_some, s.r2, s.l2, L_15, i_le, wp_f, lq_r]
      rw [wp_t e1, wp_some]
      refine ⟨i, sn, m', by omega, rfl, H, Or.inr (Or.inl fun b hb => ?_)⟩
      have := (H.2.1 i (Nat.le_refl _) b (by have := ds_lt ht hb.1; omega)).mpr hb
      rw [e1, b_0] at this
      cases this
    · by_cases e2 : m0 g f &&& m' (w + 2) i = 0
      · simp (disch := omega) only [bX10_find_20, wp_bind, wp_some, s.r2, s.l2, L_15, i_le, wp_f, lq_r, x_lI hg hs, eg]
        rw [wp_t e2]; simp (disch := omega) only [wp_bind, s.r2, s.l2]
        refine wp_mono (c_leadingTo hg hs hn) (fun bits hb => ?_)
        simp (disch := omega) only [↓mI_e, wp_some, wp_bind, s.r2, s.l2, s.t2, L_1, i_add, lq_l]
        refine ⟨(sn ||| up m' (w + 2) (i + 1) (bits &&& (sn ^^^ mI)) (w + 2) (i + 1), up m' (w + 2) (i + 1) (bits &&& (sn ^^^ mI))), rfl, ?_, fun j hj b hb32 => ?_, fun b hb32 => ?_, fun j hj b hb' hE => ?_⟩
        · intro a ha; show up m' (w + 2) (i + 1) _ a = _; rw [up_r ha]; exact H.1 a ha
        · show bt (up m' (w + 2) (i + 1) (bits &&& (sn ^^^ mI)) (w + 2) j) b = true ↔ _
          rw [up_a]
          by_cases hji : j = i + 1
          · subst hji
            rw [if_pos rfl, b_andm _ _ hb32, Bool.and_eq_true, hb b hb32, Bool.not_eq_true', ← Bool.not_eq_true, H.2.2.1 b hb32, ds_s ht]
            constructor
            · rintro ⟨⟨h1, h2⟩, h3⟩
              refine ⟨h1, ?_, fun j hj hd => h3 ⟨j, hj, hd⟩⟩
              rw [b_and0, eg] at h2
              refine Classical.byContradiction fun hc => h2 fun q hq ⟨z1, z2⟩ => hc ⟨q, ?_, z1, ?_⟩
              · exact ds_lt ht ((H.2.1 i (Nat.le_refl _) q hq).mp z2).1
              · exact (H.2.1 i (Nat.le_refl _) q hq).mp z2
            · rintro ⟨h1, ⟨q, h2, h3, h4⟩, h5⟩
              refine ⟨⟨h1, ?_⟩, fun ⟨j, hj, hd⟩ => h5 j hj hd⟩
              rw [b_and0, eg]
              exact fun z => z q (by omega) ⟨h3, (H.2.1 i (Nat.le_refl _) q (by omega)).mpr h4⟩
          · rw [if_neg hji]
            exact H.2.1 j (by omega) b hb32
        · rw [b_or, Bool.or_eq_true, H.2.2.1 b hb32, up_a, if_pos rfl, b_andm _ _ hb32, Bool.and_eq_true, hb b hb32, Bool.not_eq_true', ← Bool.not_eq_true, H.2.2.1 b hb32]
          constructor
          · rintro (⟨j, hj, hd⟩ | ⟨⟨h1, h2⟩, h3⟩)
            · exact ⟨j, by omega, hd⟩
            · refine ⟨i + 1, Nat.le_refl _, (ds_s ht).mpr ⟨h1, ?_, fun j hj hd => h3 ⟨j, hj, hd⟩⟩⟩
              rw [b_and0, eg] at h2
              refine Classical.byContradiction fun hc => h2 fun q hq ⟨z1, z2⟩ => hc ⟨q, ?_, z1, ?_⟩
              · exact ds_lt ht ((H.2.1 i (Nat.le_refl _) q hq).mp z2).1
              · exact (H.2.1 i (Nat.le_refl _) q hq).mp z2
          · rintro ⟨j, hj, hd⟩
            rcases Nat.lt_or_ge i j with z | z
            · have : j = i + 1 := by omega
              subst this
              obtain ⟨h1, ⟨q, h2, h3, h4⟩, h5⟩ := (ds_s ht).mp hd
              refine Or.inr ⟨⟨h1, ?_⟩, fun ⟨j, hj, hd⟩ => h5 j hj hd⟩
              rw [b_and0, eg]
              exact fun z => z q (by omega) ⟨h3, (H.2.1 i (Nat.le_refl _) q (by omega)).mpr h4⟩
            · exact Or.inl ⟨j, z, hd⟩
        · rcases Nat.lt_or_ge j i with z | z
          · exact H.2.2.2 j z b hb' hE
          · rw [show j = i by omega]; exact hl.mp e2 b hb' hE
      · simp (disch := omega) only [bX10_find_20, wp_bind, wp_some, s.r2, s.l2, L_15, i_le, wp_f, lq_r, x_lI hg hs, eg]
        refine ⟨i, sn, m', by omega, rfl, H, Or.inr (Or.inr ?_)⟩
        refine Classical.byContradiction fun hc => e2 (hl.mpr fun b hb h1 h2 => hc ⟨b, hb, h1, h2⟩)
  · obtain ⟨sn, m'⟩ := c
    simp only at H ⊢
    simp (disch := omega) only [bX10_find_20, wp_bind, wp_some, L_15, i_le, wp_t, lq_r]
    exact ⟨15, sn, m', Nat.le_refl _, rfl, H, Or.inl rfl⟩
/-- the nodes of the way, one by one -/
theorem find_nd (s : Sh10 h w) (hg : g < hN h) (hs : hS h g = .inr (.int, N)) (hn : N ≤ 16) (g0 : g ≠ w) (g1 : g ≠ w + 1) (g2 : g ≠ w + 2) (hf : f < N) (ht : t < N) {K : Nat} {m1 : Mem} (hK : K ≤ 15) (eg : m1 g = m0 g) (hE : m1 w 1 = nI (K + 1)) (hx : m1 (w + 1) 0 = nI f) (hl : ∀ j, j ≤ K → ∀ b, b < 32 → (bt (m1 (w + 2) j) b = true ↔ ds N (nE (m0 g)) t j b)) (hit : ∃ b, b < N ∧ nE (m0 g) f b ∧ ds N (nE (m0 g)) t K b) : wp (lp (bX10_find_133 w g) FU (nI 1, wI h m1)) (fun r => ∃ m', r = wI h m' ∧ (∀ a, a ≠ w + 1 → m' a = m1 a) ∧ ∃ x : Nat → Nat, x 0 = f ∧ (∀ i, i ≤ K + 1 → m' (w + 1) i = nI (x i)) ∧ ∀ i, i < K + 1 → x (i + 1) < N ∧ nE (m0 g) (x i) (x (i + 1)) ∧ ds N (nE (m0 g)) t (K + 1 - (i + 1)) (x (i + 1)) ∧ ∀ b, b < x (i + 1) → ¬ (nE (m0 g) (x i) b ∧ ds N (nE (m0 g)) t (K + 1 - (i + 1)) b)) := by
  refine wp_for (κ := Mem) (fun i c => (nI i, wI h c)) (K + 2) (fun p m' => (1 ≤ p ∧ ∀ a, a ≠ w + 1 → m' a = m1 a) ∧ ∃ x : Nat → Nat, x 0 = f ∧ (∀ i, i < p → m' (w + 1) i = nI (x i)) ∧ ∀ i, i + 1 < p → x (i + 1) < N ∧ nE (m0 g) (x i) (x (i + 1)) ∧ ds N (nE (m0 g)) t (K + 1 - (i + 1)) (x (i + 1)) ∧ ∀ b, b < x (i + 1) → ¬ (nE (m0 g) (x i) b ∧ ds N (nE (m0 g)) t (K + 1 - (i + 1)) b)) (fun p m' hp H => ?_) (fun m' H => ?_) 1 m1 (by omega) ⟨⟨Nat.le_refl _, fun a _ => rfl⟩, fun _ => f, rfl, fun i hi => by rw [show i = 0 by omega]; exact hx, fun i hi => by omega⟩ (by omega)
  · obtain ⟨⟨hp1, fr⟩, x, x0, hx, hc⟩ := H
    have xl : x (p - 1) < N := by
      cases p with
      | zero => omega
      | succ p =>
        cases p with
        | zero => rw [show 0 + 1 - 1 = 0 from rfl, x0]; exact hf
        | succ p => exact (hc p (by omega)).1
    have ew : m' w 1 = nI (K + 1) := by rw [fr w (by omega)]; exact hE
    have el : m' (w + 2) = m1 (w + 2) := fr _ (by omega)
    have ex : m' (w + 1) (p - 1) = nI (x (p - 1)) := hx _ (by omega)
    have egg : m' g = m0 g := by rw [fr g g1]; exact eg
    have ne : ∃ b, b < N ∧ nE (m0 g) (x (p - 1)) b ∧ ds N (nE (m0 g)) t (K + 1 - p) b := by
      cases p with
      | zero => omega
      | succ p =>
        cases p with
        | zero => rw [show 0 + 1 - 1 = 0 from rfl, x0, show K + 1 - (0 + 1) = K by omega]; exact hit
        | succ p =>
          obtain ⟨_, _, h3, _⟩ := hc p (by omega)
          rw [show K + 1 - (p + 1) = (K + 1 - (p + 1 + 1)) + 1 by omega, ds_s ht] at h3
          obtain ⟨q, h4, h5, h6⟩ := h3.2.1
          exact ⟨q, h4, h5, h6⟩
    obtain ⟨b, ⟨hb1, hb2, hb3⟩, hb4⟩ := pk_least _ ne
    have hlev : ∀ q, q < 32 → (bt (m0 g (x (p - 1)) &&& m1 (w + 2) (K + 1 - p)) q = true ↔ nE (m0 g) (x (p - 1)) q ∧ ds N (nE (m0 g)) t (K + 1 - p) q) := by
      intro q hq
      rw [b_and, Bool.and_eq_true, hl _ (by omega) q hq]
      exact Iff.rfl
    have lo := fun gg => c_least (x := m0 g (x (p - 1)) &&& m1 (w + 2) (K + 1 - p)) (n := b) gg (by omega) ((hlev b (by omega)).mpr ⟨hb2, hb3⟩) (fun j hj => by
      cases hh : bt (m0 g (x (p - 1)) &&& m1 (w + 2) (K + 1 - p)) j with
      | false => rfl
      | true =>
        have h7 := (hlev j (by omega)).mp hh
        exact absurd ⟨ds_lt ht h7.2.1, h7⟩ (hb4 j hj))
    simp (disch := omega) only [bX10_find_133, wp_bind, wp_some, s.g1, ew, i_lt, wp_f, s.r0, s.l0, L_1, i_sub, ex, x_lI hg hs, egg, s.r2, s.l2, el]
    rw [← L_1, wp_eq (lo _)]
    simp (disch := omega) only [s.t0, wp_bind, wp_some, lq_l, L_1, i_add]
    refine ⟨_, rfl, ⟨by omega, fun a ha => by rw [up_r ha]; exact fr a ha⟩, fun i => if i = p then b else x i, ?_, ?_, ?_⟩
    · simp only [show ¬ 0 = p by omega, if_false]; exact x0
    · intro i hi
      rw [up_a]
      by_cases hip : i = p
      · show _ = nI (if i = p then b else x i); rw [if_pos hip, if_pos hip]
      · show _ = nI (if i = p then b else x i); rw [if_neg hip, if_neg hip]; exact hx i (by omega)
    · intro i hi
      simp only [show ¬ i = p by omega, if_false]
      by_cases hip : i + 1 = p
      · simp only [hip, if_true]
        rw [show i = p - 1 by omega, show K + 1 - p = K + 1 - p from rfl]
        refine ⟨hb1, hb2, hb3, fun q hq hz => hb4 q hq ⟨ds_lt ht hz.2.1, hz.1, hz.2⟩⟩
      · simp only [hip, if_false]; exact hc i (by omega)
  · obtain ⟨⟨hp1, fr⟩, x, x0, hx, hc⟩ := H
    have ew : m' w 1 = nI (K + 1) := by rw [fr w (by omega)]; exact hE
    simp (disch := omega) only [bX10_find_133, wp_bind, wp_some, s.g1, ew, i_lt, wp_t, lq_r]
    exact ⟨m', rfl, fr, x, x0, fun i hi => hx i (by omega), fun i hi => hc i (by omega)⟩
theorem c_find (s : Sh10 h w) (hg : g < hN h) (hs : hS h g = .inr (.int, N)) (hn : N ≤ 16) (g0 : g ≠ w) (g1 : g ≠ w + 1) (g2 : g ≠ w + 2) (hf : f < N) (ht : t < N) : wp (fX10_find (wI h m0) w g (nI f) (nI t)) (fun r => ∃ m', r.2 = wI h m' ∧ (∀ a, a ≠ w → a ≠ w + 1 → a ≠ w + 2 → m' a = m0 a) ∧ ((r.1 = 1 ∧ ∃ K x, Way N (nE (m0 g)) f t K x ∧ m' w 1 = nI K ∧ ∀ i, i ≤ K → m' (w + 1) i = nI (x i)) ∨ (r.1 = 0 ∧ noWay N (nE (m0 g)) f t ∧ m' w 1 = 0))) := by
  have eg1 : ∀ v, up m0 (w + 2) 0 v g = m0 g := fun v => up_r g2
  have H0 : lvI m0 w g N f t 0 (up m0 (w + 2) 0 ((1 : Int32) <<< (nI t &&& 31)) (w + 2) 0) (up m0 (w + 2) 0 ((1 : Int32) <<< (nI t &&& 31))) := by
    refine ⟨fun a ha => up_r ha, fun j hj b hb => ?_, fun b hb => ?_, fun j hj => by omega⟩
    · rw [show j = 0 by omega, up_at, b_shl1 (by omega) hb, decide_eq_true_iff, ds_0]
    · rw [up_at, b_shl1 (by omega) hb, decide_eq_true_iff]
      constructor
      · intro z; exact ⟨0, Nat.le_refl _, ds_0.mpr z⟩
      · rintro ⟨j, hj, hd⟩
        rw [show j = 0 by omega] at hd
        exact ds_0.mp hd
  unfold fX10_find
  have t2 := fun {v : Int32} {Q : Hp → Prop} => s.t2 (m := m0) (v := v) (j := 0) (Q := Q) (by decide)
  rw [wp_bind, s.r2, wp_bind, show (0 : Int32) = nI 0 from rfl, t2, wp_bind, s.r2, wp_bind, s.l2 (by decide), wp_bind]
  refine wp_mono (find_lv s hg hs hn g2 hf ht H0) ?_
  rintro r ⟨i, sn, m', hi, rfl, H, hx⟩
  have hl := lv_hit hn ht H
  have eg : m' g = m0 g := H.1 g g2
  rw [wp_bind, x_lI hg hs hf (by omega), wp_bind, s.r2, wp_bind, s.l2 (by omega), eg, nI_0]
  by_cases e : m0 g f &&& m' (w + 2) i = 0
  · rw [wp_t e, wp_bind, s.p1, wp_some]
    refine ⟨_, rfl, fun a h1 h2 h3 => by rw [up_r h1]; exact H.1 a h3, Or.inr ⟨rfl, ?_, up_at⟩⟩
    intro k b hb hE hd
    rcases Nat.lt_trichotomy k i with z | z | z
    · exact H.2.2.2 k z b hb hE hd
    · subst z; exact hl.mp e b hb hE hd
    · rcases hx with q | q | ⟨b', q1, q2, q3⟩
      · have := ds_k ht hd; omega
      · exact ds_emp ht q (by omega) hd
      · exact hl.mp e b' q1 q2 q3
  · rw [wp_f e]
    have hit : ∃ b, b < N ∧ nE (m0 g) f b ∧ ds N (nE (m0 g)) t i b := Classical.byContradiction fun hc => e (hl.mpr fun b hb h1 h2 => hc ⟨b, hb, h1, h2⟩)
    simp (disch := omega) only [wp_bind, s.p1, L_1, i_add, s.r0]
    rw [show (0 : Int32) = nI 0 from rfl, s.t0 (by decide)]
    refine wp_mono (find_nd (m0 := m0) (K := i) s hg hs hn g0 g1 g2 hf ht hi (by rw [up_r g1, up_r g0]; exact eg) (by rw [up_r (by omega)]; exact up_at) up_at (fun j hj b hb => by rw [up_r (by omega), up_r (by omega)]; exact H.2.1 j hj b hb) hit) ?_
    rintro r ⟨m2, rfl, fr, x, x0, hx, hc⟩
    rw [wp_some]
    refine ⟨m2, rfl, fun a h1 h2 h3 => by rw [fr a h2, up_r h2, up_r h1]; exact H.1 a h3, Or.inl ⟨rfl, i + 1, x, ⟨by omega, fun j b hj hb hE => H.2.2.2 j (by omega) b hb hE, x0, hc⟩, ?_, hx⟩⟩
    rw [fr w (by omega), up_r (by omega)]; exact up_at
end FJ

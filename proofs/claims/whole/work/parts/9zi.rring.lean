/-! the reference lays a ring -/
section RRG
variable {m : Mem} {t u : Nat}
theorem ar_least (hu : u < 6) {d : Nat → Nat} (h1 : fM6 m d) : wp (lp (gbX12_layRing_23 (nI u) m) FU (nI 268435456, nI 0)) (fun r => ∃ L, r = nI L ∧ L ≤ 268435456 ∧ (∀ b, b < 6 → wE (m 33) u b → L ≤ d b) ∧ (L = 268435456 ∨ ∃ b, b < 6 ∧ wE (m 33) u b ∧ d b = L)) := by
  refine wp_for (κ := Nat) (fun i c => (nI c, nI i)) 6 (fun i L => L ≤ 268435456 ∧ (∀ b, b < i → wE (m 33) u b → L ≤ d b) ∧ (L = 268435456 ∨ ∃ b, b < 6 ∧ wE (m 33) u b ∧ d b = L)) (fun i L hi H => ?_) (fun L H => ?_) 0 268435456 (Nat.zero_le _) ⟨Nat.le_refl _, fun b hb => by omega, Or.inl rfl⟩ (by decide)
  · obtain ⟨H1, H2, H3⟩ := H
    have f1 := h1 i hi
    simp only [gbX12_layRing_23]
    rw [L_6, wp_f (by rw [i_le (by decide) (by omega)]; omega), wp_bind, w_rd hu (by decide), wp_bind, w_hasR (by omega)]
    by_cases hE : wE (m 33) u i
    · rw [b01_t hE, wp_f (by decide), wp_bind, w_rd hi (by decide), f1.1]
      by_cases hle : L ≤ d i
      · rw [wp_t (by rw [i_le (by omega) (by omega)]; exact hle)]
        unfold gjX12_layRing_61 gjX12_layRing_62
        rw [wp_bind, wp_some, wp_some, lq_l, nI_1]
        refine ⟨L, rfl, H1, fun b hb hE => ?_, H3⟩
        by_cases z : b = i
        · rw [z]; exact hle
        · exact H2 b (by omega) hE
      · rw [wp_f (by rw [i_le (by omega) (by omega)]; exact hle), wp_bind, w_rd hi (by decide), f1.1]
        unfold gjX12_layRing_62
        rw [wp_bind, wp_some, wp_some, lq_l, nI_1]
        refine ⟨d i, rfl, f1.2, fun b hb hE => ?_, Or.inr ⟨i, hi, hE, rfl⟩⟩
        by_cases z : b = i
        · rw [z]; exact Nat.le_refl _
        · have := H2 b (by omega) hE; omega
    · rw [b01_n hE, wp_t rfl]
      unfold gjX12_layRing_61 gjX12_layRing_62
      rw [wp_bind, wp_some, wp_some, lq_l, nI_1]
      refine ⟨L, rfl, H1, fun b hb hE' => ?_, H3⟩
      by_cases z : b = i
      · rw [z] at hE'; exact absurd hE' hE
      · exact H2 b (by omega) hE'
  · simp only [gbX12_layRing_23]
    rw [L_6, wp_t (by rw [i_le (by decide) (by omega)]; omega), wp_some, lq_r]
    exact ⟨L, rfl, H⟩
theorem ar_next {n left q : Nat} {d : Nat → Nat} (h1 : fM6 m d) (hn : 1 ≤ n) (hn2 : n < 8) (e52 : m 0 52 = nI n) (hl : left ≤ 268435456) (hq : q < 6) (hx : m 34 (n - 1) = nI q) (ex : ∃ b, b < 6 ∧ wE (m 33) q b ∧ d b = left) : wp (lp (gbX12_layRing_100 (nI left) m) FU (nI 0)) (fun r => ∃ b, r = nI b ∧ b < 6 ∧ wE (m 33) q b ∧ d b = left ∧ ∀ b', b' < b → ¬ (wE (m 33) q b' ∧ d b' = left)) := by
  refine wp_for (κ := Unit) (fun i _ => nI i) 6 (fun i _ => ∀ b', b' < i → ¬ (wE (m 33) q b' ∧ d b' = left)) (fun i _ hi H => ?_) (fun _ H => ?_) 0 () (Nat.zero_le _) (fun b hb => by omega) (by decide)
  · have f1 := h1 i hi
    simp only [gbX12_layRing_100]
    rw [e52, show (nI n - (1 : Int32)) = nI (n - 1) from i_sub hn, wp_bind, w_rd (by omega) (by decide), hx, wp_bind, w_rd hq (by decide), wp_bind, w_hasR (by omega)]
    by_cases hE : wE (m 33) q i
    · rw [b01_t hE, wp_f (by decide), wp_bind, w_rd hi (by decide), f1.1]
      by_cases hd : d i = left
      · rw [wp_t (by rw [hd]), wp_some, lq_r]
        exact ⟨i, rfl, hi, hE, hd, H⟩
      · rw [wp_f (by rw [i_eq (by omega) (by omega)]; exact hd)]
        unfold gjX12_layRing_135
        rw [wp_bind, wp_some, wp_some, lq_l, nI_1]
        refine ⟨(), rfl, fun b hb hz => ?_⟩
        by_cases z : b = i
        · rw [z] at hz; exact hd hz.2
        · exact H b (by omega) hz
    · rw [b01_n hE, wp_t rfl]
      unfold gjX12_layRing_135
      rw [wp_bind, wp_some, wp_some, lq_l, nI_1]
      refine ⟨(), rfl, fun b hb hz => ?_⟩
      by_cases z : b = i
      · rw [z] at hz; exact hE hz.1
      · exact H b (by omega) hz
  · obtain ⟨b, h2, h3, h4⟩ := ex
    exact absurd ⟨h3, h4⟩ (H b h2)
theorem ar_nodes (hu : u < 6) {d : Nat → Nat} {L : Nat} (h1 : fM6 m d) (hX : fX6 (wE (m 33)) u d) (hL : L < 6) (h0 : m 34 0 = nI u) (e52 : m 0 52 = nI 1) (ex : ∃ b, b < 6 ∧ wE (m 33) u b ∧ d b = L) : wp (lp gbX12_layRing_93 FU (nI L, m)) (fun m' => (∀ o, o ≠ 0 → o ≠ 34 → m' o = m o) ∧ (∀ j, j ≠ 52 → m' 0 j = m 0 j) ∧ m' 0 52 = nI (L + 1) ∧ ∃ x : Nat → Nat, x 0 = u ∧ (∀ i, i ≤ L → m' 34 i = nI (x i)) ∧ ∀ i, i < L → x (i + 1) < 6 ∧ wE (m 33) (x i) (x (i + 1)) ∧ ds 6 (wE (m 33)) u (L + 1 - (i + 1)) (x (i + 1)) ∧ ∀ b, b < x (i + 1) → ¬ (wE (m 33) (x i) b ∧ ds 6 (wE (m 33)) u (L + 1 - (i + 1)) b)) := by
  refine wp_for (κ := Mem) (fun i c => (nI (L - i), c)) L (fun i m' => (∀ o, o ≠ 0 → o ≠ 34 → m' o = m o) ∧ (∀ j, j ≠ 52 → m' 0 j = m 0 j) ∧ m' 0 52 = nI (i + 1) ∧ ∃ x : Nat → Nat, x 0 = u ∧ (∀ j, j ≤ i → m' 34 j = nI (x j)) ∧ ∀ j, j < i → x (j + 1) < 6 ∧ wE (m 33) (x j) (x (j + 1)) ∧ ds 6 (wE (m 33)) u (L + 1 - (j + 1)) (x (j + 1)) ∧ ∀ b, b < x (j + 1) → ¬ (wE (m 33) (x j) b ∧ ds 6 (wE (m 33)) u (L + 1 - (j + 1)) b)) (fun i c hi H => ?_) (fun c H => ?_) 0 m (by omega) ⟨fun _ _ _ => rfl, fun _ _ => rfl, e52, fun _ => u, rfl, fun j hj => by rw [show j = 0 by omega]; exact h0, fun j hj => by omega⟩ (by omega)
  · obtain ⟨fr, fr0, c52, x, x0, hx, hc⟩ := H
    have e1 : c 33 = m 33 := fr 33 (by decide) (by decide)
    have e16 : fM6 c d := fun v hv => by rw [fr 35 (by decide) (by decide)]; exact h1 v hv
    have xi : x i < 6 := by
      cases i with
      | zero => rw [x0]; exact hu
      | succ i => exact (hc i (by omega)).1
    have nx : ∃ b, b < 6 ∧ wE (c 33) (x i) b ∧ d b = L - i := by
      rw [e1]
      cases i with
      | zero => rw [x0]; exact ex
      | succ i =>
        obtain ⟨_, _, h3, _⟩ := hc i (by omega)
        rw [show L + 1 - (i + 1) = (L - (i + 1)) + 1 by omega, ds_s hu] at h3
        obtain ⟨q, h4, h5, h6⟩ := h3.2.1
        exact ⟨q, h4, h5, ((hX q h4 _).mp h6).2⟩
    simp only [gbX12_layRing_93]
    rw [wp_f (by rw [z_le (by omega)]; omega), wp_bind]
    refine wp_mono (ar_next (n := i + 1) e16 (by omega) (by omega) c52 (by omega) xi (by rw [Nat.add_sub_cancel]; exact hx i (Nat.le_refl _)) nx) ?_
    rintro r ⟨b, rfl, hb, hE, hd, hl⟩
    rw [e1] at hE hl
    rw [wp_bind, c52, w_wr (by omega) (by decide), wp_bind, wp_some, up_r (by decide), c52, wp_bind, wp_some, wp_some, lq_l, mI_e, L_1, i_add, i_dec (by omega)]
    refine ⟨up (up c 34 (i + 1) (nI b)) 0 52 (nI (i + 1 + 1)), ?_, fun o ho h34 => by rw [up_r ho, up_r h34]; exact fr o ho h34, fun j hj => by rw [up_ne (by omega), up_r (by decide)]; exact fr0 j hj, up_at, fun j => if j = i + 1 then b else x j, ?_, ?_, ?_⟩
    · rw [show L - i - 1 = L - (i + 1) by omega]
    · simp only [show ¬ 0 = i + 1 by omega, if_false]; exact x0
    · intro j hj
      rw [up_r (by decide), up_a]
      by_cases z : j = i + 1
      · show _ = nI (if j = i + 1 then b else x j); rw [if_pos z, if_pos z]
      · show _ = nI (if j = i + 1 then b else x j); rw [if_neg z, if_neg z]; exact hx j (by omega)
    · intro j hj
      simp only [show ¬ j = i + 1 by omega, if_false]
      by_cases z : j + 1 = i + 1
      · simp only [z, if_true]
        rw [show j = i by omega, show L + 1 - (i + 1) = L - i by omega]
        refine ⟨hb, hE, (hX b hb _).mpr ⟨by omega, hd⟩, fun b' hb' hz => hl b' hb' ⟨hz.1, ((hX b' (by omega) _).mp hz.2).2⟩⟩
      · simp only [z, if_false]; exact hc j (by omega)
  · simp only [gbX12_layRing_93]
    rw [Nat.sub_self, wp_t (by decide), wp_some, lq_r]
    exact H
/-- how a ring stands in the rows -/
def RNGr (Pl : PD) (S : Nat → Nat) (X : Nat) (M : MO) (m : Mem) : Prop := (∃ u K x, u < 6 ∧ (∀ u', u' < u → ¬ Rc 6 (wEd Pl S X M) u' u') ∧ Way 6 (wEd Pl S X M) u u K x ∧ m 0 52 = nI K ∧ ∀ i, i < K → m 34 i = nI (x i)) ∧ ∀ t, t < 6 → LW6 Pl S X M m 25 t
variable {Pl : PD} {S : Nat → Nat} {X : Nat} {M : MO}
theorem r_layRing (R : RXc m Pl S X) (I : MOK Pl X M) (r : RMo Pl X m M) : wp (gX12_layRing m) (fun y => (∀ o, o ≠ 0 → o ≠ 32 → o ≠ 33 → o ≠ 34 → o ≠ 35 → y.2 o = m o) ∧ (∀ j, j ≠ 52 → y.2 0 j = m 0 j) ∧ ((y.1 = 1 ∧ stk Pl S X M ∧ RNGr Pl S X M y.2) ∨ (y.1 = 0 ∧ ¬ stk Pl S X M))) := by
  unfold gX12_layRing
  rw [wp_bind]
  refine wp_mono (r_layWaits R I r) ?_
  rintro m1 ⟨f1, lw⟩
  have eE : ∀ a b, a < 6 → b < 6 → (wE (m1 33) a b ↔ wEd Pl S X M a b) := fun a b ha hb => (lw a ha).2 b (by omega)
  rw [wp_bind]
  refine wp_mono (Q := fun e => (∃ k, e = .inl k ∧ (∀ o, o ≠ 35 → k o = m1 o) ∧ ∀ u, u < 6 → ¬ Rc 6 (wEd Pl S X M) u u) ∨ ∃ u L k d, e = .inr (nI u, nI L, k) ∧ (∀ o, o ≠ 35 → k o = m1 o) ∧ u < 6 ∧ (∀ u', u' < u → ¬ Rc 6 (wEd Pl S X M) u' u') ∧ fM6 k d ∧ fX6 (wE (m1 33)) u d ∧ L < 6 ∧ (∀ b, b < 6 → wE (m1 33) u b → L ≤ d b) ∧ ∃ b, b < 6 ∧ wE (m1 33) u b ∧ d b = L) ?_ ?_
  · refine wp_for (κ := Mem) (fun i c => (nI i, c)) 6 (fun i k => (∀ o, o ≠ 35 → k o = m1 o) ∧ ∀ u, u < i → ¬ Rc 6 (wEd Pl S X M) u u) (fun i k hi H => ?_) (fun k H => ?_) 0 m1 (Nat.zero_le _) ⟨fun _ _ => rfl, fun u hu => absurd hu (Nat.not_lt_zero _)⟩ (by decide)
    · obtain ⟨k1, k2⟩ := H
      have e33 : k 33 = m1 33 := k1 33 (by decide)
      simp only [gbX12_layRing_6]
      rw [L_6, wp_f (by rw [i_le (by decide) (by omega)]; omega), wp_bind]
      refine wp_mono (r_layApart (m := k) hi) ?_
      rintro k' ⟨g1, d, g2, g3⟩
      rw [e33] at g3
      have e33' : k' 33 = m1 33 := by rw [g1 33 (by decide), e33]
      have g1' : ∀ o, o ≠ 35 → k' o = m1 o := fun o ho => by rw [g1 o ho, k1 o ho]
      rw [wp_bind]
      refine wp_mono (ar_least hi g2) ?_
      rintro y ⟨L, rfl, hL, h2, h3⟩
      rw [e33'] at h2 h3
      by_cases hLF : L = 268435456
      · rw [hLF, wp_f (by decide), wp_bind, wp_some, wp_some, lq_l, nI_1]
        refine ⟨k', rfl, g1', fun u hu => ?_⟩
        by_cases z : u = i
        · rw [z]
          intro hr
          refine Rc_iff.mp hr ((noWay_congr eE hi).mp fun j b hb hE hds => ?_)
          have := (g3 b hb j).mp hds
          have := h2 b hb hE
          omega
        · exact k2 u (by omega)
      · obtain ⟨b, hb, hE, hdb⟩ := h3.resolve_left hLF
        have hds := (g3 b hb L).mpr ⟨by omega, hdb⟩
        have hL6 := ds_k hi hds
        rw [wp_t (by rw [L_268435456, i_lt (by omega) (by decide)]; omega), wp_some, lq_r]
        exact Or.inr ⟨i, L, k', d, rfl, g1', hi, k2, g2, g3, hL6, h2, b, hb, hE, hdb⟩
    · simp only [gbX12_layRing_6]
      rw [L_6, wp_t (by rw [i_le (by decide) (by omega)]; omega), wp_some, lq_r]
      exact Or.inl ⟨k, rfl, H⟩
  · rintro e (⟨k, rfl, k1, k2⟩ | ⟨u, L, k, d, rfl, k1, u6, k2, k3, k4, L6, k5, b, hb, hE, hdb⟩)
    · show wp (some ((0 : Int32), k)) _
      rw [wp_some]
      refine ⟨fun o _ h2 h3 _ h5 => by show k o = m o; rw [k1 o h5, f1 o h2 h3], fun j _ => by show k 0 j = m 0 j; rw [k1 0 (by decide), f1 0 (by decide) (by decide)], Or.inr ⟨rfl, fun ⟨u, u6, hu⟩ => k2 u u6 hu⟩⟩
    · show wp ((wr k 34 8 (0 : Int32) (nI u)).bind _) _
      rw [wp_bind, show (0 : Int32) = nI 0 from rfl, w_wr (by decide) (by decide), wp_bind, wp_some, wp_bind]
      have e33 : up (up k 34 0 (nI u)) 0 52 1 33 = m1 33 := by rw [up_r (by decide), up_r (by decide), k1 33 (by decide)]
      refine wp_mono (ar_nodes (m := up (up k 34 0 (nI u)) 0 52 1) (u := u) (d := d) (L := L) u6 (fun v hv => by rw [up_r (by decide), up_r (by decide)]; exact k3 v hv) (by rw [e33]; exact k4) L6 (by rw [up_r (by decide), up_at]) up_at ⟨b, hb, by rw [e33]; exact hE, hdb⟩) ?_
      rintro m3 ⟨g1, g2, g3, x, x0, hx, hc⟩
      rw [e33] at hc
      rw [wp_some]
      have g1' : ∀ o, o ≠ 0 → o ≠ 34 → m3 o = k o := fun o h0 h34 => by rw [g1 o h0 h34, up_r h0, up_r h34]
      refine ⟨fun o h0 h2 h3 h4 h5 => by show m3 o = m o; rw [g1' o h0 h4, k1 o h5, f1 o h2 h3], fun j hj => by show m3 0 j = m 0 j; rw [g2 j hj, up_ne (by omega), up_r (by decide), k1 0 (by decide), f1 0 (by decide) (by decide)], Or.inl ?_⟩
      -- the way
      let x' : Nat → Nat := fun i => if i = L + 1 then u else x i
      have xl : ∀ i, i ≤ L → x' i = x i := fun i hi => if_neg (by omega)
      have xL6 : x L < 6 := by
        cases L with
        | zero => rw [x0]; exact u6
        | succ L => exact (hc L (by omega)).1
      have hw : Way 6 (wE (m1 33)) u u (L + 1) x' := by
        refine ⟨by omega, fun j b hj hb hE hds => ?_, by rw [xl 0 (by omega)]; exact x0, fun i hi => ?_⟩
        · have := (k4 b hb j).mp hds
          have := k5 b hb hE
          omega
        · rw [xl i (by omega)]
          by_cases z : i = L
          · have e : x' (i + 1) = u := if_pos (by omega)
            rw [e, z, Nat.sub_self]
            refine ⟨u6, ?_, ds_0.mpr rfl, fun b hb hz => ?_⟩
            · cases L with
              | zero =>
                rw [x0]
                have := (k4 b hb 0).mpr ⟨by omega, hdb⟩
                rw [ds_0] at this
                rw [← this]; rw [this] at hE ⊢; exact hE
              | succ L =>
                obtain ⟨_, _, h3, _⟩ := hc L (by omega)
                rw [show L + 1 + 1 - (L + 1) = 0 + 1 by omega, ds_s u6] at h3
                obtain ⟨q, h4, h5, h6⟩ := h3.2.1
                rw [ds_0] at h6
                rw [← h6]; rw [h6] at h5 ⊢; exact h5
            · have := ds_0.mp hz.2; omega
          · rw [xl (i + 1) (by omega)]
            exact hc i (by omega)
      have hw' : Way 6 (wEd Pl S X M) u u (L + 1) x' := Way_congr eE u6 hw
      refine ⟨rfl, ⟨u, u6, Rc_iff.mpr fun q => hw'.no q⟩, ⟨u, L + 1, x', u6, k2, hw', g3, fun i hi => by rw [xl i (by omega)]; exact hx i (by omega)⟩, fun t ht => ?_⟩
      have := lw t ht
      show LW6 Pl S X M m3 25 t
      unfold LW6 at this ⊢
      rw [show 25 + 7 = 32 from rfl, show 25 + 8 = 33 from rfl] at *
      rw [g1' 32 (by decide) (by decide), g1' 33 (by decide) (by decide), k1 32 (by decide), k1 33 (by decide)]
      exact this
end RRG

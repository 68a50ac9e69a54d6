/-! the class: steps taken apart, contexts, what is held -/
theorem w_deed {g : Hp} {c : Nat} {Q : Int32 → Prop} (hc : c < 2 ^ 31) : wp (fX11_deedOf g (nI c)) Q = Q (nI (c / 16)) := by
  unfold fX11_deedOf
  rw [wp_some, pk_shrN hc ((4 : Int32) &&& 31) 4 (by decide)]
theorem w_lock {g : Hp} {c : Nat} {Q : Int32 → Prop} (hc : c < 2 ^ 31) : wp (fX11_lockOf g (nI c)) Q = Q (nI (c % 16)) := by
  unfold fX11_lockOf
  rw [wp_some, pk_andN (by omega) 4 (by decide)]
theorem w_ctx {g : Hp} {so : Nat} {Q : Int32 → Prop} (hs : so < 2 ^ 31) : wp (fX11_contextOf g (nI so)) Q = Q (nI (cx0 so)) := by
  unfold fX11_contextOf cx0
  by_cases h0 : so = 0
  · subst h0; rw [wp_t (show nI 0 = 0 from rfl), wp_some]; rfl
  · rw [wp_f (by rw [z_eq hs]; exact h0), if_neg h0, L_1]
    by_cases h1 : so = 1
    · subst h1; rw [wp_t rfl, wp_some]; rfl
    · rw [wp_f (by rw [i_eq hs (by decide)]; exact h1), if_neg h1, wp_some]; rfl
theorem cx0_8 (so : Nat) : cx0 so < 8 ∧ cx0 so % 2 = 0 := by
  unfold cx0
  split
  · exact ⟨by decide, by decide⟩
  · split
    · exact ⟨by decide, by decide⟩
    · exact ⟨by decide, by decide⟩
theorem cx1_8 {c so d : Nat} (h : c < 8 ∧ c % 2 = 0) : cx1 c so d < 8 ∧ cx1 c so d % 2 = 0 := by
  have h0 := cx0_8 so
  unfold cx1
  generalize cx0 so = k at h0
  have k1 : ∀ c, c < 8 → (c &&& 2 < 8 ∧ (c &&& 2) % 2 = 0) ∧ (c &&& 4 < 8 ∧ (c &&& 4) % 2 = 0) := by decide
  have k2 : ∀ c, c < 8 → ∀ k, k < 8 → c % 2 = 0 → (c ||| (k &&& 4) < 8 ∧ (c ||| (k &&& 4)) % 2 = 0) := by decide
  have k3 : ∀ c, c < 8 → ∀ k, k < 8 → c % 2 = 0 → (c ||| (k &&& 2) < 8 ∧ (c ||| (k &&& 2)) % 2 = 0) := by decide
  have this := And.intro (k1 c h.1).1 (And.intro (k1 c h.1).2 (And.intro (k2 c h.1 k h0.1 h.2) (k3 c h.1 k h0.1 h.2)))
  split
  · exact this.1
  · split
    · exact this.2.2.1
    · split
      · exact this.2.1
      · split
        · exact this.2.2.2
        · exact h
theorem cx_8 (so : Nat) (S : Nat → Nat) : ∀ i, cx so S i < 8 ∧ cx so S i % 2 = 0
  | 0 => cx0_8 so
  | i + 1 => cx1_8 (cx_8 so S i)
theorem w_turn {g : Hp} {c so d : Nat} {Q : Int32 → Prop} (hc : c < 8 ∧ c % 2 = 0) (hs : so < 2 ^ 31) (hd : d < 2 ^ 31) : wp (fX11_turned g (nI c) (nI so) (nI d)) Q = Q (nI (cx1 c so d)) := by
  have k5 : ∀ c, c < 8 → c % 2 = 0 → nI c &&& (-5 : Int32) = nI (c &&& 2) := by decide +kernel
  have k3 : ∀ c, c < 8 → c % 2 = 0 → nI c &&& (-3 : Int32) = nI (c &&& 4) := by decide +kernel
  unfold fX11_turned cx1
  by_cases h5 : d = 5
  · rw [wp_t (by rw [h5]; rfl), wp_some, if_pos h5, k5 c hc.1 hc.2]
  · rw [wp_f (by rw [L_5, i_eq hd (by decide)]; exact h5), if_neg h5]
    by_cases h6 : d = 6
    · rw [wp_t (by rw [h6]; rfl), wp_bind, w_ctx hs, wp_some, if_pos h6, L_4, nx_andn, nx_or]
    · rw [wp_f (by rw [L_6, i_eq hd (by decide)]; exact h6), if_neg h6]
      by_cases h7 : d = 7
      · rw [wp_t (by rw [h7]; rfl), wp_some, if_pos h7, k3 c hc.1 hc.2]
      · rw [wp_f (by rw [L_7, i_eq hd (by decide)]; exact h7), if_neg h7]
        by_cases h8 : d = 8
        · rw [wp_t (by rw [h8]; rfl), wp_bind, w_ctx hs, wp_some, if_pos h8, L_2, nx_andn, nx_or]
        · rw [wp_f (by rw [L_8, i_eq hd (by decide)]; exact h8), if_neg h8, wp_some]
section HE
variable {h : Hp} {m : Mem} {w P b : Nat} {H : HD} {Pl : PD}
def WKc (μ : Mem) (w : Nat) (H : HD) : Prop := μ w 6 = nI (hK H) ∧ (∀ i, i < hK H → μ (w + 4) i = nI (hL H i) ∧ μ (w + 5) i = nI (hD H i)) ∧ ∀ l, l < 32 → (bt (μ w 7) l = true ↔ isH H l)
theorem WKc.congr {μ μ' : Mem} (k : WKc μ w H) (e6 : μ' w 6 = μ w 6) (e7 : μ' w 7 = μ w 7) (e4 : μ' (w + 4) = μ (w + 4)) (e5 : μ' (w + 5) = μ (w + 5)) : WKc μ' w H := by
  unfold WKc at k ⊢
  rw [e6, e7, e4, e5]; exact k
theorem isH_push {l x l' : Nat} : isH (push H l x) l' ↔ isH H l' ∨ l' = l := by
  unfold isH push hK hL
  constructor
  · rintro ⟨i, h1, h2⟩
    change i < H.1 + 1 at h1
    change sbf H.2.1 H.1 l i = l' at h2
    by_cases z : i = H.1
    · rw [z, sbf_at] at h2; exact Or.inr h2.symm
    · rw [sbf_ne z] at h2; exact Or.inl ⟨i, by omega, h2⟩
  · rintro (⟨i, h1, h2⟩ | rfl)
    · refine ⟨i, ?_, ?_⟩
      · show i < H.1 + 1; omega
      · show sbf H.2.1 H.1 l i = l'
        rw [sbf_ne (by omega)]; exact h2
    · refine ⟨H.1, ?_, ?_⟩
      · show H.1 < H.1 + 1; omega
      · show sbf H.2.1 H.1 l' H.1 = l'
        rw [sbf_at]
theorem push_W (w : HW H) {l x : Nat} (hl : l < 10) (hx : x < 16) (hn : ¬ isH H l) (hk : hK H < 10) : HW (push H l x) := by
  refine ⟨?_, fun i hi => ?_, fun i j hi hj e => ?_⟩
  · show hK H + 1 ≤ 10; omega
  · change i < hK H + 1 at hi
    show sbf (hL H) (hK H) l i < 10 ∧ sbf (hD H) (hK H) x i < 16
    by_cases z : i = hK H
    · rw [z, sbf_at, sbf_at]; exact ⟨hl, hx⟩
    · rw [sbf_ne z, sbf_ne z]; exact w.2.1 i (by omega)
  · change i < hK H + 1 at hi
    change j < hK H + 1 at hj
    change sbf (hL H) (hK H) l i = sbf (hL H) (hK H) l j at e
    by_cases z : i = hK H
    · by_cases z2 : j = hK H
      · omega
      · rw [z, sbf_at, sbf_ne z2] at e
        exact absurd ⟨j, by omega, e.symm⟩ hn
    · by_cases z2 : j = hK H
      · rw [z2, sbf_at, sbf_ne z] at e
        exact absurd ⟨i, by omega, e⟩ hn
      · rw [sbf_ne z, sbf_ne z2] at e
        exact w.2.2 i j (by omega) (by omega) e
/-- fewer than ten are held, if one is not -/
theorem HW.lt (w : HW H) {l : Nat} (hl : l < 10) (hn : ¬ isH H l) : hK H < 10 := by
  refine Nat.lt_of_le_of_ne w.1 fun e => ?_
  have := pigeon 10 10 (fun i => if i = 10 then l else hL H i) (fun j hj => ?_) (fun i j hi hj e2 => ?_)
  · omega
  · by_cases z : j = 10
    · simp only [z, if_true]; exact hl
    · simp only [z, if_false]; exact (w.2.1 j (by omega)).1
  · by_cases z : i = 10
    · by_cases z2 : j = 10
      · omega
      · rw [if_pos z, if_neg z2] at e2
        exact absurd ⟨j, by omega, e2.symm⟩ hn
    · by_cases z2 : j = 10
      · rw [if_neg z, if_pos z2] at e2
        exact absurd ⟨i, by omega, e2⟩ hn
      · rw [if_neg z, if_neg z2] at e2
        exact w.2.2 i j (by omega) (by omega) e2
theorem c_hold (W : Sh9 h w) (k : WKc m w H) (hw : HW H) {l x : Nat} (hl : l < 10) (hn : ¬ isH H l) : wp (fX9_hold (wI h m) w (nI l) (nI x)) (fun r => ∃ m', r = wI h m' ∧ (∀ a, a ≠ w → a ≠ w + 4 → a ≠ w + 5 → m' a = m a) ∧ (∀ j, j ≠ 6 → j ≠ 7 → m' w j = m w j) ∧ WKc m' w (push H l x)) := by
  have hk := hw.lt hl hn
  obtain ⟨k1, k2, k3⟩ := k
  have hb : ¬ bt (m w 7) l = true := fun z => hn ((k3 l (by omega)).mp z)
  have hw7 : ∀ {v : Int32} {q : Nat}, q ≠ 6 → up m w 6 v w q = m w q := fun hq => by rw [up_a, if_neg hq]
  simp (disch := omega) only [fX9_hold, jX9_hold_62, wp_bind, W.g6, k1, L_10, i_le, wp_f, W.g7, w_has, b01_z]
  rw [wp_t hb]
  simp (disch := omega) only [wp_bind, W.r8, W.g6, k1, W.t8, W.r9, W.t9, up_r, W.p6, L_1, i_add, W.g7, W.p7, wp_some, up_a, if_false]
  refine ⟨_, rfl, fun a h1 h2 h3 => by rw [up_r h1, up_r h1, up_r h3, up_r h2], fun j h1 h2 => by rw [up_a, if_neg h2, up_a, if_neg h1, up_r (by omega), up_r (by omega)], ?_, fun i hi => ?_, fun l' hl' => ?_⟩
  · rw [up_a, if_neg (by decide), up_at]; rfl
  · change i < hK H + 1 at hi
    rw [up_r (by omega), up_r (by omega), up_r (by omega), up_a, up_r (by omega), up_r (by omega), up_a, up_r (by omega)]
    show _ = nI (sbf (hL H) (hK H) l i) ∧ _ = nI (sbf (hD H) (hK H) x i)
    by_cases z : i = hK H
    · rw [if_pos z, if_pos z, z, sbf_at, sbf_at]; exact ⟨rfl, rfl⟩
    · rw [if_neg z, if_neg z, sbf_ne z, sbf_ne z]; exact k2 i (by omega)
  · rw [up_at, b_or, Bool.or_eq_true, b_sh1 (by omega) hl', decide_eq_true_iff, isH_push]
    refine or_congr ?_ Iff.rfl
    first
    | exact k3 l' hl'
    | (rw [show (if (7 : Nat) = 6 then nI (hK H + 1) else m w 7) = m w 7 from rfl]; exact k3 l' hl')
theorem drop1_W (w : HW H) {i : Nat} (hi : i < hK H) : HW (drop1 H i) := by
  refine ⟨?_, fun j hj => ?_, fun j k hj hk e => ?_⟩
  · show hK H - 1 ≤ 10; have := w.1; omega
  · change j < hK H - 1 at hj
    show (if j < i then hL H j else hL H (j + 1)) < 10 ∧ (if j < i then hD H j else hD H (j + 1)) < 16
    by_cases z : j < i
    · rw [if_pos z, if_pos z]; exact w.2.1 j (by omega)
    · rw [if_neg z, if_neg z]; exact w.2.1 (j + 1) (by omega)
  · change j < hK H - 1 at hj
    change k < hK H - 1 at hk
    change (if j < i then hL H j else hL H (j + 1)) = (if k < i then hL H k else hL H (k + 1)) at e
    by_cases z : j < i
    · by_cases z2 : k < i
      · rw [if_pos z, if_pos z2] at e; exact w.2.2 j k (by omega) (by omega) e
      · rw [if_pos z, if_neg z2] at e; have := w.2.2 j (k + 1) (by omega) (by omega) e; omega
    · by_cases z2 : k < i
      · rw [if_neg z, if_pos z2] at e; have := w.2.2 (j + 1) k (by omega) (by omega) e; omega
      · rw [if_neg z, if_neg z2] at e; have := w.2.2 (j + 1) (k + 1) (by omega) (by omega) e; omega
theorem isH_drop (w : HW H) {l l' : Nat} (hl : isH H l) : isH (drop1 H (plc H l)) l' ↔ isH H l' ∧ l' ≠ l := by
  obtain ⟨q1, q2⟩ := plc_ok hl
  constructor
  · rintro ⟨j, h1, h2⟩
    change j < hK H - 1 at h1
    change (if j < plc H l then hL H j else hL H (j + 1)) = l' at h2
    by_cases z : j < plc H l
    · rw [if_pos z] at h2
      exact ⟨⟨j, by omega, h2⟩, fun e => by have := w.2.2 j (plc H l) (by omega) q1 (by rw [h2, q2, e]); omega⟩
    · rw [if_neg z] at h2
      exact ⟨⟨j + 1, by omega, h2⟩, fun e => by have := w.2.2 (j + 1) (plc H l) (by omega) q1 (by rw [h2, q2, e]); omega⟩
  · rintro ⟨⟨i, h1, h2⟩, h3⟩
    have hne : i ≠ plc H l := fun e => h3 (by rw [← h2, e, q2])
    rcases Nat.lt_or_ge i (plc H l) with z | z
    · refine ⟨i, ?_, ?_⟩
      · show i < hK H - 1; omega
      · show (if i < plc H l then hL H i else hL H (i + 1)) = l'
        rw [if_pos z]; exact h2
    · refine ⟨i - 1, ?_, ?_⟩
      · show i - 1 < hK H - 1; omega
      · show (if i - 1 < plc H l then hL H (i - 1) else hL H (i - 1 + 1)) = l'
        rw [if_neg (by omega), show i - 1 + 1 = i by omega]; exact h2
/-- all but one lock, where that is held; nothing where not -/
noncomputable def without (H : HD) (l : Nat) : HD := ci (isH H l) (drop1 H (plc H l)) H
theorem c_letGo (W : Sh9 h w) (k : WKc m w H) (hw : HW H) {l : Nat} (hl : l < 10) : wp (fX9_letGo (wI h m) w (nI l)) (fun r => ∃ m', r = wI h m' ∧ (∀ a, a ≠ w → a ≠ w + 4 → a ≠ w + 5 → m' a = m a) ∧ (∀ j, j ≠ 6 → j ≠ 7 → m' w j = m w j) ∧ WKc m' w (without H l)) := by
  obtain ⟨k1, k2, k3⟩ := k
  have hk10 := hw.1
  generalize hq : ci (isH H l) (plc H l) (hK H) = q
  have q1 : ∀ i, i < hK H → (hL H i = l ↔ i = q) := by
    intro i hi
    by_cases z : isH H l
    · rw [ci_t z] at hq
      obtain ⟨a1, a2⟩ := plc_ok z
      constructor
      · intro e; rw [← hq]; exact (plc_un hw hi e).symm
      · intro e; rw [e, ← hq]; exact a2
    · rw [ci_f z] at hq
      constructor
      · intro e; exact absurd ⟨i, hi, e⟩ z
      · intro e; omega
  have q2 : q ≤ hK H := by
    rw [← hq]
    by_cases z : isH H l
    · rw [ci_t z]; have := (plc_ok z).1; omega
    · rw [ci_f z]; exact Nat.le_refl _
  unfold fX9_letGo
  rw [wp_bind]
  refine wp_mono (Q := fun r => ∃ m', r = (nI (if q < hK H then hK H - 1 else hK H), wI h m') ∧ (∀ a, a ≠ w + 4 → a ≠ w + 5 → m' a = m a) ∧ ∀ j, j < (if q < hK H then hK H - 1 else hK H) → m' (w + 4) j = nI (if j < q then hL H j else hL H (j + 1)) ∧ m' (w + 5) j = nI (if j < q then hD H j else hD H (j + 1))) ?_ ?_
  · refine wp_for (κ := Mem) (fun i c => (nI (if q < i then i - 1 else i), nI i, wI h c)) (hK H) (fun i m' => (∀ a, a ≠ w + 4 → a ≠ w + 5 → m' a = m a) ∧ (∀ j, i ≤ j → m' (w + 4) j = m (w + 4) j ∧ m' (w + 5) j = m (w + 5) j) ∧ ∀ j, j < (if q < i then i - 1 else i) → m' (w + 4) j = nI (if j < q then hL H j else hL H (j + 1)) ∧ m' (w + 5) j = nI (if j < q then hD H j else hD H (j + 1))) (fun i c hi HH => ?_) (fun c HH => ?_) 0 m (by omega) ⟨fun _ _ _ => rfl, fun _ _ => ⟨rfl, rfl⟩, fun j hj => by rw [if_neg (by omega)] at hj; omega⟩ (by omega)
    · obtain ⟨fr, h1, h2⟩ := HH
      have e6 : c w 6 = nI (hK H) := by rw [fr w (by omega) (by omega)]; exact k1
      have e4 : c (w + 4) i = nI (hL H i) := by rw [(h1 i (Nat.le_refl _)).1]; exact (k2 i hi).1
      have e5 : c (w + 5) i = nI (hD H i) := by rw [(h1 i (Nat.le_refl _)).2]; exact (k2 i hi).2
      have hLi := (hw.2.1 i hi).1
      by_cases hiq : i = q
      · have hll := (q1 i hi).mpr hiq
        simp (disch := omega) only [bX9_letGo_4, wp_bind, W.g6, e6, i_le, wp_f, W.r8, W.l8, e4, i_eq, wp_t, jX9_letGo_49, wp_some, lq_l, L_1, i_add]
        refine ⟨c, ?_, fr, fun j hj => h1 j (by omega), fun j hj => ?_⟩
        · rw [if_neg (by omega), if_pos (by omega), Nat.add_sub_cancel]
        · rw [if_pos (by omega)] at hj
          exact h2 j (by rw [if_neg (by omega)]; omega)
      · have hll : ¬ hL H i = l := fun e => hiq ((q1 i hi).mp e)
        have hlf : (if q < i then i - 1 else i) < 10 := by split <;> omega
        generalize hlft : (if q < i then i - 1 else i) = lf at h2 hlf
        simp (disch := omega) only [bX9_letGo_4, wp_bind, W.g6, e6, i_le, wp_f, W.r8, W.l8, e4, i_eq, jX9_letGo_49, W.t8, W.r9, W.l9, up_r, e5, W.t9, wp_some, lq_l, L_1, i_add]
        have nlf : (if q < i + 1 then i + 1 - 1 else i + 1) = lf + 1 := by
          rw [← hlft]
          rcases Nat.lt_or_ge q i with z | z
          · rw [if_pos (by omega), if_pos z]; omega
          · rw [if_neg (by omega), if_neg (by omega)]
        have lfi : lf ≤ i := by rw [← hlft]; split <;> omega
        refine ⟨up (up c (w + 4) lf (nI (hL H i))) (w + 5) lf (nI (hD H i)), ?_, fun a ha hb => by rw [up_r hb, up_r ha]; exact fr a ha hb, fun j hj => ?_, fun j hj => ?_⟩
        · rw [nlf]
        · rw [up_r (by omega), up_a, if_neg (by omega), up_a, if_neg (by omega), up_r (by omega)]
          exact h1 j (by omega)
        · rw [nlf] at hj
          rw [up_r (by omega), up_a, up_a, up_r (by omega)]
          by_cases hjl : j = lf
          · rw [if_pos hjl, if_pos hjl]
            rcases Nat.lt_or_ge q i with z | z
            · rw [if_pos z] at hlft
              rw [if_neg (by omega), if_neg (by omega), show j + 1 = i by omega]
              exact ⟨rfl, rfl⟩
            · rw [if_neg (by omega)] at hlft
              rw [if_pos (by omega), if_pos (by omega), show j = i by omega]
              exact ⟨rfl, rfl⟩
          · rw [if_neg hjl, if_neg hjl]; exact h2 j (by omega)
    · obtain ⟨fr, h1, h2⟩ := HH
      have e6 : c w 6 = nI (hK H) := by rw [fr w (by omega) (by omega)]; exact k1
      simp (disch := omega) only [bX9_letGo_4, wp_bind, W.g6, e6, i_le, wp_t, wp_some, lq_r]
      exact ⟨c, rfl, fr, h2⟩
  · rintro r ⟨m1, rfl, f1, g1⟩
    have e7 : m1 w 7 = m w 7 := by rw [f1 w (by omega) (by omega)]
    simp (disch := omega) only [↓mI_e, wp_bind, W.p6, W.g7, up_a, W.p7, wp_some, L_1]
    refine ⟨_, rfl, fun a h1 h2 h3 => by rw [up_r h1, up_r h1]; exact f1 a h2 h3, fun j h1 h2 => by rw [up_a, if_neg h2, up_a, if_neg h1, f1 w (by omega) (by omega)], ?_⟩
    have hkk : (if q < hK H then hK H - 1 else hK H) = hK (without H l) := by
      unfold without
      by_cases z : isH H l
      · rw [ci_t z] at hq ⊢
        have := (plc_ok z).1
        rw [if_pos (by omega)]; rfl
      · rw [ci_f z] at hq ⊢
        rw [if_neg (by omega)]
    rw [hkk] at g1 ⊢
    refine ⟨?_, fun j hj => ?_, fun l' hl' => ?_⟩
    · rw [up_a, if_neg (by decide), up_at]
    · rw [up_r (by omega), up_r (by omega), up_r (by omega), up_r (by omega), (g1 j hj).1, (g1 j hj).2]
      unfold without at hj ⊢
      by_cases z : isH H l
      · rw [ci_t z] at hq hj ⊢
        rw [← hq]; exact ⟨rfl, rfl⟩
      · rw [ci_f z] at hq hj ⊢
        rw [if_pos (by omega), if_pos (by omega)]; exact ⟨rfl, rfl⟩
    · rw [up_at, b_andm _ _ hl', Bool.and_eq_true, Bool.not_eq_true', ← Bool.not_eq_true, b_sh1 (by omega) hl', decide_eq_true_iff]
      rw [show (if (7 : Nat) = 6 then nI (hK (without H l)) else m1 w 7) = m1 w 7 from rfl, e7, k3 l' hl']
      unfold without
      by_cases z : isH H l
      · rw [ci_t z, isH_drop hw z]
      · rw [ci_f z]
        exact ⟨fun q => q.1, fun q => ⟨q, fun e => z (by rw [← e]; exact q)⟩⟩
theorem c_takenAs (W : Sh9 h w) (k : WKc m w H) (hw : HW H) {l : Nat} (hl : l < 10) (hn : isH H l) : wp (fX9_takenAs (wI h m) w (nI l)) (fun r => r = nI (hD H (plc H l))) := by
  obtain ⟨k1, k2, k3⟩ := k
  have hk10 := hw.1
  obtain ⟨q1, q2⟩ := plc_ok hn
  unfold fX9_takenAs
  rw [wp_bind]
  refine wp_mono (Q := fun r => r = .inr (nI (plc H l))) ?_ ?_
  · refine wp_for (κ := Unit) (fun i _ => nI i) (hK H) (fun i _ => ∀ j, j < i → hL H j ≠ l) (fun i _ hi HH => ?_) (fun _ HH => ?_) 0 () (Nat.zero_le _) (fun j hj => by omega) (by omega)
    · have hLi := (hw.2.1 i hi).1
      by_cases e : hL H i = l
      · simp (disch := omega) only [bX9_takenAs_2, wp_bind, W.g6, k1, i_le, wp_f, W.r8, W.l8, (k2 i hi).1, i_eq, wp_t, wp_some, lq_r]
        rw [plc_un hw hi e]
      · simp (disch := omega) only [bX9_takenAs_2, wp_bind, W.g6, k1, i_le, wp_f, W.r8, W.l8, (k2 i hi).1, i_eq, wp_some, lq_l, L_1, i_add]
        refine ⟨(), by trivial, fun j hj => ?_⟩
        by_cases z : j = i
        · rw [z]; exact e
        · exact HH j (by omega)
    · exact absurd q2 (HH _ q1)
  · rintro r rfl
    show wp ((gR (wI h m) 9 w 9).bind _) _
    simp (disch := omega) only [wp_bind, W.r9, W.l9, (k2 _ q1).2, wp_some]
theorem w_nodeOf (W : WH h w P b) {d l x : Nat} (ek : m (P + 1) l = nI x) (hl : l < 10) (hd : d < 2 ^ 31) {Q : Int32 → Prop} : wp (fX9_nodeOf (wI h m) w (nI l) (nI d)) Q = Q (nI (2 * x + (if d = 1 then 1 else 0))) := by
  have s5 := W.2.2.2.1
  unfold fX9_nodeOf jX9_nodeOf_21
  rw [wp_bind, W.pl, wp_bind, s5.r3, wp_bind, s5.l3 hl, ek, L_2, i_mul]
  by_cases z : d = 1
  · rw [wp_t (by rw [z]; rfl), if_pos z, wp_some, L_1, i_add]
  · rw [wp_f (by rw [L_1, i_eq hd (by decide)]; exact z), if_neg z, wp_some, z_add0, Nat.add_zero]
end HE

/-! kinds of a report, locks of kinds -/
section KND
variable {h : Hp} {m : Mem} {Pl : PD} {P b r : Nat} {D : RD} {S : Nat → Nat} {X : Nat} {M : MO}
/-- the report has a node of the kind -/
def kdR (D : RD) (r t : Nat) : Prop := ∃ i, i < rN D r ∧ rX D r i / 2 = t
theorem c_kindsOf (s7 : Sh7 h b) (L1 : RRc m b D) (w : RW D) (hr : r < rC D) : wp (fX7_kindsOf (wI h m) b (nI r)) (fun K => ∀ t, t < 32 → (bt K t = true ↔ kdR D r t)) := by
  obtain ⟨⟨c1, c2, c3, c4⟩, c5⟩ := L1.2.1 r hr
  obtain ⟨⟨_, _, n1, n2, _⟩, nx⟩ := w.2 r hr
  have h60 := w.1
  unfold fX7_kindsOf
  rw [wp_bind]
  refine wp_mono (Q := fun K => ∀ t, t < 32 → (bt K t = true ↔ ∃ i, i < rN D r ∧ (fun i => rX D r i / 2) i = t)) ?_ (fun _ hr => by rw [wp_some]; exact hr)
  refine wp_for (κ := Int32) (fun i c => (c, nI i)) (rN D r) (fun i c => ∀ t, t < 32 → (bt c t = true ↔ ∃ j, j < i ∧ (fun i => rX D r i / 2) j = t)) (fun i c hi hI => ?_) (fun c hI => ?_) 0 0 (Nat.zero_le _) (fun t _ => by rw [b_0]; exact ⟨fun z => absurd z (by decide), fun ⟨j, z, _⟩ => absurd z (Nat.not_lt_zero _)⟩) (by omega)
  · have x16 := nx i hi
    simp only [bX7_kindsOf_4]
    rw [wp_bind, s7.r4, wp_bind, s7.l4 (by omega), c4, wp_f (by rw [i_le (by omega) (by omega)]; omega), wp_bind, s7.r5, wp_bind, L_17, i_mul, i_add, Nat.mul_comm r 17, s7.l5 (by omega), c5 i hi, wp_bind, wp_some, pk_shrN (by omega) ((1 : Int32) &&& 31) 1 (by decide), wp_bind, wp_some, wp_some, lq_l, nI_1]
    exact ⟨_, rfl, fun t ht => or_1 hI (by show rX D r i / 2 < 32; omega) ht⟩
  · simp only [bX7_kindsOf_4]
    rw [wp_bind, s7.r4, wp_bind, s7.l4 (by omega), c4, wp_t (by rw [i_le (by omega) (by omega)]; omega), wp_some, lq_r]
    exact hI
theorem i_h2 : ∀ n, n < 16 → (nI n / (2 : Int32)) = nI (n / 2) := by decide +kernel
theorem r_kindsOf (F1 : RRr (m 1) D) (w : RW D) (hr : r < rC D) : wp (gX12_kindsOf m (nI r)) (fun K => ∀ t, t < 32 → (bt K t = true ↔ kdR D r t)) := by
  obtain ⟨⟨c1, c2, c3, c4⟩, c5⟩ := F1.2 r hr
  obtain ⟨⟨_, _, n1, n2, _⟩, nx⟩ := w.2 r hr
  have h60 := w.1
  unfold gX12_kindsOf
  rw [wp_bind]
  refine wp_mono (Q := fun K => ∀ t, t < 32 → (bt K t = true ↔ ∃ i, i < rN D r ∧ (fun i => rX D r i / 2) i = t)) ?_ (fun _ hr => by rw [wp_some]; exact hr)
  refine wp_for (κ := Int32) (fun i c => (c, nI i)) (rN D r) (fun i c => ∀ t, t < 32 → (bt c t = true ↔ ∃ j, j < i ∧ (fun i => rX D r i / 2) j = t)) (fun i c hi hI => ?_) (fun c hI => ?_) 0 0 (Nat.zero_le _) (fun t _ => by rw [b_0]; exact ⟨fun z => absurd z (by decide), fun ⟨j, z, _⟩ => absurd z (Nat.not_lt_zero _)⟩) (by omega)
  · have x16 := nx i hi
    simp only [gbX12_kindsOf_4]
    rw [wp_bind, L_3, w_atReport, wp_bind, w_rd (by omega) (by decide), show 273 + 21 * r + 3 = 276 + 21 * r by omega, c4, wp_f (by rw [i_le (by omega) (by omega)]; omega), wp_bind, L_4, i_add, w_atReport, wp_bind, w_rd (by omega) (by decide), show 273 + 21 * r + (4 + i) = 277 + 21 * r + i by omega, c5 i hi, i_h2 _ x16, wp_bind, wp_some, wp_bind, wp_some, wp_some, lq_l, nI_1]
    exact ⟨_, rfl, fun t ht => or_1 hI (by show rX D r i / 2 < 32; omega) ht⟩
  · simp only [gbX12_kindsOf_4]
    rw [wp_bind, L_3, w_atReport, wp_bind, w_rd (by omega) (by decide), show 273 + 21 * r + 3 = 276 + 21 * r by omega, c4, wp_t (by rw [i_le (by omega) (by omega)]; omega), wp_some, lq_r]
    exact hI
theorem c_locksOf {lk ot : Int32} (pc : PC (wI h m) P Pl) (pw : PW Pl) : wp (fX5_locksOfKinds (wI h m) P lk ot) (fun r => ∀ t, t < 32 → (bt r t = true ↔ t < pL Pl ∧ bt lk t = true ∧ bt ot (pk Pl t) = true)) := by
  have s5 : Sh5 h P := pc.1
  have e1 : m P 1 = nI (pL Pl) := pc.2.2.1
  have l10 := pw.2.1
  have k8 := pw.1
  unfold fX5_locksOfKinds
  rw [wp_bind]
  refine wp_mono (Q := fun r => ∀ t, t < 32 → (bt r t = true ↔ t < pL Pl ∧ bt lk t = true ∧ bt ot (pk Pl t) = true)) ?_ (fun _ hr => by rw [wp_some]; exact hr)
  refine wp_for (κ := Int32) (fun i c => (c, nI i)) (pL Pl) (fun i c => ∀ t, t < 32 → (bt c t = true ↔ t < i ∧ bt lk t = true ∧ bt ot (pk Pl t) = true)) (fun i c hi hI => ?_) (fun c hI => ?_) 0 0 (Nat.zero_le _) (fun t _ => by rw [b_0]; exact ⟨fun z => absurd z (by decide), fun z => absurd z.1 (Nat.not_lt_zero _)⟩) (by omega)
  · have kk := pw.2.2.2.1 i hi
    have ek : m (P + 1) i = nI (pk Pl i) := pc.2.2.2.2.1 i hi
    have stay : ¬ (bt lk i = true ∧ bt ot (pk Pl i) = true) → wp (jX5_locksOfKinds_44 P lk ot c (nI i) (wI h m)) (lq (fun s' => ∃ c', s' = (c', nI (i + 1)) ∧ ∀ t, t < 32 → (bt c' t = true ↔ t < i + 1 ∧ bt lk t = true ∧ bt ot (pk Pl t) = true)) (fun r => ∀ t, t < 32 → (bt r t = true ↔ t < pL Pl ∧ bt lk t = true ∧ bt ot (pk Pl t) = true))) := fun hn => by
      unfold jX5_locksOfKinds_44
      rw [wp_bind, wp_some, wp_some, lq_l, nI_1]
      refine ⟨c, rfl, fun t ht => ?_⟩
      rw [hI t ht]
      constructor
      · rintro ⟨q1, q2⟩; exact ⟨by omega, q2⟩
      · rintro ⟨q1, q2⟩
        refine ⟨?_, q2⟩
        rcases Nat.lt_or_ge t i with y | y
        · exact y
        · rw [show t = i by omega] at q2; exact absurd q2 hn
    simp only [bX5_locksOfKinds_5]
    rw [wp_bind, s5.g1, e1, wp_f (by rw [i_le (by omega) (by omega)]; omega), wp_bind, w_has (by omega)]
    by_cases z1 : bt lk i = true
    · rw [b01_t z1, wp_f (by decide), wp_bind, s5.r3, wp_bind, s5.l3 (by omega), ek, wp_bind, w_has (by omega)]
      by_cases z2 : bt ot (pk Pl i) = true
      · rw [b01_t z2, wp_f (by decide), wp_bind, wp_some]
        unfold jX5_locksOfKinds_44
        rw [wp_bind, wp_some, wp_some, lq_l, nI_1]
        refine ⟨_, rfl, fun t ht => ?_⟩
        rw [b_or, Bool.or_eq_true, hI t ht, b_shl1 (by omega) ht, decide_eq_true_iff]
        constructor
        · rintro (⟨q1, q2⟩ | q)
          · exact ⟨by omega, q2⟩
          · rw [q]; exact ⟨by omega, z1, z2⟩
        · rintro ⟨q1, q2⟩
          by_cases y : t = i
          · exact Or.inr y
          · exact Or.inl ⟨by omega, q2⟩
      · rw [b01_n z2, wp_t rfl]
        exact stay fun q => z2 q.2
    · rw [b01_n z1, wp_t rfl]
      exact stay fun q => z1 q.1
  · simp only [bX5_locksOfKinds_5]
    rw [wp_bind, s5.g1, e1, wp_t (by rw [i_le (by omega) (by omega)]; omega), wp_some, lq_r]
    exact hI
theorem r_areOf {lk kd : Int32} (f : PF m Pl) (pw : PW Pl) (hl : ∀ l, l < 32 → bt lk l = true → l < pL Pl) : wp (gX12_areOf m lk kd) (fun y => (y = 1 ∧ ∀ l, l < pL Pl → bt lk l = true → bt kd (pk Pl l) = true) ∨ (y = 0 ∧ ¬ ∀ l, l < pL Pl → bt lk l = true → bt kd (pk Pl l) = true)) := by
  have l10 := pw.2.1
  have k8 := pw.1
  unfold gX12_areOf
  rw [wp_bind]
  refine wp_mono (Q := fun e => (e = .inl () ∧ ∀ l, l < pL Pl → bt lk l = true → bt kd (pk Pl l) = true) ∨ (e = .inr () ∧ ¬ ∀ l, l < pL Pl → bt lk l = true → bt kd (pk Pl l) = true)) ?_ ?_
  · refine wp_for (κ := Unit) (fun i _ => nI i) 10 (fun i _ => ∀ l, l < i → bt lk l = true → bt kd (pk Pl l) = true) (fun i _ hi hI => ?_) (fun _ hI => ?_) 0 () (Nat.zero_le _) (fun l hl => absurd hl (Nat.not_lt_zero _)) (by decide)
    · have stay : (bt lk i = true → bt kd (pk Pl i) = true) → wp (gjX12_areOf_30 lk kd (nI i) m) (lq (fun s' => ∃ c' : Unit, s' = nI (i + 1) ∧ ∀ l, l < i + 1 → bt lk l = true → bt kd (pk Pl l) = true) (fun e => (e = .inl () ∧ ∀ l, l < pL Pl → bt lk l = true → bt kd (pk Pl l) = true) ∨ (e = .inr () ∧ ¬ ∀ l, l < pL Pl → bt lk l = true → bt kd (pk Pl l) = true))) := fun hn => by
        unfold gjX12_areOf_30
        rw [wp_bind, wp_some, wp_some, lq_l, nI_1]
        refine ⟨(), rfl, fun l hl hb => ?_⟩
        by_cases y : l = i
        · rw [y] at hb ⊢; exact hn hb
        · exact hI l (by omega) hb
      simp only [gbX12_areOf_2]
      rw [L_10, wp_f (by rw [i_le (by decide) (by omega)]; omega), wp_bind, w_hasR (by omega)]
      by_cases z1 : bt lk i = true
      · have ip := hl i (by omega) z1
        have kk := pw.2.2.2.1 i ip
        rw [b01_t z1, wp_f (by decide), wp_bind, w_kind f pw ip, wp_bind, w_hasR (by omega)]
        by_cases z2 : bt kd (pk Pl i) = true
        · rw [b01_t z2, wp_f (by decide)]
          exact stay fun _ => z2
        · rw [b01_n z2, wp_t rfl, wp_some, lq_r]
          exact Or.inr ⟨rfl, fun q => z2 (q i ip z1)⟩
      · rw [b01_n z1, wp_t rfl]
        exact stay fun q => absurd q z1
    · simp only [gbX12_areOf_2]
      rw [L_10, wp_t (by rw [i_le (by decide) (by decide)]; omega), wp_some, lq_r]
      exact Or.inl ⟨rfl, fun l hl' => hI l (by omega)⟩
  · rintro e (⟨rfl, q⟩ | ⟨rfl, q⟩)
    · show wp (some (1 : Int32)) _
      rw [wp_some]; exact Or.inl ⟨rfl, q⟩
    · show wp (some (0 : Int32)) _
      rw [wp_some]; exact Or.inr ⟨rfl, q⟩
/-- the locks of a ring are locks of the plan -/
theorem rgt_pl {rg lk : Int32} (pw : PW Pl) (I : MOK Pl X M) (sw : SW Pl S) (h : RGT Pl S X M rg lk) : ∀ l, l < 32 → bt lk l = true → l < pL Pl := by
  obtain ⟨u, K, x, u6, ul, w, bp, bq⟩ := h
  intro l hl hb
  obtain ⟨i, q, i1, i2, i3⟩ := (bq l hl).mp hb
  obtain ⟨_, e, _⟩ := w.2.2.2 i i1
  obtain ⟨ht, q', t1, t2, _⟩ := e
  rw [isTop_un pw I t1 i2] at t2
  obtain ⟨qP, qd, _, _⟩ := isTop_at ht I i2
  have n12 := (pw.2.2.2.2 q qP).2.2
  have v : pV Pl (12 * q + moD M q) := by
    have e1 : (12 * q + moD M q) / 12 = q := by omega
    have e2 : (12 * q + moD M q) % 12 = moD M q := by omega
    unfold pV
    rw [e1, e2]; exact ⟨qP, qd⟩
  have s4 : sdd S M q ≤ 4 := by
    rcases t2 with ⟨h | h, _⟩ | ⟨h, _⟩ <;> omega
  have := (sw _ v).2.1 s4
  rw [← i3]; exact this
end KND

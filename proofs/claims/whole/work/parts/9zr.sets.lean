/-! sets that may be asked for, on both sides -/
section SET
variable {h : Hp} {m : Mem} {Pl : PD} {P X : Nat} {v : Int32}
theorem w_everyone (pc : PC (wI h m) P Pl) (pw : PW Pl) {Q : Int32 → Prop} : wp (fX5_everyone (wI h m) P) Q = Q (nI (2 ^ pP Pl - 1)) := by
  have s5 : Sh5 h P := pc.1
  have e : m P 2 = nI (pP Pl) := pc.2.2.2.1
  have h6 := pw.2.2.1
  have l : 1 * 2 ^ pP Pl < 2 ^ 32 := by rw [Nat.one_mul]; exact Nat.pow_lt_pow_right (by decide) (by omega)
  unfold fX5_everyone
  rw [wp_bind, s5.g2, e, wp_some, L_1, pk_shlN (nI (pP Pl) &&& 31) (pP Pl) (s_l _ (by omega)) l, Nat.one_mul, i_sub (Nat.two_pow_pos _)]
theorem bits_lt (n : Nat) : (∀ t, X.testBit t = true → t < n) ↔ X < 2 ^ n := by
  constructor
  · intro hb
    refine Nat.lt_pow_two_of_testBit X fun i hi => ?_
    cases hh : X.testBit i
    · rfl
    · have := hb i hh; omega
  · intro hX t ht
    refine Nat.lt_of_not_le fun hn => ?_
    rw [Nat.testBit_lt_two_pow (Nat.lt_of_lt_of_le hX (Nat.pow_le_pow_right (by decide) hn))] at ht
    cases ht
theorem p64 (pw : PW Pl) : 2 ^ pP Pl ≤ 64 := by
  have := pw.2.2.1
  have h2 : 2 ^ pP Pl ≤ 2 ^ 6 := Nat.pow_le_pow_right (by decide) this
  exact h2
theorem vst_lt (vX : vst Pl X) : X < 2 ^ pP Pl ∧ 0 < X := by
  refine ⟨(bits_lt _).mp vX.2.1, Nat.pos_of_ne_zero fun z => ?_⟩
  obtain ⟨t, _, h2, _⟩ := vX.2.2
  rw [z, Nat.zero_testBit] at h2
  cases h2
theorem vst_of (pw : PW Pl) (hX : X < 2 ^ pP Pl) (ht : ∃ t, tk Pl X t) : vst Pl X := ⟨by have := p64 pw; omega, (bits_lt _).mpr hX, ht⟩
theorem i_ge {v : Int32} (hv : ¬ v ≤ 0) : ∃ j, 0 < j ∧ j < 2 ^ 31 ∧ v = nI j := by
  obtain ⟨j, j1, j2⟩ := nI_of (fun z : v < 0 => hv (by rw [Int32.lt_iff_toInt_lt] at z; rw [Int32.le_iff_toInt_le]; omega))
  refine ⟨j, Nat.pos_of_ne_zero fun z => hv ?_, j1, j2⟩
  rw [j2, z]; decide
theorem c_isSet (pc : PC (wI h m) P Pl) (pw : PW Pl) : wp (fX5_isSet (wI h m) P v) (fun y => (y = 1 ∧ ∃ X, v = nI X ∧ vst Pl X) ∨ (y = 0 ∧ ¬ ∃ X, v = nI X ∧ vst Pl X)) := by
  have s5 : Sh5 h P := pc.1
  have h64 := p64 pw
  unfold fX5_isSet jX5_isSet_25 jX5_isSet_26
  by_cases hv : v ≤ 0
  · rw [wp_t hv, wp_bind, wp_eq bz_0, wp_some]
    refine Or.inr ⟨rfl, fun ⟨X, e, vX⟩ => ?_⟩
    obtain ⟨x1, x2⟩ := vst_lt vX
    rw [e, z_le (by omega)] at hv
    omega
  · obtain ⟨X, X0, X31, rfl⟩ := i_ge hv
    have un : ∀ {Y}, nI X = nI Y → vst Pl Y → Y = X := fun {Y} e vY => by
      have := vst_lt vY
      rw [i_eq X31 (by omega)] at e
      exact e.symm
    rw [wp_f hv, wp_bind, s5.o, wp_bind, w_everyone pc pw]
    by_cases hx : X < 2 ^ pP Pl
    · rw [wp_f (by rw [i_lt (by omega) (by omega)]; omega), wp_bind, s5.o, wp_bind]
      refine wp_mono (c_tasks pc pw) ?_
      intro r hr
      by_cases ht : ∃ t, tk Pl X t
      · obtain ⟨t, t1, t2, t3⟩ := ht
        have t6 : t < 6 := Nat.lt_of_lt_of_le t1 pw.2.2.1
        rw [wp_f (fun e => ?_), wp_bind, wp_eq bz_1, wp_some]
        · exact Or.inl ⟨rfl, X, rfl, vst_of pw hx ⟨t, t1, t2, t3⟩⟩
        · have := congrArg (fun z => bt z t) e
          simp only [b_and, b_0, bt_nI (show t < 32 by omega), t2, Bool.true_and] at this
          rw [(hr t (by omega)).mpr ⟨t1, t3⟩] at this
          cases this
      · rw [wp_t ?_, wp_bind, wp_eq bz_0, wp_some]
        · exact Or.inr ⟨rfl, fun ⟨Y, e, vY⟩ => ht (by rw [← un e vY]; exact vY.2.2)⟩
        · refine b_ext fun t hts => ?_
          rw [b_and, b_0, bt_nI hts]
          cases h1 : X.testBit t
          · rfl
          · cases h2 : bt r t
            · rfl
            · have := (hr t hts).mp h2
              exact absurd ⟨t, this.1, h1, this.2⟩ ht
    · rw [wp_t (by rw [i_lt (by omega) (by omega)]; omega), wp_bind, wp_eq bz_0, wp_some]
      exact Or.inr ⟨rfl, fun ⟨Y, e, vY⟩ => hx (by rw [← un e vY]; exact (vst_lt vY).1)⟩
theorem r_isSet (f : PF m Pl) (pw : PW Pl) : wp (gX12_isSet m v) (fun y => (y = 1 ∧ ∃ X, v = nI X ∧ vst Pl X) ∨ (y = 0 ∧ ¬ ∃ X, v = nI X ∧ vst Pl X)) := by
  have h64 := p64 pw
  have h6 := pw.2.2.1
  obtain ⟨k, k1, e9, _, _, e4, _⟩ := id f
  unfold gX12_isSet gjX12_isSet_76 gjX12_isSet_77
  rw [wp_bind]
  refine wp_mono (Q := fun r => (r = 1 ∧ ∃ t, t < pP Pl ∧ bt v t = true ∧ pS Pl t = 0) ∨ (r = 0 ∧ ¬ ∃ t, t < pP Pl ∧ bt v t = true ∧ pS Pl t = 0)) ?_ ?_
  · refine wp_for (κ := Int32) (fun i c => (c, nI i)) 6 (fun i c => (c = 1 ∧ ∃ t, t < pP Pl ∧ bt v t = true ∧ pS Pl t = 0) ∨ (c = 0 ∧ ¬ ∃ t, t < i ∧ t < pP Pl ∧ bt v t = true ∧ pS Pl t = 0)) (fun i c hi hI => ?_) (fun c hI => ?_) 0 0 (Nat.zero_le _) (Or.inr ⟨rfl, fun ⟨t, ht, _⟩ => absurd ht (Nat.not_lt_zero _)⟩) (by decide)
    · simp only [gbX12_isSet_4]
      rw [L_6, wp_f (by rw [i_le (by decide) (by omega)]; omega)]
      rcases hI with ⟨rfl, ex⟩ | ⟨rfl, no⟩
      · rw [wp_f (by decide)]
        unfold gjX12_isSet_38 gjX12_isSet_43
        rw [wp_bind, wp_some, wp_some, lq_l, nI_1]
        exact ⟨1, rfl, Or.inl ⟨rfl, ex⟩⟩
      · have stay : ¬ (i < pP Pl ∧ bt v i = true ∧ pS Pl i = 0) → wp (gjX12_isSet_42 v (nI i) m) (lq (fun s' => ∃ c' : Int32, s' = (c', nI (i + 1)) ∧ ((c' = 1 ∧ ∃ t, t < pP Pl ∧ bt v t = true ∧ pS Pl t = 0) ∨ (c' = 0 ∧ ¬ ∃ t, t < i + 1 ∧ t < pP Pl ∧ bt v t = true ∧ pS Pl t = 0))) (fun r => (r = 1 ∧ ∃ t, t < pP Pl ∧ bt v t = true ∧ pS Pl t = 0) ∨ (r = 0 ∧ ¬ ∃ t, t < pP Pl ∧ bt v t = true ∧ pS Pl t = 0))) := fun hn => by
          unfold gjX12_isSet_42 gjX12_isSet_43
          rw [wp_bind, wp_some, wp_some, lq_l, nI_1]
          refine ⟨0, rfl, Or.inr ⟨rfl, fun ⟨t, t1, t2⟩ => ?_⟩⟩
          by_cases z : t = i
          · rw [z] at t2; exact hn t2
          · exact no ⟨t, by omega, t2⟩
        rw [wp_t rfl, wp_bind, w_hasR (by omega)]
        by_cases c1 : bt v i = true
        · rw [b01_t c1, wp_f (by decide), wp_bind, w_isProgram f pw]
          by_cases c2 : i < pP Pl
          · have s2 := (pw.2.2.2.2 i c2).1
            rw [b01_t ((inN_nI (by omega)).mpr c2), wp_f (by decide), wp_bind, w_sortOf f pw c2]
            by_cases c3 : pS Pl i = 0
            · rw [wp_t (by rw [c3]; rfl)]
              unfold gjX12_isSet_38 gjX12_isSet_43
              rw [wp_bind, wp_some, wp_some, lq_l, nI_1]
              exact ⟨1, rfl, Or.inl ⟨rfl, i, c2, c1, c3⟩⟩
            · rw [wp_f (by rw [z_eq (by omega)]; exact c3)]
              exact stay fun z => c3 z.2.2
          · rw [b01_n (fun z => c2 ((inN_nI (by omega)).mp z)), wp_t rfl]
            exact stay fun z => c2 z.1
        · rw [b01_n c1, wp_t rfl]
          exact stay fun z => c1 z.2.1
    · simp only [gbX12_isSet_4]
      rw [L_6, wp_t (by rw [i_le (by decide) (by decide)]; omega), wp_some, lq_r]
      rcases hI with ⟨e, ex⟩ | ⟨e, no⟩
      · exact Or.inl ⟨e, ex⟩
      · exact Or.inr ⟨e, fun ⟨t, t1, t2⟩ => no ⟨t, by omega, t1, t2⟩⟩
  · rintro r (⟨rfl, t, t1, t2, t3⟩ | ⟨rfl, no⟩)
    · rw [wp_f (by decide)]
      by_cases hv : v < 0
      · rw [wp_t hv, wp_bind, wp_eq bz_0, wp_some]
        refine Or.inr ⟨rfl, fun ⟨X, e, vX⟩ => ?_⟩
        have := vst_lt vX
        rw [e, nI_lt0 (by omega)] at hv
        exact hv
      · obtain ⟨X, X31, rfl⟩ := nI_of hv
        have un : ∀ {Y}, nI X = nI Y → vst Pl Y → Y = X := fun {Y} e vY => by
          have := vst_lt vY
          rw [i_eq X31 (by omega)] at e
          exact e.symm
        rw [wp_f hv, wp_bind, e9, w_rd (by omega) (by decide), e4, pk_shrN X31 (nI (pP Pl) &&& 31) (pP Pl) (s_l _ (by omega))]
        have q31 : X / 2 ^ pP Pl < 2 ^ 31 := Nat.lt_of_le_of_lt (Nat.div_le_self _ _) X31
        rw [bt_nI (by omega)] at t2
        by_cases hx : X < 2 ^ pP Pl
        · rw [wp_t (by rw [Nat.div_eq_of_lt hx]; rfl), wp_bind, wp_eq bz_1, wp_some]
          exact Or.inl ⟨rfl, X, rfl, vst_of pw hx ⟨t, t1, t2, t3⟩⟩
        · rw [wp_f (by rw [z_eq q31]; exact fun e => by have := Nat.div_pos (Nat.le_of_not_lt hx) (Nat.two_pow_pos (pP Pl)); omega), wp_bind, wp_eq bz_0, wp_some]
          exact Or.inr ⟨rfl, fun ⟨Y, e, vY⟩ => hx (by rw [← un e vY]; exact (vst_lt vY).1)⟩
    · rw [wp_t rfl, wp_bind, wp_eq bz_0, wp_some]
      refine Or.inr ⟨rfl, fun ⟨X, e, vX⟩ => ?_⟩
      obtain ⟨t, t1, t2, t3⟩ := vX.2.2
      exact no ⟨t, t1, by rw [e, bt_nI (by have := vX.2.1 t t2; omega)]; exact t2, t3⟩
end SET

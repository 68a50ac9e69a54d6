/-! the reference reads a moment -/
/-- where the reference's search is -/
def RXc (m : Mem) (Pl : PD) (S : Nat → Nat) (X : Nat) : Prop := PF m Pl ∧ PW Pl ∧ (∀ q j, q < pP Pl → j < pN Pl q → m 1 (1541 + (12 * q + j)) = nI (S (12 * q + j) / 16) ∧ S (12 * q + j) / 16 ≤ 8 ∧ S (12 * q + j) % 16 < 10 ∧ (S (12 * q + j) / 16 ≤ 4 → m 1 (1613 + (12 * q + j)) = nI (S (12 * q + j) % 16))) ∧ m 0 40 = nI X ∧ ∀ t, X.testBit t = true → t < pP Pl
section RGO
variable {m : Mem} {Pl : PD} {S : Nat → Nat} {X : Nat} {M : MO} {t q p : Nat}
theorem w_isIn0 (R : RXc m Pl S X) (ht : t < 6) {Q : Int32 → Prop} : wp (gX12_isIn0 m (nI t)) Q = Q (b01 (X.testBit t = true)) := by
  unfold gX12_isIn0
  rw [wp_bind, R.2.2.2.1, w_hasR (by omega), bt_nI (by omega), wp_bind, w_bz, wp_some]
/-- the steps done of one that is there -/
theorem RMo.dn (r : RMo Pl X m M) (hp : p < 6) (h : tk Pl X p ∨ moC M p ≠ 0) : m 23 p = nI (moD M p) := by
  rw [(r.1 p hp).1]
  unfold rdn
  rw [ci_t h]
  exact i_sub (a := moD M p + 1) (b := 1) (by omega)
theorem w_isThrough (R : RXc m Pl S X) (I : MOK Pl X M) (r : RMo Pl X m M) (hp : p < pP Pl) (h : tk Pl X p ∨ moC M p ≠ 0) {Q : Int32 → Prop} : wp (gX12_isThrough m (nI p)) Q = Q (b01 (¬ moD M p < pN Pl p)) := by
  have p6 : p < 6 := Nat.lt_of_lt_of_le hp R.2.1.2.2.1
  have nb := (R.2.1.2.2.2.2 p hp).2.2
  have d := (I.1 p).1
  unfold gX12_isThrough gjX12_isThrough_19
  rw [wp_bind, w_rd p6 (by decide), r.dn p6 h, wp_bind, w_stepsOf R.1 R.2.1 hp]
  by_cases z : moD M p = pN Pl p
  · rw [wp_t (by rw [z]), wp_bind, wp_eq bz_1, wp_some, b01_t (by omega)]
  · rw [wp_f (by rw [i_eq (by omega) (by omega)]; exact z), wp_bind, wp_eq bz_0, wp_some, b01_n (by omega)]
theorem r_goesOn (R : RXc m Pl S X) (I : MOK Pl X M) (r : RMo Pl X m M) (ht : tk Pl X t) : wp (gX12_goesOn m (nI t)) (fun y => (∃ q, isTop Pl X M t q ∧ y = nI q) ∨ (¬ moD M t < pN Pl t ∧ y = mI)) := by
  have pw := R.2.1
  have P6 := pw.2.2.1
  have t6 : t < 6 := Nat.lt_of_lt_of_le ht.1 P6
  let OKy : Int32 → Nat → Nat → Int32 → Prop := fun y0 s i y => (∃ q, q < 6 ∧ act Pl X M q t ∧ y = nI q ∧ ∀ r, act Pl X M r t → (pS Pl r < s ∨ (pS Pl r = s ∧ r < i)) → pS Pl r ≤ pS Pl q) ∨ ((∀ r, act Pl X M r t → ¬ (pS Pl r < s ∨ (pS Pl r = s ∧ r < i))) ∧ y = y0)
  have inner : ∀ y0 s y, 1 ≤ s → s ≤ 2 → OKy y0 s 0 y → wp (lp (gbX12_goesOn_24 (nI t) (nI s) m) FU (y, (0 : Int32))) (OKy y0 (s + 1) 0) := by
    intro y0 s y s1 s2 hy
    refine wp_for (κ := Int32) (fun i k => (k, nI i)) 6 (fun i k => OKy y0 s i k) (fun i k hi hI => ?_) (fun k hI => ?_) 0 y (Nat.zero_le _) hy (by decide)
    · have stay : ¬ (act Pl X M i t ∧ pS Pl i = s) → wp (gjX12_goesOn_83 (nI t) k (nI s) (nI i) m) (lq (fun s' => ∃ c', s' = (c', nI (i + 1)) ∧ OKy y0 s (i + 1) c') (OKy y0 (s + 1) 0)) := by
        intro hno
        unfold gjX12_goesOn_83
        rw [wp_bind, wp_some, wp_some, lq_l, L_1, i_add]
        refine ⟨k, rfl, ?_⟩
        rcases hI with ⟨q, q6, qa, e, f⟩ | ⟨f, e⟩
        · refine Or.inl ⟨q, q6, qa, e, fun r hr hc => f r hr ?_⟩
          rcases hc with z | ⟨z1, z2⟩
          · exact Or.inl z
          · by_cases y : r = i
            · rw [y] at hr z1; exact absurd ⟨hr, z1⟩ hno
            · exact Or.inr ⟨z1, by omega⟩
        · refine Or.inr ⟨fun r hr hc => f r hr ?_, e⟩
          rcases hc with z | ⟨z1, z2⟩
          · exact Or.inl z
          · by_cases y : r = i
            · rw [y] at hr z1; exact absurd ⟨hr, z1⟩ hno
            · exact Or.inr ⟨z1, by omega⟩
      simp only [gbX12_goesOn_24]
      rw [L_6, wp_f (by rw [i_le (by decide) (by omega)]; omega), wp_bind, w_isIn0 R hi]
      by_cases c1 : X.testBit i = true
      · have iP := R.2.2.2.2 i c1
        have so := (pw.2.2.2.2 i iP).1
        rw [b01_t c1, wp_f (by decide), wp_bind, w_sortOf R.1 pw iP]
        by_cases c2 : pS Pl i = s
        · have ci' : cr Pl X i := ⟨iP, c1, by omega⟩
          have nt : ¬ tk Pl X i := fun z => tk_cr z ci'
          rw [wp_t (by rw [c2]), wp_bind, w_rd hi (by decide), (r.1 i hi).2]
          unfold rwh
          rw [ci_f nt]
          by_cases c3 : moC M i = t + 1
          · have c0 : moC M i ≠ 0 := by omega
            rw [wp_t (by rw [c3]; exact i_sub (a := t + 1) (b := 1) (by omega)), wp_bind, w_rd hi (by decide), r.dn hi (Or.inr c0)]
            have d := (I.1 i).1
            have nb := (pw.2.2.2.2 i iP).2.2
            rw [wp_f (by rw [show (0 : Int32) = nI 0 from rfl, i_lt (by omega) (by decide)]; omega), wp_bind, w_isThrough R I r iP (Or.inr c0)]
            by_cases c4 : moD M i < pN Pl i
            · rw [b01_n (fun z => z c4), wp_t rfl]
              unfold gjX12_goesOn_83
              rw [wp_bind, wp_some, wp_some, lq_l, L_1, i_add]
              have ai : act Pl X M i t := ⟨ci', c3, c4⟩
              refine ⟨nI i, rfl, Or.inl ⟨i, hi, ai, rfl, fun r hr hc => by rcases hc with z | ⟨z, _⟩ <;> omega⟩⟩
            · rw [b01_t c4, wp_f (by decide)]
              exact stay (fun z => c4 z.1.2.2)
          · have m8 : moC M i < 8 := by
              by_cases z : moC M i = 0
              · omega
              · have := (I.2.1 i z).2.1; omega
            rw [wp_f (fun e => c3 (by
              by_cases z : moC M i = 0
              · rw [z] at e
                have e' : (mI : Int32) = nI t := e
                rw [m_eq' (by omega)] at e'
                exact e'.elim
              · rw [show (nI (moC M i) - 1 : Int32) = nI (moC M i - 1) from i_sub (a := moC M i) (b := 1) (by omega), i_eq (by omega) (by omega)] at e
                omega))]
            exact stay (fun z => c3 z.1.2.1)
        · rw [wp_f (by rw [i_eq (by omega) (by omega)]; exact c2)]
          exact stay (fun z => c2 z.2)
      · rw [b01_n c1, wp_t rfl]
        exact stay (fun z => c1 z.1.1.2.1)
    · simp only [gbX12_goesOn_24]
      rw [L_6, wp_t (by rw [i_le (by decide) (by decide)]; omega), wp_some, lq_r]
      rcases hI with ⟨q, q6, qa, e, f⟩ | ⟨f, e⟩
      · exact Or.inl ⟨q, q6, qa, e, fun r hr hc => f r hr (by have := hr.1.1; omega)⟩
      · exact Or.inr ⟨fun r hr hc => f r hr (by have := hr.1.1; omega), e⟩
  have outer : ∀ y0 : Int32, wp (gjX12_goesOn_13 (nI t) y0 m) (OKy y0 3 0) := by
    intro y0
    unfold gjX12_goesOn_13
    rw [wp_bind]
    refine wp_mono (Q := OKy y0 3 0) ?_ (fun r hr => by rw [wp_some]; exact hr)
    refine wp_for (κ := Int32) (fun i k => (k, nI i)) 3 (fun i k => 1 ≤ i ∧ OKy y0 i 0 k) (fun i k hi hI => ?_) (fun k hI => ?_) 1 y0 (by decide) ⟨Nat.le_refl _, Or.inr ⟨fun r hr hc => by have := hr.1.2.2; omega, rfl⟩⟩ (by decide)
    · simp only [gbX12_goesOn_16]
      rw [L_2, wp_f (by rw [i_lt (by decide) (by omega)]; omega), wp_bind]
      refine wp_mono (inner y0 i k hI.1 (by omega) hI.2) (fun y hy => ?_)
      rw [wp_bind, wp_some, wp_some, lq_l, L_1, i_add]
      exact ⟨y, rfl, by omega, hy⟩
    · simp only [gbX12_goesOn_16]
      rw [wp_t (by decide), wp_some, lq_r]
      exact hI.2
  unfold gX12_goesOn
  rw [wp_bind, w_isThrough R I r ht.1 (Or.inl ht)]
  have s3 : ∀ r, act Pl X M r t → pS Pl r < 3 := fun r hr => by have := (pw.2.2.2.2 r hr.1.1).1; omega
  by_cases z : moD M t < pN Pl t
  · rw [b01_n (fun y => y z), wp_t rfl]
    refine wp_mono (outer (nI t)) (fun y hy => Or.inl ?_)
    rcases hy with ⟨q, q6, qa, e, f⟩ | ⟨f, e⟩
    · have sq := s3 q qa
      have nz := qa.1.2.2
      refine ⟨q, ⟨z, ?_⟩, e⟩
      by_cases y2 : pS Pl q = 2
      · exact Or.inl ⟨qa, y2⟩
      · exact Or.inr (Or.inl ⟨qa, by omega, fun r hr => by have := f r hr (Or.inl (s3 r hr)); omega⟩)
    · exact ⟨t, ⟨z, Or.inr (Or.inr ⟨rfl, fun r hr => f r hr (Or.inl (s3 r hr))⟩)⟩, e⟩
  · rw [b01_t z, wp_f (by decide)]
    refine wp_mono (outer (-1)) (fun y hy => Or.inr ⟨z, ?_⟩)
    rcases hy with ⟨q, q6, qa, e, f⟩ | ⟨f, e⟩
    · exact absurd qa (I.2.2.2.2.2.1 t q ht z)
    · exact e
end RGO

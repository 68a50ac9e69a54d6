/-! the reference lays who waits for what, and on whom -/
section RLW
variable {m m' : Mem} {Pl : PD} {S : Nat → Nat} {X : Nat} {M : MO}
theorem RXc.fr (R : RXc m Pl S X) (h9 : m' 0 9 = m 0 9) (h40 : m' 0 40 = m 0 40) (hs : ∀ o, 0 < o → o < 8 → m' o = m o) : RXc m' Pl S X := by
  obtain ⟨⟨k, k1, a1, a2, a3, a4, a5, a6⟩, pw, st, e, hb⟩ := R
  refine ⟨⟨k, k1, by rw [h9]; exact a1, ?_, ?_, ?_, ?_, ?_⟩, pw, ?_, by rw [h40]; exact e, hb⟩
  · rw [hs 2 (by decide) (by decide)]; exact a2
  · rw [hs 3 (by decide) (by decide)]; exact a3
  · rw [hs 4 (by decide) (by decide)]; exact a4
  · rw [hs 5 (by decide) (by decide)]; exact a5
  · rw [hs 6 (by decide) (by decide), hs 7 (by decide) (by decide)]; exact a6
  · rw [hs 1 (by decide) (by decide)]; exact st
theorem RXc.f2 (R : RXc m Pl S X) (hs : ∀ o, o < 8 → m' o = m o) : RXc m' Pl S X := R.fr (by rw [hs 0 (by decide)]) (by rw [hs 0 (by decide)]) (fun o _ h => hs o h)
theorem RMo.fr (r : RMo Pl X m M) (hs : ∀ o, 23 ≤ o → o ≤ 26 → m' o = m o) : RMo Pl X m' M := by
  obtain ⟨r1, r2⟩ := r
  refine ⟨?_, ?_⟩
  · rw [hs 23 (by decide) (by decide), hs 24 (by decide) (by decide)]; exact r1
  · rw [hs 25 (by decide) (by decide), hs 26 (by decide) (by decide)]; exact r2
theorem rmo_wh (I : MOK Pl X M) (r : RMo Pl X m M) {p : Nat} (hp : p < 6) (h : tk Pl X p ∨ moC M p ≠ 0) : m 24 p = nI (prc M p) := by
  rw [(r.1 p hp).2]
  unfold rwh prc
  by_cases z : tk Pl X p
  · rw [ci_t z, if_pos (tk_c0 I z)]
    exact i_sub (a := p + 1) (b := 1) (by omega)
  · have c0 := h.resolve_left z
    rw [ci_f z, if_neg c0]
    exact i_sub (a := moC M p) (b := 1) (by omega)
theorem r_layWaits (R : RXc m Pl S X) (I : MOK Pl X M) (r : RMo Pl X m M) : wp (gX12_layWaits m) (fun m' => (∀ o, o ≠ 32 → o ≠ 33 → m' o = m o) ∧ ∀ t, t < 6 → LW6 Pl S X M m' 25 t) := by
  have pw := R.2.1
  have p6 := pw.2.2.1
  unfold gX12_layWaits
  rw [wp_bind]
  refine wp_mono (Q := fun m' => (∀ o, o ≠ 32 → o ≠ 33 → m' o = m o) ∧ ∀ t, t < 6 → LW6 Pl S X M m' 25 t) ?_ (fun _ hr => by rw [wp_some]; exact hr)
  refine wp_for (κ := Mem) (fun i k => (nI i, k)) 6 (fun i k => (∀ o, o ≠ 32 → o ≠ 33 → k o = m o) ∧ ∀ t, t < i → LW6 Pl S X M k 25 t) (fun i k hi hI => ?_) (fun k hI => ?_) 0 m (Nat.zero_le _) ⟨fun _ _ _ => rfl, fun t ht => absurd ht (Nat.not_lt_zero _)⟩ (by decide)
  · obtain ⟨k1, k2⟩ := hI
    -- the ends of a step
    have fin : ∀ c : Mem, (∀ o, o ≠ 32 → o ≠ 33 → c o = m o) → (∀ t, t ≠ i → c 32 t = k 32 t ∧ c 33 t = k 33 t) → LW6 Pl S X M c 25 i → wp (gjX12_layWaits_133 (nI i) c) (lq (fun s' => ∃ c' : Mem, s' = (nI (i + 1), c') ∧ (∀ o, o ≠ 32 → o ≠ 33 → c' o = m o) ∧ ∀ t, t < i + 1 → LW6 Pl S X M c' 25 t) (fun m' => (∀ o, o ≠ 32 → o ≠ 33 → m' o = m o) ∧ ∀ t, t < 6 → LW6 Pl S X M m' 25 t)) := by
      intro c c1 c2 c3
      unfold gjX12_layWaits_133
      rw [wp_bind, wp_some, wp_some, lq_l, nI_1]
      refine ⟨c, rfl, c1, fun t ht => ?_⟩
      by_cases z : t = i
      · rw [z]; exact c3
      · have := k2 t (by omega)
        unfold LW6 at this ⊢
        rw [show 25 + 7 = 32 from rfl, show 25 + 8 = 33 from rfl] at *
        rw [(c2 t z).1, (c2 t z).2]; exact this
    let c0 : Mem := up (up k 32 i mI) 33 i 0
    have c0f : ∀ o, o ≠ 32 → o ≠ 33 → c0 o = m o := fun o h1 h2 => by
      show up (up k 32 i mI) 33 i 0 o = m o
      rw [up_r h2, up_r h1]; exact k1 o h1 h2
    have c032 : c0 32 i = mI := by show up (up k 32 i mI) 33 i 0 32 i = mI; rw [up_r (by decide), up_at]
    have c033 : c0 33 i = 0 := by show up (up k 32 i mI) 33 i 0 33 i = 0; rw [up_at]
    have c0t : ∀ t, t ≠ i → c0 32 t = k 32 t ∧ c0 33 t = k 33 t := fun t ht => by
      show up (up k 32 i mI) 33 i 0 32 t = _ ∧ up (up k 32 i mI) 33 i 0 33 t = _
      rw [up_r (show (32 : Nat) ≠ 33 by decide), up_a, if_neg ht, up_a, if_neg ht, up_r (by decide)]; exact ⟨rfl, rfl⟩
    have R0 : RXc c0 Pl S X := R.f2 fun o ho => c0f o (by omega) (by omega)
    have r0 : RMo Pl X c0 M := r.fr fun o h1 h2 => c0f o (by omega) (by omega)
    have none : (∀ u, ¬ wEd Pl S X M i u) → wp (gjX12_layWaits_133 (nI i) c0) (lq (fun s' => ∃ c' : Mem, s' = (nI (i + 1), c') ∧ (∀ o, o ≠ 32 → o ≠ 33 → c' o = m o) ∧ ∀ t, t < i + 1 → LW6 Pl S X M c' 25 t) (fun m' => (∀ o, o ≠ 32 → o ≠ 33 → m' o = m o) ∧ ∀ t, t < 6 → LW6 Pl S X M m' 25 t)) := fun hn => by
      refine fin c0 c0f c0t ⟨Or.inr ⟨hn, c032⟩, fun u hu => ?_⟩
      show bt (c0 33 i) u = true ↔ _
      rw [c033, b_0]; exact ⟨fun z => absurd z (by decide), fun z => absurd z (hn u)⟩
    simp only [gbX12_layWaits_2]
    rw [L_6, wp_f (by rw [i_le (by decide) (by omega)]; omega), wp_bind, w_wr hi (by decide), wp_bind, w_wr hi (by decide), wp_bind]
    show wp (gX12_isTask c0 (nI i)) _
    refine wp_mono (r_isTask R0 hi) ?_
    rintro y (⟨rfl, ht⟩ | ⟨rfl, ht⟩)
    · rw [wp_f (by decide), wp_bind]
      refine wp_mono (r_goesOn R0 I r0 ht) ?_
      rintro y (⟨q, hq, rfl⟩ | ⟨hq, rfl⟩)
      · obtain ⟨qP, qd, qp, qh⟩ := isTop_at ht I hq
        show wp (gjX12_layWaits_39 (nI i) (nI q) c0) _
        unfold gjX12_layWaits_39
        rw [wp_f (by rw [nI_lt0 (by omega)]; exact id), wp_bind]
        refine wp_mono (r_isWaiting R0 I r0 qP qd qh) ?_
        rintro y (⟨rfl, hw⟩ | ⟨rfl, hw⟩)
        · have s4 : sdd S M q ≤ 4 := by
            rcases hw with ⟨h | h, _⟩ | ⟨h, _⟩ <;> omega
          have s10 : sll S M q < 10 := (R.2.2.1 q (moD M q) qP qd).2.2.1
          rw [wp_f (by decide), wp_bind, w_rd (by omega) (by decide), r0.dn (by omega) qh, wp_bind, R0.lk qP qd s4, wp_bind, w_wr hi (by decide), wp_bind]
          generalize hl : sll S M q = l at *
          -- who has the lock
          refine wp_mono (Q := fun c => (∀ o, o ≠ 33 → c o = up c0 32 i (nI l) o) ∧ (∀ t, t ≠ i → c 33 t = c0 33 t) ∧ ∀ u, u < 32 → (bt (c 33 i) u = true ↔ ∃ r, r < 6 ∧ (moW M l).testBit r = true ∧ prc M r = u)) ?_ ?_
          · refine wp_for (κ := Mem) (fun v c => (nI v, c)) 6 (fun v c => (∀ o, o ≠ 33 → c o = up c0 32 i (nI l) o) ∧ (∀ t, t ≠ i → c 33 t = c0 33 t) ∧ ∀ u, u < 32 → (bt (c 33 i) u = true ↔ ∃ r, r < v ∧ (moW M l).testBit r = true ∧ prc M r = u)) (fun v c hv hJ => ?_) (fun c hJ => ?_) 0 (up c0 32 i (nI l)) (Nat.zero_le _) ⟨fun _ _ => rfl, fun t _ => by rw [up_r (by decide)], fun u _ => ?_⟩ (by decide)
            · obtain ⟨j1, j2, j3⟩ := hJ
              have rc : RMo Pl X c M := r0.fr fun o h1 h2 => by rw [j1 o (by omega), up_r (by omega)]
              have skip : ¬ (moW M l).testBit v = true → wp (gjX12_layWaits_127 (nI i) (nI l) (nI v) c) (lq (fun s' => ∃ c' : Mem, s' = (nI (v + 1), c') ∧ (∀ o, o ≠ 33 → c' o = up c0 32 i (nI l) o) ∧ (∀ t, t ≠ i → c' 33 t = c0 33 t) ∧ ∀ u, u < 32 → (bt (c' 33 i) u = true ↔ ∃ r, r < v + 1 ∧ (moW M l).testBit r = true ∧ prc M r = u)) (fun c => (∀ o, o ≠ 33 → c o = up c0 32 i (nI l) o) ∧ (∀ t, t ≠ i → c 33 t = c0 33 t) ∧ ∀ u, u < 32 → (bt (c 33 i) u = true ↔ ∃ r, r < 6 ∧ (moW M l).testBit r = true ∧ prc M r = u))) := fun hb => by
                unfold gjX12_layWaits_127
                rw [wp_bind, wp_some, wp_some, lq_l, nI_1]
                refine ⟨c, rfl, j1, j2, fun u hu => ?_⟩
                rw [j3 u hu]
                constructor
                · rintro ⟨x, x1, x2, x3⟩; exact ⟨x, by omega, x2, x3⟩
                · rintro ⟨x, x1, x2, x3⟩
                  by_cases z : x = v
                  · rw [z] at x2; exact absurd x2 hb
                  · exact ⟨x, by omega, x2, x3⟩
              have put : (moW M l).testBit v = true → wp (gjX12_layWaits_109 (nI i) (nI l) (nI v) c) (lq (fun s' => ∃ c' : Mem, s' = (nI (v + 1), c') ∧ (∀ o, o ≠ 33 → c' o = up c0 32 i (nI l) o) ∧ (∀ t, t ≠ i → c' 33 t = c0 33 t) ∧ ∀ u, u < 32 → (bt (c' 33 i) u = true ↔ ∃ r, r < v + 1 ∧ (moW M l).testBit r = true ∧ prc M r = u)) (fun c => (∀ o, o ≠ 33 → c o = up c0 32 i (nI l) o) ∧ (∀ t, t ≠ i → c 33 t = c0 33 t) ∧ ∀ u, u < 32 → (bt (c 33 i) u = true ↔ ∃ r, r < 6 ∧ (moW M l).testBit r = true ∧ prc M r = u))) := fun hb => by
                obtain ⟨vP, vh⟩ := I.2.2.2.2.1 l v hb
                have p32 : prc M v < 32 := by
                  unfold prc
                  by_cases z : moC M v = 0
                  · rw [if_pos z]; omega
                  · rw [if_neg z]; have := (I.2.1 v z).2.1; omega
                unfold gjX12_layWaits_109 gjX12_layWaits_127
                rw [wp_bind, w_rd hi (by decide), wp_bind, w_rd hv (by decide), rmo_wh I rc hv vh, wp_bind, w_wr hi (by decide), wp_bind, wp_some, wp_some, lq_l, nI_1]
                refine ⟨_, rfl, fun o ho => by rw [up_r ho]; exact j1 o ho, fun t ht => by rw [up_a, if_neg ht]; exact j2 t ht, fun u hu => ?_⟩
                rw [up_at, b_or, Bool.or_eq_true, j3 u hu, b_shl1 p32 hu, decide_eq_true_iff]
                constructor
                · rintro (⟨x, x1, x2, x3⟩ | e)
                  · exact ⟨x, by omega, x2, x3⟩
                  · exact ⟨v, by omega, hb, e.symm⟩
                · rintro ⟨x, x1, x2, x3⟩
                  by_cases z : x = v
                  · rw [z] at x3; exact Or.inr x3.symm
                  · exact Or.inl ⟨x, by omega, x2, x3⟩
              simp only [gbX12_layWaits_77]
              rw [L_6, wp_f (by rw [i_le (by decide) (by omega)]; omega), wp_bind, w_rd s10 (by decide)]
              rcases rc.ho I s10 with ⟨z, e1, e2⟩ | ⟨x, x6, z, e, e1, e2⟩
              · rw [e1, wp_f (by rw [m_eq' (by omega)]; exact id), wp_bind, w_rd s10 (by decide), e2, wp_bind, w_hasR (by omega), bt_nI (by omega)]
                by_cases hb : (moW M l).testBit v = true
                · rw [b01_t hb, wp_f (by decide)]; exact put hb
                · rw [b01_n hb, wp_t rfl]; exact skip hb
              · rw [e1]
                by_cases xv : x = v
                · rw [wp_t (by rw [xv])]
                  exact put (by rw [e, Nat.testBit_two_pow]; exact decide_eq_true xv)
                · rw [wp_f (by rw [i_eq (by omega) (by omega)]; exact xv), wp_bind, w_rd s10 (by decide), e2, wp_bind, w_hasR (by omega), b_0, b01_n (by decide), wp_t rfl]
                  exact skip (by rw [e, Nat.testBit_two_pow]; exact fun q => xv (of_decide_eq_true q))
            · simp only [gbX12_layWaits_77]
              rw [L_6, wp_t (by rw [i_le (by decide) (by omega)]; omega), wp_some, lq_r]
              exact hJ
            · rw [up_r (by decide), c033, b_0]; exact ⟨fun z => absurd z (by decide), fun ⟨x, z, _⟩ => absurd z (Nat.not_lt_zero _)⟩
          · rintro c ⟨j1, j2, j3⟩
            refine fin c (fun o h1 h2 => by rw [j1 o h2, up_r h1]; exact c0f o h1 h2) (fun t ht => ?_) ⟨Or.inl ⟨q, ht, hq, hw, ?_⟩, fun u hu => ?_⟩
            · rw [j1 32 (by decide), up_a, if_neg ht, j2 t ht]; exact c0t t ht
            · show c 32 i = _
              rw [j1 32 (by decide), up_at, hl]
            · show bt (c 33 i) u = true ↔ _
              rw [j3 u hu]
              constructor
              · rintro ⟨x, x1, x2, x3⟩
                exact ⟨ht, q, hq, hw, x, (I.2.2.2.2.1 l x x2).1, by rw [hl]; exact x2, x3⟩
              · rintro ⟨_, q', hq', _, x, x1, x2, x3⟩
                rw [isTop_un pw I hq' hq, hl] at x2
                exact ⟨x, by omega, x2, x3⟩
        · rw [wp_t rfl]
          refine none fun u hu => ?_
          obtain ⟨_, q', hq', hw', _⟩ := hu
          rw [isTop_un pw I hq' hq] at hw'
          exact hw hw'
      · show wp (gjX12_layWaits_39 (nI i) mI c0) _
        unfold gjX12_layWaits_39
        rw [wp_t (by rw [m_lt0]; trivial)]
        exact none fun u ⟨_, q', hq', _⟩ => hq hq'.1
    · rw [wp_t rfl]
      show wp (gjX12_layWaits_39 (nI i) mI c0) _
      unfold gjX12_layWaits_39
      rw [wp_t (by rw [m_lt0]; trivial)]
      exact none fun u hu => ht hu.1
  · simp only [gbX12_layWaits_2]
    rw [L_6, wp_t (by rw [i_le (by decide) (by omega)]; omega), wp_some, lq_r]
    exact hI
end RLW

section RMW
variable {m m' : Mem} {Pl : PD} {S : Nat → Nat} {X : Nat} {M M' : MO} {q l : Nat}
theorem r_doMove (R : RXc m Pl S X) (I : MOK Pl X M) (r : RMo Pl X m M) (hq : q < pP Pl) (hd : moD M q < pN Pl q) (hh : tk Pl X q ∨ moC M q ≠ 0) (hw : ¬ wt S M q) : wp (gX12_doMove m (nI q)) (fun m' => (∀ o, o ≠ 23 → o ≠ 25 → o ≠ 26 → m' o = m o) ∧ RMo Pl X m' (doM S M q)) := by
  have q6 : q < 6 := Nat.lt_of_lt_of_le hq R.2.1.2.2.1
  obtain ⟨_, s1, s2, _⟩ := R.2.2.1 q (moD M q) hq hd
  have s1 : sdd S M q ≤ 8 := s1
  have s2 : sll S M q < 10 := s2
  have W64 := (I.2.2.2.1 (sll S M q)).2.1
  have p64 : 2 ^ q < 64 := Nat.pow_lt_pow_right (m := q) (n := 6) (by decide) q6
  have lkx : ∃ x : Int32, (sdd S M q ≤ 4 → x = nI (sll S M q)) ∧ ∀ {Q : Int32 → Prop}, wp (gX12_lockOf m (nI q) (nI (moD M q))) Q = Q x := by
    have nb := (R.2.1.2.2.2.2 q hq).2.2
    exact ⟨_, fun h4 => (R.2.2.1 q (moD M q) hq hd).2.2.2 h4, fun {Q} => w_lockOf q6 (by omega) rfl⟩
  obtain ⟨x, hx, lk⟩ := lkx
  have hD : moD (doM S M q) = sbf (moD M) q (moD M q + 1) := doM_D
  have hC : moC (doM S M q) = moC M := doM_C
  have hA : ∀ l', l' ≠ sll S M q → moA (doM S M q) l' = moA M l' ∧ moW (doM S M q) l' = moW M l' := fun l' hl' => by
    unfold doM
    split
    · exact ⟨sbf_ne hl', sbf_ne hl'⟩
    · split
      · exact ⟨rfl, sbf_ne hl'⟩
      · split
        · exact ⟨sbf_ne hl', sbf_ne hl'⟩
        · exact ⟨rfl, rfl⟩
  -- the last write
  have fin : ∀ k : Mem, k 23 = m 23 → (∀ o, o ≠ 25 → o ≠ 26 → k o = m o) → (∀ l', l' ≠ sll S M q → k 25 l' = m 25 l' ∧ k 26 l' = m 26 l') → (k 25 (sll S M q) = nI (rho (doM S M q) (sll S M q)) - 1 ∧ k 26 (sll S M q) = nI (rsr (doM S M q) (sll S M q))) → wp (gjX12_doMove_125 (nI q) k) (fun m' => (∀ o, o ≠ 23 → o ≠ 25 → o ≠ 26 → m' o = m o) ∧ RMo Pl X m' (doM S M q)) := by
    intro k k23 ko kl ke
    unfold gjX12_doMove_125
    rw [wp_bind, w_rd q6 (by decide), k23, r.dn q6 hh, L_1, i_add, wp_bind, w_wr q6 (by decide), wp_some]
    refine ⟨fun o h1 h2 h3 => by rw [up_r h1]; exact ko o h2 h3, rmo_new r hD hC hA hh (fun p hp => ?_) ?_ (fun l' hl' => ?_) ?_⟩
    · rw [up_a]
      by_cases z : p = q
      · rw [if_pos z, if_pos z]
      · rw [if_neg z, if_neg z, k23]
    · rw [up_r (by decide)]; exact ko 24 (by decide) (by decide)
    · rw [up_r (by decide), up_r (by decide)]; exact kl l' hl'
    · rw [up_r (by decide), up_r (by decide)]; exact ke
  have skipE : ¬ ((sdd S M q = 0 ∨ sdd S M q = 1 ∨ sdd S M q = 3) ∧ moW M (sll S M q) = 0) → sdd S M q ≠ 2 → ¬ (sdd S M q = 4 ∧ (moW M (sll S M q)).testBit q = true) → rho (doM S M q) (sll S M q) = rho M (sll S M q) ∧ rsr (doM S M q) (sll S M q) = rsr M (sll S M q) := by
    intro h1 h2 h4
    unfold doM
    rw [if_neg h1, if_neg h2, if_neg h4]
    exact ⟨rfl, rfl⟩
  have skip : ∀ y, ¬ ((sdd S M q = 0 ∨ sdd S M q = 1 ∨ sdd S M q = 3) ∧ moW M (sll S M q) = 0) → sdd S M q ≠ 2 → sdd S M q ≠ 4 → wp (gjX12_doMove_63 (nI q) (nI (sdd S M q)) y m) (fun m' => (∀ o, o ≠ 23 → o ≠ 25 → o ≠ 26 → m' o = m o) ∧ RMo Pl X m' (doM S M q)) := by
    intro y h1 h2 h4
    unfold gjX12_doMove_63 gjX12_doMove_80
    rw [wp_f (by rw [L_2, i_eq (by omega) (by decide)]; exact h2), wp_f (by rw [L_4, i_eq (by omega) (by decide)]; exact h4)]
    obtain ⟨e1, e2⟩ := skipE h1 h2 (fun z => h4 z.1)
    refine fin m rfl (fun _ _ _ => rfl) (fun _ _ => ⟨rfl, rfl⟩) ?_
    rw [e1, e2]; exact r.2 _ s2
  have take : (sdd S M q = 0 ∨ sdd S M q = 1 ∨ sdd S M q = 3) → moW M (sll S M q) = 0 → wp (gjX12_doMove_56 (nI q) (nI (sdd S M q)) (nI (sll S M q)) m) (fun m' => (∀ o, o ≠ 23 → o ≠ 25 → o ≠ 26 → m' o = m o) ∧ RMo Pl X m' (doM S M q)) := by
    intro hdd w0
    unfold gjX12_doMove_56 gjX12_doMove_63 gjX12_doMove_80
    rw [wp_bind, w_wr s2 (by decide), wp_f (by rw [L_2, i_eq (by omega) (by decide)]; omega), wp_f (by rw [L_4, i_eq (by omega) (by decide)]; omega)]
    have nA : moA (doM S M q) (sll S M q) = 1 ∧ moW (doM S M q) (sll S M q) = 2 ^ q := by
      unfold doM
      rw [if_pos ⟨hdd, w0⟩]
      exact ⟨sbf_at, sbf_at⟩
    have e26 : m 26 (sll S M q) = 0 := by
      rcases r.ho I s2 with ⟨_, _, e⟩ | ⟨_, _, _, _, _, e⟩
      · rw [e, w0]; rfl
      · exact e
    refine fin _ (up_r (by decide)) (fun o h1 _ => up_r h1) (fun l' hl' => ⟨up_ne (Or.inr hl'), by rw [up_r (by decide)]⟩) ⟨?_, ?_⟩
    · rw [up_at, rho_1 nA.1 nA.2]; exact (i_sub (a := q + 1) (b := 1) (by omega)).symm
    · rw [up_r (by decide), e26]
      unfold rsr
      rw [if_neg (by rw [nA.1]; decide)]; rfl
  unfold gX12_doMove
  rw [wp_bind, w_rd q6 (by decide), r.dn q6 hh, wp_bind, R.op hq hd, wp_bind, w_rd q6 (by decide), r.dn q6 hh, wp_bind, lk]
  by_cases d0 : sdd S M q = 0
  · rw [wp_t (by rw [d0]; rfl), hx (by omega)]
    exact take (Or.inl d0) (Classical.byContradiction fun c => hw (Or.inl ⟨Or.inl d0, c⟩))
  · rw [wp_f (by rw [z_eq (by omega)]; exact d0)]
    by_cases d1 : sdd S M q = 1
    · rw [wp_t (by rw [d1]; rfl), hx (by omega)]
      exact take (Or.inr (Or.inl d1)) (Classical.byContradiction fun c => hw (Or.inl ⟨Or.inr d1, c⟩))
    · rw [wp_f (by rw [L_1, i_eq (by omega) (by decide)]; exact d1)]
      by_cases d3 : sdd S M q = 3
      · rw [wp_t (by rw [d3]; rfl), hx (by omega), wp_bind, w_rd s2 (by decide)]
        rcases r.ho I s2 with ⟨z, e1, e2⟩ | ⟨x', x6, z, e, e1, e2⟩
        · rw [e1, wp_f (by rw [m_nge0]; exact id), wp_bind, w_rd s2 (by decide), e2]
          by_cases w0 : moW M (sll S M q) = 0
          · rw [wp_t (by rw [w0]; rfl)]
            exact take (Or.inr (Or.inr d3)) w0
          · rw [wp_f (by rw [z_eq (by omega)]; exact w0)]
            exact skip _ (fun c => w0 c.2) (by omega) (by omega)
        · rw [e1, wp_t (by rw [z_ge (by omega)]; trivial)]
          exact skip _ (fun c => by have := Nat.two_pow_pos x'; omega) (by omega) (by omega)
      · rw [wp_f (by rw [L_3, i_eq (by omega) (by decide)]; exact d3)]
        by_cases d2 : sdd S M q = 2
        · have z : moA M (sll S M q) = 0 := Classical.byContradiction fun c => hw (Or.inr ⟨d2, c⟩)
          have nA : moA (doM S M q) (sll S M q) = 0 ∧ moW (doM S M q) (sll S M q) = moW M (sll S M q) ||| 2 ^ q := by
            unfold doM
            rw [if_neg (fun c => by omega), if_pos d2]
            exact ⟨z, sbf_at⟩
          rcases r.ho I s2 with ⟨_, e1, e2⟩ | ⟨_, _, z', _⟩
          · unfold gjX12_doMove_63 gjX12_doMove_80
            rw [wp_t (by rw [d2]; rfl), hx (by omega), wp_bind, w_rd s2 (by decide), e2, nI_set q6, wp_bind, w_wr s2 (by decide), wp_f (by rw [L_4, i_eq (by omega) (by decide)]; omega)]
            refine fin _ (up_r (by decide)) (fun o _ h2 => up_r h2) (fun l' hl' => ⟨by rw [up_r (by decide)], up_ne (Or.inr hl')⟩) ⟨?_, ?_⟩
            · rw [up_r (by decide), e1]
              unfold rho
              rw [if_pos nA.1]; rfl
            · rw [up_at]
              unfold rsr
              rw [if_pos nA.1, nA.2]
          · omega
        · by_cases d4 : sdd S M q = 4
          · unfold gjX12_doMove_63 gjX12_doMove_80 gjX12_doMove_110
            rw [wp_f (by rw [L_2, i_eq (by omega) (by decide)]; exact d2), wp_t (by rw [d4]; rfl), hx (by omega), wp_bind, w_rd s2 (by decide)]
            have nd : (moW M (sll S M q)).testBit q = true → moA (doM S M q) (sll S M q) = 0 ∧ moW (doM S M q) (sll S M q) = moW M (sll S M q) ^^^ 2 ^ q := fun hb => by
              unfold doM
              rw [if_neg (fun c => by omega), if_neg d2, if_pos ⟨d4, hb⟩]
              exact ⟨sbf_at, sbf_at⟩
            rcases r.ho I s2 with ⟨z, e1, e2⟩ | ⟨x', x6, z, e, e1, e2⟩
            · rw [e1, wp_f (by rw [m_eq' (by omega)]; exact id), wp_bind, w_rd s2 (by decide), e1, wp_bind, w_wr s2 (by decide), wp_bind, w_rd s2 (by decide), up_r (by decide), e2, nI_clr (by omega), wp_bind, w_wr s2 (by decide)]
              refine fin _ (by rw [up_r (by decide), up_r (by decide)]) (fun o h1 h2 => by rw [up_r h2, up_r h1]) (fun l' hl' => ⟨by rw [up_r (by decide), up_ne (Or.inr hl')], by rw [up_ne (Or.inr hl'), up_r (by decide)]⟩) ?_
              rw [up_r (by decide), up_at, up_at]
              by_cases hb : (moW M (sll S M q)).testBit q = true
              · obtain ⟨n1, n2⟩ := nd hb
                unfold rho rsr
                rw [if_pos n1, if_pos n1, n2, clr_x hb]; exact ⟨rfl, rfl⟩
              · obtain ⟨n1, n2⟩ := skipE (fun c => by omega) d2 (fun c => hb c.2)
                rw [n1, n2]
                unfold rho rsr
                rw [if_pos z, if_pos z, clr_n (Bool.eq_false_iff.mpr hb)]; exact ⟨rfl, rfl⟩
            · rw [e1]
              by_cases xq : x' = q
              · rw [wp_t (by rw [xq]), wp_bind, w_wr s2 (by decide), wp_bind, w_rd s2 (by decide), up_r (by decide), e2, show (0 : Int32) = nI 0 from rfl, nI_clr (by omega), wp_bind, w_wr s2 (by decide)]
                refine fin _ (by rw [up_r (by decide), up_r (by decide)]) (fun o h1 h2 => by rw [up_r h2, up_r h1]) (fun l' hl' => ⟨by rw [up_r (by decide), up_ne (Or.inr hl')], by rw [up_ne (Or.inr hl'), up_r (by decide)]⟩) ?_
                rw [up_r (by decide), up_at, up_at]
                obtain ⟨n1, n2⟩ := nd (by rw [e, xq, Nat.testBit_two_pow]; simp)
                unfold rho rsr
                rw [if_pos n1, if_pos n1, n2, e, xq, Nat.xor_self, clr_n (Nat.zero_testBit _)]; exact ⟨rfl, rfl⟩
              · rw [wp_f (by rw [i_eq (by omega) (by omega)]; exact xq), wp_bind, w_rd s2 (by decide), e1, wp_bind, w_wr s2 (by decide), wp_bind, w_rd s2 (by decide), up_r (by decide), e2, show (0 : Int32) = nI 0 from rfl, nI_clr (by omega), wp_bind, w_wr s2 (by decide)]
                refine fin _ (by rw [up_r (by decide), up_r (by decide)]) (fun o h1 h2 => by rw [up_r h2, up_r h1]) (fun l' hl' => ⟨by rw [up_r (by decide), up_ne (Or.inr hl')], by rw [up_ne (Or.inr hl'), up_r (by decide)]⟩) ?_
                rw [up_r (by decide), up_at, up_at]
                obtain ⟨n1, n2⟩ := skipE (fun c => by omega) d2 (fun c => by
                  have := c.2
                  rw [e, Nat.testBit_two_pow] at this
                  exact xq (of_decide_eq_true this))
                rw [n1, n2, rho_1 z e, clr_n (Nat.zero_testBit _)]
                unfold rsr
                rw [if_neg (by omega)]
                exact ⟨(i_sub (a := x' + 1) (b := 1) (by omega)).symm, rfl⟩
          · exact skip _ (fun c => by omega) d2 d4
end RMW

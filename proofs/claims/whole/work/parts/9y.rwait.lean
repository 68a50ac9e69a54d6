/-! the reference: who waits, who can come -/
section RWT
variable {m : Mem} {Pl : PD} {S : Nat → Nat} {X : Nat} {M : MO} {t q p l v : Nat}
theorem RMo.ho (r : RMo Pl X m M) (I : MOK Pl X M) (hl : l < 10) : (moA M l = 0 ∧ m 25 l = mI ∧ m 26 l = nI (moW M l)) ∨ (∃ q, q < 6 ∧ moA M l = 1 ∧ moW M l = 2 ^ q ∧ m 25 l = nI q ∧ m 26 l = 0) := by
  obtain ⟨e1, e2⟩ := r.2 l hl
  obtain ⟨b1, b2, b3⟩ := I.2.2.2.1 l
  by_cases z : moA M l = 0
  · left
    unfold rho at e1
    unfold rsr at e2
    rw [if_pos z] at e1 e2
    exact ⟨z, e1, e2⟩
  · right
    obtain ⟨q, q6, e⟩ := b3 (by omega)
    rw [rho_1 (by omega) e] at e1
    unfold rsr at e2
    rw [if_neg z] at e2
    exact ⟨q, q6, by omega, e, by rw [e1]; exact i_sub (a := q + 1) (b := 1) (by omega), e2⟩
theorem RXc.op (R : RXc m Pl S X) (hq : q < pP Pl) (hd : moD M q < pN Pl q) {Q : Int32 → Prop} : wp (gX12_opOf m (nI q) (nI (moD M q))) Q = Q (nI (sdd S M q)) := by
  have nb := (R.2.1.2.2.2.2 q hq).2.2
  exact w_opOf (Nat.lt_of_lt_of_le hq R.2.1.2.2.1) (by omega) (R.2.2.1 q (moD M q) hq hd).1
theorem RXc.lk (R : RXc m Pl S X) (hq : q < pP Pl) (hd : moD M q < pN Pl q) (h4 : sdd S M q ≤ 4) {Q : Int32 → Prop} : wp (gX12_lockOf m (nI q) (nI (moD M q))) Q = Q (nI (sll S M q)) := by
  have nb := (R.2.1.2.2.2.2 q hq).2.2
  exact w_lockOf (Nat.lt_of_lt_of_le hq R.2.1.2.2.1) (by omega) ((R.2.2.1 q (moD M q) hq hd).2.2.2 h4)
theorem r_isWaiting (R : RXc m Pl S X) (I : MOK Pl X M) (r : RMo Pl X m M) (hq : q < pP Pl) (hd : moD M q < pN Pl q) (hh : tk Pl X q ∨ moC M q ≠ 0) : wp (gX12_isWaiting m (nI q)) (fun y => (y = 1 ∧ wt S M q) ∨ (y = 0 ∧ ¬ wt S M q)) := by
  have q6 : q < 6 := Nat.lt_of_lt_of_le hq R.2.1.2.2.1
  obtain ⟨_, s1, s2, _⟩ := R.2.2.1 q (moD M q) hq hd
  have s1 : sdd S M q ≤ 8 := s1
  have s2 : sll S M q < 10 := s2
  have W64 := (I.2.2.2.1 (sll S M q)).2.1
  unfold gX12_isWaiting
  rw [wp_bind, w_rd q6 (by decide), r.dn q6 hh, wp_bind, R.op hq hd]
  have take : (sdd S M q = 0 ∨ sdd S M q = 1) → wp (gjX12_isWaiting_23 (nI q) (nI (moD M q)) m) (fun y => (y = 1 ∧ wt S M q) ∨ (y = 0 ∧ ¬ wt S M q)) := by
    intro hdd
    unfold gjX12_isWaiting_23 gjX12_isWaiting_51 gjX12_isWaiting_56
    rw [wp_bind, R.lk hq hd (by omega), wp_bind, w_rd s2 (by decide)]
    rcases r.ho I s2 with ⟨z, e1, e2⟩ | ⟨x, x6, z, e, e1, e2⟩
    · rw [e1, wp_f (by rw [m_nge0]; exact id), wp_bind, R.lk hq hd (by omega), wp_bind, w_rd s2 (by decide), e2]
      by_cases w0 : moW M (sll S M q) = 0
      · rw [wp_t (by rw [w0]; rfl), wp_bind, wp_eq bz_0, wp_some]
        exact Or.inr ⟨rfl, fun y => by rcases y with ⟨_, y⟩ | ⟨y, _⟩; exact y w0; omega⟩
      · rw [wp_f (by rw [z_eq (by omega)]; exact w0), wp_bind, wp_eq bz_1, wp_some]
        exact Or.inl ⟨rfl, Or.inl ⟨hdd, w0⟩⟩
    · rw [e1, wp_t (by rw [z_ge (by omega)]; trivial), wp_bind, wp_eq bz_1, wp_some]
      exact Or.inl ⟨rfl, Or.inl ⟨hdd, by rw [e]; exact Nat.ne_of_gt (Nat.two_pow_pos _)⟩⟩
  by_cases d0 : sdd S M q = 0
  · rw [wp_t (by rw [d0]; rfl)]; exact take (Or.inl d0)
  · rw [wp_f (by rw [z_eq (by omega)]; exact d0)]
    by_cases d1 : sdd S M q = 1
    · rw [wp_t (by rw [d1]; rfl)]; exact take (Or.inr d1)
    · rw [wp_f (by rw [L_1, i_eq (by omega) (by decide)]; exact d1)]
      unfold gjX12_isWaiting_80 gjX12_isWaiting_81
      by_cases d2 : sdd S M q = 2
      · rw [wp_t (by rw [d2]; rfl), wp_bind, R.lk hq hd (by omega), wp_bind, w_rd s2 (by decide)]
        rcases r.ho I s2 with ⟨z, e1, e2⟩ | ⟨x, x6, z, e, e1, e2⟩
        · rw [e1, wp_t (by rw [m_lt0]; trivial), wp_bind, wp_eq bz_0, wp_some]
          exact Or.inr ⟨rfl, fun y => by rcases y with ⟨y, _⟩ | ⟨_, y⟩; omega; exact y z⟩
        · rw [e1, wp_f (by rw [show (0 : Int32) = nI 0 from rfl, i_lt (by omega) (by decide)]; omega), wp_bind, wp_eq bz_1, wp_some]
          exact Or.inl ⟨rfl, Or.inr ⟨d2, by omega⟩⟩
      · rw [wp_f (by rw [L_2, i_eq (by omega) (by decide)]; exact d2), wp_bind, wp_eq bz_0, wp_some]
        exact Or.inr ⟨rfl, fun y => by rcases y with ⟨y, _⟩ | ⟨y, _⟩ <;> omega⟩
theorem r_canCome (R : RXc m Pl S X) (I : MOK Pl X M) (r : RMo Pl X m M) (hv : v < 6) (hq : q < pP Pl) (hd : moD M q < pN Pl q) (hh : tk Pl X q ∨ moC M q ≠ 0) : wp (gX12_canCome m (nI v) (nI q)) (fun y => (y = 1 ∧ canC Pl S X M q v) ∨ (y = 0 ∧ ¬ canC Pl S X M q v)) := by
  have pw := R.2.1
  have q6 : q < 6 := Nat.lt_of_lt_of_le hq pw.2.2.1
  have nb := (pw.2.2.2.2 q hq).2.2
  have hop : ∀ k, k < moD M q → m 1 (1541 + (12 * q + k)) = nI ((fun j => S (12 * q + j)) k / 16) ∧ (fun j => S (12 * q + j)) k / 16 ≤ 8 := fun k hk => ⟨(R.2.2.1 q k hq (by omega)).1, (R.2.2.1 q k hq (by omega)).2.1⟩
  have no : ¬ canC Pl S X M q v → ((0 : Int32) = 1 ∧ canC Pl S X M q v) ∨ ((0 : Int32) = 0 ∧ ¬ canC Pl S X M q v) := fun z => Or.inr ⟨rfl, z⟩
  unfold gX12_canCome gjX12_canCome_25 gjX12_canCome_62 gjX12_canCome_92 gjX12_canCome_63 gjX12_canCome_93
  rw [wp_bind, w_isIn0 R hv]
  by_cases c1 : X.testBit v = true
  · have vP := R.2.2.2.2 v c1
    have so := (pw.2.2.2.2 v vP).1
    have sq := (pw.2.2.2.2 q hq).1
    rw [b01_t c1, wp_f (by decide), wp_bind, w_sortOf R.1 pw vP]
    by_cases c2 : pS Pl v = 0
    · rw [wp_t (by rw [c2]; rfl), wp_some]
      exact no (fun z => z.1.2.2 c2)
    · have cv : cr Pl X v := ⟨vP, c1, c2⟩
      have nt : ¬ tk Pl X v := fun z => tk_cr z cv
      rw [wp_f (by rw [z_eq (by omega)]; exact c2), wp_bind, w_rd hv (by decide)]
      by_cases c3 : moC M v = 0
      · have e : m 23 v = mI := by
          rw [(r.1 v hv).1]
          unfold rdn
          rw [ci_f (fun z => z.elim nt (fun y => y c3))]
          rfl
        rw [e, wp_t (by rw [m_lt0]; trivial), wp_bind, w_sortOf R.1 pw vP]
        by_cases c4 : pS Pl v = 1
        · rw [wp_t (by rw [c4]; rfl), wp_bind, w_sortOf R.1 pw hq]
          by_cases c5 : pS Pl q = 0
          · rw [wp_t (by rw [c5]; rfl), wp_bind, w_rd q6 (by decide), r.dn q6 hh, wp_bind, w_canSoft R.1 pw hq (by omega) hop]
            by_cases c6 : cx (pS Pl q) (fun j => S (12 * q + j)) (moD M q) = 6
            · rw [b01_t c6, wp_f (by decide), wp_bind, wp_eq bz_1, wp_some]
              exact Or.inl ⟨rfl, cv, c3, Or.inl ⟨c4, c5, c6⟩⟩
            · rw [b01_n c6, wp_t rfl, wp_bind, wp_eq bz_0, wp_some]
              exact no (fun z => by rcases z.2.2 with ⟨_, _, y⟩ | ⟨y, _⟩; exact c6 y; omega)
          · rw [wp_f (by rw [z_eq (by omega)]; exact c5), wp_bind, wp_eq bz_0, wp_some]
            exact no (fun z => by rcases z.2.2 with ⟨_, y, _⟩ | ⟨y, _⟩; exact c5 y; omega)
        · rw [wp_f (by rw [L_1, i_eq (by omega) (by decide)]; exact c4), wp_bind, w_sortOf R.1 pw hq]
          by_cases c5 : pS Pl q = 2
          · rw [wp_t (by rw [c5]; rfl), wp_bind, wp_eq bz_0, wp_some]
            exact no (fun z => by rcases z.2.2 with ⟨y, _⟩ | ⟨_, y, _⟩; exact c4 y; exact y c5)
          · rw [wp_f (by rw [L_2, i_eq (by omega) (by decide)]; exact c5), wp_bind, w_rd q6 (by decide), r.dn q6 hh, wp_bind, w_isHard R.1 pw hq (by omega) hop]
            by_cases c6 : cx (pS Pl q) (fun j => S (12 * q + j)) (moD M q) &&& 4 = 0
            · rw [b01_n (fun z => z c6), wp_t rfl, wp_bind, wp_eq bz_0, wp_some]
              exact no (fun z => by rcases z.2.2 with ⟨y, _⟩ | ⟨_, _, y⟩; exact c4 y; exact y c6)
            · rw [b01_t c6, wp_f (by decide), wp_bind, wp_eq bz_1, wp_some]
              exact Or.inl ⟨rfl, cv, c3, Or.inr ⟨by omega, c5, c6⟩⟩
      · have d12 : moD M v ≤ 12 := by have := (I.1 v).1; have := (pw.2.2.2.2 v vP).2.2; omega
        rw [r.dn hv (Or.inr c3), wp_f (by rw [show (0 : Int32) = nI 0 from rfl, i_lt (by omega) (by decide)]; omega), wp_some]
        exact no (fun z => c3 z.2.1)
  · rw [b01_n c1, wp_t rfl, wp_some]
    exact no (fun z => c1 z.1.2.1)
end RWT

/-! the class: who waits, and on whom -/
section CWT
variable {h : Hp} {m : Mem} {a b c : Nat} {Pl : PD} {S : Nat → Nat} {X : Nat} {st ow : Nat} {M : MO} {t q p l w : Nat}
/-- the step that comes next -/
theorem CX.step {Q : Int32 → Prop} (C : CX h m a b c Pl S X) (hq : q < pP Pl) (hd : moD M q < pN Pl q) : wp (lI (wI h m) .int c ((nI q * (12 : Int32)) + nI (moD M q))) Q = Q (nI (S (12 * q + moD M q))) := by
  have q6 := C.p6 hq
  have nb := (C.2.2.1.2.2.2.2 q hq).2.2
  rw [L_12, i_mul, i_add, Nat.mul_comm q 12, w_lI (h := wI h m) C.2.2.2.2.2.1.1 C.2.2.2.2.2.1.2 (by omega) (by decide)]
  show Q (m c (12 * q + moD M q)) = _
  rw [(C.2.2.2.2.2.2.1 q (moD M q) hq hd).1]
theorem CX.sb (C : CX h m a b c Pl S X) (hq : q < pP Pl) (hd : moD M q < pN Pl q) : sdd S M q ≤ 8 ∧ sll S M q < 10 ∧ S (12 * q + moD M q) < 2 ^ 31 := by
  obtain ⟨_, e1, e2⟩ := C.2.2.2.2.2.2.1 q (moD M q) hq hd
  exact ⟨e1, e2, by omega⟩
theorem c_waitsFor (C : CX h m a b c Pl S X) (E : EN st ow M) (I : MOK Pl X M) (ht : tk Pl X t) : wp (fX8_waitsFor (wI h m) a (lN st) (lN ow) (nI t)) (fun r => (∃ q, isTop Pl X M t q ∧ wt S M q ∧ r = nI (sll S M q)) ∨ ((∀ q, isTop Pl X M t q → ¬ wt S M q) ∧ r = mI)) := by
  unfold fX8_waitsFor
  rw [wp_bind, C.1.o, wp_bind]
  refine wp_mono (c_onTop C E ht) (fun r hr => ?_)
  rcases hr with ⟨q, hq, rfl⟩ | ⟨hn, rfl⟩
  · obtain ⟨qP, qd, _, _⟩ := isTop_at ht I hq
    have q6 := C.p6 qP
    obtain ⟨s1, s2, s3⟩ := C.sb (S := S) qP qd
    have un : ∀ q', isTop Pl X M t q' → q' = q := fun q' h' => isTop_un C.2.2.1 I h' hq
    have yes : wt S M q → ((∃ q, isTop Pl X M t q ∧ wt S M q ∧ nI (sll S M q) = nI (sll S M q)) ∨ ((∀ q, isTop Pl X M t q → ¬ wt S M q) ∧ nI (sll S M q) = mI)) := fun z => Or.inl ⟨q, hq, z, rfl⟩
    have yes' : wt S M q → ((∃ q', isTop Pl X M t q' ∧ wt S M q' ∧ nI (sll S M q) = nI (sll S M q')) ∨ ((∀ q, isTop Pl X M t q → ¬ wt S M q) ∧ nI (sll S M q) = mI)) := fun z => Or.inl ⟨q, hq, z, rfl⟩
    have no : ¬ wt S M q → ((∃ q', isTop Pl X M t q' ∧ wt S M q' ∧ mI = nI (sll S M q')) ∨ ((∀ q, isTop Pl X M t q → ¬ wt S M q) ∧ mI = mI)) := fun z => Or.inr ⟨fun q' h' => by rw [un q' h']; exact z, rfl⟩
    rw [mI_e, wp_f (fun e => by rw [m_eq (by omega)] at e; exact e), wp_bind, C.q7, wp_bind, w_doneBy E q6, wp_bind, C.step qP qd, wp_bind, w_lock s3, wp_bind, w_deed s3]
    change sdd S M q ≤ 8 at s1
    have W64 := E.ww s2
    have A2 := E.al s2
    have fold1 : S (12 * q + moD M q) / 16 = sdd S M q := rfl
    have fold2 : S (12 * q + moD M q) % 16 = sll S M q := rfl
    rw [fold1, fold2]
    unfold jX8_waitsFor_91 jX8_waitsFor_112
    rw [show (0 : Int32) = nI 0 from rfl]
    by_cases d0 : sdd S M q = 0
    · rw [wp_t (by rw [d0]), wp_bind, w_ownersOf E s2]
      by_cases o : moW M (sll S M q) = 0
      · rw [wp_t (by rw [o]), wp_some]
        exact no (fun z => by rcases z with ⟨_, z⟩ | ⟨z, _⟩; exact z o; omega)
      · rw [wp_f (by rw [i_eq (by omega) (by decide)]; exact o), wp_some]
        exact yes' (Or.inl ⟨Or.inl d0, o⟩)
    · rw [wp_f (by rw [i_eq (by omega) (by decide)]; exact d0), L_1]
      by_cases d1 : sdd S M q = 1
      · rw [wp_t (by rw [d1]), wp_bind, w_ownersOf E s2]
        by_cases o : moW M (sll S M q) = 0
        · rw [wp_t (by rw [o]), wp_some]
          exact no (fun z => by rcases z with ⟨_, z⟩ | ⟨z, _⟩; exact z o; omega)
        · rw [wp_f (by rw [i_eq (by omega) (by decide)]; exact o), wp_some]
          exact yes' (Or.inl ⟨Or.inr d1, o⟩)
      · rw [wp_f (by rw [i_eq (by omega) (by decide)]; exact d1), L_2]
        by_cases d2 : sdd S M q = 2
        · rw [wp_t (by rw [d2]), gl_alone E s2]
          by_cases o : moA M (sll S M q) = 0
          · rw [wp_t (by rw [o]; exact (lg_cmp_eq _ _).mpr rfl), wp_some]
            exact no (fun z => by rcases z with ⟨z, _⟩ | ⟨_, z⟩; omega; exact z o)
          · rw [wp_f (fun e => by
              have e' := (lg_cmp_eq _ _).mp e
              rw [show (0 : Int64) = lN 0 from rfl, lN_inj (by omega) (by decide)] at e'
              exact o e'), wp_some]
            exact yes' (Or.inr ⟨d2, o⟩)
        · rw [wp_f (by rw [i_eq (by omega) (by decide)]; exact d2), wp_some]
          exact no (fun z => by rcases z with ⟨z, _⟩ | ⟨z, _⟩ <;> omega)
  · rw [wp_t (show mI = -1 from rfl), wp_some]
    exact Or.inr ⟨fun q hq => absurd hq.1 hn, rfl⟩
theorem c_processorsOf (C : CX h m a b c Pl S X) (E : EN st ow M) (hw : w < 64) : wp (fX8_processorsOf (wI h m) a (lN st) (nI w)) (fun r => ∀ u, u < 32 → (bt r u = true ↔ ∃ p, p < pP Pl ∧ w.testBit p = true ∧ prc M p = u)) := by
  have P6 := C.2.2.1.2.2.1
  have g2 : m b 2 = nI (pP Pl) := C.2.1.2.2.2.1
  unfold fX8_processorsOf
  rw [wp_bind]
  refine wp_mono (Q := fun r => ∀ u, u < 32 → (bt r u = true ↔ ∃ p, p < pP Pl ∧ w.testBit p = true ∧ prc M p = u)) ?_ (fun r hr => by rw [wp_some]; exact hr)
  refine wp_for (κ := Int32) (fun i k => (k, nI i)) (pP Pl) (fun i k => ∀ u, u < 32 → (bt k u = true ↔ ∃ p, p < i ∧ w.testBit p = true ∧ prc M p = u)) (fun i k hi hI => ?_) (fun k hI => ?_) 0 0 (Nat.zero_le _) (fun u hu => by rw [b_0]; exact ⟨fun z => absurd z (by decide), fun ⟨p, z, _⟩ => absurd z (Nat.not_lt_zero _)⟩) (by omega)
  · have i6 := C.p6 hi
    simp only [bX8_processorsOf_6]
    rw [wp_bind, C.q6, wp_bind, C.sh5.g2, g2, wp_f (by rw [i_le (by omega) (by omega)]; omega), wp_bind, w_has (by omega), bt_nI (by omega)]
    unfold jX8_processorsOf_60 jX8_processorsOf_64
    by_cases z : w.testBit i = true
    · have put : ∀ x, x < 8 → prc M i = x → ∀ u, u < 32 → (bt (k ||| ((1 : Int32) <<< (nI x &&& 31))) u = true ↔ ∃ p, p < i + 1 ∧ w.testBit p = true ∧ prc M p = u) := by
        intro x hx hp u hu
        rw [b_or, Bool.or_eq_true, hI u hu, b_shl1 (by omega) hu]
        constructor
        · rintro (⟨p, e1, e2, e3⟩ | e)
          · exact ⟨p, by omega, e2, e3⟩
          · exact ⟨i, by omega, z, by rw [hp, of_decide_eq_true e]⟩
        · rintro ⟨p, e1, e2, e3⟩
          by_cases q : p = i
          · right; rw [q, hp] at e3; exact decide_eq_true e3.symm
          · left; exact ⟨p, by omega, e2, e3⟩
      rw [b01_t z, wp_f (by decide), wp_bind, wp_some, gl_came E i6, lN_i32]
      have c8 := E.cm i6
      by_cases y : moC M i = 0
      · rw [wp_t (by rw [y]; rfl), wp_bind, wp_some, wp_bind, wp_some, wp_some, lq_l]
        refine ⟨_, by rw [show (nI i + 1 : Int32) = nI (i + 1) from i_add i 1], put i (by omega) (by unfold prc; rw [if_pos y])⟩
      · rw [wp_f (by rw [z_eq (by omega)]; exact y), wp_bind, wp_some, wp_bind, wp_some, wp_some, lq_l]
        refine ⟨_, by rw [show (nI i + 1 : Int32) = nI (i + 1) from i_add i 1, show (nI (moC M i) - 1 : Int32) = nI (moC M i - 1) from i_sub (a := moC M i) (b := 1) (Nat.pos_of_ne_zero y)], put (moC M i - 1) (by omega) (by unfold prc; rw [if_neg y])⟩
    · rw [b01_n z, wp_t rfl, wp_bind, wp_some, wp_some, lq_l]
      refine ⟨k, by rw [show (nI i + 1 : Int32) = nI (i + 1) from i_add i 1], fun u hu => ?_⟩
      rw [hI u hu]
      constructor
      · rintro ⟨p, e1, e2, e3⟩; exact ⟨p, by omega, e2, e3⟩
      · rintro ⟨p, e1, e2, e3⟩
        by_cases q : p = i
        · rw [q] at e2; exact absurd e2 z
        · exact ⟨p, by omega, e2, e3⟩
  · simp only [bX8_processorsOf_6]
    rw [wp_bind, C.q6, wp_bind, C.sh5.g2, g2, wp_t (by rw [i_le (by omega) (by omega)]; omega), wp_some, lq_r]
    exact hI
end CWT

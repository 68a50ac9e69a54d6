/-! the class moves -/
section CMV
variable {h : Hp} {m : Mem} {a b c turn : Nat} {Pl : PD} {S : Nat → Nat} {X : Nat} {Z : SS} {M : MO} {st ow i t q k v : Nat}
theorem si_add (si : SI Pl S X Z) (I : MOK Pl X M) (L : MOL M) (hi : k / 64 < zN Z) (h8 : k % 64 / 8 < 6) (h7 : k % 8 < 7) (hd : dep M 6 = dep (zM Z (k / 64)) 6 + 1) : SI Pl S X (addM Pl S X Z M k) := by
  by_cases nw : nwM Z M
  · by_cases n4 : zN Z = 4000
    · rw [addM_full nw n4]
      obtain ⟨a1, a2, a3, a4, a5, a6, a7⟩ := si
      exact ⟨Or.inr (Or.inl rfl), a2, a3, fun j _ e => absurd e (by show ¬ (2 : Nat) = 3; decide), fun e => absurd e (by show ¬ (2 : Nat) = 1; decide), a6, a7⟩
    · rw [addM_new nw n4]
      obtain ⟨a1, a2, a3, a4, a5, a6, a7⟩ := si
      refine ⟨?_, show zN Z + 1 ≤ 4000 by omega, fun j hj => ?_, fun j hj e => ?_, fun e => ?_, fun _ => ?_, fun j j0 hj => ?_⟩
      · show ci (stk Pl S X M) 1 3 = 1 ∨ ci (stk Pl S X M) 1 3 = 2 ∨ ci (stk Pl S X M) 1 3 = 3
        by_cases z : stk Pl S X M
        · rw [ci_t z]; exact Or.inl rfl
        · rw [ci_f z]; exact Or.inr (Or.inr rfl)
      · change j < zN Z + 1 at hj
        show MOK Pl X (sbf (zM Z) (zN Z) M j) ∧ MOL (sbf (zM Z) (zN Z) M j)
        by_cases z : j = zN Z
        · rw [z, sbf_at]; exact ⟨I, L⟩
        · rw [sbf_ne z]; exact a3 j (by omega)
      · change j < zN Z + 1 at hj
        change ci (stk Pl S X M) 1 3 = 3 at e
        show ¬ stk Pl S X (sbf (zM Z) (zN Z) M j)
        by_cases z : j = zN Z
        · rw [z, sbf_at]; intro y; rw [ci_t y] at e; omega
        · rw [sbf_ne z]; exact a4 j (by omega) nw.1
      · change ci (stk Pl S X M) 1 3 = 1 at e
        refine ⟨Nat.succ_pos _, ?_⟩
        show stk Pl S X (sbf (zM Z) (zN Z) M (zN Z + 1 - 1))
        rw [Nat.add_sub_cancel, sbf_at]
        exact Classical.byContradiction fun y => by rw [ci_f y] at e; omega
      · show dep (sbf (zM Z) (zN Z) M 0) 6 = 0
        rw [sbf_ne (by omega)]; exact a6 (by omega)
      · change j < zN Z + 1 at hj
        show sbf (zB Z) (zN Z) k j / 64 < j ∧ sbf (zB Z) (zN Z) k j % 64 / 8 < 6 ∧ sbf (zB Z) (zN Z) k j % 8 < 7 ∧ dep (sbf (zM Z) (zN Z) M j) 6 = dep (sbf (zM Z) (zN Z) M (sbf (zB Z) (zN Z) k j / 64)) 6 + 1
        by_cases z : j = zN Z
        · rw [z, sbf_at, sbf_at, sbf_ne (by omega)]; exact ⟨hi, h8, h7, hd⟩
        · obtain ⟨b1, b2, b3, b4⟩ := a7 j j0 (by omega)
          rw [sbf_ne z, sbf_ne z, sbf_ne (by omega)]; exact ⟨b1, b2, b3, b4⟩
  · unfold addM
    rw [ci_f nw]; exact si
/-- what was there stays -/
theorem add_st : zN Z ≤ zN (addM Pl S X Z M k) ∧ ∀ j, j < zN Z → zM (addM Pl S X Z M k) j = zM Z j := by
  by_cases nw : nwM Z M
  · by_cases n4 : zN Z = 4000
    · rw [addM_full nw n4]; exact ⟨Nat.le_refl _, fun _ _ => rfl⟩
    · rw [addM_new nw n4]; exact ⟨Nat.le_succ _, fun j hj => sbf_ne (by omega)⟩
  · unfold addM
    rw [ci_f nw]; exact ⟨Nat.le_refl _, fun _ _ => rfl⟩
theorem by_0 (hi : i < 4000) (ht : t < 6) : (nI i <<< ((6 : Int32) &&& 31)) ||| (nI t <<< ((3 : Int32) &&& 31)) = nI (i * 64 + t * 8) := by
  rw [pk_shlN ((6 : Int32) &&& 31) 6 (by decide) (by omega), pk_shlN ((3 : Int32) &&& 31) 3 (by decide) (by omega), nx_or, or_add (show t * 2 ^ 3 < 2 ^ 6 by omega)]
theorem by_1 (hi : i < 4000) (ht : t < 6) (hv : v < 6) : ((nI i <<< ((6 : Int32) &&& 31)) ||| (nI t <<< ((3 : Int32) &&& 31))) ||| (nI v + (1 : Int32)) = nI (i * 64 + t * 8 + (v + 1)) := by
  rw [by_0 hi ht, L_1, i_add, nx_or, show i * 64 + t * 8 = (i * 8 + t) * 2 ^ 3 by omega, or_add (show v + 1 < 2 ^ 3 by omega)]
theorem en_do1 (E : EN st ow M) (q6 : q < 6) (l10 : sll S M q < 10) (hd : moD M q + 1 < 16) (hdd : sdd S M q = 0 ∨ sdd S M q = 1 ∨ sdd S M q = 3) (w0 : moW M (sll S M q) = 0) : EN ((st ||| 2 ^ (42 + sll S M q)) + 2 ^ (4 * q)) (ow ||| 2 ^ (6 * sll S M q + q)) (doM S M q) := by
  have := en_adv (en_alone (en_own E l10 q6) l10) q6 hd
  unfold doM
  rw [if_pos ⟨hdd, w0⟩]
  rw [w0, Nat.zero_or] at this
  exact this
theorem en_do2 (E : EN st ow M) (q6 : q < 6) (l10 : sll S M q < 10) (hd : moD M q + 1 < 16) (hdd : sdd S M q = 2) : EN (st + 2 ^ (4 * q)) (ow ||| 2 ^ (6 * sll S M q + q)) (doM S M q) := by
  have := en_adv (en_own E l10 q6) q6 hd
  unfold doM
  rw [if_neg (fun z => by omega), if_pos hdd]
  exact this
theorem en_do4 (E : EN st ow M) (q6 : q < 6) (l10 : sll S M q < 10) (hd : moD M q + 1 < 16) (hdd : sdd S M q = 4) (hb : (moW M (sll S M q)).testBit q = true) : EN (clr st (42 + sll S M q) + 2 ^ (4 * q)) (clr ow (6 * sll S M q + q)) (doM S M q) := by
  have := en_adv (en_free (en_disown E l10 q6 hb) l10) q6 hd
  unfold doM
  rw [if_neg (fun z => by omega), if_neg (by omega), if_pos ⟨hdd, hb⟩]
  exact this
theorem en_do0 (E : EN st ow M) (q6 : q < 6) (hd : moD M q + 1 < 16) (h1 : ¬ ((sdd S M q = 0 ∨ sdd S M q = 1 ∨ sdd S M q = 3) ∧ moW M (sll S M q) = 0)) (h2 : sdd S M q ≠ 2) (h4 : ¬ (sdd S M q = 4 ∧ (moW M (sll S M q)).testBit q = true)) : EN (st + 2 ^ (4 * q)) ow (doM S M q) := by
  have := en_adv E q6 hd
  unfold doM
  rw [if_neg h1, if_neg h2, if_neg h4]
  exact this
theorem own_bit {l : Nat} (E : EN st ow M) (l10 : l < 10) (q6 : q < 6) : lg_cmp (lN ow &&& lN (2 ^ (6 * l + q))) (0 : Int64) = 0 ↔ (moW M l).testBit q = false := by
  have p64 : 2 ^ (6 * l + q) < 2 ^ 64 := Nat.pow_lt_pow_right (by decide) (by omega)
  rw [lg_cmp_eq, wb_and E.o64 p64, show (0 : Int64) = lN 0 from rfl, lN_inj (Nat.and_lt_two_pow _ p64) (by decide), ← E.2.2.2.2.2 l l10, fd_tb]
  have e : decide (q < 6) = true := decide_eq_true q6
  rw [e, Bool.true_and]
  constructor
  · intro z
    have := congrArg (fun n => n.testBit (6 * l + q)) z
    simp only [Nat.testBit_and, Nat.testBit_two_pow, decide_true, Bool.and_true, Nat.zero_testBit] at this
    rw [Nat.add_comm]; exact this
  · intro z
    apply Nat.eq_of_testBit_eq
    intro j
    rw [Nat.testBit_and, Nat.testBit_two_pow, Nat.zero_testBit]
    by_cases y : 6 * l + q = j
    · rw [← y, Nat.add_comm, z]; rfl
    · simp [y]
end CMV

/-! a ring goes through the processor that moved -/
theorem rc_off {N t y x : Nat} {E E' : Nat → Nat → Prop} (ht : ∀ w, ¬ E' t w) (hs : ∀ v w, v ≠ t → w ≠ t → E' v w → E v w) (hy : y ≠ t) (h : Rc N E' x y) : Rc N E x y := by
  obtain ⟨k, b, hb, he, hw⟩ := h
  have hx : x ≠ t := fun z => ht b (by rw [← z]; exact he)
  have main : ∀ k b, wk N E' y k b → b ≠ t ∧ wk N E y k b := by
    intro k
    induction k with
    | zero => intro b h; exact ⟨by rw [show b = y from h]; exact hy, h⟩
    | succ k ih =>
      rintro b ⟨bN, c, hc, e, w⟩
      have i := ih c w
      have hb : b ≠ t := fun z => ht c (by rw [← z]; exact e)
      exact ⟨hb, bN, c, hc, hs b c hb i.1 e, i.2⟩
  have := main k b hw
  exact ⟨k, b, hb, hs x b hx this.1 he, this.2⟩
section RNG
variable {Pl : PD} {S : Nat → Nat} {X : Nat} {M : MO} {t q v : Nat}
theorem prc_do {r : Nat} : prc (doM S M q) r = prc M r := by unfold prc; rw [doM_C]
theorem prc_come {r : Nat} (hr : r ≠ v) : prc (comeM M t v) r = prc M r := by
  unfold prc
  rw [show moC (comeM M t v) r = moC M r from sbf_ne hr]
theorem isTop_congr {M' : MO} {u r : Nat} (hd : moD M' u = moD M u) (ha : ∀ r, act Pl X M' r u ↔ act Pl X M r u) : isTop Pl X M' u r ↔ isTop Pl X M u r := by
  unfold isTop
  rw [hd]
  constructor
  · rintro ⟨h0, h1⟩
    refine ⟨h0, ?_⟩
    rcases h1 with ⟨a, b⟩ | ⟨a, b, c⟩ | ⟨a, b⟩
    · exact Or.inl ⟨(ha r).mp a, b⟩
    · exact Or.inr (Or.inl ⟨(ha r).mp a, b, fun r' h' => c r' ((ha r').mpr h')⟩)
    · exact Or.inr (Or.inr ⟨a, fun r' h' => b r' ((ha r').mpr h')⟩)
  · rintro ⟨h0, h1⟩
    refine ⟨h0, ?_⟩
    rcases h1 with ⟨a, b⟩ | ⟨a, b, c⟩ | ⟨a, b⟩
    · exact Or.inl ⟨(ha r).mpr a, b⟩
    · exact Or.inr (Or.inl ⟨(ha r).mpr a, b, fun r' h' => c r' ((ha r').mp h')⟩)
    · exact Or.inr (Or.inr ⟨a, fun r' h' => b r' ((ha r').mp h')⟩)
/-- a lock had alone after a step, by another than who stepped, was so ahead of it -/
theorem doM_A {l r : Nat} (hr : r ≠ q) (ho : (moW (doM S M q) l).testBit r = true) (hA : moA (doM S M q) l ≠ 0) : moA M l ≠ 0 := by
  unfold doM at hA ho
  by_cases c1 : (sdd S M q = 0 ∨ sdd S M q = 1 ∨ sdd S M q = 3) ∧ moW M (sll S M q) = 0
  · rw [if_pos c1] at hA ho
    change sbf (moA M) (sll S M q) 1 l ≠ 0 at hA
    change (sbf (moW M) (sll S M q) (2 ^ q) l).testBit r = true at ho
    by_cases z : l = sll S M q
    · rw [z, sbf_at, Nat.testBit_two_pow] at ho
      exact absurd (of_decide_eq_true ho).symm hr
    · rwa [sbf_ne z] at hA
  · rw [if_neg c1] at hA
    by_cases c2 : sdd S M q = 2
    · rw [if_pos c2] at hA; exact hA
    · rw [if_neg c2] at hA
      by_cases c4 : sdd S M q = 4 ∧ (moW M (sll S M q)).testBit q = true
      · rw [if_pos c4] at hA
        change sbf (moA M) (sll S M q) 0 l ≠ 0 at hA
        by_cases z : l = sll S M q
        · rw [z, sbf_at] at hA; exact absurd rfl hA
        · rwa [sbf_ne z] at hA
      · rw [if_neg c4] at hA; exact hA
theorem stk_do (pw : PW Pl) (ht : tk Pl X t) (I : MOK Pl X M) (h : isTop Pl X M t q) (hn : ¬ stk Pl S X M) (hw : ∀ q', isTop Pl X (doM S M q) t q' → ¬ wt S (doM S M q) q') : ¬ stk Pl S X (doM S M q) := by
  rintro ⟨u, u6, hu⟩
  have hq := isTop_at ht I h
  have noE : ∀ w, ¬ wEd Pl S X (doM S M q) t w := fun w ⟨_, q', h1, h2, _⟩ => hw q' h1 h2
  have un : u ≠ t := fun z => by
    obtain ⟨_, b, _, he, _⟩ := hu
    rw [z] at he
    exact noE b he
  refine hn ⟨u, u6, rc_off noE (fun x w hx hw' he => ?_) un hu⟩
  obtain ⟨hk, q', h1, h2, r, r1, r2, r3⟩ := he
  -- who goes on at x is the same
  have ncq : moC M q ≠ x + 1 := fun z => by
    have := hq.2.2.1
    unfold prc at this
    rw [if_neg (by omega)] at this
    omega
  have xq : x ≠ q := fun z => by
    have c0 : moC M x = 0 := Classical.byContradiction fun c => tk_cr hk (I.2.1 x c).1
    have := hq.2.2.1
    unfold prc at this
    rw [← z, if_pos c0] at this
    exact hx this
  have hD : ∀ r, r ≠ q → moD (doM S M q) r = moD M r := fun r hr => by rw [doM_D, sbf_ne hr]
  have ha : ∀ r, act Pl X (doM S M q) r x ↔ act Pl X M r x := fun r => by
    by_cases z : r = q
    · subst z
      exact ⟨fun c => absurd (by have := c.2.1; rwa [doM_C] at this) ncq, fun c => absurd c.2.1 ncq⟩
    · exact act_do (fun e => z e.symm)
  have h1' := (isTop_congr (hD x xq) ha).mp h1
  have q'q : q' ≠ q := fun z => by
    subst z
    rcases h1'.2 with ⟨a, _⟩ | ⟨a, _, _⟩ | ⟨e, _⟩
    · exact ncq a.2.1
    · exact ncq a.2.1
    · exact xq e.symm
  have e1 : sdd S (doM S M q) q' = sdd S M q' := by unfold sdd; rw [hD q' q'q]
  have e2 : sll S (doM S M q) q' = sll S M q' := by unfold sll; rw [hD q' q'q]
  rw [prc_do] at r3
  have rq : r ≠ q := fun z => hw' (by rw [← r3, z]; exact hq.2.2.1)
  rw [e2] at r2
  have r2' : (moW M (sll S M q')).testBit r = true := by rw [← doM_W' (S := S) (M := M) (q := q) rq]; exact r2
  refine ⟨hk, q', h1', ?_, r, r1, r2', r3⟩
  unfold wt at h2 ⊢
  rw [e1, e2] at h2
  rcases h2 with ⟨d, _⟩ | ⟨d, hA⟩
  · exact Or.inl ⟨d, fun z => by rw [z, Nat.zero_testBit] at r2'; cases r2'⟩
  · exact Or.inr ⟨d, doM_A rq r2 hA⟩
theorem stk_come (ht : tk Pl X t) (cv : cr Pl X v) (c0 : moC M v = 0) (hn : ¬ stk Pl S X M) (hw : ∀ q', isTop Pl X (comeM M t v) t q' → ¬ wt S (comeM M t v) q') : ¬ stk Pl S X (comeM M t v) := by
  rintro ⟨u, u6, hu⟩
  have noE : ∀ w, ¬ wEd Pl S X (comeM M t v) t w := fun w ⟨_, q', h1, h2, _⟩ => hw q' h1 h2
  have un : u ≠ t := fun z => by
    obtain ⟨_, b, _, he, _⟩ := hu
    rw [z] at he
    exact noE b he
  refine hn ⟨u, u6, rc_off noE (fun x w hx hw' he => ?_) un hu⟩
  obtain ⟨hk, q', h1, h2, r, r1, r2, r3⟩ := he
  have ha : ∀ r, act Pl X (comeM M t v) r x ↔ act Pl X M r x := fun r => by
    rw [act_come]
    constructor
    · rintro (⟨_, _, e, _⟩ | ⟨_, a⟩)
      · exact absurd e.symm hx
      · exact a
    · intro a
      exact Or.inr ⟨fun z => by have := a.2.1; rw [z, c0] at this; omega, a⟩
  have h1' := (isTop_congr (M := M) (M' := comeM M t v) rfl ha).mp h1
  have rv : r ≠ v := fun z => hw' (by
    rw [← r3, z]
    unfold prc
    rw [show moC (comeM M t v) v = t + 1 from sbf_at, if_neg (by omega)]
    omega)
  rw [prc_come rv] at r3
  exact ⟨hk, q', h1', h2, r, r1, r2, r3⟩
end RNG

/-! moments of programs side by side -/
/-- of each program how many steps are done, and where it came (1 more than the task); of each lock whether one has it alone, and who has it -/
abbrev MO : Type := (Nat → Nat) × (Nat → Nat) × (Nat → Nat) × (Nat → Nat)
def moD (M : MO) : Nat → Nat := M.1
def moC (M : MO) : Nat → Nat := M.2.1
def moA (M : MO) : Nat → Nat := M.2.2.1
def moW (M : MO) : Nat → Nat := M.2.2.2
section MOM
variable (Pl : PD) (S : Nat → Nat) (X : Nat)
def tk (t : Nat) : Prop := t < pP Pl ∧ X.testBit t = true ∧ pS Pl t = 0
def cr (q : Nat) : Prop := q < pP Pl ∧ X.testBit q = true ∧ pS Pl q ≠ 0
def act (M : MO) (q t : Nat) : Prop := cr Pl X q ∧ moC M q = t + 1 ∧ moD M q < pN Pl q
/-- q goes on at t -/
def isTop (M : MO) (t q : Nat) : Prop := moD M t < pN Pl t ∧ ((act Pl X M q t ∧ pS Pl q = 2) ∨ (act Pl X M q t ∧ pS Pl q = 1 ∧ ∀ r, act Pl X M r t → pS Pl r ≠ 2) ∨ (q = t ∧ ∀ r, ¬ act Pl X M r t))
def sdd (M : MO) (q : Nat) : Nat := S (12 * q + moD M q) / 16
def sll (M : MO) (q : Nat) : Nat := S (12 * q + moD M q) % 16
def wt (M : MO) (q : Nat) : Prop := ((sdd S M q = 0 ∨ sdd S M q = 1) ∧ moW M (sll S M q) ≠ 0) ∨ (sdd S M q = 2 ∧ moA M (sll S M q) ≠ 0)
def prc (M : MO) (r : Nat) : Nat := if moC M r = 0 then r else moC M r - 1
/-- a step of q that does not wait -/
def doM (M : MO) (q : Nat) : MO :=
  if (sdd S M q = 0 ∨ sdd S M q = 1 ∨ sdd S M q = 3) ∧ moW M (sll S M q) = 0 then (sbf (moD M) q (moD M q + 1), moC M, sbf (moA M) (sll S M q) 1, sbf (moW M) (sll S M q) (2 ^ q))
  else if sdd S M q = 2 then (sbf (moD M) q (moD M q + 1), moC M, moA M, sbf (moW M) (sll S M q) (moW M (sll S M q) ||| 2 ^ q))
  else if sdd S M q = 4 ∧ (moW M (sll S M q)).testBit q = true then (sbf (moD M) q (moD M q + 1), moC M, sbf (moA M) (sll S M q) 0, sbf (moW M) (sll S M q) (moW M (sll S M q) ^^^ 2 ^ q))
  else (sbf (moD M) q (moD M q + 1), moC M, moA M, moW M)
def comeM (M : MO) (t v : Nat) : MO := (moD M, sbf (moC M) v (t + 1), moA M, moW M)
def canC (M : MO) (q v : Nat) : Prop := cr Pl X v ∧ moC M v = 0 ∧ ((pS Pl v = 1 ∧ pS Pl q = 0 ∧ cx (pS Pl q) (fun j => S (12 * q + j)) (moD M q) = 6) ∨ (pS Pl v = 2 ∧ pS Pl q ≠ 2 ∧ ¬ cx (pS Pl q) (fun j => S (12 * q + j)) (moD M q) &&& 4 = 0))
/-- t waits on u -/
def wEd (M : MO) (t u : Nat) : Prop := tk Pl X t ∧ ∃ q, isTop Pl X M t q ∧ wt S M q ∧ ∃ r, r < pP Pl ∧ (moW M (sll S M q)).testBit r = true ∧ prc M r = u
def stk (M : MO) : Prop := ∃ t, t < 6 ∧ Rc 6 (wEd Pl S X M) t t
/-- such are moments that can come -/
def MOK (M : MO) : Prop := (∀ p, moD M p ≤ pN Pl p ∧ (moD M p ≠ 0 → p < pP Pl)) ∧ (∀ q, moC M q ≠ 0 → cr Pl X q ∧ tk Pl X (moC M q - 1)) ∧ (∀ q, ¬ tk Pl X q → moC M q = 0 → moD M q = 0) ∧ (∀ l, moA M l ≤ 1 ∧ moW M l < 64 ∧ (moA M l = 1 → ∃ q, q < 6 ∧ moW M l = 2 ^ q)) ∧ (∀ l r, (moW M l).testBit r = true → r < pP Pl ∧ (tk Pl X r ∨ moC M r ≠ 0)) ∧ (∀ t q, tk Pl X t → ¬ moD M t < pN Pl t → ¬ act Pl X M q t) ∧ ∀ t q r, act Pl X M q t → act Pl X M r t → pS Pl q = pS Pl r → q = r
end MOM
section MO2
variable {Pl : PD} {S : Nat → Nat} {X : Nat} {M : MO} {t q v : Nat}
theorem tk_cr (h : tk Pl X t) : ¬ cr Pl X t := fun z => z.2.2 h.2.2
theorem isTop_un {r : Nat} (pw : PW Pl) (I : MOK Pl X M) (h1 : isTop Pl X M t q) (h2 : isTop Pl X M t r) : q = r := by
  obtain ⟨_, h1⟩ := h1
  obtain ⟨_, h2⟩ := h2
  rcases h1 with ⟨a, b⟩ | ⟨a, b, c⟩ | ⟨a, b⟩
  · rcases h2 with ⟨a', b'⟩ | ⟨a', b', c'⟩ | ⟨a', b'⟩
    · exact I.2.2.2.2.2.2 t q r a a' (by rw [b, b'])
    · exact absurd b (c' q a)
    · exact absurd a (b' q)
  · rcases h2 with ⟨a', b'⟩ | ⟨a', b', c'⟩ | ⟨a', b'⟩
    · exact absurd b' (c r a')
    · exact I.2.2.2.2.2.2 t q r a a' (by rw [b, b'])
    · exact absurd a (b' q)
  · rcases h2 with ⟨a', b'⟩ | ⟨a', b', c'⟩ | ⟨a', b'⟩
    · exact absurd a' (b r)
    · exact absurd a' (b r)
    · rw [a, a']
theorem isTop_ex (pw : PW Pl) (h : moD M t < pN Pl t) : ∃ q, isTop Pl X M t q := by
  by_cases z : ∃ r, act Pl X M r t ∧ pS Pl r = 2
  · obtain ⟨r, r1, r2⟩ := z
    exact ⟨r, h, Or.inl ⟨r1, r2⟩⟩
  · by_cases y : ∃ r, act Pl X M r t
    · obtain ⟨r, r1⟩ := y
      have := (pw.2.2.2.2 r r1.1.1).1
      have := r1.1.2.2
      have : pS Pl r ≠ 2 := fun c => z ⟨r, r1, c⟩
      exact ⟨r, h, Or.inr (Or.inl ⟨r1, by omega, fun r' h' c => z ⟨r', h', c⟩⟩)⟩
    · exact ⟨t, h, Or.inr (Or.inr ⟨rfl, fun r hr => y ⟨r, hr⟩⟩)⟩
/-- where the one that goes on is -/
theorem isTop_at (ht : tk Pl X t) (I : MOK Pl X M) (h : isTop Pl X M t q) : q < pP Pl ∧ moD M q < pN Pl q ∧ prc M q = t ∧ (tk Pl X q ∨ moC M q ≠ 0) := by
  obtain ⟨h0, h1⟩ := h
  have hc : ∀ {q}, act Pl X M q t → q < pP Pl ∧ moD M q < pN Pl q ∧ prc M q = t ∧ (tk Pl X q ∨ moC M q ≠ 0) := fun {q} a => ⟨a.1.1, a.2.2, by unfold prc; rw [a.2.1, if_neg (by omega)]; rfl, Or.inr (by rw [a.2.1]; omega)⟩
  rcases h1 with ⟨a, b⟩ | ⟨a, b, c⟩ | ⟨rfl, b⟩
  · exact hc a
  · exact hc a
  · have c0 : moC M q = 0 := Classical.byContradiction fun c => tk_cr ht (I.2.1 q c).1
    exact ⟨ht.1, h0, by unfold prc; rw [if_pos c0], Or.inl ht⟩
theorem doM_D : moD (doM S M q) = sbf (moD M) q (moD M q + 1) := by
  unfold doM; split
  · rfl
  · split
    · rfl
    · split <;> rfl
theorem doM_C : moC (doM S M q) = moC M := by
  unfold doM; split
  · rfl
  · split
    · rfl
    · split <;> rfl
/-- what a step does to a lock: of others nothing changes -/
theorem doM_W {l r : Nat} (hr : r ≠ q) : (moW (doM S M q) l).testBit r = (moW M l).testBit r ∨ ((sdd S M q = 0 ∨ sdd S M q = 1 ∨ sdd S M q = 3) ∧ moW M (sll S M q) = 0 ∧ l = sll S M q) := by
  unfold doM
  by_cases c1 : (sdd S M q = 0 ∨ sdd S M q = 1 ∨ sdd S M q = 3) ∧ moW M (sll S M q) = 0
  · rw [if_pos c1]
    by_cases z : l = sll S M q
    · exact Or.inr ⟨c1.1, c1.2, z⟩
    · left; show (sbf (moW M) (sll S M q) (2 ^ q) l).testBit r = _; rw [sbf_ne z]
  · rw [if_neg c1]
    by_cases c2 : sdd S M q = 2
    · rw [if_pos c2]
      left
      show (sbf (moW M) (sll S M q) (moW M (sll S M q) ||| 2 ^ q) l).testBit r = _
      by_cases z : l = sll S M q
      · rw [z, sbf_at, Nat.testBit_or, Nat.testBit_two_pow]; simp [Ne.symm hr]
      · rw [sbf_ne z]
    · rw [if_neg c2]
      by_cases c4 : sdd S M q = 4 ∧ (moW M (sll S M q)).testBit q = true
      · rw [if_pos c4]
        left
        show (sbf (moW M) (sll S M q) (moW M (sll S M q) ^^^ 2 ^ q) l).testBit r = _
        by_cases z : l = sll S M q
        · rw [z, sbf_at, Nat.testBit_xor, Nat.testBit_two_pow]; simp [Ne.symm hr]
        · rw [sbf_ne z]
      · rw [if_neg c4]; exact Or.inl rfl
/-- of others nothing is taken, in all cases -/
theorem doM_W' {l r : Nat} (hr : r ≠ q) : (moW (doM S M q) l).testBit r = (moW M l).testBit r := by
  rcases doM_W (S := S) (M := M) (l := l) hr with z | ⟨z1, z2, rfl⟩
  · exact z
  · have e : moW (doM S M q) (sll S M q) = 2 ^ q := by
      unfold doM; rw [if_pos ⟨z1, z2⟩]; show sbf (moW M) (sll S M q) (2 ^ q) (sll S M q) = _; rw [sbf_at]
    rw [e, z2, Nat.testBit_two_pow]; simp [Ne.symm hr]
theorem act_do {r u : Nat} (hq : q ≠ r) : act Pl X (doM S M q) r u ↔ act Pl X M r u := by
  unfold act
  rw [doM_C, doM_D, sbf_ne (fun e => hq e.symm)]
theorem act_do_le {r u : Nat} (h : act Pl X (doM S M q) r u) : act Pl X M r u := by
  obtain ⟨h1, h2, h3⟩ := h
  rw [doM_C] at h2
  rw [doM_D] at h3
  refine ⟨h1, h2, ?_⟩
  by_cases z : r = q
  · rw [z, sbf_at] at h3; rw [z]; omega
  · rw [sbf_ne z] at h3; exact h3
theorem MOK_do (pw : PW Pl) (ht : tk Pl X t) (I : MOK Pl X M) (h : isTop Pl X M t q) (hw : ¬ wt S M q) : MOK Pl X (doM S M q) := by
  have hq := isTop_at ht I h
  have q6 : q < 6 := Nat.lt_of_lt_of_le hq.1 pw.2.2.1
  have p64 : 2 ^ q < 64 := by
    rcases (by omega : q = 0 ∨ q = 1 ∨ q = 2 ∨ q = 3 ∨ q = 4 ∨ q = 5) with rfl | rfl | rfl | rfl | rfl | rfl <;> decide
  obtain ⟨I1, I2, I3, I4, I5, I6, I7⟩ := I
  have hC : moC (doM S M q) = moC M := doM_C
  have hD : moD (doM S M q) = sbf (moD M) q (moD M q + 1) := doM_D
  refine ⟨fun p => ?_, fun r hr => ?_, fun r h1 h2 => ?_, fun l => ?_, fun l r hr => ?_, fun u r hu hd => ?_, fun u r r' h1 h2 => ?_⟩
  · rw [hD]
    by_cases z : p = q
    · rw [z, sbf_at]; exact ⟨hq.2.1, fun _ => hq.1⟩
    · rw [sbf_ne z]; exact I1 p
  · rw [hC] at hr ⊢; exact I2 r hr
  · rw [hC] at h2
    rw [hD]
    by_cases z : r = q
    · subst z
      exact absurd h2 (hq.2.2.2.resolve_left h1)
    · rw [sbf_ne z]; exact I3 r h1 h2
  · obtain ⟨a1, a2, a3⟩ := I4 l
    unfold doM
    by_cases c1 : (sdd S M q = 0 ∨ sdd S M q = 1 ∨ sdd S M q = 3) ∧ moW M (sll S M q) = 0
    · rw [if_pos c1]
      show sbf (moA M) (sll S M q) 1 l ≤ 1 ∧ sbf (moW M) (sll S M q) (2 ^ q) l < 64 ∧ (sbf (moA M) (sll S M q) 1 l = 1 → ∃ q', q' < 6 ∧ sbf (moW M) (sll S M q) (2 ^ q) l = 2 ^ q')
      by_cases z : l = sll S M q
      · rw [z, sbf_at, sbf_at]; exact ⟨Nat.le_refl _, p64, fun _ => ⟨q, q6, rfl⟩⟩
      · rw [sbf_ne z, sbf_ne z]; exact ⟨a1, a2, a3⟩
    · rw [if_neg c1]
      by_cases c2 : sdd S M q = 2
      · rw [if_pos c2]
        show moA M l ≤ 1 ∧ sbf (moW M) (sll S M q) (moW M (sll S M q) ||| 2 ^ q) l < 64 ∧ (moA M l = 1 → ∃ q', q' < 6 ∧ sbf (moW M) (sll S M q) (moW M (sll S M q) ||| 2 ^ q) l = 2 ^ q')
        by_cases z : l = sll S M q
        · subst z
          have na : moA M (sll S M q) = 0 := Classical.byContradiction fun c => hw (Or.inr ⟨c2, c⟩)
          rw [sbf_at]
          exact ⟨a1, Nat.or_lt_two_pow (n := 6) a2 p64, fun c => by omega⟩
        · rw [sbf_ne z]; exact ⟨a1, a2, a3⟩
      · rw [if_neg c2]
        by_cases c4 : sdd S M q = 4 ∧ (moW M (sll S M q)).testBit q = true
        · rw [if_pos c4]
          show sbf (moA M) (sll S M q) 0 l ≤ 1 ∧ sbf (moW M) (sll S M q) (moW M (sll S M q) ^^^ 2 ^ q) l < 64 ∧ (sbf (moA M) (sll S M q) 0 l = 1 → ∃ q', q' < 6 ∧ sbf (moW M) (sll S M q) (moW M (sll S M q) ^^^ 2 ^ q) l = 2 ^ q')
          by_cases z : l = sll S M q
          · subst z
            rw [sbf_at, sbf_at]
            exact ⟨Nat.zero_le _, Nat.xor_lt_two_pow (n := 6) a2 p64, fun c => by omega⟩
          · rw [sbf_ne z, sbf_ne z]; exact ⟨a1, a2, a3⟩
        · rw [if_neg c4]; exact ⟨a1, a2, a3⟩
  · rw [hC]
    by_cases z : r = q
    · rw [z]; exact ⟨hq.1, hq.2.2.2⟩
    · rw [doM_W' z] at hr; exact I5 l r hr
  · rw [hD] at hd
    intro ha
    have ha' := act_do_le ha
    by_cases z : u = q
    · subst z
      -- the task itself stepped: it is on top of its own, so none is active there
      have : isTop Pl X M t u := h
      rcases this.2 with ⟨a, _⟩ | ⟨a, _, _⟩ | ⟨e, b⟩
      · exact tk_cr hu a.1
      · exact tk_cr hu a.1
      · rw [e] at ha'; exact b r ha'
    · rw [sbf_ne z] at hd
      exact I6 u r hu hd ha'
  · exact I7 u r r' (act_do_le h1) (act_do_le h2)
theorem act_come {r u : Nat} : act Pl X (comeM M t v) r u ↔ (r = v ∧ cr Pl X v ∧ t = u ∧ moD M v < pN Pl v) ∨ (r ≠ v ∧ act Pl X M r u) := by
  unfold act comeM
  show cr Pl X r ∧ sbf (moC M) v (t + 1) r = u + 1 ∧ moD M r < pN Pl r ↔ _
  by_cases z : r = v
  · subst z
    rw [sbf_at]
    exact ⟨fun ⟨a, b, c⟩ => Or.inl ⟨rfl, a, by omega, c⟩, fun c => by rcases c with ⟨_, a, b, c⟩ | ⟨a, _⟩; exact ⟨a, by omega, c⟩; exact absurd rfl a⟩
  · rw [sbf_ne z]
    exact ⟨fun c => Or.inr ⟨z, c⟩, fun c => by rcases c with ⟨a, _⟩ | ⟨_, a⟩; exact absurd a z; exact a⟩
theorem MOK_come (pw : PW Pl) (ht : tk Pl X t) (I : MOK Pl X M) (h : isTop Pl X M t q) (hc : canC Pl S X M q v) : MOK Pl X (comeM M t v) := by
  have hq := isTop_at ht I h
  obtain ⟨I1, I2, I3, I4, I5, I6, I7⟩ := I
  obtain ⟨cv, c0, hs⟩ := hc
  have dv : moD M v = 0 := I3 v (fun z => tk_cr z cv) c0
  -- none of its sort is active there
  have none' : ∀ r, act Pl X M r t → pS Pl r ≠ pS Pl v := fun r hr e => by
    rcases h.2 with ⟨a, b⟩ | ⟨a, b, c⟩ | ⟨e', b⟩
    · rcases hs with ⟨s1, s2, _⟩ | ⟨s1, s2, _⟩
      · omega
      · exact s2 b
    · rcases hs with ⟨s1, s2, _⟩ | ⟨s1, s2, _⟩
      · omega
      · exact c r hr (by rw [e, s1])
    · exact b r hr
  refine ⟨I1, fun r hr => ?_, fun r h1 h2 => ?_, I4, fun l r hr => ?_, fun u r hu hd ha => ?_, fun u r r' h1 h2 he => ?_⟩
  · change sbf (moC M) v (t + 1) r ≠ 0 at hr
    show cr Pl X r ∧ tk Pl X (sbf (moC M) v (t + 1) r - 1)
    by_cases z : r = v
    · rw [z, sbf_at]; exact ⟨cv, ht⟩
    · rw [sbf_ne z] at hr ⊢; exact I2 r hr
  · change sbf (moC M) v (t + 1) r = 0 at h2
    by_cases z : r = v
    · rw [z, sbf_at] at h2; omega
    · rw [sbf_ne z] at h2; exact I3 r h1 h2
  · obtain ⟨a, b⟩ := I5 l r hr
    refine ⟨a, b.imp_right fun b => ?_⟩
    show sbf (moC M) v (t + 1) r ≠ 0
    by_cases z : r = v
    · rw [z, sbf_at]; omega
    · rw [sbf_ne z]; exact b
  · rcases act_come.mp ha with ⟨e1, _, e2, _⟩ | ⟨_, a⟩
    · subst e2; exact hd h.1
    · exact I6 u r hu hd a
  · rcases act_come.mp h1 with ⟨e1, _, e2, _⟩ | ⟨n1, a1⟩
    · rcases act_come.mp h2 with ⟨e1', _, e2', _⟩ | ⟨n1', a1'⟩
      · rw [e1, e1']
      · subst e2
        exact absurd (by rw [← he, e1]) (none' r' a1')
    · rcases act_come.mp h2 with ⟨e1', _, e2', _⟩ | ⟨n1', a1'⟩
      · subst e2'
        exact absurd (by rw [he, e1']) (none' r a1)
      · exact I7 u r r' a1 a1' he
end MO2

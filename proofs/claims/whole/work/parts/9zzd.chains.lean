/-! how many chains there can be -/
section CHB
variable {P : PD} {p q s j : Nat} {A B : LA} {S S' : Nat → Nat} {c : CD}
/-- what is held ahead of a step, by the steps alone -/
noncomputable def hst (P : PD) (p : Nat) (S : Nat → Nat) : Nat → HD
  | 0 => (0, fun _ => 0, fun _ => 0)
  | s + 1 =>
    if S (12 * p + s) / 16 < 4 then ci (isH (hst P p S s) (S (12 * p + s) % 16)) (hst P p S s) (push (hst P p S s) (S (12 * p + s) % 16) (nodeOf P (S (12 * p + s) / 16) (S (12 * p + s) % 16)))
    else if S (12 * p + s) / 16 = 4 then ci (isH (hst P p S s) (S (12 * p + s) % 16)) (drop1 (hst P p S s) (plc (hst P p S s) (S (12 * p + s) % 16))) (hst P p S s)
    else hst P p S s
def tks (P : PD) (p : Nat) (S : Nat → Nat) (s : Nat) : Prop := S (12 * p + s) / 16 < 4 ∧ ¬ isH (hst P p S s) (S (12 * p + s) % 16)
noncomputable def cks (P : PD) (p : Nat) (S : Nat → Nat) (s : Nat) : CD := chn (hst P p S s) (nodeOf P (S (12 * p + s) / 16) (S (12 * p + s) % 16))
def hasC (A : LA) (c : CD) : Prop := ∃ i, i < aK A ∧ cEq (aC A i) c
/-- all chains of the program are kept already -/
def incA (P : PD) (p : Nat) (A : LA) : Prop := ∀ s, s < pN P p → tks P p (aS A) s → hasC A (cks P p (aS A) s)
theorem cEq_r : cEq c c := ⟨rfl, fun _ _ => rfl⟩
theorem hst_c (h : ∀ i, i < s → S (12 * p + i) = S' (12 * p + i)) : hst P p S s = hst P p S' s := by
  induction s with
  | zero => rfl
  | succ s ih =>
    have e := ih (fun i hi => h i (by omega))
    have e2 := h s (by omega)
    unfold hst
    rw [e, e2]
theorem keep_ch {d : CD} : (hasC A d → hasC (keepC A c) d) ∧ hasC (keepC A c) c ∧ aK (keepC A c) ≤ aK A + 1 ∧ (hasC A c → aK (keepC A c) = aK A) := by
  by_cases z : ∃ i, i < aK A ∧ cEq (aC A i) c
  · rw [keep_old z]
    exact ⟨fun x => x, z, Nat.le_succ _, fun _ => rfl⟩
  · rw [keep_new z]
    refine ⟨fun ⟨i, i1, i2⟩ => ⟨i, ?_, ?_⟩, ⟨aK A, ?_, ?_⟩, Nat.le_refl _, fun x => absurd x z⟩
    · show i < aK A + 1; omega
    · show cEq (sbf (aC A) (aK A) c i) d
      rw [sbf_ne (by omega)]; exact i2
    · show aK A < aK A + 1; omega
    · show cEq (sbf (aC A) (aK A) c (aK A)) c
      rw [sbf_at]; exact cEq_r
theorem steps_ch (s : Nat) : aS (stepsA P p A s).1 = aS A ∧ (stepsA P p A s).2 = hst P p (aS A) s ∧ (∀ d, hasC A d → hasC (stepsA P p A s).1 d) ∧ (∀ i, i < s → tks P p (aS A) i → hasC (stepsA P p A s).1 (cks P p (aS A) i)) ∧ aK (stepsA P p A s).1 ≤ aK A + s ∧ ((∀ i, i < s → tks P p (aS A) i → hasC A (cks P p (aS A) i)) → aK (stepsA P p A s).1 = aK A) := by
  induction s with
  | zero => exact ⟨rfl, rfl, fun _ x => x, fun i hi => absurd hi (Nat.not_lt_zero _), Nat.le_refl _, fun _ => rfl⟩
  | succ s ih =>
    obtain ⟨i1, i2, i3, i4, i5, i6⟩ := ih
    show aS (stepA P p s (stepsA P p A s)).1 = aS A ∧ (stepA P p s (stepsA P p A s)).2 = _ ∧ (∀ d, hasC A d → hasC (stepA P p s (stepsA P p A s)).1 d) ∧ (∀ i, i < s + 1 → tks P p (aS A) i → hasC (stepA P p s (stepsA P p A s)).1 (cks P p (aS A) i)) ∧ aK (stepA P p s (stepsA P p A s)).1 ≤ _ ∧ ((∀ i, i < s + 1 → tks P p (aS A) i → hasC A (cks P p (aS A) i)) → aK (stepA P p s (stepsA P p A s)).1 = aK A)
    generalize hB : stepsA P p A s = BH at *
    obtain ⟨B, H⟩ := BH
    change aS B = aS A at i1
    change H = hst P p (aS A) s at i2
    change ∀ d, hasC A d → hasC B d at i3
    change ∀ i, i < s → tks P p (aS A) i → hasC B (cks P p (aS A) i) at i4
    change aK B ≤ aK A + s at i5
    change (∀ i, i < s → tks P p (aS A) i → hasC A (cks P p (aS A) i)) → aK B = aK A at i6
    have same : ∀ C : LA, aS C = aS B → C.2.2.2.2.1 = B.2.2.2.2.1 → ¬ tks P p (aS A) s → aS C = aS A ∧ (∀ d, hasC A d → hasC C d) ∧ (∀ i, i < s + 1 → tks P p (aS A) i → hasC C (cks P p (aS A) i)) ∧ aK C ≤ aK A + (s + 1) ∧ ((∀ i, i < s + 1 → tks P p (aS A) i → hasC A (cks P p (aS A) i)) → aK C = aK A) := fun C e1 e2 hn => by
      have ek : aK C = aK B := by show C.2.2.2.2.1.1 = B.2.2.2.2.1.1; rw [e2]
      have ec : aC C = aC B := by show C.2.2.2.2.1.2 = B.2.2.2.2.1.2; rw [e2]
      have hh : ∀ d, hasC C d ↔ hasC B d := fun d => by unfold hasC; rw [ek, ec]
      refine ⟨e1.trans i1, fun d hd => (hh d).mpr (i3 d hd), fun i hi ht => (hh _).mpr ?_, by omega, fun hq => by rw [ek]; exact i6 fun i hi => hq i (by omega)⟩
      by_cases z : i = s
      · rw [z] at ht; exact absurd ht hn
      · exact i4 i (by omega) ht
    by_cases d4 : aS A (12 * p + s) / 16 < 4
    · by_cases hh : isH H (aS A (12 * p + s) % 16)
      · have e : stepA P p s (B, H) = (setD B (addR (aD B) 1 p s 1 (fun _ => hD H (plc H (aS A (12 * p + s) % 16)))), H) := by
          unfold stepA
          simp only [i1]
          rw [if_pos d4, ci_t hh]
        rw [e]
        have := same (setD B (addR (aD B) 1 p s 1 (fun _ => hD H (plc H (aS A (12 * p + s) % 16))))) rfl rfl (fun q => q.2 (by rw [← i2]; exact hh))
        refine ⟨this.1, ?_, this.2⟩
        show H = _
        unfold hst
        rw [if_pos d4, ← i2, ci_t hh]
      · have e : stepA P p s (B, H) = (takeA P p s (aS A (12 * p + s) / 16) (nodeOf P (aS A (12 * p + s) / 16) (aS A (12 * p + s) % 16)) B H, push H (aS A (12 * p + s) % 16) (nodeOf P (aS A (12 * p + s) / 16) (aS A (12 * p + s) % 16))) := by
          unfold stepA
          simp only [i1]
          rw [if_pos d4, ci_f hh]
        rw [e]
        have tk : tks P p (aS A) s := ⟨d4, by rw [← i2]; exact hh⟩
        have ck : cks P p (aS A) s = chn H (nodeOf P (aS A (12 * p + s) / 16) (aS A (12 * p + s) % 16)) := by unfold cks; rw [← i2]
        generalize hx : nodeOf P (aS A (12 * p + s) / 16) (aS A (12 * p + s) % 16) = x at *
        have ek : aK (takeA P p s (aS A (12 * p + s) / 16) x B H) = aK (keepC B (chn H x)) := rfl
        have ec : aC (takeA P p s (aS A (12 * p + s) / 16) x B H) = aC (keepC B (chn H x)) := rfl
        have es : aS (takeA P p s (aS A (12 * p + s) / 16) x B H) = aS B := take_S
        have hq : ∀ d, hasC (takeA P p s (aS A (12 * p + s) / 16) x B H) d ↔ hasC (keepC B (chn H x)) d := fun d => by unfold hasC; rw [ek, ec]
        refine ⟨es.trans i1, ?_, fun d hd => (hq d).mpr (keep_ch.1 (i3 d hd)), fun i hi ht => (hq _).mpr ?_, ?_, fun hall => ?_⟩
        · show push H _ x = _
          unfold hst
          rw [if_pos d4, ← i2, ci_f hh, hx]
        · by_cases z : i = s
          · rw [z, ck]; exact (keep_ch (d := chn H x)).2.1
          · exact keep_ch.1 (i4 i (by omega) ht)
        · have := (keep_ch (A := B) (c := chn H x) (d := chn H x)).2.2.1
          show aK (takeA P p s (aS A (12 * p + s) / 16) x B H) ≤ _
          rw [ek]; omega
        · show aK (takeA P p s (aS A (12 * p + s) / 16) x B H) = _
          have h1 := i6 fun i hi => hall i (by omega)
          have h2 := i3 _ (hall s (by omega) tk)
          rw [ck] at h2
          rw [ek, (keep_ch (d := chn H x)).2.2.2 h2, h1]
    · by_cases d5 : aS A (12 * p + s) / 16 = 4
      · by_cases hh : isH H (aS A (12 * p + s) % 16)
        · have e : stepA P p s (B, H) = (B, drop1 H (plc H (aS A (12 * p + s) % 16))) := by
            unfold stepA
            simp only [i1]
            rw [if_neg d4, if_pos d5, ci_t hh]
          rw [e]
          have := same B rfl rfl (fun q => d4 q.1)
          refine ⟨this.1, ?_, this.2⟩
          show drop1 H _ = _
          unfold hst
          rw [if_neg d4, if_pos d5, ← i2, ci_t hh]
        · have e : stepA P p s (B, H) = (setD B (addR (aD B) 8 p s 1 (fun _ => 2 * pk P (aS A (12 * p + s) % 16))), H) := by
            unfold stepA
            simp only [i1]
            rw [if_neg d4, if_pos d5, ci_f hh]
          rw [e]
          have := same (setD B (addR (aD B) 8 p s 1 (fun _ => 2 * pk P (aS A (12 * p + s) % 16)))) rfl rfl (fun q => d4 q.1)
          refine ⟨this.1, ?_, this.2⟩
          show H = _
          unfold hst
          rw [if_neg d4, if_pos d5, ← i2, ci_f hh]
      · have e : stepA P p s (B, H) = (B, H) := by
          unfold stepA
          simp only [i1]
          rw [if_neg d4, if_neg d5]
        rw [e]
        have := same B rfl rfl (fun q => d4 q.1)
        refine ⟨this.1, ?_, this.2⟩
        show H = _
        unfold hst
        rw [if_neg d4, if_neg d5, ← i2]
theorem run_ch : aS (runA P p A) = aS A ∧ (∀ d, hasC A d → hasC (runA P p A) d) ∧ incA P p (runA P p A) ∧ aK (runA P p A) ≤ aK A + pN P p ∧ (incA P p A → aK (runA P p A) = aK A) := by
  obtain ⟨i1, i2, i3, i4, i5, i6⟩ := steps_ch (P := P) (p := p) (A := A) (pN P p)
  have es : aS (runA P p A) = aS A := i1
  refine ⟨es, i3, fun s hs ht => ?_, i5, fun hi => i6 fun i h1 h2 => hi i h1 h2⟩
  rw [es] at ht ⊢
  exact i4 s hs ht
theorem inc_mono (h : incA P q A) : incA P q (runA P p A) := fun s hs ht => by
  obtain ⟨e, m, _⟩ := run_ch (P := P) (p := p) (A := A)
  rw [e] at ht ⊢
  exact m _ (h s hs ht)
theorem inc_sw (hq : ∀ i, i < pN P q → sj j (12 * q + i) = 12 * q + i) (h : incA P q A) : incA P q (swA A j) := fun s hs ht => by
  have eS : ∀ i, i < pN P q → aS (swA A j) (12 * q + i) = aS A (12 * q + i) := fun i hi => by
    show aS A (sj j (12 * q + i)) = _
    rw [hq i hi]
  have eh : hst P q (aS (swA A j)) s = hst P q (aS A) s := hst_c fun i hi => eS i (by omega)
  have e1 := eS s hs
  unfold tks at ht
  rw [eh, e1] at ht
  have := h s hs ht
  unfold cks
  rw [eh, e1]
  exact this
/-- programs with chains that are not kept yet -/
noncomputable def unA (P : PD) (A : LA) : Nat → Nat
  | 0 => 0
  | p + 1 => unA P A p + ci (incA P p A) 0 1
theorem un_le (A : LA) : ∀ n, unA P A n ≤ n
  | 0 => Nat.le_refl _
  | n + 1 => by
    have := un_le A n
    show unA P A n + ci (incA P n A) 0 1 ≤ n + 1
    by_cases z : incA P n A
    · rw [ci_t z]; omega
    · rw [ci_f z]; omega
theorem un_mono (h : ∀ q, incA P q A → incA P q B) : ∀ n, unA P B n ≤ unA P A n
  | 0 => Nat.le_refl _
  | n + 1 => by
    have := un_mono h n
    show unA P B n + ci (incA P n B) 0 1 ≤ unA P A n + ci (incA P n A) 0 1
    by_cases z : incA P n A
    · rw [ci_t z, ci_t (h n z)]; omega
    · rw [ci_f z]
      by_cases y : incA P n B
      · rw [ci_t y]; omega
      · rw [ci_f y]; omega
theorem un_dec (h : ∀ q, incA P q A → incA P q B) (hb : incA P p B) (ha : ¬ incA P p A) : ∀ n, p < n → unA P B n + 1 ≤ unA P A n
  | 0, hp => absurd hp (Nat.not_lt_zero _)
  | n + 1, hp => by
    show unA P B n + ci (incA P n B) 0 1 + 1 ≤ unA P A n + ci (incA P n A) 0 1
    by_cases e : p = n
    · have := un_mono h n
      rw [← e, ci_t hb, ci_f ha]
      rw [← e] at this
      omega
    · have := un_dec h hb ha n (by omega)
      by_cases z : incA P n A
      · rw [ci_t z, ci_t (h n z)]; omega
      · rw [ci_f z]
        by_cases y : incA P n B
        · rw [ci_t y]; omega
        · rw [ci_f y]; omega
theorem un_sw {N : Nat} (h : ∀ q, q < N → q ≠ p → incA P q A → incA P q B) : ∀ n, n ≤ N → unA P B n ≤ unA P A n + (if p < n then 1 else 0)
  | 0, _ => Nat.zero_le _
  | n + 1, hN => by
    have := un_sw h n (by omega)
    show unA P B n + ci (incA P n B) 0 1 ≤ unA P A n + ci (incA P n A) 0 1 + (if p < n + 1 then 1 else 0)
    by_cases e : p = n
    · have hn : ¬ p < n := by omega
      rw [if_neg hn] at this
      rw [if_pos (by omega)]
      have c1 : ci (incA P n B) 0 1 ≤ 1 := by
        by_cases y : incA P n B
        · rw [ci_t y]; omega
        · rw [ci_f y]; exact Nat.le_refl _
      omega
    · have ei : (if p < n + 1 then 1 else 0) = (if p < n then 1 else 0) := by
        by_cases y : p < n
        · rw [if_pos y, if_pos (by omega)]
        · rw [if_neg y, if_neg (by omega)]
      rw [ei]
      by_cases z : incA P n A
      · rw [ci_t z, ci_t (h n (by omega) (fun q => e q.symm) z)]; omega
      · rw [ci_f z]
        have c1 : ci (incA P n B) 0 1 ≤ 1 := by
          by_cases y : incA P n B
          · rw [ci_t y]; omega
          · rw [ci_f y]; exact Nat.le_refl _
        omega
/-- few chains, by how many swaps and runs there were -/
def bndA (P : PD) (A : LA) (s r : Nat) : Prop := aK A + 12 * unA P A (pP P) ≤ 72 + 12 * s ∧ aK A ≤ 12 * r
theorem bnd_up {s' r r' : Nat} (h : bndA P A s r) (hs : s ≤ s') (hr : r ≤ r') : bndA P A s' r' := ⟨by have := h.1; omega, by have := h.2; omega⟩
theorem bnd_run {r : Nat} (pw : PW P) (hp : p < pP P) (h : bndA P A s r) : bndA P (runA P p A) s (r + 1) := by
  obtain ⟨h1, h2⟩ := h
  obtain ⟨_, _, e3, e4, e5⟩ := run_ch (P := P) (p := p) (A := A)
  have n12 := (pw.2.2.2.2 p hp).2.2
  refine ⟨?_, by omega⟩
  by_cases z : incA P p A
  · have := un_mono (A := A) (B := runA P p A) (fun q hq => inc_mono hq) (pP P)
    rw [e5 z]; omega
  · have := un_dec (A := A) (B := runA P p A) (fun q hq => inc_mono hq) e3 z (pP P) hp
    omega
theorem bnd_sw {r t : Nat} (pw : PW P) (ht : t + 1 < pN P p) (hp : p < pP P) (h : bndA P A s r) : bndA P (swA A (12 * p + t)) (s + 1) r := by
  obtain ⟨h1, h2⟩ := h
  have n12 := (pw.2.2.2.2 p hp).2.2
  have := un_sw (P := P) (p := p) (A := A) (B := swA A (12 * p + t)) (N := pP P) (fun q y hq hi => by
    have q12 := (pw.2.2.2.2 q y).2.2
    exact inc_sw (fun i hi' => sj_far (by omega) (by omega)) hi) (pP P) (Nat.le_refl _)
  rw [if_pos hp] at this
  have e : aK (swA A (12 * p + t)) = aK A := rfl
  exact ⟨by rw [e]; omega, h2⟩
theorem bnd_no (pw : PW P) {r : Nat} : bndA P (noA S) s r := by
  have := un_le (P := P) (noA S) (pP P)
  have p6 := pw.2.2.1
  exact ⟨by show 0 + 12 * _ ≤ _; omega, Nat.zero_le _⟩
end CHB

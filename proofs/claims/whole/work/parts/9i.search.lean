/-! the search told once -/
/-- outcome (3: not known yet), how many moments, the moments, how each came (64 times the one ahead, 8 times the task, 1 more than who came) -/
abbrev SS : Type := Nat × Nat × (Nat → MO) × (Nat → Nat)
def zO (Z : SS) : Nat := Z.1
def zN (Z : SS) : Nat := Z.2.1
def zM (Z : SS) : Nat → MO := Z.2.2.1
def zB (Z : SS) : Nat → Nat := Z.2.2.2
def M00 : MO := (fun _ => 0, fun _ => 0, fun _ => 0, fun _ => 0)
section SRC
variable (Pl : PD) (S : Nat → Nat) (X : Nat)
/-- is it new? -/
def nwM (Z : SS) (M : MO) : Prop := zO Z = 3 ∧ ¬ ∃ j, j < zN Z ∧ mEq (zM Z j) M
noncomputable def addM (Z : SS) (M : MO) (k : Nat) : SS := ci (nwM Z M) (ci (zN Z = 4000) (2, zN Z, zM Z, zB Z) (ci (stk Pl S X M) 1 3, zN Z + 1, sbf (zM Z) (zN Z) M, sbf (zB Z) (zN Z) k)) Z
noncomputable def goW (M : MO) (i t q : Nat) (Z : SS) : Nat → SS
  | 0 => Z
  | w + 1 => ci (canC Pl S X M q w) (addM Pl S X (goW M i t q Z w) (comeM M t w) (i * 64 + t * 8 + (w + 1))) (goW M i t q Z w)
noncomputable def tpq (M : MO) (t : Nat) : Nat := @dite Nat (∃ q, isTop Pl X M t q) (Classical.propDecidable _) (fun h => Classical.choose h) (fun _ => 0)
noncomputable def goT (M : MO) (i : Nat) (Z : SS) : Nat → SS
  | 0 => Z
  | t + 1 => ci (tk Pl X t ∧ moD M t < pN Pl t) (goW Pl S X M i t (tpq Pl X M t) (ci (wt S M (tpq Pl X M t)) (goT M i Z t) (addM Pl S X (goT M i Z t) (doM S M (tpq Pl X M t)) (i * 64 + t * 8))) (pP Pl)) (goT M i Z t)
noncomputable def goF (Z : SS) : Nat → SS
  | 0 => Z
  | i + 1 => ci (i < zN (goF Z i)) (goT Pl S X (zM (goF Z i) i) i (goF Z i) (pP Pl)) (goF Z i)
noncomputable def srch : SS := goF Pl S X (addM Pl S X (3, 0, fun _ => M00, fun _ => 0) M00 0) 4000
/-- no lock beyond 10 is had -/
def MOL (M : MO) : Prop := ∀ l, 10 ≤ l → moA M l = 0 ∧ moW M l = 0
def come1 (M : MO) (p : Nat) : Nat := if moC M p = 0 then 0 else 1
/-- how many moves lead there -/
def dep (M : MO) : Nat → Nat
  | 0 => 0
  | p + 1 => dep M p + (moD M p + come1 M p)
/-- what holds of a search -/
def SI (Z : SS) : Prop := (zO Z = 1 ∨ zO Z = 2 ∨ zO Z = 3) ∧ zN Z ≤ 4000 ∧ (∀ j, j < zN Z → MOK Pl X (zM Z j) ∧ MOL (zM Z j)) ∧ (∀ j, j < zN Z → zO Z = 3 → ¬ stk Pl S X (zM Z j)) ∧ (zO Z = 1 → 0 < zN Z ∧ stk Pl S X (zM Z (zN Z - 1))) ∧ (0 < zN Z → dep (zM Z 0) 6 = 0) ∧ ∀ j, 0 < j → j < zN Z → zB Z j / 64 < j ∧ zB Z j % 64 / 8 < 6 ∧ zB Z j % 8 < 7 ∧ dep (zM Z j) 6 = dep (zM Z (zB Z j / 64)) 6 + 1
end SRC
section SR2
variable {Pl : PD} {S : Nat → Nat} {X : Nat} {Z : SS} {M M' : MO} {i t q k w p : Nat}
theorem mEq_rfl : mEq M M := ⟨fun _ _ => ⟨rfl, rfl⟩, fun _ _ => ⟨rfl, rfl⟩⟩
theorem tpq_is (pw : PW Pl) (I : MOK Pl X M) (h : isTop Pl X M t q) : tpq Pl X M t = q := by
  unfold tpq
  rw [dif_pos ⟨q, h⟩]
  exact isTop_un pw I (Classical.choose_spec (⟨q, h⟩ : ∃ q, isTop Pl X M t q)) h
theorem addM_o (h : zO Z ≠ 3) : addM Pl S X Z M k = Z := by
  unfold addM; rw [ci_f (fun z => h z.1)]
theorem addM_old {j : Nat} (hj : j < zN Z) (h : mEq (zM Z j) M) : addM Pl S X Z M k = Z := by
  unfold addM; rw [ci_f (fun z => z.2 ⟨j, hj, h⟩)]
theorem addM_full (h : nwM Z M) (hn : zN Z = 4000) : addM Pl S X Z M k = (2, zN Z, zM Z, zB Z) := by
  unfold addM; rw [ci_t h, ci_t hn]
theorem addM_new (h : nwM Z M) (hn : zN Z ≠ 4000) : addM Pl S X Z M k = (ci (stk Pl S X M) 1 3, zN Z + 1, sbf (zM Z) (zN Z) M, sbf (zB Z) (zN Z) k) := by
  unfold addM; rw [ci_t h, ci_f hn]
theorem goW_o (h : zO Z ≠ 3) (w : Nat) : goW Pl S X M i t q Z w = Z := by
  induction w with
  | zero => rfl
  | succ w ih =>
    show ci _ _ _ = _
    rw [ih, addM_o h]
    by_cases z : canC Pl S X M q w
    · rw [ci_t z]
    · rw [ci_f z]
theorem goT_o (h : zO Z ≠ 3) (u : Nat) : goT Pl S X M i Z u = Z := by
  induction u with
  | zero => rfl
  | succ u ih =>
    show ci _ _ _ = _
    rw [ih, addM_o h]
    have : ci (wt S M (tpq Pl X M u)) Z Z = Z := by
      by_cases z : wt S M (tpq Pl X M u)
      · rw [ci_t z]
      · rw [ci_f z]
    rw [this, goW_o h]
    by_cases z : tk Pl X u ∧ moD M u < pN Pl u
    · rw [ci_t z]
    · rw [ci_f z]
theorem goF_o (h : zO Z ≠ 3) (u : Nat) : goF Pl S X Z u = Z := by
  induction u with
  | zero => rfl
  | succ u ih =>
    show ci _ _ _ = _
    rw [ih, goT_o h]
    by_cases z : u < zN Z
    · rw [ci_t z]
    · rw [ci_f z]
/-- the steps of the outermost loop that do nothing more -/
theorem goF_more (i : Nat) : ∀ d, zO (goF Pl S X Z i) ≠ 3 ∨ zN (goF Pl S X Z i) ≤ i → goF Pl S X Z (i + d) = goF Pl S X Z i := by
  intro d
  induction d with
  | zero => intro _; rfl
  | succ d ih =>
    intro h
    show ci (i + d < zN (goF Pl S X Z (i + d))) (goT Pl S X (zM (goF Pl S X Z (i + d)) (i + d)) (i + d) (goF Pl S X Z (i + d)) (pP Pl)) (goF Pl S X Z (i + d)) = _
    rw [ih h]
    rcases h with h | h
    · rw [goT_o h]
      by_cases z : i + d < zN (goF Pl S X Z i)
      · rw [ci_t z]
      · rw [ci_f z]
    · rw [ci_f (by omega)]
theorem dep_sb {n : Nat} (hq : q < n) : dep (sbf (moD M) q (moD M q + 1), moC M, moA M', moW M') n = dep M n + 1 := by
  have far : ∀ n, n ≤ q → dep (sbf (moD M) q (moD M q + 1), moC M, moA M', moW M') n = dep M n := by
    intro n
    induction n with
    | zero => intro _; rfl
    | succ n ih =>
      intro h
      show dep _ n + (sbf (moD M) q (moD M q + 1) n + come1 M n) = dep M n + (moD M n + come1 M n)
      rw [ih (by omega), sbf_ne (by omega)]
  induction n with
  | zero => omega
  | succ n ih =>
    show dep _ n + (sbf (moD M) q (moD M q + 1) n + come1 M n) = dep M n + (moD M n + come1 M n) + 1
    by_cases z : n = q
    · subst z
      rw [far n (Nat.le_refl _), sbf_at]; omega
    · rw [ih (by omega), sbf_ne z]; omega
theorem dep_do {n : Nat} (hq : q < n) : dep (doM S M q) n = dep M n + 1 := by
  have e : doM S M q = (sbf (moD M) q (moD M q + 1), moC M, moA (doM S M q), moW (doM S M q)) := by
    conv => lhs; rw [show doM S M q = (moD (doM S M q), moC (doM S M q), moA (doM S M q), moW (doM S M q)) from rfl, doM_D, doM_C]
  rw [e]
  exact dep_sb (M' := doM S M q) hq
theorem dep_come {n : Nat} (hq : q < n) (h0 : moC M q = 0) : dep (comeM M t q) n = dep M n + 1 := by
  have far : ∀ n, n ≤ q → dep (comeM M t q) n = dep M n := by
    intro n
    induction n with
    | zero => intro _; rfl
    | succ n ih =>
      intro h
      show dep _ n + (moD M n + (if sbf (moC M) q (t + 1) n = 0 then 0 else 1)) = dep M n + (moD M n + come1 M n)
      rw [ih (by omega), sbf_ne (by omega)]; rfl
  induction n with
  | zero => omega
  | succ n ih =>
    show dep _ n + (moD M n + (if sbf (moC M) q (t + 1) n = 0 then 0 else 1)) = dep M n + (moD M n + come1 M n) + 1
    by_cases z : n = q
    · subst z
      rw [far n (Nat.le_refl _), sbf_at, if_neg (by omega)]
      unfold come1
      rw [if_pos h0]; omega
    · rw [ih (by omega), sbf_ne z]; unfold come1; omega
theorem dep_le (pw : PW Pl) (I : MOK Pl X M) : ∀ n, dep M n ≤ 13 * n := by
  intro n
  induction n with
  | zero => exact Nat.le_refl _
  | succ n ih =>
    show dep M n + (moD M n + come1 M n) ≤ _
    have h1 : come1 M n ≤ 1 := by unfold come1; split <;> omega
    have h2 : moD M n ≤ 12 := by
      by_cases z : moD M n = 0
      · omega
      · have := (I.1 n).2 z
        have := (pw.2.2.2.2 n this).2.2
        have := (I.1 n).1
        omega
    omega
theorem MOL_do (h : MOL M) (hl : sll S M q < 10) : MOL (doM S M q) := by
  intro l hl'
  have ne : l ≠ sll S M q := by omega
  obtain ⟨a1, a2⟩ := h l hl'
  unfold doM
  split
  · exact ⟨(sbf_ne ne).trans a1, (sbf_ne ne).trans a2⟩
  · split
    · exact ⟨a1, (sbf_ne ne).trans a2⟩
    · split
      · exact ⟨(sbf_ne ne).trans a1, (sbf_ne ne).trans a2⟩
      · exact ⟨a1, a2⟩
theorem MOL_come (h : MOL M) : MOL (comeM M t w) := h
end SR2

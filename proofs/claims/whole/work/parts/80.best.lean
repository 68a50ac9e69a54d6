/-! the best swap: what it is -/
section BST
variable {h h' : Hp} {m m' : Mem} {g g' : GS} {own : Nat → Nat} {ad : Nat → Option Nat} {Pl : PD} {S : Nat → Nat}
/-- reports of sort 3 when every program ran once -/
noncomputable def cnt3 (P : PD) (S : Nat → Nat) : Nat := cn (fun r => rS (aD (runsA P S (pP P))) r = 3) (rC (aD (runsA P S (pP P))))
/-- a pair of steps stands at j -/
def prP (P : PD) (j : Nat) : Prop := j / 12 < pP P ∧ j % 12 + 1 < pN P (j / 12)
noncomputable def bst (P : PD) (S : Nat → Nat) : Nat → Nat × Option Nat
  | 0 => (cnt3 P S, none)
  | j + 1 => @ite _ (prP P j ∧ cnt3 P (fun i => S (sj j i)) < (bst P S j).1) (Classical.propDecidable _) (cnt3 P (fun i => S (sj j i)), some j) (bst P S j)
theorem bst_t {j : Nat} (hp : prP Pl j) (hc : cnt3 Pl (fun i => S (sj j i)) < (bst Pl S j).1) : bst Pl S (j + 1) = (cnt3 Pl (fun i => S (sj j i)), some j) := by
  rw [bst, if_pos ⟨hp, hc⟩]
theorem bst_f {j : Nat} (hp : prP Pl j) (hc : ¬ cnt3 Pl (fun i => S (sj j i)) < (bst Pl S j).1) : bst Pl S (j + 1) = bst Pl S j := by
  rw [bst, if_neg (fun z => hc z.2)]
theorem bst_n {j : Nat} (hp : ¬ prP Pl j) : bst Pl S (j + 1) = bst Pl S j := by
  rw [bst, if_neg (fun z => hp z.1)]
theorem bst_skip {j : Nat} : ∀ k, (∀ i, i < k → ¬ prP Pl (j + i)) → bst Pl S (j + k) = bst Pl S j
  | 0, _ => rfl
  | k + 1, hk => by
    rw [← Nat.add_assoc, bst_n (hk k (Nat.lt_succ_self _)), bst_skip k (fun i hi => hk i (Nat.lt_succ_of_lt hi))]
theorem cnt3_le (pw : PW Pl) (sw : SW Pl S) (s : ∀ j, j < 72 → S j < 160) : cnt3 Pl S ≤ 60 := by
  obtain ⟨w1, _, _⟩ := runsA_W pw sw s (pP Pl) (Nat.le_refl _)
  exact Nat.le_trans (cn_le _ _) w1.1.1
theorem bst_le (pw : PW Pl) (sw : SW Pl S) (s : ∀ j, j < 72 → S j < 160) : ∀ j, (bst Pl S j).1 ≤ 60
  | 0 => cnt3_le pw sw s
  | j + 1 => by
    have ih := bst_le pw sw s j
    by_cases hp : prP Pl j
    · by_cases hc : cnt3 Pl (fun i => S (sj j i)) < (bst Pl S j).1
      · rw [bst_t hp hc]
        show cnt3 Pl (fun i => S (sj j i)) ≤ 60
        omega
      · rw [bst_f hp hc]; exact ih
    · rw [bst_n hp]; exact ih
theorem bst_at : ∀ j i, (bst Pl S j).2 = some i → i < j
  | 0, i, e => by cases e
  | j + 1, i, e => by
    by_cases hp : prP Pl j
    · by_cases hc : cnt3 Pl (fun i => S (sj j i)) < (bst Pl S j).1
      · rw [bst_t hp hc] at e
        cases e
        exact Nat.lt_succ_self _
      · rw [bst_f hp hc] at e
        exact Nat.lt_succ_of_lt (bst_at j i e)
    · rw [bst_n hp] at e
      exact Nat.lt_succ_of_lt (bst_at j i e)
theorem prP_V (pw : PW Pl) {j : Nat} (hp : prP Pl j) : pV Pl j ∧ pV Pl (j + 1) ∧ j + 1 < 72 := by
  obtain ⟨h1, h2⟩ := hp
  have h6 := pw.2.2.1
  have n12 := (pw.2.2.2.2 (j / 12) h1).2.2
  have e1 : (j + 1) / 12 = j / 12 := by omega
  have e2 : (j + 1) % 12 = j % 12 + 1 := by omega
  refine ⟨⟨h1, by omega⟩, ⟨by rw [e1]; exact h1, by rw [e1, e2]; exact h2⟩, by omega⟩
/-- the reference's count, and what it leaves -/
theorem r_all3 {A : LA} (L : LF (pV Pl) (m 1) A) (lw : LW A) (f : PF m Pl) (pw : PW Pl) (sw : SW Pl (aS A)) : wp (gX12_all m 3) (fun r => r.1 = nI (cnt3 Pl (aS A)) ∧ (∀ o, o ≠ 0 → o ≠ 1 → o ≠ 16 → o ≠ 17 → o ≠ 18 → o ≠ 19 → o ≠ 20 → r.2 o = m o) ∧ (∀ j, j ≠ 31 → r.2 0 j = m 0 j) ∧ ∀ j, j < 9685 → r.2 1 j = m 1 j) := by
  obtain ⟨w1, w2, w3⟩ := runsA_W pw sw lw.2.2.2.2.2 (pP Pl) (Nat.le_refl _)
  unfold gX12_all
  rw [wp_bind, wp_eq (r_isIn 3 1 9), b01_t (by decide), wp_f (by decide), wp_bind]
  refine wp_mono (r_goAll L lw f pw sw) ?_
  rintro m4 ⟨m3, g3, b3, x4, L4⟩
  rw [wp_bind]
  refine wp_mono (r_countOf (s := 3) L4.1 w1.1 (by decide)) ?_
  rintro r rfl
  rw [wp_bind]
  refine wp_mono r_bringBack (fun m5 ⟨g5, b5⟩ => ?_)
  rw [wp_some]
  refine ⟨rfl, fun o h0 h1 h2 h3 h4 h5 h6 => ?_, fun j hj => ?_, fun j hj => ?_⟩
  · show m5 o = m o
    rw [g5 o h1, x4.1 o h0 h1 h2 h3 h4 h5, g3 o h6]
  · show m5 0 j = m 0 j
    rw [g5 0 (by decide), x4.2 j hj, g3 0 (by decide)]
  · show m5 1 j = m 1 j
    rw [b5 j hj, x4.1 20 (by decide) (by decide) (by decide) (by decide) (by decide) (by decide), b3 j hj]
/-- the class's count, on the trial -/
theorem c_all3 {P q n : Nat} {Q : Int32 × Hp → Prop} (cs : CS h) (s3 : Sh3 h 57) (hP : P = 8 ∨ P = 13) (p1 : hR h 0 3 = some P) (pc : PC (wI h m) P Pl) (pw : PW Pl) (C : CE h 57 n) (hq : q < hN h) (tq : hS h q = .inr (.int, 72)) (hqb : ¬ (57 ≤ q ∧ q ≤ 71)) (hS : ∀ j, j < 72 → m q j = nI (S j)) (sw : SW Pl S) (s : ∀ j, j < 72 → S j < 160) {k : Int32 → Hp → Option (Int32 × Hp)} (H : ∀ h' m' n', XD 41 57 h h' → (∀ a, a < hN h → ¬ (41 ≤ a ∧ a ≤ 46) → ¬ (57 ≤ a ∧ a ≤ 71) → m' a = m a) → LX h' m' 57 (runsA Pl S (pP Pl)) n' → GRW n h n' h' → wp (k (nI (cnt3 Pl S)) (wI h' m')) Q) : wp ((fX11_runEveryone (wI h m) 0 q).bind fun x => (gO x.2 7 x.1).bind fun _ => (fX7_countOf x.2 x.1 3).bind fun y => k y x.2) Q := by
  obtain ⟨w1, w2, w3⟩ := runsA_W pw sw s (pP Pl) (Nat.le_refl _)
  rw [wp_bind]
  refine wp_mono (c_every cs s3 hP p1 pc pw C hq tq hqb hS sw s) ?_
  rintro r ⟨h2, m2, n2, rfl, X2, fr2, L2, G2⟩
  have s7 : Sh7 h2 65 := L2.1.s4
  show wp ((gO (wI h2 m2) 7 65).bind _) _
  rw [wp_bind, s7.o, wp_bind]
  refine wp_mono (c_countOf (s := 3) s7 L2.2.1 w1.1 (by decide)) ?_
  rintro r rfl
  exact H h2 m2 n2 X2 fr2 L2 G2
end BST

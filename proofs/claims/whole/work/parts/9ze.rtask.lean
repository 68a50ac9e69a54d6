theorem r_isTask {m : Mem} {Pl : PD} {S : Nat → Nat} {X t : Nat} (R : RXc m Pl S X) (ht : t < 6) : wp (gX12_isTask m (nI t)) (fun y => (y = 1 ∧ tk Pl X t) ∨ (y = 0 ∧ ¬ tk Pl X t)) := by
  unfold gX12_isTask gjX12_isTask_20 gjX12_isTask_21
  rw [wp_bind, w_isIn0 R ht]
  by_cases c1 : X.testBit t = true
  · have tP := R.2.2.2.2 t c1
    have so := (R.2.1.2.2.2.2 t tP).1
    rw [b01_t c1, wp_f (by decide), wp_bind, w_sortOf R.1 R.2.1 tP]
    by_cases c2 : pS Pl t = 0
    · rw [wp_t (by rw [c2]; rfl), wp_bind, wp_eq bz_1, wp_some]
      exact Or.inl ⟨rfl, tP, c1, c2⟩
    · rw [wp_f (by rw [z_eq (by omega)]; exact c2), wp_bind, wp_eq bz_0, wp_some]
      exact Or.inr ⟨rfl, fun z => c2 z.2.2⟩
  · rw [b01_n c1, wp_t rfl, wp_bind, wp_eq bz_0, wp_some]
    exact Or.inr ⟨rfl, fun z => c1 z.2.1⟩

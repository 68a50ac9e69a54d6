/-! how the class's search begins -/
section CBG
variable {h : Hp} {m : Mem} {a b c turn : Nat} {Pl : PD} {S : Nat → Nat} {X : Nat}
theorem c_tasks (pc : PC (wI h m) b Pl) (pw : PW Pl) : wp (fX5_tasks (wI h m) b) (fun r => ∀ t, t < 32 → (bt r t = true ↔ t < pP Pl ∧ pS Pl t = 0)) := by
  have s : Sh5 h b := pc.1
  have P6 := pw.2.2.1
  have g2 : m b 2 = nI (pP Pl) := pc.2.2.2.1
  unfold fX5_tasks
  rw [wp_bind]
  refine wp_mono (Q := fun r => ∀ t, t < 32 → (bt r t = true ↔ t < pP Pl ∧ pS Pl t = 0)) ?_ (fun r hr => by rw [wp_some]; exact hr)
  refine wp_for (κ := Int32) (fun i k => (k, nI i)) (pP Pl) (fun i k => ∀ t, t < 32 → (bt k t = true ↔ t < i ∧ pS Pl t = 0)) (fun i k hi hI => ?_) (fun k hI => ?_) 0 0 (Nat.zero_le _) (fun u hu => by rw [b_0]; exact ⟨fun z => absurd z (by decide), fun z => absurd z.1 (Nat.not_lt_zero _)⟩) (by omega)
  · have so : m (b + 2) i = nI (pS Pl i) := (pc.2.2.2.2.2 i hi).1
    have s2 := (pw.2.2.2.2 i hi).1
    simp only [bX5_tasks_4, jX5_tasks_27]
    rw [wp_bind, s.g2, g2, wp_f (by rw [i_le (by omega) (by omega)]; omega), wp_bind, s.r4, wp_bind, s.l4 (by omega), so]
    by_cases z : pS Pl i = 0
    · rw [wp_t (by rw [z]; rfl), wp_bind, wp_some, wp_bind, wp_some, wp_some, lq_l]
      refine ⟨_, by rw [show (nI i + 1 : Int32) = nI (i + 1) from i_add i 1], fun u hu => ?_⟩
      rw [b_or, Bool.or_eq_true, hI u hu, b_shl1 (by omega) hu]
      constructor
      · rintro (⟨e1, e2⟩ | e)
        · exact ⟨by omega, e2⟩
        · have e := of_decide_eq_true e
          subst e
          exact ⟨by omega, z⟩
      · rintro ⟨e1, e2⟩
        by_cases q : u = i
        · exact Or.inr (decide_eq_true q)
        · exact Or.inl ⟨by omega, e2⟩
    · rw [wp_f (by rw [z_eq (by omega)]; exact z), wp_bind, wp_some, wp_some, lq_l]
      refine ⟨k, by rw [show (nI i + 1 : Int32) = nI (i + 1) from i_add i 1], fun u hu => ?_⟩
      rw [hI u hu]
      exact ⟨fun ⟨e1, e2⟩ => ⟨by omega, e2⟩, fun ⟨e1, e2⟩ => ⟨by
        by_cases q : u = i
        · rw [q] at e2; exact absurd e2 z
        · omega, e2⟩⟩
  · simp only [bX5_tasks_4]
    rw [wp_bind, s.g2, g2, wp_t (by rw [i_le (by omega) (by omega)]; omega), wp_some, lq_r]
    exact hI
/-- between searches: the tags of the table are no later than the turn -/
def SDT (m : Mem) (a turn : Nat) : Prop := m a 14 = nI turn ∧ turn < 2 ^ 18 ∧ ∀ s, s < 8192 → ∃ v, m (a + 5) s = nI v ∧ v < 2 ^ 31 ∧ v / 8192 ≤ turn
theorem CT.sdt {T : Nat → Option Nat} (x : CT m a turn T) : SDT m a turn := ⟨x.1, x.2.1, fun s hs => by
  obtain ⟨v, v1, v2, v3, _⟩ := x.2.2 s hs
  exact ⟨v, v1, v2, v3⟩⟩
theorem c_beginTurn (s : Sh8 h a) (d : SDT m a turn) : wp (fX8_beginTurn (wI h m) a) (fun r => ∃ m' turn', r = wI h m' ∧ (∀ o, o ≠ a → o ≠ a + 5 → m' o = m o) ∧ (∀ j, j ≠ 14 → m' a j = m a j) ∧ CT m' a turn' (fun _ => none)) := by
  obtain ⟨d1, d2, d3⟩ := d
  unfold fX8_beginTurn
  rw [wp_bind, s.g14, d1, L_1, i_add, wp_bind, s.p14, wp_bind, s.g14, up_at, L_262144]
  unfold jX8_beginTurn_32
  by_cases z : turn + 1 < 262144
  · rw [wp_t (by rw [i_lt (by omega) (by decide)]; exact z), wp_some]
    refine ⟨_, turn + 1, rfl, fun o h0 _ => up_r h0, fun j hj => up_ne (Or.inr hj), up_at, by omega, fun t ht => ?_⟩
    obtain ⟨v, v1, v2, v3⟩ := d3 t ht
    exact ⟨v, by rw [up_r (by omega)]; exact v1, v2, by omega, by rw [if_neg (by omega)]⟩
  · rw [wp_f (by rw [i_lt (by omega) (by decide)]; exact z), wp_bind, s.r13, wp_bind, w_fill (show a + 5 < hN h by have := s.1; omega) s.2.2.2.2.2.2.1.2 (by decide), wp_bind, s.p14, wp_some]
    refine ⟨_, 1, rfl, fun o h0 h5 => ?_, fun j hj => ?_, up_at, by decide, fun t ht => ⟨0, ?_, by decide, by decide, rfl⟩⟩
    · rw [up_r h0, flM_r h5, up_r h0]
    · rw [up_ne (Or.inr hj), flM_r (by omega), up_ne (Or.inr hj)]
    · rw [up_r (by omega), flM_a ht]; rfl
end CBG

/-! the class lays out who waits on whom -/
/-- of task t: the lock that it waits for, and on whom it waits -/
def LW6 (Pl : PD) (S : Nat → Nat) (X : Nat) (M : MO) (m : Mem) (a t : Nat) : Prop := ((∃ q, tk Pl X t ∧ isTop Pl X M t q ∧ wt S M q ∧ m (a + 7) t = nI (sll S M q)) ∨ ((∀ u, ¬ wEd Pl S X M t u) ∧ m (a + 7) t = mI)) ∧ ∀ u, u < 32 → (bt (m (a + 8) t) u = true ↔ wEd Pl S X M t u)
section CLY
variable {h : Hp} {m : Mem} {a b c : Nat} {Pl : PD} {S : Nat → Nat} {X : Nat} {M : MO} {st ow : Nat}
theorem c_lay (C : CX h m a b c Pl S X) (hb : b + 4 < a ∨ a + 11 < b) (hc : c < a ∨ a + 11 < c) (E : EN st ow M) (I : MOK Pl X M) : wp (lp (bX8_findRing_41 a (lN st) (lN ow)) FU ((0 : Int32), wI h m)) (fun r => ∃ m', r = wI h m' ∧ (∀ o, o ≠ a + 7 → o ≠ a + 8 → m' o = m o) ∧ ∀ t, t < 6 → LW6 Pl S X M m' a t) := by
  refine wp_for (κ := Mem) (fun i k => (nI i, wI h k)) 6 (fun i k => (∀ o, o ≠ a + 7 → o ≠ a + 8 → k o = m o) ∧ ∀ t, t < i → LW6 Pl S X M k a t) (fun i k hi hI => ?_) (fun k hI => ?_) 0 m (Nat.zero_le _) ⟨fun _ _ _ => rfl, fun t ht => absurd ht (Nat.not_lt_zero _)⟩ (by decide)
  · obtain ⟨k1, k2⟩ := hI
    have s := C.1
    have fr : FR8 a h m h k := ⟨⟨h.2.2.1, rfl, fun _ _ _ => rfl⟩, fun o ho => k1 o (by omega) (by omega), k1 _ (by omega) (by omega), fun j _ => by rw [k1 a (by omega) (by omega)]⟩
    have Ck := C.fr fr hb hc
    -- what the two writes leave
    have fin : ∀ (y w : Int32), LW6 Pl S X M (up (up k (a + 7) i y) (a + 8) i w) a i → ∃ c', (nI (i + 1), wI h (up (up k (a + 7) i y) (a + 8) i w)) = (nI (i + 1), wI h c') ∧ (∀ o, o ≠ a + 7 → o ≠ a + 8 → c' o = m o) ∧ ∀ t, t < i + 1 → LW6 Pl S X M c' a t := by
      intro y w hl
      refine ⟨_, rfl, fun o h7 h8 => by rw [up_r h8, up_r h7]; exact k1 o h7 h8, fun t ht => ?_⟩
      by_cases z : t = i
      · rw [z]; exact hl
      · have := k2 t (by omega)
        unfold LW6 at this ⊢
        rw [up_r (show a + 7 ≠ a + 8 by omega), up_ne (Or.inr z), up_ne (Or.inr z), up_r (show a + 8 ≠ a + 7 by omega)]
        exact this
    have nowait : (∀ u, ¬ wEd Pl S X M i u) → wp (jX8_findRing_79 a (lN st) (lN ow) (nI i) mI (nI i) (a + 7) (wI h k)) (lq (fun s' => ∃ c', s' = (nI (i + 1), wI h c') ∧ (∀ o, o ≠ a + 7 → o ≠ a + 8 → c' o = m o) ∧ ∀ t, t < i + 1 → LW6 Pl S X M c' a t) (fun r => ∃ m', r = wI h m' ∧ (∀ o, o ≠ a + 7 → o ≠ a + 8 → m' o = m o) ∧ ∀ t, t < 6 → LW6 Pl S X M m' a t)) := by
      intro hw
      unfold jX8_findRing_79 jX8_findRing_118
      rw [wp_bind, s.t16 hi, wp_bind, s.r17, wp_bind, s.r16, wp_bind, s.l16 hi, up_at, wp_t (show mI = -1 from rfl), wp_bind, s.t17 hi, wp_bind, wp_some, wp_some, lq_l, L_1, i_add]
      refine fin mI 0 ⟨Or.inr ⟨hw, by rw [up_r (by omega), up_at]⟩, fun u hu => ?_⟩
      rw [up_at, b_0]
      exact ⟨fun z => absurd z (by decide), fun z => absurd z (hw u)⟩
    simp only [bX8_findRing_41]
    rw [L_6, wp_f (by rw [i_le (by decide) (by omega)]; omega), wp_bind, s.r16, wp_bind, s.g8, wp_bind, w_has (by omega)]
    by_cases ht : tk Pl X i
    · rw [b01_t ((Ck.2.2.2.2.2.2.2.1 i (by omega)).mpr ht), wp_f (by decide), wp_bind, s.o, wp_bind]
      refine wp_mono (c_waitsFor Ck E I ht) (fun r hr => ?_)
      rcases hr with ⟨q, h1, h2, rfl⟩ | ⟨h1, rfl⟩
      · obtain ⟨qP, qd, _, _⟩ := isTop_at ht I h1
        obtain ⟨s1, s2, s3⟩ := Ck.sb (S := S) qP qd
        have fr2 : FR8 a h m h (up k (a + 7) i (nI (sll S M q))) := fr.tr (FR8.up (by omega))
        have C2 := C.fr fr2 hb hc
        have W64 := E.ww s2
        unfold jX8_findRing_79 jX8_findRing_118
        rw [wp_bind, s.t16 hi, wp_bind, s.r17, wp_bind, s.r16, wp_bind, s.l16 hi, up_at, mI_e, wp_f (fun e => by rw [m_eq (by omega)] at e; exact e), wp_bind, s.r16, wp_bind, s.l16 hi, up_at, wp_bind, w_ownersOf E s2, wp_bind, s.o, wp_bind]
        refine wp_mono (c_processorsOf C2 E W64) (fun w hw => ?_)
        rw [wp_bind, s.t17 hi, wp_bind, wp_some, wp_some, lq_l, L_1, i_add]
        refine fin _ w ⟨Or.inl ⟨q, ht, h1, h2, by rw [up_r (by omega), up_at]⟩, fun u hu => ?_⟩
        rw [up_at, hw u hu]
        constructor
        · rintro ⟨r, r1, r2, r3⟩
          exact ⟨ht, q, h1, h2, r, r1, r2, r3⟩
        · rintro ⟨_, q', h1', h2', r, r1, r2, r3⟩
          rw [isTop_un C.2.2.1 I h1' h1] at r2
          exact ⟨r, r1, r2, r3⟩
      · exact nowait (fun u ⟨_, q, e1, e2, _⟩ => h1 q e1 e2)
    · rw [b01_n (fun z => ht ((Ck.2.2.2.2.2.2.2.1 i (by omega)).mp z)), wp_t rfl]
      exact nowait (fun u ⟨z, _⟩ => ht z)
  · simp only [bX8_findRing_41]
    rw [L_6, wp_t (by rw [i_le (by decide) (by decide)]; omega), wp_some, lq_r]
    exact ⟨k, rfl, hI.1, hI.2⟩
end CLY

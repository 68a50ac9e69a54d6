/-! the class sees what can come -/
section CSE
variable {h : Hp} {m : Mem} {a b c turn : Nat} {Pl : PD} {S : Nat → Nat} {X : Nat}
theorem CX.mem {k : Mem} (C : CX h m a b c Pl S X) (hb : b + 4 < a ∨ a + 11 < b) (hc : c < a ∨ a + 11 < c) (f2 : ∀ o, o < a ∨ a + 11 < o → k o = m o) (f8 : k a 8 = m a 8) (f9 : k a 9 = m a 9) : CX h k a b c Pl S X := by
  obtain ⟨c1, c2, c3, c4, c5, c6, c7, c8, c9⟩ := C
  refine ⟨c1, ⟨c2.1, ?_, ?_, ?_, fun l hl => ?_, fun p hp => ?_⟩, c3, c4, c5, c6, fun q j hq hj => ?_, fun t ht => ?_, fun t ht => ?_⟩
  · show k b 0 = _
    rw [f2 b (by omega)]; exact c2.2.1
  · show k b 1 = _
    rw [f2 b (by omega)]; exact c2.2.2.1
  · show k b 2 = _
    rw [f2 b (by omega)]; exact c2.2.2.2.1
  · show k (b + 1) l = _
    rw [f2 (b + 1) (by omega)]; exact c2.2.2.2.2.1 l hl
  · show k (b + 2) p = _ ∧ k (b + 3) p = _
    rw [f2 (b + 2) (by omega), f2 (b + 3) (by omega)]; exact c2.2.2.2.2.2 p hp
  · rw [f2 c hc]; exact c7 q j hq hj
  · rw [f8]; exact c8 t ht
  · rw [f9]; exact c9 t ht
theorem c_see (C : CX h m a b c Pl S X) (hb : b + 4 < a ∨ a + 11 < b) (hc : c < a ∨ a + 11 < c) : wp (fX8_seeWhatCanCome (wI h m) a) (fun r => ∃ m', r = wI h m' ∧ (∀ o, o ≠ a + 6 → m' o = m o) ∧ COM m' a Pl S) := by
  have s := C.1
  have pw := C.2.2.1
  have P6 := pw.2.2.1
  let val : Nat → Nat → Int32 := fun q j => nI (if cx (pS Pl q) (fun j => S (12 * q + j)) j &&& 4 = 0 then 0 else cx (pS Pl q) (fun j => S (12 * q + j)) j)
  have cxk : ∀ k : Mem, (∀ o, o ≠ a + 6 → k o = m o) → CX h k a b c Pl S X := fun k hk => C.mem hb hc (fun o ho => hk o (by omega)) (by rw [hk a (by omega)]) (by rw [hk a (by omega)])
  unfold fX8_seeWhatCanCome
  rw [wp_bind]
  refine wp_mono (Q := fun r => ∃ m', r = wI h m' ∧ (∀ o, o ≠ a + 6 → m' o = m o) ∧ COM m' a Pl S) ?_ (fun r hr => by rw [wp_some]; exact hr)
  refine wp_for (κ := Mem) (fun p k => (nI p, wI h k)) (pP Pl) (fun p k => (∀ o, o ≠ a + 6 → k o = m o) ∧ ∀ q j, q < p → j < pN Pl q → k (a + 6) (12 * q + j) = val q j) (fun p k hp hI => ?_) (fun k hI => ?_) 0 m (Nat.zero_le _) ⟨fun _ _ => rfl, fun q j hq => absurd hq (Nat.not_lt_zero _)⟩ (by omega)
  · obtain ⟨k1, k2⟩ := hI
    have Ck := cxk k k1
    have p6 := C.p6 hp
    have so := (pw.2.2.2.2 p hp).1
    have nb := (pw.2.2.2.2 p hp).2.2
    have g2 : k b 2 = nI (pP Pl) := Ck.2.1.2.2.2.1
    simp only [bX8_seeWhatCanCome_2]
    rw [wp_bind, Ck.q6, wp_bind, Ck.sh5.g2, g2, wp_f (by rw [i_le (by omega) (by omega)]; omega), wp_bind, Ck.q6, wp_bind, Ck.sh5.r4, wp_bind, Ck.sh5.l4 p6, Ck.srt hp, wp_bind, w_ctx (by omega), wp_bind]
    refine wp_mono (Q := fun r => ∃ m', r = wI h m' ∧ (∀ o, o ≠ a + 6 → m' o = m o) ∧ ∀ q j, q < p + 1 → j < pN Pl q → m' (a + 6) (12 * q + j) = val q j) ?_ ?_
    · refine wp_for (κ := Mem) (fun i k' => (nI (cx (pS Pl p) (fun j => S (12 * p + j)) i), nI i, wI h k')) (pN Pl p) (fun i k' => (∀ o, o ≠ a + 6 → k' o = m o) ∧ (∀ q j, q < p → j < pN Pl q → k' (a + 6) (12 * q + j) = val q j) ∧ ∀ j, j < i → k' (a + 6) (12 * p + j) = val p j) (fun i k' hi hI => ?_) (fun k' hI => ?_) 0 k (Nat.zero_le _) ⟨k1, k2, fun j hj => absurd hj (Nat.not_lt_zero _)⟩ (by omega)
      · obtain ⟨l1, l2, l3⟩ := hI
        have Cl := cxk k' l1
        have c8 := cx_8 (pS Pl p) (fun j => S (12 * p + j)) i
        obtain ⟨e1, e2, e3⟩ := C.2.2.2.2.2.2.1 p i hp hi
        have lu : ∀ o, o ≠ a + 6 → up k' (a + 6) (12 * p + i) (val p i) o = m o := fun o ho => by rw [up_r ho]; exact l1 o ho
        have Cu := cxk _ lu
        simp only [bX8_seeWhatCanCome_28]
        rw [wp_bind, Cl.q6, wp_bind, Cl.sh5.r5, wp_bind, Cl.sh5.l5 p6, Cl.len hp, wp_f (by rw [i_le (by omega) (by omega)]; omega), wp_bind, s.r15, wp_bind, w_wcc c8.1, wp_bind, L_12, i_mul, i_add, Nat.mul_comm p 12, s.t15 (by omega)]
        rw [wp_bind, Cu.q7, wp_bind, w_lI (h := wI h (up k' (a + 6) (12 * p + i) (val p i))) C.2.2.2.2.2.1.1 C.2.2.2.2.2.1.2 (show 12 * p + i < 72 by omega) (by decide)]
        have e1' : hI (wI h (up k' (a + 6) (12 * p + i) (val p i))) c (12 * p + i) = nI (S (12 * p + i)) := by
          show up k' (a + 6) (12 * p + i) (val p i) c (12 * p + i) = _
          rw [lu c (by omega)]; exact e1
        rw [e1', wp_bind, w_deed (by omega), wp_bind, Cu.q6, wp_bind, Cu.sh5.r4, wp_bind, Cu.sh5.l4 p6, Cu.srt hp, wp_bind, w_turn c8 (by omega) (by omega), wp_bind, wp_some, wp_some, lq_l]
        refine ⟨_, by rw [show (nI i + 1 : Int32) = nI (i + 1) from i_add i 1]; rfl, lu, fun q j hq hj => ?_, fun j hj => ?_⟩
        · have nq := (pw.2.2.2.2 q (by omega)).2.2
          rw [up_ne (Or.inr (by omega))]; exact l2 q j hq hj
        · rw [up_a]
          by_cases z : j = i
          · rw [if_pos (by omega), z]
          · rw [if_neg (by omega)]; exact l3 j (by omega)
      · obtain ⟨l1, l2, l3⟩ := hI
        have Cl := cxk k' l1
        simp only [bX8_seeWhatCanCome_28]
        rw [wp_bind, Cl.q6, wp_bind, Cl.sh5.r5, wp_bind, Cl.sh5.l5 p6, Cl.len hp, wp_t (by rw [i_le (by omega) (by omega)]; omega), wp_some, lq_r]
        refine ⟨k', rfl, l1, fun q j hq hj => ?_⟩
        by_cases z : q = p
        · rw [z] at hj ⊢; exact l3 j hj
        · exact l2 q j (by omega) hj
    · rintro r ⟨m', rfl, n1, n2⟩
      rw [wp_bind, wp_some, wp_some, lq_l]
      exact ⟨m', by rw [show (nI p + 1 : Int32) = nI (p + 1) from i_add p 1], n1, n2⟩
  · obtain ⟨k1, k2⟩ := hI
    have Ck := cxk k k1
    have g2 : k b 2 = nI (pP Pl) := Ck.2.1.2.2.2.1
    simp only [bX8_seeWhatCanCome_2]
    rw [wp_bind, Ck.q6, wp_bind, Ck.sh5.g2, g2, wp_t (by rw [i_le (by omega) (by omega)]; omega), wp_some, lq_r]
    exact ⟨k, rfl, k1, k2⟩
end CSE

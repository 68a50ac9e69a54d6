/-! the reference: chains, places, a step -/
theorem or_sh {a d j : Nat} (hj : j ≤ 4) (ha : a < 2 ^ (5 * j)) (hd : d < 16) : nI a ||| (nI (d + 1) <<< (nI (5 * j) &&& 31)) = nI (a + (d + 1) * 2 ^ (5 * j)) := by
  have h1 : 2 ^ (5 * j) ≤ 2 ^ 20 := Nat.pow_le_pow_right (by decide) (by omega)
  have h2 : (d + 1) * 2 ^ (5 * j) ≤ 16 * 2 ^ 20 := Nat.mul_le_mul (by omega) h1
  rw [pk_shlN _ (5 * j) (s_l _ (by omega)) (by omega), nx_or, Nat.or_comm, Nat.mul_comm, ← Nat.two_pow_add_eq_or_of_lt ha, Nat.add_comm]
section RK
variable {m : Mem} {A : LA} {H : HD}
theorem r_packs {x : Nat} (k : WKr m H) (hw : HW H) (hk : hK H < 10) (hx : x < 16) : wp (lp (gbX12_keepChain_7 (nI x) m) FU (nI 0, nI 0, nI 0)) (fun r => r = (nI (cLe (chn H x).2 (chn H x).1 % 33554432), nI (cLe (chn H x).2 (chn H x).1 / 33554432))) := by
  have hc := chn_W hw hk hx
  show wp _ (fun r => r = (nI (cLe (chn H x).2 (hK H + 1) % 33554432), nI (cLe (chn H x).2 (hK H + 1) / 33554432)))
  have hc2 : ∀ i, i < hK H + 1 → (chn H x).2 i < 16 := hc.2.2
  have ce : ∀ i, i < hK H → (chn H x).2 i = hD H i := fun i hi => sbf_ne (by omega)
  have cx' : (chn H x).2 (hK H) = x := sbf_at
  generalize (chn H x).2 = c at hc2 ce cx'
  rw [show (nI 0, nI 0, nI 0) = (nI (cLe c 0 % 33554432), nI (cLe c 0 / 33554432), nI 0) from by rw [show cLe c 0 = 0 from rfl]]
  refine wp_for (κ := Unit) (fun i _ => (nI (cLe c i % 33554432), nI (cLe c i / 33554432), nI i)) (hK H + 1) (fun _ _ => True) (fun i _ hi _ => ?_) (fun _ _ => ?_) 0 () (Nat.zero_le _) trivial (by omega)
  · have hl := cLe_lt i (fun j hj => hc2 j (by omega))
    have hci := hc2 i hi
    have j36 : wp (gjX12_keepChain_36 (nI x) (nI (cLe c i % 33554432)) (nI (cLe c i / 33554432)) (nI i) (nI (c i)) m) (lq (fun s' => ∃ c' : Unit, s' = (nI (cLe c (i + 1) % 33554432), nI (cLe c (i + 1) / 33554432), nI (i + 1)) ∧ True) (fun r => r = (nI (cLe c (hK H + 1) % 33554432), nI (cLe c (hK H + 1) / 33554432)))) := by
      have e1 : cLe c (i + 1) = cLe c i + (c i + 1) * 32 ^ i := rfl
      unfold gjX12_keepChain_36 gjX12_keepChain_73
      by_cases h5 : 5 ≤ i
      · obtain ⟨j, rfl⟩ : ∃ j, i = 5 + j := ⟨i - 5, by omega⟩
        have p1 : (32 : Nat) ^ (5 + j) = 33554432 * 32 ^ j := by rw [Nat.pow_add]
        have p2 : (32 : Nat) ^ j = 2 ^ (5 * j) := by rw [Nat.pow_mul]
        rw [p1] at hl e1
        have d1 : cLe c (5 + j) / 33554432 < 2 ^ (5 * j) := by rw [← p2]; exact Nat.div_lt_of_lt_mul hl
        rw [Nat.mul_left_comm] at e1
        rw [wp_t (by rw [L_5, i_le (by decide) (by omega)]; omega), wp_bind, wp_some, nI_1 (c (5 + j)), L_5, i_sub (by omega), Nat.add_sub_cancel_left, i_mul, or_sh (j := j) (by omega) d1 hci, wp_bind, wp_some, wp_some, lq_l, nI_1]
        refine ⟨(), ?_, trivial⟩
        rw [e1, ← p2]
        generalize (c (5 + j) + 1) * 32 ^ j = T
        rw [show (cLe c (5 + j) + 33554432 * T) % 33554432 = cLe c (5 + j) % 33554432 by omega, show (cLe c (5 + j) + 33554432 * T) / 33554432 = cLe c (5 + j) / 33554432 + T by omega]
      · have p2 : (32 : Nat) ^ i = 2 ^ (5 * i) := by rw [Nat.pow_mul]
        have p3 : (2 : Nat) ^ (5 * i) ≤ 2 ^ 20 := Nat.pow_le_pow_right (by decide) (by omega)
        have hl1 := cLe_lt (i + 1) (fun j hj => hc2 j (by omega))
        have p4 : (32 : Nat) ^ (i + 1) ≤ 32 ^ 5 := Nat.pow_le_pow_right (by decide) (by omega)
        rw [wp_f (by rw [L_5, i_le (by decide) (by omega)]; omega), wp_bind, wp_some, nI_1 (c i), L_5, i_mul, Nat.mod_eq_of_lt (by omega), or_sh (j := i) (by omega) (by omega) hci, wp_bind, wp_some, wp_some, lq_l, nI_1]
        refine ⟨(), ?_, trivial⟩
        rw [← p2, ← e1, Nat.mod_eq_of_lt (a := cLe c (i + 1)) (by omega), Nat.div_eq_of_lt (a := cLe c i) (by omega), Nat.div_eq_of_lt (a := cLe c (i + 1)) (by omega)]
    by_cases hik : i = hK H
    · subst hik
      simp (disch := omega) only [gbX12_keepChain_7, k.1, i_lt, wp_f, i_le, wp_t]
      rw [cx'] at j36
      exact j36
    · simp (disch := omega) only [gbX12_keepChain_7, k.1, i_lt, wp_f, i_le, wp_bind, w_rd, (k.2 i (by omega)).2]
      rw [ce i (by omega)] at j36
      exact j36
  · simp (disch := omega) only [gbX12_keepChain_7, k.1, i_lt, wp_t, wp_some, lq_r]
/-- the reference's chains -/
def CF (a : Nat → Int32) (A : LA) : Prop := a 1539 = nI (aK A) ∧ a 1540 = aA A ∧ ∀ i, i < aK A → a (1685 + 2 * i) = nI (cLe (aC A i).2 (aC A i).1 % 33554432) ∧ a (1686 + 2 * i) = nI (cLe (aC A i).2 (aC A i).1 / 33554432)
theorem r_keepChain {x : Nat} (k : WKr m H) (hw : HW H) (hk : hK H < 10) (hx : x < 16) (C : CF (m 1) A) (cw : ∀ i, i < aK A → CW (aC A i)) (hA : aK A < 4000) : wp (gX12_keepChain m (nI x)) (fun m' => (∀ o, o ≠ 1 → m' o = m o) ∧ (∀ j, j < 1539 ∨ 1541 ≤ j ∧ j < 1685 → m' 1 j = m 1 j) ∧ CF (m' 1) (keepC A (chn H x))) := by
  obtain ⟨C1, C2, C3⟩ := C
  have hc := chn_W hw hk hx
  generalize hcc : chn H x = c at *
  have lt : ∀ {c : CD}, CW c → cLe c.2 c.1 < 32 ^ 10 := fun {c} hc => Nat.lt_of_lt_of_le (cLe_lt c.1 hc.2.2) (p32 hc.2.1)
  unfold gX12_keepChain
  rw [wp_bind]
  refine wp_mono (r_packs k hw hk hx) ?_
  rintro r rfl
  rw [hcc, wp_bind]
  refine wp_mono (Q := fun r => (r = .inr () ∧ ∃ i, i < aK A ∧ cEq (aC A i) c) ∨ (r = .inl () ∧ ¬ ∃ i, i < aK A ∧ cEq (aC A i) c)) ?_ ?_
  · refine wp_for (κ := Unit) (fun i _ => nI i) (aK A) (fun i _ => ∀ j, j < i → ¬ cEq (aC A j) c) (fun i _ hi HH => ?_) (fun _ HH => ?_) 0 () (Nat.zero_le _) (fun j hj => by omega) (by omega)
    · obtain ⟨g1, g2⟩ := C3 i hi
      have l1 := lt (cw i hi)
      have l2 := lt hc
      have hq := cEq_L (cw i hi) hc
      have go : ¬ cEq (aC A i) c → wp (gjX12_keepChain_147 (nI (cLe c.2 c.1 % 33554432)) (nI (cLe c.2 c.1 / 33554432)) (nI i) m) (lq (fun s' => ∃ c' : Unit, s' = nI (i + 1) ∧ ∀ j, j < i + 1 → ¬ cEq (aC A j) c) (fun r : Unit ⊕ Unit => (r = .inr () ∧ ∃ i, i < aK A ∧ cEq (aC A i) c) ∨ (r = .inl () ∧ ¬ ∃ i, i < aK A ∧ cEq (aC A i) c))) := by
        intro hne
        unfold gjX12_keepChain_147
        rw [wp_bind, wp_some, wp_some, lq_l, nI_1]
        refine ⟨(), rfl, fun j hj => ?_⟩
        by_cases z : j = i
        · rw [z]; exact hne
        · exact HH j (by omega)
      simp (disch := omega) only [gbX12_keepChain_82, wp_bind, L_1539, w_rd, C1, i_le, wp_f, L_1685, L_2, i_mul, i_add, g1, i_eq]
      by_cases z1 : cLe (aC A i).2 (aC A i).1 % 33554432 = cLe c.2 c.1 % 33554432
      · rw [wp_t z1]
        simp (disch := omega) only [wp_bind, L_1685, L_2, L_1, i_mul, i_add, w_rd]
        rw [show 1685 + 2 * i + 1 = 1686 + 2 * i by omega, g2]
        simp (disch := omega) only [i_eq]
        by_cases z2 : cLe (aC A i).2 (aC A i).1 / 33554432 = cLe c.2 c.1 / 33554432
        · rw [wp_t z2, wp_some, lq_r]
          exact Or.inl ⟨rfl, i, hi, hq.mp (by omega)⟩
        · rw [wp_f z2]; exact go (fun e => z2 (by rw [hq.mpr e]))
      · rw [wp_f z1]; exact go (fun e => z1 (by rw [hq.mpr e]))
    · simp (disch := omega) only [gbX12_keepChain_82, wp_bind, L_1539, w_rd, C1, i_le, wp_t, wp_some, lq_r]
      exact Or.inr ⟨trivial, fun ⟨i, h1, h2⟩ => HH i h1 h2⟩
  · rintro r (⟨rfl, ex⟩ | ⟨rfl, nex⟩)
    · show wp ((rd m 1 9685 1540).bind _) _
      rw [L_1540]
      simp (disch := omega) only [wp_bind, w_rd, w_wr, wp_some]
      refine ⟨fun o ho => up_r ho, fun j hj => by rw [up_a, if_neg (by omega)], ?_⟩
      rw [keep_old ex]
      refine ⟨by rw [up_a, if_neg (by decide)]; exact C1, by rw [up_at, C2]; rfl, fun i hi => ?_⟩
      rw [up_a, if_neg (by omega), up_a, if_neg (by omega)]
      exact C3 i hi
    · show wp ((rd m 1 9685 1539).bind _) _
      have u1 : ∀ {v : Int32}, up m 1 (1685 + 2 * aK A) v 1 1539 = nI (aK A) := fun {v} => by rw [up_a, if_neg (by omega)]; exact C1
      have u2 : ∀ {v v' : Int32}, up (up m 1 (1685 + 2 * aK A) v) 1 (1685 + 2 * aK A + 1) v' 1 1539 = nI (aK A) := fun {v v'} => by rw [up_a, if_neg (by omega), up_a, if_neg (by omega)]; exact C1
      simp (disch := omega) only [L_1539, L_1685, L_2, L_1, wp_bind, w_rd, C1, i_mul, i_add, w_wr, u1, u2, wp_some]
      refine ⟨fun o ho => by rw [up_r ho, up_r ho, up_r ho], fun j hj => by rw [up_a, if_neg (by omega), up_a, if_neg (by omega), up_a, if_neg (by omega)], ?_⟩
      rw [keep_new nex]
      refine ⟨up_at, ?_, fun i hi => ?_⟩
      · rw [up_a, if_neg (by decide), up_a, if_neg (by omega), up_a, if_neg (by omega)]; exact C2
      · change i < aK A + 1 at hi
        show _ = nI (cLe (sbf (aC A) (aK A) c i).2 (sbf (aC A) (aK A) c i).1 % 33554432) ∧ _ = nI (cLe (sbf (aC A) (aK A) c i).2 (sbf (aC A) (aK A) c i).1 / 33554432)
        by_cases z : i = aK A
        · rw [z, sbf_at, up_a, if_neg (by omega), up_a, if_neg (by omega), up_at, up_a, if_neg (by omega), up_a, if_pos (by omega)]
          exact ⟨rfl, rfl⟩
        · rw [sbf_ne z, up_a, if_neg (by omega), up_a, if_neg (by omega), up_a, if_neg (by omega), up_a, if_neg (by omega), up_a, if_neg (by omega), up_a, if_neg (by omega)]
          exact C3 i (by omega)
theorem r_placeHeld (k : WKr m H) (hw : HW H) {l : Nat} (hl : l < 2 ^ 31) : wp (gX12_placeHeld m (nI l)) (fun r => (isH H l ∧ r = nI (plc H l)) ∨ (¬ isH H l ∧ r = mI)) := by
  obtain ⟨k1, k2⟩ := k
  have hk10 := hw.1
  unfold gX12_placeHeld
  rw [wp_bind]
  refine wp_mono (Q := fun r => (isH H l ∧ r = .inr (nI (plc H l))) ∨ (¬ isH H l ∧ r = .inl ())) ?_ ?_
  · refine wp_for (κ := Unit) (fun i _ => nI i) (hK H) (fun i _ => ∀ j, j < i → hL H j ≠ l) (fun i _ hi HH => ?_) (fun _ HH => ?_) 0 () (Nat.zero_le _) (fun j hj => by omega) (by omega)
    · have hLi := (hw.2.1 i hi).1
      by_cases e : hL H i = l
      · simp (disch := omega) only [gbX12_placeHeld_2, k1, i_le, wp_f, wp_bind, w_rd, (k2 i hi).1, i_eq, wp_t, wp_some, lq_r]
        rw [plc_un hw hi e]
        exact Or.inl ⟨⟨i, hi, e⟩, rfl⟩
      · simp (disch := omega) only [gbX12_placeHeld_2, k1, i_le, wp_f, wp_bind, w_rd, (k2 i hi).1, i_eq, wp_some, lq_l, L_1, i_add]
        refine ⟨(), by trivial, fun j hj => ?_⟩
        by_cases z : j = i
        · rw [z]; exact e
        · exact HH j (by omega)
    · simp (disch := omega) only [gbX12_placeHeld_2, k1, i_le, wp_t, wp_some, lq_r]
      exact Or.inr ⟨fun ⟨i, h1, h2⟩ => HH i h1 h2, trivial⟩
  · rintro r (⟨h1, rfl⟩ | ⟨h1, rfl⟩)
    · exact ⟨_, rfl, Or.inl ⟨h1, rfl⟩⟩
    · exact ⟨_, rfl, Or.inr ⟨h1, rfl⟩⟩
end RK

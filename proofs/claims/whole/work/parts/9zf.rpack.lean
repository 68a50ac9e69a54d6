/-! the reference packs a moment -/
/-- the first i fields of w bits are f -/
def PQ (f : Nat → Nat) (w i n : Nat) : Prop := n < 2 ^ (w * i) ∧ ∀ p, p < i → fd (w * p) w n = f p
section RP2
variable {f : Nat → Nat} {w i n j : Nat} {m k : Mem} {K : Nat → Nat} {Pl : PD} {X : Nat} {M : MO}
theorem PQ_0 : PQ f w 0 0 := ⟨by rw [Nat.mul_zero]; exact Nat.one_pos, fun p hp => absurd hp (Nat.not_lt_zero _)⟩
theorem PQ_st (h : PQ f w i n) (hf : f i < 2 ^ w) (hw : 0 < w) : PQ f w (i + 1) (n ||| f i * 2 ^ (w * i)) := by
  obtain ⟨h1, h2⟩ := h
  obtain ⟨f1, f2⟩ := pk_fd h1 hf
  refine ⟨by rw [Nat.mul_add, Nat.mul_one]; exact pk_ol h1 hf, fun p hp => ?_⟩
  by_cases z : p = i
  · rw [z]; exact f1
  · rw [f2 (w * p) w (Or.inl ?_)]
    · exact h2 p (by omega)
    · have := Nat.mul_le_mul_left w (show p + 1 ≤ i by omega)
      rw [Nat.mul_add, Nat.mul_one] at this
      exact this
/-- the ints of the moment j are K, all else is as it was -/
def WK (m : Mem) (j : Nat) (k : Mem) (K : Nat → Nat) : Prop := (∀ o, o ≠ 27 → k o = m o) ∧ (∀ x, x < 5 * j ∨ 5 * j + 5 ≤ x → k 27 x = m 27 x) ∧ ∀ e, e < 5 → k 27 (5 * j + e) = nI (K e)
theorem WK.st {e v : Nat} (h : WK m j k K) (he : e < 5) : WK m j (up k 27 (5 * j + e) (nI v)) (sbf K e v) := by
  obtain ⟨h1, h2, h3⟩ := h
  refine ⟨fun o ho => by rw [up_r ho]; exact h1 o ho, fun x hx => by rw [up_ne (by omega)]; exact h2 x hx, fun e' he' => ?_⟩
  rw [up_a]
  by_cases z : e' = e
  · rw [if_pos (by rw [z]), z, sbf_at]
  · rw [if_neg (by omega), sbf_ne z]; exact h3 e' he'
theorem rb_p (pw : PW Pl) (I : MOK Pl X M) {p : Nat} (hp : p < 6) : rdn Pl X M p < 2 ^ 4 ∧ rwh Pl X M p < 2 ^ 3 := by
  have d12 : moD M p ≤ 12 := by
    by_cases z : moD M p = 0
    · omega
    · have := (I.1 p).2 z
      have := (pw.2.2.2.2 p this).2.2
      have := (I.1 p).1
      omega
  have c7 : moC M p < 7 := by
    by_cases z : moC M p = 0
    · omega
    · have := (I.2.1 p z).2.1
      have := pw.2.2.1
      omega
  constructor
  · unfold rdn
    by_cases z : tk Pl X p ∨ moC M p ≠ 0
    · rw [ci_t z]; omega
    · rw [ci_f z]; omega
  · unfold rwh
    by_cases z : tk Pl X p
    · rw [ci_t z]; omega
    · rw [ci_f z]; omega
theorem rb_l (I : MOK Pl X M) {l : Nat} : rho M l < 2 ^ 3 ∧ rsr M l < 2 ^ 6 := by
  obtain ⟨a1, a2, a3⟩ := I.2.2.2.1 l
  by_cases z : moA M l = 0
  · unfold rho rsr
    rw [if_pos z, if_pos z]; omega
  · obtain ⟨q, q6, e⟩ := a3 (by omega)
    constructor
    · rw [rho_1 (by omega) e]; omega
    · unfold rsr; rw [if_neg z]; omega
theorem i_m1 (n : Nat) : (nI n - 1 : Int32) + 1 = nI n := by
  rw [Int32.sub_add_cancel]
theorem r_pack (hj : j ≤ 4000) (pw : PW Pl) (I : MOK Pl X M) (r : RMo Pl X m M) : wp (gX12_pack m (nI j)) (fun k => ∃ K, WK m j k K ∧ PK Pl X K M) := by
  unfold gX12_pack
  rw [wp_bind, wp_some, L_5, i_mul, wp_bind]
  refine wp_mono (Q := fun k => WK m j k (fun _ => 0)) ?_ ?_
  · refine wp_for (κ := Mem) (fun i k => (nI i, k)) 5 (fun i k => (∀ o, o ≠ 27 → k o = m o) ∧ (∀ x, x < 5 * j ∨ 5 * j + 5 ≤ x → k 27 x = m 27 x) ∧ ∀ e, e < i → k 27 (5 * j + e) = 0) (fun i k hi hI => ?_) (fun k hI => ?_) 0 m (Nat.zero_le _) ⟨fun _ _ => rfl, fun _ _ => rfl, fun p hp => absurd hp (Nat.not_lt_zero _)⟩ (by decide)
    · obtain ⟨k1, k2, k3⟩ := hI
      simp only [gbX12_pack_6]
      rw [L_5, wp_f (by rw [i_le (by decide) (by omega)]; omega), wp_bind, i_add, w_wr (by omega) (by decide), wp_bind, wp_some, wp_some, lq_l, L_1, i_add]
      refine ⟨_, rfl, fun o ho => by rw [up_r ho]; exact k1 o ho, fun x hx => by rw [up_ne (by omega)]; exact k2 x hx, fun e he => ?_⟩
      rw [up_a]
      by_cases z : e = i
      · rw [if_pos (by rw [z])]
      · rw [if_neg (by omega)]; exact k3 e (by omega)
    · simp only [gbX12_pack_6]
      rw [L_5, wp_t (by rw [i_le (by decide) (by decide)]; omega), wp_some, lq_r]
      exact ⟨hI.1, hI.2.1, hI.2.2⟩
  · intro k0 w0
    rw [wp_bind]
    refine wp_mono (Q := fun k => ∃ K, WK m j k K ∧ PQ (rdn Pl X M) 4 6 (K 0) ∧ PQ (rwh Pl X M) 3 6 (K 1) ∧ K 2 = 0 ∧ K 3 = 0 ∧ K 4 = 0) ?_ ?_
    · refine wp_for (κ := Mem × (Nat → Nat)) (fun i c => (nI i, c.1)) 6 (fun i c => WK m j c.1 c.2 ∧ PQ (rdn Pl X M) 4 i (c.2 0) ∧ PQ (rwh Pl X M) 3 i (c.2 1) ∧ c.2 2 = 0 ∧ c.2 3 = 0 ∧ c.2 4 = 0) (fun i c hi hI => ?_) (fun c hI => ?_) 0 (k0, fun _ => 0) (Nat.zero_le _) ⟨w0, PQ_0, PQ_0, rfl, rfl, rfl⟩ (by decide)
      · obtain ⟨k, K⟩ := c
        obtain ⟨w1, p1, p2, z2, z3, z4⟩ := hI
        change WK m j k K at w1
        change PQ (rdn Pl X M) 4 i (K 0) at p1
        change PQ (rwh Pl X M) 3 i (K 1) at p2
        obtain ⟨b1, b2⟩ := rb_p pw I hi
        obtain ⟨r1, r2⟩ := r.1 i hi
        have e0 := w1.2.2 0 (by decide)
        have e1 := w1.2.2 1 (by decide)
        rw [Nat.add_zero] at e0
        have w2 := w1.st (e := 0) (v := K 0 ||| rdn Pl X M i * 2 ^ (4 * i)) (by decide)
        have w3 := w2.st (e := 1) (v := K 1 ||| rwh Pl X M i * 2 ^ (3 * i)) (by decide)
        rw [Nat.add_zero] at w3
        simp only [gbX12_pack_28]
        rw [L_6, wp_f (by rw [i_le (by decide) (by omega)]; omega), wp_bind, w_rd (by omega) (by decide), wp_bind, w_rd hi (by decide), e0, w1.1 23 (by decide), r1, i_m1, L_4, i_mul, pk_or p1.1 b1 (by omega), wp_bind, w_wr (by omega) (by decide), wp_bind, L_1, i_add, w_rd (by omega) (by decide), up_ne (by omega), e1, wp_bind, w_rd hi (by decide), up_r (by decide), w1.1 24 (by decide), r2, ← L_1, i_m1, L_3, i_mul, pk_or p2.1 b2 (by omega), wp_bind, w_wr (by omega) (by decide), wp_bind, wp_some, wp_some, lq_l, L_1, i_add]
        refine ⟨(_, _), rfl, w3, ?_, ?_, ?_, ?_, ?_⟩
        · show PQ _ _ _ (sbf (sbf K 0 (K 0 ||| rdn Pl X M i * 2 ^ (4 * i))) 1 (K 1 ||| rwh Pl X M i * 2 ^ (3 * i)) 0)
          rw [sbf_ne (by decide), sbf_at]; exact PQ_st p1 b1 (by decide)
        · show PQ _ _ _ (sbf (sbf K 0 (K 0 ||| rdn Pl X M i * 2 ^ (4 * i))) 1 (K 1 ||| rwh Pl X M i * 2 ^ (3 * i)) 1)
          rw [sbf_at]; exact PQ_st p2 b2 (by decide)
        · exact z2
        · exact z3
        · exact z4
      · obtain ⟨k, K⟩ := c
        simp only [gbX12_pack_28]
        rw [L_6, wp_t (by rw [i_le (by decide) (by decide)]; omega), wp_some, lq_r]
        exact ⟨K, hI⟩
    · rintro k1 ⟨K1, w1, p1, p2, z2, z3, z4⟩
      rw [wp_bind]
      refine wp_mono (Q := fun k => ∃ K, WK m j k K ∧ PK Pl X K M) ?_ (fun _ hr => by rw [wp_some]; exact hr)
      refine wp_for (κ := Mem × (Nat → Nat)) (fun i c => (nI i, c.1)) 10 (fun i c => WK m j c.1 c.2 ∧ c.2 0 = K1 0 ∧ c.2 1 = K1 1 ∧ PQ (rho M) 3 i (c.2 2) ∧ PQ (rsr M) 6 (min i 5) (c.2 3) ∧ PQ (fun l => rsr M (5 + l)) 6 (i - 5) (c.2 4)) (fun i c hi hI => ?_) (fun c hI => ?_) 0 (k1, K1) (Nat.zero_le _) ⟨w1, rfl, rfl, by show PQ _ _ _ (K1 2); rw [z2]; exact PQ_0, by show PQ _ _ _ (K1 3); rw [z3]; exact PQ_0, by show PQ _ _ _ (K1 4); rw [z4]; exact PQ_0⟩ (by decide)
      · obtain ⟨k, K⟩ := c
        obtain ⟨w2, y0, y1, q2, q3, q4⟩ := hI
        change WK m j k K at w2
        change PQ (rho M) 3 i (K 2) at q2
        change PQ (rsr M) 6 (min i 5) (K 3) at q3
        change PQ (fun l => rsr M (5 + l)) 6 (i - 5) (K 4) at q4
        obtain ⟨b1, b2⟩ := rb_l (l := i) I
        obtain ⟨r1, r2⟩ := r.2 i hi
        have e2 := w2.2.2 2 (by decide)
        have w3 := w2.st (e := 2) (v := K 2 ||| rho M i * 2 ^ (3 * i)) (by decide)
        simp only [gbX12_pack_86]
        rw [L_10, wp_f (by rw [i_le (by decide) (by omega)]; omega), wp_bind, L_2, i_add, w_rd (by omega) (by decide), wp_bind, w_rd hi (by decide), e2, w2.1 25 (by decide), r1, i_m1, L_3, i_mul, pk_or q2.1 b1 (by omega), wp_bind, w_wr (by omega) (by decide)]
        by_cases z : 5 ≤ i
        · rw [wp_t (by rw [L_5, i_le (by decide) (by omega)]; exact z)]
          have e4 := w2.2.2 4 (by decide)
          have r2' : rsr M i = (fun l => rsr M (5 + l)) (i - 5) := by show _ = rsr M (5 + (i - 5)); rw [show 5 + (i - 5) = i by omega]
          have w4 := w3.st (e := 4) (v := K 4 ||| rsr M i * 2 ^ (6 * (i - 5))) (by decide)
          unfold gjX12_pack_130
          rw [wp_bind, L_4, i_add, w_rd (by omega) (by decide), up_ne (by omega), e4, wp_bind, w_rd hi (by decide), up_r (by decide), w2.1 26 (by decide), r2, q5 i hi, show i % 5 = i - 5 by omega, L_6, i_mul, pk_or q4.1 b2 (by omega), wp_bind, w_wr (by omega) (by decide), wp_bind, wp_some, wp_some, lq_l, L_1, i_add]
          refine ⟨(_, _), rfl, w4, ?_, ?_, ?_, ?_, ?_⟩
          · exact y0
          · exact y1
          · show PQ _ _ _ (sbf (sbf K 2 (K 2 ||| rho M i * 2 ^ (3 * i))) 4 (K 4 ||| rsr M i * 2 ^ (6 * (i - 5))) 2)
            rw [sbf_ne (by decide), sbf_at]; exact PQ_st q2 b1 (by decide)
          · show PQ _ _ _ (K 3)
            rw [show min (i + 1) 5 = min i 5 by omega]; exact q3
          · show PQ _ _ _ (sbf (sbf K 2 (K 2 ||| rho M i * 2 ^ (3 * i))) 4 (K 4 ||| rsr M i * 2 ^ (6 * (i - 5))) 4)
            rw [sbf_at, r2', show i + 1 - 5 = i - 5 + 1 by omega]; exact PQ_st q4 (by rw [show 5 + (i - 5) = i by omega]; exact b2) (by decide)
        · rw [wp_f (by rw [L_5, i_le (by decide) (by omega)]; exact z)]
          have e3 := w2.2.2 3 (by decide)
          have w4 := w3.st (e := 3) (v := K 3 ||| rsr M i * 2 ^ (6 * i)) (by decide)
          rw [show min i 5 = i by omega] at q3
          unfold gjX12_pack_130
          rw [wp_bind, i_add, w_rd (by omega) (by decide), up_ne (by omega), e3, wp_bind, w_rd hi (by decide), up_r (by decide), w2.1 26 (by decide), r2, q5 i hi, show i % 5 = i by omega, L_6, i_mul, pk_or q3.1 b2 (by omega), wp_bind, w_wr (by omega) (by decide), wp_bind, wp_some, wp_some, lq_l, L_1, i_add]
          refine ⟨(_, _), rfl, w4, ?_, ?_, ?_, ?_, ?_⟩
          · exact y0
          · exact y1
          · show PQ _ _ _ (sbf (sbf K 2 (K 2 ||| rho M i * 2 ^ (3 * i))) 3 (K 3 ||| rsr M i * 2 ^ (6 * i)) 2)
            rw [sbf_ne (by decide), sbf_at]; exact PQ_st q2 b1 (by decide)
          · show PQ _ _ _ (sbf (sbf K 2 (K 2 ||| rho M i * 2 ^ (3 * i))) 3 (K 3 ||| rsr M i * 2 ^ (6 * i)) 3)
            rw [sbf_at, show min (i + 1) 5 = i + 1 by omega]; exact PQ_st q3 b2 (by decide)
          · show PQ _ _ _ (K 4)
            rw [show i + 1 - 5 = i - 5 by omega]; exact q4
      · obtain ⟨k, K⟩ := c
        obtain ⟨w2, y0, y1, q2, q3, q4⟩ := hI
        change K 0 = K1 0 at y0
        change K 1 = K1 1 at y1
        change PQ (rho M) 3 10 (K 2) at q2
        change PQ (rsr M) 6 5 (K 3) at q3
        change PQ (fun l => rsr M (5 + l)) 6 5 (K 4) at q4
        simp only [gbX12_pack_86]
        rw [L_10, wp_t (by rw [i_le (by decide) (by decide)]; omega), wp_some, lq_r]
        rw [← y0] at p1
        rw [← y1] at p2
        refine ⟨K, w2, p1.1, p2.1, q2.1, q3.1, q4.1, fun p hp => ⟨p1.2 p hp, p2.2 p hp⟩, fun l hl => ⟨q2.2 l hl, ?_⟩⟩
        by_cases z : l < 5
        · rw [show l / 5 = 0 by omega, show l % 5 = l by omega]; exact q3.2 l z
        · rw [show l / 5 = 1 by omega, show l % 5 = l - 5 by omega]
          have := q4.2 (l - 5) (by omega)
          have e : rsr M (5 + (l - 5)) = rsr M l := by rw [show 5 + (l - 5) = l by omega]
          rw [← e]; exact this
end RP2

/-! the class: uses -/
theorem bt_nI {e i : Nat} (hi : i < 32) : bt (nI e) i = e.testBit i := by
  show (BitVec.ofNat 32 e).getLsbD i = _
  rw [BitVec.getLsbD_ofNat]
  simp [hi]
theorem nx_andn (a b : Nat) : nI a &&& nI b = nI (a &&& b) := by
  apply Int32.toBitVec_inj.1
  show BitVec.ofNat 32 a &&& BitVec.ofNat 32 b = BitVec.ofNat 32 (a &&& b)
  apply BitVec.eq_of_getLsbD_eq
  intro i hi
  simp [hi]
theorem nzand {u k : Nat} (h : u < 2 ^ 31) : (nI u &&& nI k = 0) = (u &&& k = 0) := by
  rw [nx_andn, z_eq (Nat.lt_of_le_of_lt Nat.and_le_left h)]
theorem nzi {u k : Nat} (h : u < 2 ^ 31) : nI u &&& nI k = 0 ↔ u &&& k = 0 := by rw [nzand h]
section US
variable {h : Hp} {m : Mem} {w P b : Nat} {D : RD} {G : GD} {U : Nat → Nat}
theorem w_wcc {g : Hp} {c : Nat} {Q : Int32 → Prop} (hc : c < 8) : wp (fX11_whatCanCome g (nI c)) Q = Q (nI (if c &&& 4 = 0 then 0 else c)) := by
  unfold fX11_whatCanCome jX11_whatCanCome_11
  rw [L_4]
  by_cases hz : c &&& 4 = 0
  · rw [wp_t ((nzi (by omega)).mpr hz), if_pos hz]; exact wp_some
  · rw [wp_f (fun z => hz ((nzi (by omega)).mp z)), if_neg hz]; exact wp_some
theorem c_use96 (W : WH h w P b) (R : RRc m (b + 8) D) (wD : RW D) {p s x u : Nat} {y0 y1 : Int32} (e3 : m w 3 = nI p) (e4 : m w 4 = nI s) (h5 : p < 6) (h6 : s < 12) (hx : x < 16) (hu : y1 ||| y0 = nI u) (hu16 : u < 16) : wp (jX9_learnUse_96 w (nI x) y0 y1 (wI h m)) (fun r => ∃ m', r = wI h m' ∧ (∀ a, ¬ a = b + 3 → ¬ (b + 8 ≤ a ∧ a ≤ b + 14) → m' a = m a) ∧ (∀ j, m' (b + 3) j = if j = x then nI u else m (b + 3) j) ∧ RRc m' (b + 8) (useD D u p s x)) := by
  have s9 := W.1
  have s3 := W.2.2.2.2.1
  have s7 := s3.s4
  have W' := W
  obtain ⟨_, _, _, _, _, d1, d2, d3⟩ := W
  have tail : ∀ (D1 : RD) (m1 : Mem), RW D1 → (∀ a, ¬ a = b + 3 → ¬ (b + 8 ≤ a ∧ a ≤ b + 14) → m1 a = m a) → (∀ j, m1 (b + 3) j = if j = x then nI u else m (b + 3) j) → RRc m1 (b + 8) D1 → wp (jX9_learnUse_130 w (nI x) (nI u) (wI h m1)) (fun r => ∃ m', r = wI h m' ∧ (∀ a, ¬ a = b + 3 → ¬ (b + 8 ≤ a ∧ a ≤ b + 14) → m' a = m a) ∧ (∀ j, m' (b + 3) j = if j = x then nI u else m (b + 3) j) ∧ RRc m' (b + 8) (if u &&& 2 = 0 ∨ u &&& 8 = 0 then D1 else once D1 5 p s x)) := by
    intro D1 m1 w1 f1 g1 R1
    have e31 : m1 w 3 = nI p := by rw [f1 w (by omega) (by omega)]; exact e3
    have e41 : m1 w 4 = nI s := by rw [f1 w (by omega) (by omega)]; exact e4
    unfold jX9_learnUse_130
    rw [L_2]
    by_cases z1 : u &&& 2 = 0
    · rw [wp_t ((nzi (by omega)).mpr z1), if_pos (Or.inl z1)]
      exact ⟨_, rfl, m1, rfl, f1, g1, R1⟩
    · rw [wp_f (fun z => z1 ((nzi (by omega)).mp z)), L_8]
      by_cases z2 : u &&& 8 = 0
      · rw [wp_t ((nzi (by omega)).mpr z2), if_pos (Or.inr z2)]
        exact ⟨_, rfl, m1, rfl, f1, g1, R1⟩
      · rw [wp_f (fun z => z2 ((nzi (by omega)).mp z)), if_neg (fun z => z.elim z1 z2), wp_bind, s9.o, wp_bind, L_5]
        refine wp_mono (c_tellOnce W' R1 w1 e31 e41 (by decide) (by decide) hx) ?_
        rintro r ⟨m2, rfl, f2, R2⟩
        refine ⟨_, rfl, m2, rfl, fun a h1 h2 => by rw [f2 a h2]; exact f1 a h1 h2, fun j => by rw [f2 _ (by omega)]; exact g1 j, R2⟩
  simp (disch := omega) only [jX9_learnUse_96, wp_bind, wp_some, hu, W'.le, s3.r2, s3.t2]
  have f1 : ∀ a, ¬ a = b + 3 → ¬ (b + 8 ≤ a ∧ a ≤ b + 14) → up m (b + 3) x (nI u) a = m a := fun a h1 _ => up_r h1
  have g1 : ∀ j, up m (b + 3) x (nI u) (b + 3) j = if j = x then nI u else m (b + 3) j := fun j => up_a
  have R1 : RRc (up m (b + 3) x (nI u)) (b + 8) D := R.congr (fun a h1 h2 => up_r (by omega))
  have e31 : up m (b + 3) x (nI u) w 3 = nI p := by rw [up_r (by omega)]; exact e3
  have e41 : up m (b + 3) x (nI u) w 4 = nI s := by rw [up_r (by omega)]; exact e4
  generalize up m (b + 3) x (nI u) = m1 at f1 g1 R1 e31 e41
  unfold useD
  rw [L_1]
  by_cases z1 : u &&& 1 = 0
  · rw [wp_t ((nzi (by omega)).mpr z1), if_pos (Or.inl z1)]
    exact tail D m1 wD f1 g1 R1
  · rw [wp_f (fun z => z1 ((nzi (by omega)).mp z)), L_4]
    by_cases z2 : u &&& 4 = 0
    · rw [wp_t ((nzi (by omega)).mpr z2), if_pos (Or.inr z2)]
      exact tail D m1 wD f1 g1 R1
    · rw [wp_f (fun z => z2 ((nzi (by omega)).mp z)), if_neg (c := u &&& 1 = 0 ∨ u &&& 4 = 0) (fun z => z.elim z1 z2), wp_bind, s9.o, wp_bind]
      refine wp_mono (c_tellOnce W' R1 wD e31 e41 (by decide) (by decide) hx) ?_
      rintro r ⟨m2, rfl, f2, R2⟩
      exact tail _ m2 (once_W wD (by decide) (by decide) h5 (by omega) hx) (fun a h1 h2 => by rw [f2 a h2]; exact f1 a h1 h2) (fun j => by rw [f2 _ (by omega)]; exact g1 j) R2
theorem or16 {a c : Nat} (ha : a < 16) (hc : c < 16) : a ||| c < 16 := Nat.or_lt_two_pow (n := 4) ha hc
theorem nI_or {a c : Nat} {y : Int32} (h : y = nI a) : y ||| nI c = nI (a ||| c) := by rw [h, nx_or]
theorem useB_ok {u0 so c : Nat} (hc : c < 8) (he : c % 2 = 0) : ((u0 ||| (if so = 2 then 1 else 0)) ||| (if so = 1 then 2 else 0)) ||| (if (if c &&& 4 = 0 then 0 else c).testBit 2 = true then 4 else 0) ||| (if (if c &&& 4 = 0 then 0 else c).testBit 1 = true then 8 else 0) = u0 ||| useB so c := by
  have h1 : ∀ c, c < 8 → c % 2 = 0 → (if (if c &&& 4 = 0 then 0 else c).testBit 2 = true then 4 else 0) = (if c &&& 4 = 0 then 0 else 4) ∧ (if (if c &&& 4 = 0 then 0 else c).testBit 1 = true then 8 else 0) = if c = 6 then 8 else 0 := by decide
  rw [(h1 c hc he).1, (h1 c hc he).2]
  unfold useB
  rw [Nat.or_assoc, Nat.or_assoc, Nat.or_assoc, Nat.or_assoc, Nat.or_assoc]
theorem c_learnUse (W : WH h w P b) (R : RRc m (b + 8) D) (wD : RW D) {p s x u0 so c : Nat} (e3 : m w 3 = nI p) (e4 : m w 4 = nI s) (h5 : p < 6) (h6 : s < 12) (hx : x < 16) (e5 : m w 5 = nI c) (hc : c < 8) (hce : c % 2 = 0) (es : m (P + 2) p = nI so) (hso : so ≤ 2) (eu : m (b + 3) x = nI u0) (hu : u0 < 16) : wp (fX9_learnUse (wI h m) w (nI x)) (fun r => ∃ m', r = wI h m' ∧ (∀ a, ¬ a = b + 3 → ¬ (b + 8 ≤ a ∧ a ≤ b + 14) → m' a = m a) ∧ (∀ j, m' (b + 3) j = if j = x then nI (u0 ||| useB so c) else m (b + 3) j) ∧ RRc m' (b + 8) (useD D (u0 ||| useB so c) p s x)) := by
  have s9 := W.1
  have s3 := W.2.2.2.2.1
  have s5 := W.2.2.2.1
  rw [← useB_ok hc hce]
  simp (disch := omega) only [fX9_learnUse, wp_bind, W.pl, s5.r4, s9.g3, e3, s5.l4, es, s9.g5, e5, w_wcc, W.le, s3.r2, s3.l2, eu]
  generalize he : (if c &&& 4 = 0 then 0 else c) = e
  have he8 : e < 8 := by rw [← he]; split <;> omega
  have j77 : ∀ (u1 : Nat) (y0 y1 : Int32), u1 < 16 → y1 ||| y0 = nI u1 → wp (jX9_learnUse_77 w (nI x) (nI e) y0 y1 (wI h m)) (fun r => ∃ m', r = wI h m' ∧ (∀ a, ¬ a = b + 3 → ¬ (b + 8 ≤ a ∧ a ≤ b + 14) → m' a = m a) ∧ (∀ j, m' (b + 3) j = if j = x then nI (u1 ||| (if e.testBit 1 = true then 8 else 0)) else m (b + 3) j) ∧ RRc m' (b + 8) (useD D (u1 ||| (if e.testBit 1 = true then 8 else 0)) p s x)) := by
    intro u1 y0 y1 hu1 hy
    simp (disch := omega) only [jX9_learnUse_77, wp_bind, wp_some, hy, L_1, w_has, b01_z, bt_nI]
    by_cases hb : e.testBit 1 = true
    · rw [wp_f (fun z => z hb), if_pos hb]
      exact c_use96 W R wD e3 e4 h5 h6 hx (nI_or rfl) (or16 hu1 (by decide))
    · rw [wp_t hb, if_neg hb]
      exact c_use96 W R wD e3 e4 h5 h6 hx (nI_or (c := 0) rfl) (or16 hu1 (by decide))
  have j59 : ∀ (u1 : Nat) (y0 y1 : Int32), u1 < 16 → y1 ||| y0 = nI u1 → wp (jX9_learnUse_59 w (nI x) (nI e) y0 y1 (wI h m)) (fun r => ∃ m', r = wI h m' ∧ (∀ a, ¬ a = b + 3 → ¬ (b + 8 ≤ a ∧ a ≤ b + 14) → m' a = m a) ∧ (∀ j, m' (b + 3) j = if j = x then nI (u1 ||| (if e.testBit 2 = true then 4 else 0) ||| (if e.testBit 1 = true then 8 else 0)) else m (b + 3) j) ∧ RRc m' (b + 8) (useD D (u1 ||| (if e.testBit 2 = true then 4 else 0) ||| (if e.testBit 1 = true then 8 else 0)) p s x)) := by
    intro u1 y0 y1 hu1 hy
    simp (disch := omega) only [jX9_learnUse_59, wp_bind, wp_some, hy, L_2, w_has, b01_z, bt_nI]
    by_cases hb : e.testBit 2 = true
    · rw [wp_f (fun z => z hb), if_pos hb]
      exact j77 _ _ _ (or16 hu1 (by decide)) (nI_or rfl)
    · rw [wp_t hb, if_neg hb]
      exact j77 _ _ _ (or16 hu1 (by decide)) (nI_or (c := 0) rfl)
  have j44 : ∀ (u1 : Nat) (y0 y1 : Int32), u1 < 16 → y1 ||| y0 = nI u1 → wp (jX9_learnUse_44 w (nI x) (nI so) (nI e) y0 y1 (wI h m)) (fun r => ∃ m', r = wI h m' ∧ (∀ a, ¬ a = b + 3 → ¬ (b + 8 ≤ a ∧ a ≤ b + 14) → m' a = m a) ∧ (∀ j, m' (b + 3) j = if j = x then nI (u1 ||| (if so = 1 then 2 else 0) ||| (if e.testBit 2 = true then 4 else 0) ||| (if e.testBit 1 = true then 8 else 0)) else m (b + 3) j) ∧ RRc m' (b + 8) (useD D (u1 ||| (if so = 1 then 2 else 0) ||| (if e.testBit 2 = true then 4 else 0) ||| (if e.testBit 1 = true then 8 else 0)) p s x)) := by
    intro u1 y0 y1 hu1 hy
    simp (disch := omega) only [jX9_learnUse_44, wp_bind, wp_some, hy, L_1, i_eq]
    by_cases hb : so = 1
    · rw [wp_t hb, if_pos hb]
      exact j59 _ _ _ (or16 hu1 (by decide)) (nI_or (c := 2) rfl)
    · rw [wp_f hb, if_neg hb]
      exact j59 _ _ _ (or16 hu1 (by decide)) (nI_or (c := 0) rfl)
  simp (disch := omega) only [L_2, i_eq]
  by_cases hb : so = 2
  · rw [wp_t hb, if_pos hb]
    exact j44 _ _ _ (or16 hu (by decide)) (nI_or (c := 1) rfl)
  · rw [wp_f hb, if_neg hb]
    exact j44 _ _ _ (or16 hu (by decide)) (nI_or (c := 0) rfl)
theorem c_nodesWith (s3 : Sh3 h b) {k : Nat} (hU : ∀ x, x < 16 → m (b + 3) x = nI (U x) ∧ U x < 16) : wp (fX3_nodesWith (wI h m) b (nI k)) (fun r => ∀ j, j < 32 → (bt r j = true ↔ j < 16 ∧ ¬ (U j &&& k = 0))) := by
  unfold fX3_nodesWith
  rw [wp_bind]
  refine wp_for (κ := Int32) (fun i c => (c, nI i)) 16 (fun i c => ∀ j, j < 32 → (bt c j = true ↔ j < i ∧ ¬ (U j &&& k = 0))) (fun i c hi hI => ?_) (fun c hI => ?_) 0 0 (Nat.zero_le _) (fun j hj => ?_) (by omega)
  · have hu := hU i hi
    have hz : (nI (U i) &&& nI k = 0) = (U i &&& k = 0) := nzand (by omega)
    simp (disch := omega) only [bX3_nodesWith_4, jX3_nodesWith_27, wp_bind, wp_some, s3.r2, s3.l2, L_16, i_le, wp_f, hu.1, hz]
    by_cases hc : U i &&& k = 0
    · rw [wp_t hc]
      simp only [wp_bind, wp_some, lq_l, L_1, i_add]
      refine ⟨c, rfl, fun j hj => ?_⟩
      rw [hI j hj]
      refine ⟨fun z => ⟨by omega, z.2⟩, fun z => ⟨?_, z.2⟩⟩
      rcases Nat.lt_or_ge j i with q | q
      · exact q
      · exact absurd hc (by rw [← show j = i by omega]; exact z.2)
    · rw [wp_f hc]
      simp only [wp_bind, wp_some, lq_l, L_1, i_add]
      refine ⟨_, rfl, fun j hj => ?_⟩
      rw [b_or, Bool.or_eq_true, hI j hj, b_sh1 (by omega) hj, decide_eq_true_iff]
      constructor
      · rintro (z | z)
        · exact ⟨by omega, z.2⟩
        · subst z; exact ⟨by omega, hc⟩
      · rintro ⟨z1, z2⟩
        rcases Nat.lt_or_ge j i with q | q
        · exact Or.inl ⟨q, z2⟩
        · exact Or.inr (by omega)
  · simp (disch := omega) only [bX3_nodesWith_4, wp_bind, wp_some, L_16, i_le, wp_t, lq_r]
    exact hI
  · rw [b_0]; simp
end US

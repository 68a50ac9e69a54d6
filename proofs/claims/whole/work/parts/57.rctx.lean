/-! the reference: contexts, uses, and orders from kinds used in interrupts -/
theorem cx_sub (so : Nat) (S : Nat → Nat) : ∀ i, cx so S i &&& cx0 so = cx so S i
  | 0 => Nat.and_self _
  | i + 1 => by
    have h := cx_sub so S i
    have h8 := cx_8 so S i
    have k8 := cx0_8 so
    show cx1 (cx so S i) so (S i / 16) &&& cx0 so = cx1 (cx so S i) so (S i / 16)
    unfold cx1
    generalize cx so S i = c at h h8
    generalize cx0 so = k at h k8
    have q1 : ∀ c, c < 8 → ∀ k, k < 8 → c &&& k = c → (c &&& 2) &&& k = c &&& 2 := by decide
    have q2 : ∀ c, c < 8 → ∀ k, k < 8 → c &&& k = c → (c ||| (k &&& 4)) &&& k = c ||| (k &&& 4) := by decide
    have q3 : ∀ c, c < 8 → ∀ k, k < 8 → c &&& k = c → (c &&& 4) &&& k = c &&& 4 := by decide
    have q4 : ∀ c, c < 8 → ∀ k, k < 8 → c &&& k = c → (c ||| (k &&& 2)) &&& k = c ||| (k &&& 2) := by decide
    split
    · exact q1 c h8.1 k k8.1 h
    · split
      · exact q2 c h8.1 k k8.1 h
      · split
        · exact q3 c h8.1 k k8.1 h
        · split
          · exact q4 c h8.1 k k8.1 h
          · exact h
theorem b01_congr {p q : Prop} [Decidable p] [Decidable q] (h : p ↔ q) : b01 p = b01 q := by
  unfold b01
  by_cases hp : p
  · rw [if_pos hp, if_pos (h.mp hp)]
  · rw [if_neg hp, if_neg (fun z => hp (h.mpr z))]
theorem b01_t {p : Prop} [Decidable p] (h : p) : b01 p = 1 := if_pos h
theorem b01_n {p : Prop} [Decidable p] (h : ¬ p) : b01 p = 0 := if_neg h
section RN
variable {m : Mem} {Pl : PD} {p s so : Nat} {S : Nat → Nat}
theorem w_sortOf (f : PF m Pl) (pw : PW Pl) (hp : p < pP Pl) {Q : Int32 → Prop} : wp (gX12_sortOf m (nI p)) Q = Q (nI (pS Pl p)) := by
  obtain ⟨k, hk, e9, e2, e3, e4, e5, e6⟩ := f
  have h6 := pw.2.2.1
  simp (disch := omega) only [gX12_sortOf, e9, L_6, i_mul, i_add, w_rd, wp_bind, (e6 p hp).1, wp_some]
theorem w_stepsOf (f : PF m Pl) (pw : PW Pl) (hp : p < pP Pl) {Q : Int32 → Prop} : wp (gX12_stepsOf m (nI p)) Q = Q (nI (pN Pl p)) := by
  obtain ⟨k, hk, e9, e2, e3, e4, e5, e6⟩ := f
  have h6 := pw.2.2.1
  simp (disch := omega) only [gX12_stepsOf, e9, L_6, i_mul, i_add, w_rd, wp_bind, (e6 p hp).2, wp_some]
theorem w_kind (f : PF m Pl) (pw : PW Pl) {l : Nat} (hl : l < pL Pl) {Q : Int32 → Prop} : wp (gX12_kind m (nI l)) Q = Q (nI (pk Pl l)) := by
  obtain ⟨k, hk, e9, e2, e3, e4, e5, e6⟩ := f
  have h6 := pw.2.1
  simp (disch := omega) only [gX12_kind, e9, L_10, i_mul, i_add, w_rd, wp_bind, (e5 l hl), wp_some]
theorem w_opOf {x : Nat} (hp : p < 6) (hs : s < 12) (e : m 1 (1541 + (12 * p + s)) = nI x) {Q : Int32 → Prop} : wp (gX12_opOf m (nI p) (nI s)) Q = Q (nI x) := by
  rw [← Nat.add_assoc] at e
  simp (disch := omega) only [gX12_opOf, L_1541, L_12, i_mul, i_add, w_rd, wp_bind, e, wp_some]
theorem w_lockOf {x : Int32} (hp : p < 6) (hs : s < 12) (e : m 1 (1613 + (12 * p + s)) = x) {Q : Int32 → Prop} : wp (gX12_lockOf m (nI p) (nI s)) Q = Q x := by
  rw [← Nat.add_assoc] at e
  simp (disch := omega) only [gX12_lockOf, L_1613, L_12, i_mul, i_add, w_rd, wp_bind, e, wp_some]
theorem cx_Hard (so : Nat) (S : Nat → Nat) (i : Nat) : (cx so S (i + 1) &&& 4 = 0) ↔ (if S i / 16 = 5 then True else if S i / 16 = 6 then cx0 so &&& 4 = 0 else cx so S i &&& 4 = 0) := by
  have h := cx_sub so S i
  have h8 := cx_8 so S i
  have k8 := cx0_8 so
  show cx1 (cx so S i) so (S i / 16) &&& 4 = 0 ↔ _
  unfold cx1
  generalize cx so S i = c at h h8
  generalize cx0 so = k at h k8
  generalize S i / 16 = d
  have q1 : ∀ c, c < 8 → (c &&& 2) &&& 4 = 0 := by decide
  have q2 : ∀ c, c < 8 → ∀ k, k < 8 → c &&& k = c → (c ||| (k &&& 4)) &&& 4 = k &&& 4 := by decide
  have q3 : ∀ c, c < 8 → (c &&& 4) &&& 4 = c &&& 4 := by decide
  have q4 : ∀ c, c < 8 → ∀ k, k < 8 → (c ||| (k &&& 2)) &&& 4 = c &&& 4 := by decide
  have Q1 := q1 c h8.1
  have Q2 := q2 c h8.1 k k8.1 h
  have Q3 := q3 c h8.1
  have Q4 := q4 c h8.1 k k8.1
  by_cases d5 : d = 5
  · subst d5; simp [Q1, Q2, Q3, Q4]
  · by_cases d6 : d = 6
    · subst d6; simp [Q1, Q2, Q3, Q4]
    · by_cases d7 : d = 7
      · subst d7; simp [Q1, Q2, Q3, Q4]
      · by_cases d8 : d = 8
        · subst d8; simp [Q1, Q2, Q3, Q4]
        · simp [d5, d6, d7, d8]
theorem w_isHard (f : PF m Pl) (pw : PW Pl) (hp : p < pP Pl) (hs : s ≤ 12) (hop : ∀ k, k < s → m 1 (1541 + (12 * p + k)) = nI (S k / 16) ∧ S k / 16 ≤ 8) {Q : Int32 → Prop} : wp (gX12_isOn m (nI p) (nI s) 1) Q = Q (b01 (¬ cx (pS Pl p) S s &&& 4 = 0)) := by
  have h6 := pw.2.2.1
  have hso := (pw.2.2.2.2 p hp).1
  have key : ∀ y0 : Int32, y0 = b01 (¬ cx0 (pS Pl p) &&& 4 = 0) → wp (gjX12_isOn_35 (nI p) (nI s) 1 y0 m) (fun r => r = b01 (¬ cx (pS Pl p) S s &&& 4 = 0)) := by
    intro y0 hy
    unfold gjX12_isOn_35
    rw [wp_bind]
    refine wp_mono (Q := fun r => r = b01 (¬ cx (pS Pl p) S s &&& 4 = 0)) ?_ ?_
    · have := wp_for (body := gbX12_isOn_44 (nI p) (nI s) 1 y0 m) (Q := fun r => r = b01 (¬ cx (pS Pl p) S s &&& 4 = 0)) (κ := Unit) (fun i _ => (b01 (¬ cx (pS Pl p) S i &&& 4 = 0), nI i)) s (fun _ _ => True) (fun i _ hi _ => ?_) (fun _ _ => ?_) 0 () (Nat.zero_le _) trivial (by omega)
      · rw [hy] at this ⊢; exact this
      · obtain ⟨e, he⟩ := hop i hi
        have st := cx_Hard (pS Pl p) S i
        simp (disch := omega) only [gbX12_isOn_44, i_le, wp_f, wp_bind, w_opOf (p := p) (s := i) (by omega) (by omega) e]
        rw [wp_f (show ¬ (1 : Int32) = 0 by decide)]
        unfold gjX12_isOn_67
        rw [L_5]
        by_cases c1 : S i / 16 = 5
        · rw [if_pos c1] at st
          rw [wp_t (by rw [c1])]
          unfold gjX12_isOn_73
          rw [wp_bind, w_opOf (p := p) (s := i) (by omega) (by omega) e, wp_f (show ¬ (1 : Int32) = 0 by decide)]
          unfold gjX12_isOn_91 gjX12_isOn_98
          rw [wp_f (by rw [L_6, i_eq (by omega) (by decide)]; omega), wp_bind, wp_some, wp_some, lq_l, nI_1, b01_n (fun z => z (st.mpr trivial))]
          exact ⟨(), rfl, trivial⟩
        · rw [if_neg c1] at st
          rw [wp_f (by rw [i_eq (by omega) (by decide)]; exact c1)]
          unfold gjX12_isOn_73
          rw [wp_bind, w_opOf (p := p) (s := i) (by omega) (by omega) e, wp_f (show ¬ (1 : Int32) = 0 by decide)]
          unfold gjX12_isOn_91 gjX12_isOn_98
          rw [L_6]
          by_cases c2 : S i / 16 = 6
          · rw [if_pos c2] at st
            rw [wp_t (by rw [c2]), wp_bind, wp_some, wp_some, lq_l, nI_1, hy, b01_congr (not_congr st)]
            exact ⟨(), rfl, trivial⟩
          · rw [if_neg c2] at st
            rw [wp_f (by rw [i_eq (by omega) (by decide)]; exact c2), wp_bind, wp_some, wp_some, lq_l, nI_1, b01_congr (not_congr st)]
            exact ⟨(), rfl, trivial⟩
      · simp (disch := omega) only [gbX12_isOn_44, i_le, wp_t, wp_some, lq_r]
    · rintro r rfl
      rw [wp_bind, w_bz, wp_some]
  have fin : wp (gX12_isOn m (nI p) (nI s) 1) (fun r => r = b01 (¬ cx (pS Pl p) S s &&& 4 = 0)) := by
    unfold gX12_isOn
    rw [wp_bind, w_sortOf f pw hp, wp_f (show ¬ (1 : Int32) = 0 by decide)]
    by_cases z : pS Pl p = 2
    · rw [wp_t (by rw [z]; rfl)]
      exact key 0 (by rw [z]; rfl)
    · rw [wp_f (by rw [L_2, i_eq (by omega) (by decide)]; exact z)]
      refine key 1 (b01_t ?_).symm
      unfold cx0
      rcases (by omega : pS Pl p = 0 ∨ pS Pl p = 1) with q | q
      · rw [if_pos q]; decide
      · rw [if_neg (by omega), if_pos q]; decide
  obtain ⟨r, e, rfl⟩ := fin
  exact wp_eq e
theorem cx_Soft (so : Nat) (S : Nat → Nat) (i : Nat) : (cx so S (i + 1) &&& 2 = 0) ↔ (if S i / 16 = 7 then True else if S i / 16 = 8 then cx0 so &&& 2 = 0 else cx so S i &&& 2 = 0) := by
  have h := cx_sub so S i
  have h8 := cx_8 so S i
  have k8 := cx0_8 so
  show cx1 (cx so S i) so (S i / 16) &&& 2 = 0 ↔ _
  unfold cx1
  generalize cx so S i = c at h h8
  generalize cx0 so = k at h k8
  generalize S i / 16 = d
  have q1 : ∀ c, c < 8 → (c &&& 4) &&& 2 = 0 := by decide
  have q2 : ∀ c, c < 8 → ∀ k, k < 8 → c &&& k = c → (c ||| (k &&& 2)) &&& 2 = k &&& 2 := by decide
  have q3 : ∀ c, c < 8 → (c &&& 2) &&& 2 = c &&& 2 := by decide
  have q4 : ∀ c, c < 8 → ∀ k, k < 8 → (c ||| (k &&& 4)) &&& 2 = c &&& 2 := by decide
  have Q1 := q1 c h8.1
  have Q2 := q2 c h8.1 k k8.1 h
  have Q3 := q3 c h8.1
  have Q4 := q4 c h8.1 k k8.1
  by_cases d5 : d = 5
  · subst d5; simp [Q1, Q2, Q3, Q4]
  · by_cases d6 : d = 6
    · subst d6; simp [Q1, Q2, Q3, Q4]
    · by_cases d7 : d = 7
      · subst d7; simp [Q1, Q2, Q3, Q4]
      · by_cases d8 : d = 8
        · subst d8; simp [Q1, Q2, Q3, Q4]
        · simp [d5, d6, d7, d8]
theorem w_isSoft (f : PF m Pl) (pw : PW Pl) (hp : p < pP Pl) (hs : s ≤ 12) (hop : ∀ k, k < s → m 1 (1541 + (12 * p + k)) = nI (S k / 16) ∧ S k / 16 ≤ 8) {Q : Int32 → Prop} : wp (gX12_isOn m (nI p) (nI s) 0) Q = Q (b01 (¬ cx (pS Pl p) S s &&& 2 = 0)) := by
  have h6 := pw.2.2.1
  have hso := (pw.2.2.2.2 p hp).1
  have key : ∀ y0 : Int32, y0 = b01 (¬ cx0 (pS Pl p) &&& 2 = 0) → wp (gjX12_isOn_35 (nI p) (nI s) 0 y0 m) (fun r => r = b01 (¬ cx (pS Pl p) S s &&& 2 = 0)) := by
    intro y0 hy
    unfold gjX12_isOn_35
    rw [wp_bind]
    refine wp_mono (Q := fun r => r = b01 (¬ cx (pS Pl p) S s &&& 2 = 0)) ?_ ?_
    · have := wp_for (body := gbX12_isOn_44 (nI p) (nI s) 0 y0 m) (Q := fun r => r = b01 (¬ cx (pS Pl p) S s &&& 2 = 0)) (κ := Unit) (fun i _ => (b01 (¬ cx (pS Pl p) S i &&& 2 = 0), nI i)) s (fun _ _ => True) (fun i _ hi _ => ?_) (fun _ _ => ?_) 0 () (Nat.zero_le _) trivial (by omega)
      · rw [hy] at this ⊢; exact this
      · obtain ⟨e, he⟩ := hop i hi
        have st := cx_Soft (pS Pl p) S i
        simp (disch := omega) only [gbX12_isOn_44, i_le, wp_f, wp_bind, w_opOf (p := p) (s := i) (by omega) (by omega) e]
        rw [wp_t trivial]
        unfold gjX12_isOn_67
        rw [L_7]
        by_cases c1 : S i / 16 = 7
        · rw [if_pos c1] at st
          rw [wp_t (by rw [c1])]
          unfold gjX12_isOn_73
          rw [wp_bind, w_opOf (p := p) (s := i) (by omega) (by omega) e, wp_t (show (0 : Int32) = 0 from rfl)]
          unfold gjX12_isOn_91 gjX12_isOn_98
          rw [wp_f (by rw [L_8, i_eq (by omega) (by decide)]; omega), wp_bind, wp_some, wp_some, lq_l, nI_1, b01_n (fun z => z (st.mpr trivial))]
          exact ⟨(), rfl, trivial⟩
        · rw [if_neg c1] at st
          rw [wp_f (by rw [i_eq (by omega) (by decide)]; exact c1)]
          unfold gjX12_isOn_73
          rw [wp_bind, w_opOf (p := p) (s := i) (by omega) (by omega) e, wp_t (show (0 : Int32) = 0 from rfl)]
          unfold gjX12_isOn_91 gjX12_isOn_98
          rw [L_8]
          by_cases c2 : S i / 16 = 8
          · rw [if_pos c2] at st
            rw [wp_t (by rw [c2]), wp_bind, wp_some, wp_some, lq_l, nI_1, hy, b01_congr (not_congr st)]
            exact ⟨(), rfl, trivial⟩
          · rw [if_neg c2] at st
            rw [wp_f (by rw [i_eq (by omega) (by decide)]; exact c2), wp_bind, wp_some, wp_some, lq_l, nI_1, b01_congr (not_congr st)]
            exact ⟨(), rfl, trivial⟩
      · simp (disch := omega) only [gbX12_isOn_44, i_le, wp_t, wp_some, lq_r]
    · rintro r rfl
      rw [wp_bind, w_bz, wp_some]
  have fin : wp (gX12_isOn m (nI p) (nI s) 0) (fun r => r = b01 (¬ cx (pS Pl p) S s &&& 2 = 0)) := by
    unfold gX12_isOn
    rw [wp_bind, w_sortOf f pw hp, wp_t (show (0 : Int32) = 0 from rfl)]
    by_cases z : pS Pl p = 0
    · rw [wp_t (by rw [z]; rfl)]
      exact key 1 (by rw [z]; rfl)
    · rw [wp_f (by rw [z_eq (by omega)]; exact z)]
      refine key 0 (b01_n ?_).symm
      unfold cx0
      rcases (by omega : pS Pl p = 1 ∨ pS Pl p = 2) with q | q
      · rw [if_neg (by omega), if_pos q]; decide
      · rw [if_neg (by omega), if_neg (by omega)]; decide
  obtain ⟨r, e, rfl⟩ := fin
  exact wp_eq e
theorem w_canSoft (f : PF m Pl) (pw : PW Pl) (hp : p < pP Pl) (hs : s ≤ 12) (hop : ∀ k, k < s → m 1 (1541 + (12 * p + k)) = nI (S k / 16) ∧ S k / 16 ≤ 8) {Q : Int32 → Prop} : wp (gX12_canSoft m (nI p) (nI s)) Q = Q (b01 (cx (pS Pl p) S s = 6)) := by
  have h8 := cx_8 (pS Pl p) S s
  have k1 : ∀ c, c < 8 → c % 2 = 0 → (c &&& 4 = 0 → c ≠ 6) ∧ (c &&& 2 = 0 → c ≠ 6) ∧ (¬ c &&& 4 = 0 → ¬ c &&& 2 = 0 → c = 6) := by decide
  obtain ⟨q1, q2, q3⟩ := k1 _ h8.1 h8.2
  unfold gX12_canSoft gjX12_canSoft_24 gjX12_canSoft_25
  rw [wp_bind, w_isHard f pw hp hs hop]
  by_cases z : cx (pS Pl p) S s &&& 4 = 0
  · rw [b01_n (fun q => q z), wp_t rfl, wp_bind, wp_eq bz_0, wp_some, b01_n (q1 z)]
  · rw [b01_t z, wp_f (by decide), wp_bind, w_isSoft f pw hp hs hop]
    by_cases z2 : cx (pS Pl p) S s &&& 2 = 0
    · rw [b01_n (fun q => q z2), wp_t rfl, wp_bind, wp_eq bz_0, wp_some, b01_n (q2 z2)]
    · rw [b01_t z2, wp_f (by decide), wp_bind, wp_eq bz_1, wp_some, b01_t (q3 z z2)]
end RN

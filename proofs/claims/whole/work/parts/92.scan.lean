/-! the words of a text: the reference's -/
section RTK
variable {m : Mem} {B : Nat → Int32} {n p : Nat}
def TXr (m : Mem) (B : Nat → Int32) (n : Nat) : Prop := m 0 12 = nI n ∧ n ≤ 900 ∧ (∀ j, j < n → m 10 j = B j) ∧ ∀ j, j < 71 → m 11 j = nI (lt1 j)
def TKr (m : Mem) (t : Nat × Nat × Nat) : Prop := m 0 14 = nI t.2.1 ∧ (t.1 ≠ 18 → m 0 13 = nI t.2.2) ∧ ((t.1 = 17 ∧ m 0 15 = 0) ∨ (t.1 = 18 ∧ m 0 15 = 1) ∨ (t.1 = 16 ∧ m 0 15 = 3) ∨ (t.1 ≤ 15 ∧ m 0 15 = 2 ∧ m 0 16 = if t.1 = 15 then mI else nI t.1))
theorem TXr.go {m' : Mem} (T : TXr m B n) (e0 : m' 0 12 = m 0 12) (e1 : m' 10 = m 10) (e2 : m' 11 = m 11) : TXr m' B n := by
  obtain ⟨t1, t2, t3, t4⟩ := T
  exact ⟨by rw [e0]; exact t1, t2, by rw [e1]; exact t3, by rw [e2]; exact t4⟩
theorem txr_up {j : Nat} {v : Int32} (T : TXr m B n) (hj : 12 ≠ j) : TXr (up m 0 j v) B n := T.go (up_j hj) (up_r (by decide)) (up_r (by decide))
theorem r_isBlank {q : Nat} (T : TXr m B n) (hq : q ≤ n) : wp (gX12_isBlank m (nI q)) (fun r => (r = 1 ∧ q < n ∧ blk (B q)) ∨ (r = 0 ∧ (q < n → ¬ blk (B q)))) := by
  obtain ⟨t1, t2, t3, t4⟩ := T
  unfold gX12_isBlank gjX12_isBlank_34 gjX12_isBlank_30 gjX12_isBlank_35
  rw [t1]
  by_cases z : n ≤ q
  · rw [wp_t (nI_le z (by omega)), wp_bind, wp_eq bz_0, wp_some]
    exact Or.inr ⟨rfl, fun y => by omega⟩
  · rw [wp_f (fun y => z ((nI_leI (by omega) (by omega)).mp y)), wp_bind, w_rd (by omega) (by decide), t3 q (by omega)]
    by_cases b1 : B q = 32
    · rw [wp_t b1, wp_bind, wp_eq bz_1, wp_some]; exact Or.inl ⟨rfl, by omega, Or.inl b1⟩
    · rw [wp_f b1, wp_bind, w_rd (by omega) (by decide), t3 q (by omega)]
      by_cases b2 : B q = 10
      · rw [wp_t b2, wp_bind, wp_eq bz_1, wp_some]; exact Or.inl ⟨rfl, by omega, Or.inr b2⟩
      · rw [wp_f b2, wp_bind, wp_eq bz_0, wp_some]; exact Or.inr ⟨rfl, fun _ y => y.elim b1 b2⟩
theorem r_signAt {q : Nat} (T : TXr m B n) (hq : q ≤ n) {Q : Int32 → Prop} : wp (gX12_signAt m (nI q)) Q = Q (if q < n then B q else 0) := by
  obtain ⟨t1, t2, t3, t4⟩ := T
  unfold gX12_signAt gjX12_signAt_18
  rw [t1]
  by_cases z : n ≤ q
  · rw [wp_t (nI_le z (by omega)), wp_some, if_neg (by omega)]
  · rw [wp_f (fun y => z ((nI_leI (by omega) (by omega)).mp y)), wp_bind, w_rd (by omega) (by decide), t3 q (by omega), wp_some, if_pos (by omega)]
theorem ltt_0 : ¬ ltt 0 := fun z => z.1 (by decide)
theorem r_skip (T : TXr m B n) (hp : p ≤ n) (e : m 0 14 = nI p) : wp (lp (gbX12_scan_8) FU m) (fun r => r = up m 0 14 (nI (skp (fun j => blk (B j)) n p))) := by
  have n9 := T.2.1
  refine wp_lp (fun k st => ∃ q, k + q = n ∧ p ≤ q ∧ st = up m 0 14 (nI q) ∧ skp (fun j => blk (B j)) n q = skp (fun j => blk (B j)) n p) (fun k st HH => ?_) (n := n - p) ⟨p, by omega, Nat.le_refl _, by rw [up_self e], rfl⟩ (by omega)
  obtain ⟨q, kq, pq, rfl, eq⟩ := HH
  unfold gbX12_scan_8
  rw [up_at, wp_bind]
  refine wp_mono (r_isBlank (txr_up T (by decide)) (show q ≤ n by omega)) ?_
  rintro r (⟨rfl, z1, z2⟩ | ⟨rfl, z⟩)
  · rw [wp_f (by decide), wp_bind, wp_some, wp_some, lq_l, up_up, show nI q + 1 = nI (q + 1) from i_add _ 1]
    exact ⟨k - 1, by omega, q + 1, by omega, by omega, rfl, (skp_t (P := fun j => blk (B j)) z1 z2).symm.trans eq⟩
  · rw [wp_t rfl, wp_some, lq_r, ← eq, skp_f z]
theorem r_word (T : TXr m B n) (hp : p ≤ n) (e : m 0 13 = nI p) : wp (lp (gbX12_scanWord_13) FU m) (fun r => r = up m 0 13 (nI (skp (fun j => ltt (B j)) n p))) := by
  have n9 := T.2.1
  refine wp_lp (fun k st => ∃ q, k + q = n ∧ p ≤ q ∧ st = up m 0 13 (nI q) ∧ skp (fun j => ltt (B j)) n q = skp (fun j => ltt (B j)) n p) (fun k st HH => ?_) (n := n - p) ⟨p, by omega, Nat.le_refl _, by rw [up_self e], rfl⟩ (by omega)
  obtain ⟨q, kq, pq, rfl, eq⟩ := HH
  have _d : Decidable (ltt (if q < n then B q else 0)) := Classical.propDecidable _
  unfold gbX12_scanWord_13
  rw [up_at, wp_bind, r_signAt (txr_up T (by decide)) (show q ≤ n by omega), wp_bind, r_isLetter]
  by_cases z : ltt (if q < n then B q else 0)
  · have qn : q < n := Nat.lt_of_not_le fun y => by rw [if_neg (by omega)] at z; exact ltt_0 z
    rw [b01_t z, wp_f (by decide), wp_bind, wp_some, wp_some, lq_l, up_up, show nI q + 1 = nI (q + 1) from i_add _ 1]
    rw [if_pos qn] at z
    exact ⟨k - 1, by omega, q + 1, by omega, by omega, rfl, (skp_t (P := fun j => ltt (B j)) qn z).symm.trans eq⟩
  · rw [b01_n z, wp_t rfl, wp_some, lq_r, ← eq, skp_f (fun y q => z (by rw [if_pos y]; exact q))]
theorem r_isSame {w s e : Nat} (T : TXr m B n) (hw : w < 15) (hse : s ≤ e) (hen : e ≤ n) (e14 : m 0 14 = nI s) (e13 : m 0 13 = nI e) : wp (gX12_isSame m (nI (wOf w)) (nI (wOf w + wLn w))) (fun r => (r = 1 ∧ mt B s e w) ∨ (r = 0 ∧ ¬ mt B s e w)) := by
  obtain ⟨t1, t2, t3, t4⟩ := T
  obtain ⟨l1, l2, l3⟩ := wOf_l w hw
  have el : nI (wOf w + wLn w) - nI (wOf w) = nI (wLn w) := by rw [i_sub (by omega), Nat.add_sub_cancel_left]
  unfold gX12_isSame
  rw [el, e13, e14, i_sub hse]
  by_cases z : wLn w = e - s
  · rw [wp_t (by rw [z]), wp_bind]
    refine wp_mono (Q := fun r => (r = .inl () ∧ mt B s e w) ∨ (r = .inr () ∧ ¬ mt B s e w)) ?_ ?_
    · refine wp_for (κ := Unit) (fun k _ => nI k) (wLn w) (fun k _ => ∀ k', k' < k → B (s + k') = nI (lt1 (wOf w + k'))) (fun k c hk HH => ?_) (fun c HH => ?_) 0 () (Nat.zero_le _) (fun k hk => absurd hk (Nat.not_lt_zero _)) (by omega)
      · unfold gbX12_isSame_19
        rw [el, wp_f (fun y => by have := (nI_leI (by omega) (by omega)).mp y; omega), wp_bind, i_add, w_rd (by omega) (by decide), t4 _ (by omega), wp_bind, e14, i_add, w_rd (by omega) (by decide), t3 _ (by omega)]
        by_cases y : B (s + k) = nI (lt1 (wOf w + k))
        · rw [wp_t y.symm, wp_bind, wp_some, wp_some, lq_l]
          refine ⟨(), nI_1 k, fun k' hk' => ?_⟩
          by_cases x : k' = k
          · rw [x]; exact y
          · exact HH k' (by omega)
        · rw [wp_f (fun q => y q.symm), wp_some, lq_r]
          exact Or.inr ⟨rfl, fun q => y (q.2 k hk)⟩
      · unfold gbX12_isSame_19
        rw [el, wp_t (nI_le (Nat.le_refl _) (by omega)), wp_some, lq_r]
        exact Or.inl ⟨rfl, z, HH⟩
    · rintro r (⟨rfl, h⟩ | ⟨rfl, h⟩)
      · rw [wp_some]; exact Or.inl ⟨rfl, h⟩
      · rw [wp_some]; exact Or.inr ⟨rfl, h⟩
  · rw [wp_f (fun y => z ((nI_eq (by omega) (by omega)).mp y)), wp_some]
    exact Or.inr ⟨rfl, fun y => z y.1⟩
theorem r_to {w : Nat} {u2 : Int32} (T : TXr m B n) (hw : w < 15) : wp (lp (gbX12_scanWord_57 (nI (wOf w)) u2 m) FU (nI (wOf w))) (fun r => r = nI (wOf w + wLn w)) := by
  obtain ⟨t1, t2, t3, t4⟩ := T
  obtain ⟨l1, l2, l3⟩ := wOf_l w hw
  refine wp_for (κ := Unit) (fun k _ => nI (wOf w + k)) (wLn w) (fun _ _ => True) (fun k c hk HH => ?_) (fun c HH => ?_) 0 () (Nat.zero_le _) trivial (by omega)
  · have l128 := lt_lt (wOf w + k) (by omega)
    unfold gbX12_scanWord_57
    rw [wp_bind, w_rd (by omega) (by decide), t4 _ (by omega), wp_f (show ¬ nI (lt1 (wOf w + k)) = 32 from fun z => lt_in w hw k (by omega) hk ((nI_eq (b := 32) (by omega) (by decide)).mp z)), wp_bind, wp_some, wp_some, lq_l]
    exact ⟨(), nI_1 _, trivial⟩
  · unfold gbX12_scanWord_57
    rw [wp_bind, w_rd (by omega) (by decide), t4 _ (by omega), (lt_sp (wOf w + wLn w) l1).mpr ⟨w, hw, rfl⟩, wp_t (show nI 32 = 32 from rfl), wp_some, lq_r]
theorem r_scanWord {s : Nat} (T : TXr m B n) (hs : s ≤ n) (e14 : m 0 14 = nI s) : wp (gX12_scanWord m) (fun r => r = up (up (up m 0 15 2) 0 13 (nI (skp (fun j => ltt (B j)) n s))) 0 16 (if wn B s (skp (fun j => ltt (B j)) n s) = 15 then mI else nI (wn B s (skp (fun j => ltt (B j)) n s)))) := by
  obtain ⟨h3, h4⟩ := skp_le (P := fun j => ltt (B j)) hs
  have n9 := T.2.1
  unfold gX12_scanWord
  rw [wp_bind, wp_some, wp_bind, wp_some, up_j (show (14 : Nat) ≠ 15 by decide), e14, wp_bind]
  refine wp_mono (r_word (m := up (up m 0 15 2) 0 13 (nI s)) (txr_up (txr_up T (by decide)) (by decide)) hs up_at) ?_
  rintro r rfl
  rw [up_up, wp_bind, wp_some, wp_bind]
  generalize skp (fun j => ltt (B j)) n s = e at h3 h4
  refine wp_mono (Q := fun r => r = up (up (up m 0 15 2) 0 13 (nI e)) 0 16 (if wn B s e = 15 then mI else nI (wn B s e))) ?_ (fun r hr => by rw [wp_some]; exact hr)
  refine wp_for (κ := Int32) (fun w c => (nI (wOf w), nI w, up (up (up m 0 15 2) 0 13 (nI e)) 0 16 c)) 15 (fun w c => ((∀ w', w' < w → ¬ mt B s e w') ∧ c = mI) ∨ ∃ w', w' < w ∧ mt B s e w' ∧ c = nI w') (fun w c hw HH => ?_) (fun c HH => ?_) 0 mI (by decide) (Or.inl ⟨fun w hw => absurd hw (Nat.not_lt_zero _), rfl⟩) (by decide)
  · have Tc : TXr (up (up (up m 0 15 2) 0 13 (nI e)) 0 16 c) B n := txr_up (txr_up (txr_up T (by decide)) (by decide)) (by decide)
    have nx : ∀ c' : Int32, (((∀ w', w' < w + 1 → ¬ mt B s e w') ∧ c' = mI) ∨ ∃ w', w' < w + 1 ∧ mt B s e w' ∧ c' = nI w') → wp (gjX12_scanWord_88 (nI w) (nI (wOf w + wLn w)) (up (up (up m 0 15 2) 0 13 (nI e)) 0 16 c')) (lq (fun s' => ∃ c', s' = (nI (wOf (w + 1)), nI (w + 1), up (up (up m 0 15 2) 0 13 (nI e)) 0 16 c') ∧ (((∀ w', w' < w + 1 → ¬ mt B s e w') ∧ c' = mI) ∨ ∃ w', w' < w + 1 ∧ mt B s e w' ∧ c' = nI w')) (fun r => r = up (up (up m 0 15 2) 0 13 (nI e)) 0 16 (if wn B s e = 15 then mI else nI (wn B s e)))) := fun c' hc' => by
      unfold gjX12_scanWord_88
      rw [wp_bind, wp_some, wp_bind, wp_some, wp_some, lq_l, nI_1, nI_1, ← wOf_s w hw]
      exact ⟨c', rfl, hc'⟩
    simp only [gbX12_scanWord_49]
    rw [L_15, wp_f (fun z => by have := (nI_leI (by decide) (by omega)).mp z; omega), wp_bind]
    refine wp_mono (r_to Tc hw) ?_
    rintro r rfl
    rw [wp_bind]
    refine wp_mono (r_isSame (s := s) (e := e) Tc hw h3 h4 (by rw [up_j (show (14 : Nat) ≠ 16 by decide), up_j (show (14 : Nat) ≠ 13 by decide), up_j (show (14 : Nat) ≠ 15 by decide)]; exact e14) (by rw [up_j (show (13 : Nat) ≠ 16 by decide), up_at])) ?_
    rintro r (⟨rfl, hm⟩ | ⟨rfl, hm⟩)
    · rw [wp_f (by decide), wp_bind, wp_some, up_up]
      exact nx (nI w) (Or.inr ⟨w, by omega, hm, rfl⟩)
    · rw [wp_t rfl]
      refine nx c ?_
      rcases HH with ⟨z1, z2⟩ | ⟨w', z1, z2, z3⟩
      · refine Or.inl ⟨fun w' hw' => ?_, z2⟩
        by_cases x : w' = w
        · rw [x]; exact hm
        · exact z1 w' (by omega)
      · exact Or.inr ⟨w', by omega, z2, z3⟩
  · simp only [gbX12_scanWord_49]
    rw [L_15, wp_t (nI_le (Nat.le_refl _) (by decide)), wp_some, lq_r]
    rcases HH with ⟨z1, z2⟩ | ⟨w', z1, z2, z3⟩
    · rw [wn_f z1, if_pos rfl, z2]
    · rw [wn_t z1 z2, if_neg (by omega), z3]
/-- the reference's next word -/
theorem r_scan (T : TXr m B n) (hp : p ≤ n) (e13 : m 0 13 = nI p) : wp (gX12_scan m) (fun m' => (∀ o, o ≠ 0 → m' o = m o) ∧ (∀ j, j ≠ 13 → j ≠ 14 → j ≠ 15 → j ≠ 16 → m' 0 j = m 0 j) ∧ TKr m' (tok B n p)) := by
  obtain ⟨h1, h2⟩ := skp_le (P := fun j => blk (B j)) hp
  have n9 := T.2.1
  unfold gX12_scan gjX12_scan_109 gjX12_scan_112
  rw [wp_bind, wp_some, e13, wp_bind]
  refine wp_mono (r_skip (txr_up T (by decide)) hp up_at) ?_
  rintro r rfl
  rw [up_up, wp_bind, wp_some, up_at]
  unfold tok
  generalize hs : skp (fun j => blk (B j)) n p = s at h1 h2
  have T2 : ∀ v, TXr (up (up m 0 14 (nI s)) 0 13 v) B n := fun v => txr_up (txr_up T (by decide)) (by decide)
  have e14 : ∀ v, up (up m 0 14 (nI s)) 0 13 v 0 14 = nI s := fun v => by rw [up_j (show (14 : Nat) ≠ 13 by decide), up_at]
  have e12 : ∀ v, up (up m 0 14 (nI s)) 0 13 v 0 12 = nI n := fun v => (T2 v).1
  have f2 : ∀ v w, (∀ o, o ≠ 0 → up (up (up m 0 14 (nI s)) 0 13 v) 0 15 w o = m o) ∧ ∀ j, j ≠ 13 → j ≠ 14 → j ≠ 15 → j ≠ 16 → up (up (up m 0 14 (nI s)) 0 13 v) 0 15 w 0 j = m 0 j := fun v w => ⟨fun o ho => by rw [up_r ho, up_r ho, up_r ho], fun j z1 z2 z3 _ => by rw [up_j z3, up_j z1, up_j z2]⟩
  have g14 : ∀ v w, up (up (up m 0 14 (nI s)) 0 13 v) 0 15 w 0 14 = nI s := fun v w => by rw [up_j (show (14 : Nat) ≠ 15 by decide)]; exact e14 v
  have g13 : ∀ v w, up (up (up m 0 14 (nI s)) 0 13 v) 0 15 w 0 13 = v := fun v w => by rw [up_j (show (13 : Nat) ≠ 15 by decide), up_at]
  rw [e14, e12]
  by_cases z : s = n
  · rw [wp_f (fun y => by have := (nI_ltI (by omega) (by omega)).mp y; omega), wp_bind, wp_some, up_up, wp_bind, wp_some, wp_some, if_pos z]
    refine ⟨(f2 _ _).1, (f2 _ _).2, ?_, fun _ => ?_, Or.inl ⟨rfl, up_at⟩⟩
    · rw [g14, z]
    · rw [g13, z]
  · have sn : s < n := by omega
    have _d : Decidable (ltt (B s)) := Classical.propDecidable _
    rw [wp_t ((nI_ltI (by omega) (by omega)).mpr sn), if_neg z, wp_bind, r_signAt (T2 _) h2, if_pos sn, wp_bind, r_isLetter]
    by_cases x : ltt (B s)
    · have y : ¬ B s = 59 := fun q => by rw [q] at x; exact x.1 (by decide)
      rw [b01_t x, wp_f (by decide), if_neg y, ci_t x, wp_bind]
      refine wp_mono (r_scanWord (T2 _) h2 (e14 _)) ?_
      rintro r rfl
      rw [wp_some]
      have w15 := wn_le (B := B) (s := s) (e := skp (fun j => ltt (B j)) n s)
      refine ⟨fun o ho => by rw [up_r ho, up_r ho, up_r ho, up_r ho, up_r ho], fun j z1 z2 z3 z4 => by rw [up_j z4, up_j z1, up_j z3, up_j z1, up_j z2], ?_, fun _ => ?_, Or.inr (Or.inr (Or.inr ⟨w15, ?_, up_at⟩))⟩
      · rw [up_j (show (14 : Nat) ≠ 16 by decide), up_j (show (14 : Nat) ≠ 13 by decide), up_j (show (14 : Nat) ≠ 15 by decide), up_j (show (14 : Nat) ≠ 13 by decide), up_at]
      · rw [up_j (show (13 : Nat) ≠ 16 by decide), up_at]
      · rw [up_j (show (15 : Nat) ≠ 16 by decide), up_j (show (15 : Nat) ≠ 13 by decide), up_at]
    · rw [b01_n x, wp_t rfl, wp_bind, r_signAt (T2 _) h2, if_pos sn]
      by_cases y : B s = 59
      · rw [wp_t y, wp_bind, wp_some, wp_some, if_pos y, show nI s + 1 = nI (s + 1) from i_add _ 1]
        exact ⟨(f2 _ _).1, (f2 _ _).2, g14 _ _, fun _ => g13 _ _, Or.inr (Or.inr (Or.inl ⟨rfl, up_at⟩))⟩
      · rw [wp_f y, wp_bind, wp_some, wp_some, if_neg y, ci_f x]
        exact ⟨(f2 _ _).1, (f2 _ _).2, g14 _ _, fun q => absurd rfl q, Or.inr (Or.inl ⟨rfl, up_at⟩)⟩
end RTK

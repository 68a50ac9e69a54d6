/-! what the reference reads out of a search -/
theorem anc_ok {B D : Nat → Nat} {n j0 N : Nat} (hp : ∀ j, 0 < j → j < n → B j / 64 < j ∧ D j = D (B j / 64) + 1) (D0 : D 0 = 0) (h0 : j0 < n) (hN : D j0 = N) : (∀ i, i ≤ N → anc B j0 i < n ∧ D (anc B j0 i) + i = N) ∧ (∀ i, i < N → 0 < anc B j0 i) ∧ anc B j0 N = 0 := by
  have ok : ∀ i, i ≤ N → anc B j0 i < n ∧ D (anc B j0 i) + i = N := by
    intro i
    induction i with
    | zero => intro _; exact ⟨h0, hN⟩
    | succ i ih =>
      intro hi
      obtain ⟨i1, i2⟩ := ih (by omega)
      have pos : 0 < anc B j0 i := Nat.pos_of_ne_zero fun z => by rw [z, D0] at i2; omega
      obtain ⟨p1, p2⟩ := hp _ pos i1
      exact ⟨show B (anc B j0 i) / 64 < n by omega, show D (B (anc B j0 i) / 64) + (i + 1) = N by omega⟩
  refine ⟨ok, fun i hi => Nat.pos_of_ne_zero fun z => ?_, Classical.byContradiction fun z => ?_⟩
  · have := (ok i (by omega)).2
    rw [z, D0] at this; omega
  · obtain ⟨l1, l2⟩ := ok N (Nat.le_refl _)
    have := (hp _ (Nat.pos_of_ne_zero z) l1).2
    omega
section RST
variable {Pl : PD} {S : Nat → Nat} {X : Nat} {m : Mem} {Z : SS} {M : MO} {j : Nat}
theorem RZ.anc (si : SI Pl S X Z) (hj : j < zN Z) : (∀ i, i ≤ dep (zM Z j) 6 → anc (zB Z) j i < zN Z ∧ dep (zM Z (anc (zB Z) j i)) 6 + i = dep (zM Z j) 6) ∧ (∀ i, i < dep (zM Z j) 6 → 0 < anc (zB Z) j i) ∧ anc (zB Z) j (dep (zM Z j) 6) = 0 :=
  anc_ok (B := zB Z) (D := fun j => dep (zM Z j) 6) (fun j j0 hj => ⟨(si.2.2.2.2.2.2 j j0 hj).1, (si.2.2.2.2.2.2 j j0 hj).2.2.2⟩) (si.2.2.2.2.2.1 (by omega)) hj rfl
theorem r_movesTo (z : RZ Pl S X m Z) (si : SI Pl S X Z) (pw : PW Pl) (hj : j < zN Z) : wp (gX12_movesTo m (nI j)) (fun y => y = nI (dep (zM Z j) 6)) := by
  obtain ⟨a1, a2, a3⟩ := RZ.anc si hj
  have d78 := dep_le pw (si.2.2.1 j hj).1 6
  have n4 := si.2.1
  unfold gX12_movesTo
  rw [wp_bind]
  refine wp_mono (Q := fun y => y = nI (dep (zM Z j) 6)) ?_ (fun _ hr => by rw [wp_some]; exact hr)
  refine wp_for (κ := Unit) (fun i _ => (nI i, nI (anc (zB Z) j i))) (dep (zM Z j) 6) (fun _ _ => True) (fun i _ hi _ => ?_) (fun _ _ => ?_) 0 () (Nat.zero_le _) trivial (by omega)
  · obtain ⟨b1, b2⟩ := a1 i (by omega)
    have p := a2 i hi
    have e := (z.2.2.2.2.2.1 _ p b1).1
    have lt := (si.2.2.2.2.2.2 _ p b1).1
    simp only [gbX12_movesTo_4]
    rw [wp_bind, w_rd (by omega) (by decide), e, wp_f (by rw [nI_lt0 (by omega)]; exact id), wp_bind, wp_some, wp_bind, w_rd (by omega) (by decide), e, wp_some, lq_l, nI_1]
    exact ⟨(), rfl, trivial⟩
  · simp only [gbX12_movesTo_4]
    rw [a3, wp_bind, w_rd (by decide) (by decide), (z.2.2.2.2.1 (by omega)).1, wp_t (by rw [m_lt0]; trivial), wp_some, lq_r]
theorem r_moveAt (z : RZ Pl S X m Z) (si : SI Pl S X Z) (pw : PW Pl) (hj : j < zN Z) {i : Nat} {u3 : Int32} (hi : i < dep (zM Z j) 6) : wp (lp (gbX12_move_72 (nI i) u3 m) FU (nI j, nI (dep (zM Z j) 6 - 1))) (fun y => y = nI (anc (zB Z) j (dep (zM Z j) 6 - 1 - i))) := by
  obtain ⟨a1, a2, a3⟩ := RZ.anc si hj
  have d78 := dep_le pw (si.2.2.1 j hj).1 6
  have n4 := si.2.1
  refine wp_for (κ := Unit) (fun e _ => (nI (anc (zB Z) j e), nI (dep (zM Z j) 6 - 1 - e))) (dep (zM Z j) 6 - 1 - i) (fun _ _ => True) (fun e _ he _ => ?_) (fun _ _ => ?_) 0 () (Nat.zero_le _) trivial (by omega)
  · obtain ⟨b1, b2⟩ := a1 e (by omega)
    have p := a2 e (by omega)
    have e28 := (z.2.2.2.2.2.1 _ p b1).1
    simp only [gbX12_move_72]
    rw [wp_f (by rw [i_le (by omega) (by omega)]; omega), wp_bind, w_rd (by omega) (by decide), e28, wp_bind, wp_some, wp_some, lq_l, mI_e, i_dec (by omega)]
    exact ⟨(), by rw [show dep (zM Z j) 6 - 1 - e - 1 = dep (zM Z j) 6 - 1 - (e + 1) by omega]; rfl, trivial⟩
  · simp only [gbX12_move_72]
    rw [wp_t (by rw [i_le (by omega) (by omega)]; omega), wp_some, lq_r]
theorem or_1 {v : Int32} {f : Nat → Nat} {i b : Nat} (hv : ∀ u, u < 32 → (bt v u = true ↔ ∃ j, j < i ∧ f j = u)) (hf : f i < 32) (hb : b < 32) : bt (v ||| ((1 : Int32) <<< (nI (f i) &&& 31))) b = true ↔ ∃ j, j < i + 1 ∧ f j = b := by
  rw [b_or, Bool.or_eq_true, hv b hb, b_shl1 hf hb]
  constructor
  · rintro (⟨j, j1, j2⟩ | e)
    · exact ⟨j, by omega, j2⟩
    · exact ⟨i, by omega, (of_decide_eq_true e).symm⟩
  · rintro ⟨j, j1, j2⟩
    by_cases z : j = i
    · right; rw [z] at j2; exact decide_eq_true j2.symm
    · left; exact ⟨j, by omega, j2⟩
theorem r_rings (g : RNGr Pl S X M m) (I : MOK Pl X M) (pw : PW Pl) (sb : ∀ q, q < pP Pl → moD M q < pN Pl q → sll S M q < 10) : wp (gX12_ringTasks m) (fun rt => wp (gX12_ringLocks m) (fun rl => RGT Pl S X M rt rl)) := by
  obtain ⟨⟨u, K, x, u6, ul, w, e52, hx⟩, lw⟩ := g
  have xl := w.lt u6
  have K6 := w.leK u6
  have ym : ∀ j, ∃ v, j < K → m 32 (x j) = nI v ∧ v < 10 ∧ ∃ q, isTop Pl X M (x j) q ∧ sll S M q = v := by
    intro j
    by_cases hj : j < K
    · have ej := (w.2.2.2 j hj).2.1
      rcases (lw (x j) (xl j (by omega))).1 with ⟨q', t1, t2, t3, t4⟩ | ⟨t1, _⟩
      · obtain ⟨qP', qd', _, _⟩ := isTop_at t1 I t2
        exact ⟨_, fun _ => ⟨t4, sb q' qP' qd', q', t2, rfl⟩⟩
      · exact absurd ej (t1 _)
    · exact ⟨0, fun q => absurd q hj⟩
  obtain ⟨y, hy⟩ := Classical.skolem.mp ym
  unfold gX12_ringTasks gX12_ringLocks
  rw [wp_bind]
  refine wp_mono (Q := fun rt => ∀ b, b < 32 → (bt rt b = true ↔ ∃ i, i < K ∧ x i = b)) ?_ ?_
  · refine wp_for (κ := Int32) (fun i c => (c, nI i)) K (fun i c => ∀ b, b < 32 → (bt c b = true ↔ ∃ j, j < i ∧ x j = b)) (fun i c hi hI => ?_) (fun c hI => ?_) 0 0 (Nat.zero_le _) (fun b _ => by rw [b_0]; exact ⟨fun z => absurd z (by decide), fun ⟨j, z, _⟩ => absurd z (Nat.not_lt_zero _)⟩) (by omega)
    · have := xl i (by omega)
      simp only [gbX12_ringTasks_4]
      rw [e52, wp_f (by rw [i_le (by omega) (by omega)]; omega), wp_bind, w_rd (by omega) (by decide), hx i hi, wp_bind, wp_some, wp_bind, wp_some, wp_some, lq_l, nI_1]
      exact ⟨_, rfl, fun b hb => or_1 hI (by omega) hb⟩
    · simp only [gbX12_ringTasks_4]
      rw [e52, wp_t (by rw [i_le (by omega) (by omega)]; omega), wp_some, lq_r]
      exact hI
  · intro rt hrt
    rw [wp_some, wp_bind]
    refine wp_mono (Q := fun rl => ∀ b, b < 32 → (bt rl b = true ↔ ∃ i, i < K ∧ y i = b)) ?_ ?_
    · refine wp_for (κ := Int32) (fun i c => (c, nI i)) K (fun i c => ∀ b, b < 32 → (bt c b = true ↔ ∃ j, j < i ∧ y j = b)) (fun i c hi hI => ?_) (fun c hI => ?_) 0 0 (Nat.zero_le _) (fun b _ => by rw [b_0]; exact ⟨fun z => absurd z (by decide), fun ⟨j, z, _⟩ => absurd z (Nat.not_lt_zero _)⟩) (by omega)
      · have := xl i (by omega)
        obtain ⟨y1, y2, _⟩ := hy i hi
        simp only [gbX12_ringLocks_4]
        rw [e52, wp_f (by rw [i_le (by omega) (by omega)]; omega), wp_bind, w_rd (by omega) (by decide), hx i hi, wp_bind, w_rd (by omega) (by decide), y1, wp_bind, wp_some, wp_bind, wp_some, wp_some, lq_l, nI_1]
        exact ⟨_, rfl, fun b hb => or_1 hI (by omega) hb⟩
      · simp only [gbX12_ringLocks_4]
        rw [e52, wp_t (by rw [i_le (by omega) (by omega)]; omega), wp_some, lq_r]
        exact hI
    · intro rl hrl
      rw [wp_some]
      refine ⟨u, K, x, u6, ul, w, hrt, fun l hl => ?_⟩
      rw [hrl l hl]
      constructor
      · rintro ⟨j, j1, j2⟩
        obtain ⟨q', q1, q2⟩ := (hy j j1).2.2
        exact ⟨j, q', j1, q1, by rw [q2]; exact j2⟩
      · rintro ⟨j, q', j1, q1, q2⟩
        obtain ⟨q'', q3, q4⟩ := (hy j j1).2.2
        rw [isTop_un pw I q3 q1, q2] at q4
        exact ⟨j, j1, q4.symm⟩
/-- what stuck answers -/
def stV (o : Nat) (mv mo rg lk w : Int32) : Int32 := if o = 2 then mI else if w = 0 then (if o = 1 then 1 else 0) else if w = 2 then mo else if o = 1 then (if w = 1 then mv else if w = 3 then rg else lk) else mI
/-- the reference after a search of the set -/
def RAF (Pl : PD) (S : Nat → Nat) (X : Nat) (m m' : Mem) : Prop := RFr (up m 0 40 (nI X)) m' ∧ RXc m' Pl S X ∧ RZ Pl S X m' (srch Pl S X) ∧ SI Pl S X (srch Pl S X)
end RST
section RS2
variable {Pl : PD} {S : Nat → Nat} {X : Nat} {m m' : Mem}
theorem raf_47 (a : RAF Pl S X m m') : (0 ≤ m' 0 47) ↔ oc Pl S X = 1 := by
  rw [oc_1]
  exact fl_s a.2.2.2.2.1 a.2.2.1.2.2.1
theorem raf_rings (a : RAF Pl S X m m') (o1 : oc Pl S X = 1) : wp (gX12_ringTasks m') (fun rt => wp (gX12_ringLocks m') (fun rl => RGT Pl S X (lastM Pl S X) rt rl)) := by
  obtain ⟨_, R, z, si⟩ := a
  have z1 := oc_1.mp o1
  have n0 := (si.2.2.2.2.1 z1).1
  have I := (si.2.2.1 (zN (srch Pl S X) - 1) (by omega)).1
  exact r_rings (z.2.2.2.2.2.2 z1) I R.2.1 (fun q hq hd => (R.2.2.1 q _ hq hd).2.2.1)
theorem raf_locks (a : RAF Pl S X m m') (o1 : oc Pl S X = 1) {rg lk : Int32} (h : RGT Pl S X (lastM Pl S X) rg lk) : gX12_ringTasks m' = some rg ∧ gX12_ringLocks m' = some lk := by
  obtain ⟨rt, e1, rl, e2, q⟩ := raf_rings a o1
  obtain ⟨p1, p2⟩ := rgt_un q h
  rw [← p1, ← p2]; exact ⟨e1, e2⟩
theorem raf_moves (a : RAF Pl S X m m') (o1 : oc Pl S X = 1) {Q : Int32 → Prop} : wp (gX12_movesTo m' (m' 0 47)) Q = Q (nI (dep (lastM Pl S X) 6)) := by
  obtain ⟨_, R, z, si⟩ := a
  have z1 := oc_1.mp o1
  have n0 := (si.2.2.2.2.1 z1).1
  have e47 := z.2.2.1
  rw [if_pos z1] at e47
  rw [e47]
  obtain ⟨y, e, hy⟩ := r_movesTo z si R.2.1 (show zN (srch Pl S X) - 1 < zN (srch Pl S X) by omega)
  rw [hy] at e
  exact wp_eq e
theorem r_stuckS {w : Int32} (R : RXc (up m 0 40 (nI X)) Pl S X) (pf : PF m Pl) (pw : PW Pl) (vX : vst Pl X) (hw : inN w 5) : wp (gX12_stuck m (nI X) w) (fun y => RAF Pl S X m y.2 ∧ ∀ o mv mo rg lk, KN Pl S X o mv mo rg lk → y.1 = stV (oc Pl S X) mv mo rg lk w) := by
  unfold gX12_stuck gjX12_stuck_25 gjX12_stuck_95 gjX12_stuck_43
  rw [wp_bind]
  refine wp_mono (r_isSet pf pw) ?_
  rintro y (⟨rfl, _⟩ | ⟨_, hn⟩)
  · rw [wp_f (by decide), wp_bind, L_4, w_isInK (by decide), b01_t hw, wp_f (by decide), wp_bind]
    refine wp_mono (r_search R) ?_
    rintro ⟨y1, m1⟩ ⟨g1, g2, g3, g4, g5⟩
    have a : RAF Pl S X m m1 := ⟨g1, g2, g3, g4⟩
    have e1 : y1 = (if zO (srch Pl S X) = 2 then 0 else 1) := g5
    show wp (if y1 = 0 then _ else _) _
    by_cases o2 : oc Pl S X = 2
    · rw [wp_t (by rw [e1]; exact fl_0.mpr (oc_2.mp o2)), wp_some]
      refine ⟨a, fun o mv mo rg lk _ => ?_⟩
      unfold stV
      rw [if_pos o2]; rfl
    · rw [wp_f (by rw [e1]; exact fun q => o2 (oc_2.mpr (fl_0.mp q)))]
      by_cases w0 : w = 0
      · rw [wp_t w0]
        show wp (if 0 ≤ m1 0 47 then _ else _) _
        by_cases o1 : oc Pl S X = 1
        · rw [wp_t ((raf_47 a).mpr o1), wp_some]
          refine ⟨a, fun o mv mo rg lk _ => ?_⟩
          unfold stV
          rw [if_neg o2, if_pos w0, if_pos o1]
        · rw [wp_f (fun q => o1 ((raf_47 a).mp q)), wp_some]
          refine ⟨a, fun o mv mo rg lk _ => ?_⟩
          unfold stV
          rw [if_neg o2, if_pos w0, if_neg o1]
      · rw [wp_f w0]
        by_cases w2 : w = 2
        · rw [wp_t w2, wp_some]
          refine ⟨a, fun o mv mo rg lk k => ?_⟩
          unfold stV
          rw [if_neg o2, if_neg w0, if_pos w2, k.2.1]
          exact g3.2.1
        · rw [wp_f w2]
          show wp (if 0 ≤ m1 0 47 then _ else _) _
          by_cases o1 : oc Pl S X = 1
          · rw [wp_t ((raf_47 a).mpr o1)]
            by_cases w1 : w = 1
            · rw [wp_t w1, wp_bind]
              show wp (gX12_movesTo m1 (m1 0 47)) _
              rw [raf_moves a o1, wp_some]
              refine ⟨a, fun o mv mo rg lk k => ?_⟩
              unfold stV
              rw [if_neg o2, if_neg w0, if_neg w2, if_pos o1, if_pos w1, (k.2.2.2 o1).1]
            · rw [wp_f w1]
              obtain ⟨rt, e2, rl, e3, q⟩ := raf_rings a o1
              by_cases w3 : w = 3
              · rw [wp_t w3, wp_bind]
                show wp (gX12_ringTasks m1) _
                rw [wp_eq e2, wp_some]
                refine ⟨a, fun o mv mo rg lk k => ?_⟩
                unfold stV
                rw [if_neg o2, if_neg w0, if_neg w2, if_pos o1, if_neg w1, if_pos w3]
                exact (rgt_un q (k.2.2.2 o1).2).1
              · rw [wp_f w3, wp_bind]
                show wp (gX12_ringLocks m1) _
                rw [wp_eq e3, wp_some]
                refine ⟨a, fun o mv mo rg lk k => ?_⟩
                unfold stV
                rw [if_neg o2, if_neg w0, if_neg w2, if_pos o1, if_neg w1, if_neg w3]
                exact (rgt_un q (k.2.2.2 o1).2).2
          · rw [wp_f (fun q => o1 ((raf_47 a).mp q)), wp_some]
            refine ⟨a, fun o mv mo rg lk _ => ?_⟩
            unfold stV
            rw [if_neg o2, if_neg w0, if_neg w2, if_neg o1]; rfl
  · exact absurd ⟨X, rfl, vX⟩ hn
end RS2

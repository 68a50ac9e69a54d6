/-! how the reference reads a text -/
section RRD
variable {m m' m1 m2 : Mem} {B : Nat → Int32} {n k w : Nat} {t : TT} {N : NT} {q : QT} {e : Nat × Nat}
def PLr (m : Mem) (k : Nat) (q : QT) (w : Nat) : Prop := m 2 k = nI (pK q.1) ∧ m 3 k = nI (pL q.1) ∧ m 4 k = nI (pP q.1) ∧ (∀ l, l < pL q.1 → m 5 (10 * k + l) = nI (pk q.1 l)) ∧ (∀ p, p < w → m 6 (6 * k + p) = nI (pS q.1 p) ∧ m 7 (6 * k + p) = nI (pN q.1 p)) ∧ ∀ p s, p < w → s < pN q.1 p → m 8 (72 * k + (12 * p + s)) = nI (q.2 (12 * p + s) / 16) ∧ m 9 (72 * k + (12 * p + s)) = if q.2 (12 * p + s) / 16 ≤ 4 then nI (q.2 (12 * p + s) % 16) else mI
def FRr (k : Nat) (m m' : Mem) : Prop := (∀ o, o = 1 ∨ o = 10 ∨ o = 11 ∨ 16 ≤ o → m' o = m o) ∧ (∀ j, j ≤ 12 ∨ (19 ≤ j ∧ j ≠ 26) → m' 0 j = m 0 j) ∧ (∀ o j, o = 2 ∨ o = 3 ∨ o = 4 → j ≠ k → m' o j = m o j) ∧ (∀ j, j / 10 ≠ k → m' 5 j = m 5 j) ∧ ∀ o j, o = 6 ∨ o = 7 → j / 6 ≠ k → m' o j = m o j
theorem FRr.rfl' (k : Nat) (m : Mem) : FRr k m m := ⟨fun _ _ => rfl, fun _ _ => rfl, fun _ _ _ _ => rfl, fun _ _ => rfl, fun _ _ _ _ => rfl⟩
theorem FRr.trans (x : FRr k m m1) (y : FRr k m1 m2) : FRr k m m2 := ⟨fun o h => (y.1 o h).trans (x.1 o h), fun j h => (y.2.1 j h).trans (x.2.1 j h), fun o j h1 h2 => (y.2.2.1 o j h1 h2).trans (x.2.2.1 o j h1 h2), fun j h => (y.2.2.2.1 j h).trans (x.2.2.2.1 j h), fun o j h1 h2 => (y.2.2.2.2 o j h1 h2).trans (x.2.2.2.2 o j h1 h2)⟩
/-- one place is written -/
theorem frr_w {o j : Nat} {v : Int32} (h : (o = 0 ∧ ((13 ≤ j ∧ j ≤ 18) ∨ j = 26)) ∨ ((o = 2 ∨ o = 3 ∨ o = 4) ∧ j = k) ∨ (o = 5 ∧ j / 10 = k) ∨ ((o = 6 ∨ o = 7) ∧ j / 6 = k) ∨ o = 8 ∨ o = 9 ∨ (12 ≤ o ∧ o ≤ 15)) : FRr k m (up m o j v) :=
  ⟨fun o' h' => up_r (by omega), fun j' h' => up_ne (by omega), fun o' j' h1 h2 => up_ne (by omega), fun j' h' => up_ne (by
    by_cases z : o = 5
    · refine Or.inr fun e => h' ?_
      rw [e]; omega
    · exact Or.inl (fun e => z e.symm)), fun o' j' h1 h2 => up_ne (by
    by_cases z : o = 6 ∨ o = 7
    · refine Or.inr fun e => h2 ?_
      rw [e]; omega
    · exact Or.inl (fun e => z (by omega)))⟩
def RSr (m : Mem) (k : Nat) (B : Nat → Int32) (n : Nat) (t : TT) (N : NT) (q : QT) (w : Nat) : Prop := TXr m B n ∧ TKr m t ∧ NMr m N ∧ PLr m k q w ∧ m 0 17 = 0 ∧ m 0 18 = mI ∧ k ≤ 1
def FltR (k : Nat) (m : Mem) (e : Nat × Nat) (m' : Mem) : Prop := FRr k m m' ∧ m' 0 17 = nI e.1 ∧ m' 0 18 = nI e.2
def OkR (k : Nat) (m : Mem) (B : Nat → Int32) (n : Nat) (t : TT) (N : NT) (q : QT) (w : Nat) (m' : Mem) : Prop := FRr k m m' ∧ RSr m' k B n t N q w
theorem FltR.go (x : FRr k m m1) (f : FltR k m1 e m2) : FltR k m e m2 := ⟨x.trans f.1, f.2⟩
theorem OkR.go (x : FRr k m m1) (f : OkR k m1 B n t N q w m2) : OkR k m B n t N q w m2 := ⟨x.trans f.1, f.2⟩
theorem flt_up {o j : Nat} {v : Int32} (f : FltR k m e m1) (h : ((o = 2 ∨ o = 3 ∨ o = 4) ∧ j = k) ∨ (o = 5 ∧ j / 10 = k) ∨ ((o = 6 ∨ o = 7) ∧ j / 6 = k) ∨ o = 8 ∨ o = 9) : FltR k m e (up m1 o j v) := ⟨f.1.trans (frr_w (by omega)), by rw [up_r (by omega)]; exact f.2.1, by rw [up_r (by omega)]; exact f.2.2⟩
theorem RSr.nx {t' : TT} (R : RSr m k B n t N q w) (e : ∀ o, o ≠ 0 → m' o = m o) (e2 : ∀ j, j ≠ 13 → j ≠ 14 → j ≠ 15 → j ≠ 16 → m' 0 j = m 0 j) (kk : TKr m' t') : RSr m' k B n t' N q w := by
  obtain ⟨T, _, ⟨n1, n2⟩, p, f0, f1, k1⟩ := R
  refine ⟨T.go (e2 12 (by decide) (by decide) (by decide) (by decide)) (e 10 (by decide)) (e 11 (by decide)), kk, ⟨by rw [e2 26 (by decide) (by decide) (by decide) (by decide)]; exact n1, by rw [e 12 (by decide), e 13 (by decide), e 14 (by decide), e 15 (by decide)]; exact n2⟩, ?_, by rw [e2 17 (by decide) (by decide) (by decide) (by decide)]; exact f0, by rw [e2 18 (by decide) (by decide) (by decide) (by decide)]; exact f1, k1⟩
  unfold PLr
  rw [e 2 (by decide), e 3 (by decide), e 4 (by decide), e 5 (by decide), e 6 (by decide), e 7 (by decide), e 8 (by decide), e 9 (by decide)]; exact p
theorem RSr.pl {q' : QT} {w' : Nat} (R : RSr m k B n t N q w) (e : ∀ o, o < 2 ∨ 10 ≤ o → m' o = m o) (p : PLr m' k q' w') : RSr m' k B n t N q' w' := by
  obtain ⟨T, K, ⟨n1, n2⟩, _, f0, f1, k1⟩ := R
  have e0 := e 0 (by decide)
  refine ⟨T.go (by rw [e0]) (e 10 (by decide)) (e 11 (by decide)), ?_, ⟨by rw [e0]; exact n1, by rw [e 12 (by decide), e 13 (by decide), e 14 (by decide), e 15 (by decide)]; exact n2⟩, p, by rw [e0]; exact f0, by rw [e0]; exact f1, k1⟩
  unfold TKr
  rw [e0]; exact K
theorem r_scanT (R : RSr m k B n t N q w) (W : TW n t) (h18 : t.1 ≠ 18) : wp (gX12_scan m) (fun m' => OkR k m B n (nxt B n t) N q w m') := by
  refine wp_mono (r_scan R.1 W.2.1 (R.2.1.2.1 h18)) ?_
  rintro m' ⟨f1, f2, K⟩
  refine ⟨⟨fun o h => f1 o (by omega), fun j h => f2 j (by omega) (by omega) (by omega) (by omega), fun o j h1 _ => by rw [f1 o (by omega)], fun j _ => by rw [f1 5 (by decide)], fun o j h1 _ => by rw [f1 o (by omega)]⟩, R.nx f1 f2 K⟩
theorem r_failT {f : Nat} (R : RSr m k B n t N q w) : wp (gX12_fail m (nI f)) (fun m' => FltR k m (f, t.2.1) m') := by
  unfold gX12_fail
  rw [R.2.2.2.2.1, wp_t (by decide), wp_bind, wp_some, up_j (show (14 : Nat) ≠ 17 by decide), R.2.1.1, wp_bind, wp_some, wp_some]
  exact ⟨(frr_w (by omega)).trans (frr_w (by omega)), by rw [up_j (show (17 : Nat) ≠ 18 by decide), up_at], up_at⟩
theorem nz_e (f : m1 0 17 = nI e.1) (fe : FE n e) : ¬ m1 0 17 ≤ 0 ∧ ¬ m1 0 17 = 0 := by
  have := fe.1
  have := fe.2.1
  rw [f]
  exact ⟨fun y => by rw [z_le (by omega)] at y; omega, fun y => by rw [z_eq (by omega)] at y; omega⟩
theorem r_failF {v : Int32} (f : FltR k m e m1) (fe : FE n e) {Q : Mem → Prop} : wp (gX12_fail m1 v) Q = Q m1 := by
  unfold gX12_fail
  rw [wp_f (nz_e f.2.1 fe).1, wp_some]
theorem r_isWordT {v : Nat} (R : RSr m k B n t N q w) (hv : v < 15) (W : TW n t) {Q : Int32 → Prop} : wp (gX12_isWord m (nI v)) Q = Q (b01 (t.1 = v)) := by
  obtain ⟨_, ⟨_, _, K⟩, _, _, f0, _⟩ := R
  have t18 := W.2.2.1
  unfold gX12_isWord gjX12_isWord_27 gjX12_isWord_28
  rw [f0, wp_t rfl]
  rcases K with ⟨z, y⟩ | ⟨z, y⟩ | ⟨z, y⟩ | ⟨z, y, x⟩
  · rw [y, wp_f (by decide), wp_bind, wp_eq bz_0, wp_some, b01_n (by omega)]
  · rw [y, wp_f (by decide), wp_bind, wp_eq bz_0, wp_some, b01_n (by omega)]
  · rw [y, wp_f (by decide), wp_bind, wp_eq bz_0, wp_some, b01_n (by omega)]
  · rw [y, wp_t rfl, x]
    by_cases h15 : t.1 = 15
    · rw [if_pos h15, wp_f (fun c => nI_m1 (show v < 2 ^ 31 by omega) c.symm), wp_bind, wp_eq bz_0, wp_some, b01_n (by omega)]
    · rw [if_neg h15]
      by_cases hv' : t.1 = v
      · rw [wp_t (by rw [hv']), wp_bind, wp_eq bz_1, wp_some, b01_t hv']
      · rw [wp_f (fun c => hv' ((nI_eq (by omega) (by omega)).mp c)), wp_bind, wp_eq bz_0, wp_some, b01_n hv']
theorem r_isNameT (R : RSr m k B n t N q w) (W : TW n t) {Q : Int32 → Prop} : wp (gX12_isName m) Q = Q (b01 (t.1 = 15)) := by
  obtain ⟨_, ⟨_, _, K⟩, _, _, f0, _⟩ := R
  have t18 := W.2.2.1
  unfold gX12_isName gjX12_isName_27 gjX12_isName_28
  rw [f0, wp_t rfl]
  rcases K with ⟨z, y⟩ | ⟨z, y⟩ | ⟨z, y⟩ | ⟨z, y, x⟩
  · rw [y, wp_f (by decide), wp_bind, wp_eq bz_0, wp_some, b01_n (by omega)]
  · rw [y, wp_f (by decide), wp_bind, wp_eq bz_0, wp_some, b01_n (by omega)]
  · rw [y, wp_f (by decide), wp_bind, wp_eq bz_0, wp_some, b01_n (by omega)]
  · rw [y, wp_t rfl, x]
    by_cases h15 : t.1 = 15
    · rw [if_pos h15, wp_t (show mI = -1 from rfl), wp_bind, wp_eq bz_1, wp_some, b01_t h15]
    · rw [if_neg h15, wp_f (nI_m1 (by omega)), wp_bind, wp_eq bz_0, wp_some, b01_n h15]
theorem r_isStopT (R : RSr m k B n t N q w) (W : TW n t) {Q : Int32 → Prop} : wp (gX12_isStop m) Q = Q (b01 (t.1 = 16)) := by
  obtain ⟨_, ⟨_, _, K⟩, _, _, f0, _⟩ := R
  unfold gX12_isStop gjX12_isStop_19 gjX12_isStop_20
  rw [f0, wp_t rfl]
  rcases K with ⟨z, y⟩ | ⟨z, y⟩ | ⟨z, y⟩ | ⟨z, y, x⟩
  · rw [y, wp_f (by decide), wp_bind, wp_eq bz_0, wp_some, b01_n (by omega)]
  · rw [y, wp_f (by decide), wp_bind, wp_eq bz_0, wp_some, b01_n (by omega)]
  · rw [y, wp_t rfl, wp_bind, wp_eq bz_1, wp_some, b01_t z]
  · rw [y, wp_f (by decide), wp_bind, wp_eq bz_0, wp_some, b01_n (by omega)]
theorem r_isWordF {v : Int32} (f : FltR k m e m1) (fe : FE n e) {Q : Int32 → Prop} : wp (gX12_isWord m1 v) Q = Q 0 := by
  unfold gX12_isWord gjX12_isWord_27 gjX12_isWord_28
  rw [wp_f (nz_e f.2.1 fe).2, wp_bind, wp_eq bz_0, wp_some]
theorem r_isNameF (f : FltR k m e m1) (fe : FE n e) {Q : Int32 → Prop} : wp (gX12_isName m1) Q = Q 0 := by
  unfold gX12_isName gjX12_isName_27 gjX12_isName_28
  rw [wp_f (nz_e f.2.1 fe).2, wp_bind, wp_eq bz_0, wp_some]
theorem r_isStopF (f : FltR k m e m1) (fe : FE n e) {Q : Int32 → Prop} : wp (gX12_isStop m1) Q = Q 0 := by
  unfold gX12_isStop gjX12_isStop_19 gjX12_isStop_20
  rw [wp_f (nz_e f.2.1 fe).2, wp_bind, wp_eq bz_0, wp_some]
theorem r_newF {v1 v2 : Int32} (f : FltR k m e m1) (fe : FE n e) {Q : Mem → Prop} : wp (gX12_newName m1 v1 v2) Q = Q m1 := by
  unfold gX12_newName gjX12_newName_27
  rw [wp_bind, r_isNameF f fe, wp_t rfl, wp_bind, r_failF f fe, wp_f (nz_e f.2.1 fe).1, wp_some]
theorem r_oldF {v1 : Int32} (f : FltR k m e m1) (fe : FE n e) {Q : Int32 × Mem → Prop} : wp (gX12_oldName m1 v1) Q = Q (0, m1) := by
  unfold gX12_oldName gjX12_oldName_15 gjX12_oldName_50
  rw [wp_bind, r_isNameF f fe, wp_t rfl, wp_bind, r_isNameF f fe, wp_t rfl, wp_bind, r_failF f fe, wp_f (nz_e f.2.1 fe).1, wp_some]
theorem FE_of {f : Nat} (W : TW n t) (h1 : 1 ≤ f) (h4 : f ≤ 4) : FE n (f, t.2.1) := ⟨h1, h4, by have := W.1; have := W.2.1; show t.2.1 ≤ n; omega⟩
theorem r_newT {so nu : Nat} (R : RSr m k B n t N q w) (W : TW n t) (NW' : NW n N) (hN : ntN N < 24) : wp (gX12_newName m (nI so) (nI nu)) (fun m' => outc (sNew B n so nu t N) (fun e => FltR k m e m') (fun a => OkR k m B n a.1 a.2 q w m')) := by
  have M := R.2.2.1
  unfold gX12_newName sNew
  rw [wp_bind, r_isNameT R W]
  by_cases z : t.1 = 15
  · have e13 := R.2.1.2.1 (by omega)
    have e14 := R.2.1.1
    rw [b01_t z, wp_f (by decide), if_pos z, wp_bind]
    refine wp_mono (r_findNm R.1 e14 e13 W M NW') ?_
    rintro r rfl
    cases e : fnd B N t (ntN N) with
    | none =>
      have w1 := W.1
      have w2 := W.2.1
      have n9 := R.1.2.1
      have u : ∀ {mm : Mem} {o i j : Nat} {v : Int32}, o ≠ 0 → up mm o i v 0 j = mm 0 j := fun ho => by rw [up_r ho.symm]
      unfold gjX12_newName_27
      rw [wp_t (show bI none < 0 by decide), R.2.2.2.2.1, wp_t (by decide), M.1, e14, wp_bind, w_wr hN (by decide), u (by decide), M.1, u (by decide), e13, u (by decide), e14, i_sub w1, wp_bind, w_wr hN (by decide), u (by decide), u (by decide), M.1, wp_bind, w_wr hN (by decide), u (by decide), u (by decide), u (by decide), M.1, wp_bind, w_wr hN (by decide), u (by decide), u (by decide), u (by decide), u (by decide), M.1, wp_bind, wp_some, show nI (ntN N) + 1 = nI (ntN N + 1) from i_add _ 1, wp_bind]
      generalize hm1 : up (up (up (up (up m 12 (ntN N) (nI t.2.1)) 13 (ntN N) (nI (t.2.2 - t.2.1))) 14 (ntN N) (nI so)) 15 (ntN N) (nI nu)) 0 26 (nI (ntN N + 1)) = m1
      have fa : ∀ o, o ≠ 0 → ¬ (12 ≤ o ∧ o ≤ 15) → m1 o = m o := fun o h1 h2 => by rw [← hm1, up_r h1, up_r (by omega), up_r (by omega), up_r (by omega), up_r (by omega)]
      have f2 : ∀ j, j ≠ 26 → m1 0 j = m 0 j := fun j hj => by rw [← hm1, up_j hj, up_r (by decide), up_r (by decide), up_r (by decide), up_r (by decide)]
      have c4 : ∀ i, m1 12 i = if i = ntN N then nI t.2.1 else m 12 i := fun i => by rw [← hm1, up_r (by decide), up_r (by decide), up_r (by decide), up_r (by decide), up_a]
      have c5 : ∀ i, m1 13 i = if i = ntN N then nI (t.2.2 - t.2.1) else m 13 i := fun i => by rw [← hm1, up_r (by decide), up_r (by decide), up_r (by decide), up_a, up_r (by decide)]
      have c6 : ∀ i, m1 14 i = if i = ntN N then nI so else m 14 i := fun i => by rw [← hm1, up_r (by decide), up_r (by decide), up_a, up_r (by decide), up_r (by decide)]
      have c7 : ∀ i, m1 15 i = if i = ntN N then nI nu else m 15 i := fun i => by rw [← hm1, up_r (by decide), up_a, up_r (by decide), up_r (by decide), up_r (by decide)]
      have R1 : RSr m1 k B n t (addN N t so nu) q w := by
        obtain ⟨T, K, ⟨_, n2⟩, p, f0, f1, k1⟩ := R
        refine ⟨T.go (f2 12 (by decide)) (fa 10 (by decide) (by decide)) (fa 11 (by decide) (by decide)), ?_, ⟨by rw [← hm1, up_at]; rfl, fun i hi => ?_⟩, ?_, by rw [f2 17 (by decide)]; exact f0, by rw [f2 18 (by decide)]; exact f1, k1⟩
        · unfold TKr
          rw [f2 14 (by decide), f2 13 (by decide), f2 15 (by decide), f2 16 (by decide)]; exact K
        · have hi' : i < ntN N + 1 := hi
          rw [c4, c5, c6, c7]
          show _ = nI (sbf (ntA N) (ntN N) t.2.1 i) ∧ _ = nI (sbf (ntG N) (ntN N) (t.2.2 - t.2.1) i) ∧ _ = nI (sbf (ntS N) (ntN N) so i) ∧ _ = nI (sbf (ntU N) (ntN N) nu i)
          by_cases y : i = ntN N
          · rw [if_pos y, if_pos y, if_pos y, if_pos y, y, sbf_at, sbf_at, sbf_at, sbf_at]
            exact ⟨rfl, rfl, rfl, rfl⟩
          · rw [if_neg y, if_neg y, if_neg y, if_neg y, sbf_ne y, sbf_ne y, sbf_ne y, sbf_ne y]; exact n2 i (by omega)
        · unfold PLr
          rw [fa 2 (by decide) (by decide), fa 3 (by decide) (by decide), fa 4 (by decide) (by decide), fa 5 (by decide) (by decide), fa 6 (by decide) (by decide), fa 7 (by decide) (by decide), fa 8 (by decide) (by decide), fa 9 (by decide) (by decide)]; exact p
      have fr1 : FRr k m m1 := ⟨fun o h => fa o (by omega) (by omega), fun j h => f2 j (by omega), fun o j h1 _ => by rw [fa o (by omega) (by omega)], fun j _ => by rw [fa 5 (by decide) (by decide)], fun o j h1 _ => by rw [fa o (by omega) (by omega)]⟩
      refine wp_mono (r_scanT R1 W (by omega)) (fun m' hr => ?_)
      rw [wp_some]
      exact OkR.go fr1 hr
    | some i =>
      rw [wp_f (show ¬ bI (some i) < 0 from nI_pos (by have := fnd_lt _ e; omega)), wp_bind]
      refine wp_mono (r_failT (f := 2) R) (fun m' hr => ?_)
      unfold gjX12_newName_27
      rw [wp_f (nz_e hr.2.1 (FE_of W (by decide) (by decide))).1, wp_some]
      exact hr
  · rw [b01_n z, wp_t rfl, if_neg z, wp_bind]
    refine wp_mono (r_failT (f := 1) R) (fun m' hr => ?_)
    unfold gjX12_newName_27
    rw [wp_f (nz_e hr.2.1 (FE_of W (by decide) (by decide))).1, wp_some]
    exact hr
theorem r_fail0 {v : Int32} : wp (gX12_fail m v) (fun m' => ∀ o, o ≠ 0 → m' o = m o) := by
  unfold gX12_fail
  by_cases z : m 0 17 ≤ 0
  · rw [wp_t z, wp_bind, wp_some, wp_bind, wp_some, wp_some]
    exact fun o ho => by rw [up_r ho, up_r ho]
  · rw [wp_f z, wp_some]
    exact fun _ _ => rfl
theorem r_scan0 (R : RSr m k B n t N q w) (W : TW n t) (h18 : t.1 ≠ 18) : wp (gX12_scan m) (fun m' => ∀ o, o ≠ 0 → m' o = m o) := wp_mono (r_scan R.1 W.2.1 (R.2.1.2.1 h18)) (fun m' h => h.1)
theorem r_oldT {so : Nat} (R : RSr m k B n t N q w) (W : TW n t) (NW' : NW n N) (hso : so < 100) : wp (gX12_oldName m (nI so)) (fun r => (∀ o, o ≠ 0 → r.2 o = m o) ∧ outc (sOld B n so t N) (fun e => r.1 = 0 ∧ FltR k m e r.2) (fun a => r.1 = nI a.1 ∧ OkR k m B n a.2 N q w r.2)) := by
  have M := R.2.2.1
  have x24 := NW'.1
  have bad : ∀ v, wp (gjX12_oldName_45 v m) (fun r => (∀ o, o ≠ 0 → r.2 o = m o) ∧ r.1 = 0 ∧ FltR k m (3, t.2.1) r.2) := fun v => by
    unfold gjX12_oldName_45 gjX12_oldName_50
    rw [wp_bind]
    refine wp_mono (wp_and (r_failT (f := 3) R) r_fail0) (fun m' hr => ?_)
    rw [wp_f (nz_e hr.1.2.1 (FE_of W (by decide) (by decide))).1, wp_some]
    exact ⟨hr.2, rfl, hr.1⟩
  unfold gX12_oldName sOld
  rw [wp_bind, r_isNameT R W]
  by_cases z : t.1 = 15
  · have e13 := R.2.1.2.1 (by omega)
    have e14 := R.2.1.1
    rw [b01_t z, wp_f (by decide), if_pos z, wp_bind]
    refine wp_mono (r_findNm R.1 e14 e13 W M NW') ?_
    rintro r rfl
    unfold gjX12_oldName_15
    rw [wp_bind, r_isNameT R W, b01_t z, wp_f (by decide)]
    cases e : fnd B N t (ntN N) with
    | none =>
      rw [wp_t (show bI none < 0 by decide)]
      exact bad _
    | some i =>
      have hi := fnd_lt _ e
      have xb := (NW'.2 i hi).2.1
      rw [wp_f (show ¬ bI (some i) < 0 from nI_pos (by omega)), wp_bind]
      show wp (rd m 14 24 (nI i)) _
      rw [w_rd (by omega) (by decide), (M.2 i hi).2.2.1]
      simp only
      by_cases y : ntS N i = so
      · unfold gjX12_oldName_50
        rw [wp_t (by rw [y]), if_pos y, R.2.2.2.2.1, wp_t (by decide), wp_bind]
        refine wp_mono (wp_and (r_scanT R W (by omega)) (r_scan0 R W (by omega))) (fun m' hr => ?_)
        rw [wp_bind]
        show wp (rd m' 15 24 (nI i)) _
        rw [w_rd (by omega) (by decide), (hr.1.2.2.2.1.2 i hi).2.2.2, wp_some]
        exact ⟨hr.2, rfl, hr.1⟩
      · rw [wp_f (fun x => y ((nI_eq (by omega) (by omega)).mp x)), if_neg y]
        exact bad _
  · unfold gjX12_oldName_15 gjX12_oldName_50
    rw [b01_n z, wp_t rfl, if_neg z, wp_bind, r_isNameT R W, b01_n z, wp_t rfl, wp_bind]
    refine wp_mono (wp_and (r_failT (f := 1) R) r_fail0) (fun m' hr => ?_)
    rw [wp_f (nz_e hr.1.2.1 (FE_of W (by decide) (by decide))).1, wp_some]
    exact ⟨hr.2, rfl, hr.1⟩
end RRD

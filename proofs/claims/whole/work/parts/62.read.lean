/-! what both sides read: numbers within bounds, the plan, the present state -/
abbrev inN (v : Int32) (N : Nat) : Prop := ¬ v < 0 ∧ v.toNatClampNeg < N
theorem inN_nI {j N : Nat} (hj : j < 2 ^ 31) : inN (nI j) N ↔ j < N := by
  unfold inN
  rw [nI_clamp hj]
  exact ⟨fun z => z.2, fun z => ⟨nI_pos hj, z⟩⟩
theorem inN_ex {v : Int32} {N : Nat} (h : inN v N) : ∃ j, j < N ∧ v = nI j := by
  obtain ⟨j, hj, e⟩ := nI_of h.1
  subst e
  exact ⟨j, (inN_nI hj).mp h, rfl⟩
theorem isIn_iff {v x : Int32} {N : Nat} (hx : ∀ j, j < 2 ^ 31 → (nI j ≤ x ↔ j < N)) : (0 ≤ v ∧ v ≤ x) ↔ inN v N := by
  by_cases h : v < 0
  · exact ⟨fun z => absurd z.1 (fun q => k2_nle h q), fun z => absurd h z.1⟩
  · obtain ⟨j, hj, e⟩ := nI_of h
    subst e
    rw [inN_nI hj, hx j hj]
    exact ⟨fun z => z.2, fun z => ⟨nI_pos' hj, z⟩⟩
theorem w_isInK {v : Int32} {K : Nat} {Q : Int32 → Prop} (hK : K < 2 ^ 31) : wp (gX12_isIn v 0 (nI K)) Q = Q (b01 (inN v (K + 1))) := by
  rw [wp_eq (r_isIn v 0 (nI K)), b01_congr (isIn_iff (N := K + 1) (fun j hj => by rw [nI_leI hj hK]; omega))]
theorem w_isIn {v : Int32} {N : Nat} {Q : Int32 → Prop} (hN : N < 2 ^ 31) : wp (gX12_isIn v 0 (nI N - 1)) Q = Q (b01 (inN v N)) := by
  rw [wp_eq (r_isIn v 0 _), b01_congr (isIn_iff (N := N) (fun j hj => ?_))]
  cases N with
  | zero => rw [show nI 0 - 1 = mI by decide, m_nle hj]; exact ⟨False.elim, fun z => by omega⟩
  | succ k => rw [nI_pred, nI_leI hj (by omega)]; omega
theorem w_isIn2 {v : Int32} {N : Nat} {Q : Int32 → Prop} (hN : N < 2 ^ 31) (h1 : 1 ≤ N) : wp (gX12_isIn v 0 (nI N - 2)) Q = Q (b01 (inN v (N - 1))) := by
  rw [wp_eq (r_isIn v 0 _), b01_congr (isIn_iff (N := N - 1) (fun j hj => ?_))]
  rcases Nat.lt_or_ge N 2 with z | z
  · rw [show N = 1 by omega, show nI 1 - 2 = mI by decide, m_nle hj]; exact ⟨False.elim, fun z => by omega⟩
  · rw [L_2, i_sub z, nI_leI hj (by omega)]; omega
section CR
variable {h : Hp} {m : Mem} {P : Nat} {Pl : PD}
theorem lo_has {Q : Int32 → Prop} {v x : Int32} {N : Nat} (hx : x = nI N) (hN : N < 2 ^ 31) {A B C : Option Int32} (hA : wp A Q = Q 0) (hC : wp C Q = Q 1) (hB : B = if x ≤ v then A else C) : wp (if v < 0 then A else B) Q = Q (b01 (inN v N)) := by
  by_cases h : v < 0
  · rw [wp_t h, hA, b01_n (fun z => z.1 h)]
  · rw [wp_f h, hB, hx]
    obtain ⟨j, hj, e⟩ := nI_of h
    subst e
    by_cases z : N ≤ j
    · rw [wp_t (nI_le z hj), hA, b01_n (by rw [inN_nI hj]; omega)]
    · rw [wp_f (nI_ge (by omega) hN), hC, b01_t ((inN_nI hj).mpr (by omega))]
theorem w_hasProgram (c : PC (wI h m) P Pl) (pw : PW Pl) {v : Int32} {Q : Int32 → Prop} : wp (fX5_hasProgram (wI h m) P v) Q = Q (b01 (inN v (pP Pl))) := by
  have s5 : Sh5 h P := c.1
  have e : m P 2 = nI (pP Pl) := c.2.2.2.1
  have h6 := pw.2.2.1
  unfold fX5_hasProgram jX5_hasProgram_16 jX5_hasProgram_17
  have bnd : wp ((gI (wI h m) 5 P 2).bind fun x3 => if x3 ≤ v then (bz 0).bind fun x2 => some x2 else (bz 1).bind fun x2 => some x2) Q = wp (if nI (pP Pl) ≤ v then (bz 0).bind fun x2 => some x2 else (bz 1).bind fun x2 => some x2) Q := by rw [wp_bind, s5.g2, e]
  have z0 : wp ((bz 0).bind fun x2 => some x2) Q = Q 0 := by rw [wp_bind, wp_eq bz_0, wp_some]
  have z1 : wp ((bz 1).bind fun x2 => some x2) Q = Q 1 := by rw [wp_bind, wp_eq bz_1, wp_some]
  have := lo_has (Q := Q) (v := v) (x := nI (pP Pl)) (N := pP Pl) rfl (by omega) z0 z1 rfl
  by_cases hv : v < 0
  · rw [wp_t hv] at this ⊢; exact this
  · rw [wp_f hv] at this ⊢; rw [bnd]; exact this
theorem w_hasLock (c : PC (wI h m) P Pl) (pw : PW Pl) {v : Int32} {Q : Int32 → Prop} : wp (fX5_hasLock (wI h m) P v) Q = Q (b01 (inN v (pL Pl))) := by
  have s5 : Sh5 h P := c.1
  have e : m P 1 = nI (pL Pl) := c.2.2.1
  have h6 := pw.2.1
  unfold fX5_hasLock jX5_hasLock_16 jX5_hasLock_17
  have bnd : wp ((gI (wI h m) 5 P 1).bind fun x3 => if x3 ≤ v then (bz 0).bind fun x2 => some x2 else (bz 1).bind fun x2 => some x2) Q = wp (if nI (pL Pl) ≤ v then (bz 0).bind fun x2 => some x2 else (bz 1).bind fun x2 => some x2) Q := by rw [wp_bind, s5.g1, e]
  have z0 : wp ((bz 0).bind fun x2 => some x2) Q = Q 0 := by rw [wp_bind, wp_eq bz_0, wp_some]
  have z1 : wp ((bz 1).bind fun x2 => some x2) Q = Q 1 := by rw [wp_bind, wp_eq bz_1, wp_some]
  have := lo_has (Q := Q) (v := v) (x := nI (pL Pl)) (N := pL Pl) rfl (by omega) z0 z1 rfl
  by_cases hv : v < 0
  · rw [wp_t hv] at this ⊢; exact this
  · rw [wp_f hv] at this ⊢; rw [bnd]; exact this
theorem w_isNodeC {v : Int32} {Q : Int32 → Prop} : wp (fX11_isNode h v) Q = Q (b01 (inN v 16)) := by
  unfold fX11_isNode jX11_isNode_14 jX11_isNode_15
  exact lo_has (x := 16) (N := 16) rfl (by decide) (by rw [wp_bind, wp_eq bz_0, wp_some]) (by rw [wp_bind, wp_eq bz_1, wp_some]) rfl
theorem w_hasStep (c : PC (wI h m) P Pl) (pw : PW Pl) {v u : Int32} {Q : Int32 → Prop} : wp (fX5_hasStep (wI h m) P v u) Q = Q (b01 (inN v (pP Pl) ∧ inN u (pN Pl v.toNatClampNeg))) := by
  have s5 : Sh5 h P := c.1
  have h6 := pw.2.2.1
  have z0 : wp ((bz 0).bind fun x2 => some x2) Q = Q 0 := by rw [wp_bind, wp_eq bz_0, wp_some]
  have z1 : wp ((bz 1).bind fun x2 => some x2) Q = Q 1 := by rw [wp_bind, wp_eq bz_1, wp_some]
  unfold fX5_hasStep jX5_hasStep_26 jX5_hasStep_27
  rw [wp_bind, s5.o, wp_bind, w_hasProgram c pw]
  by_cases hv : inN v (pP Pl)
  · rw [b01_t hv, wp_f (by decide)]
    obtain ⟨p, hp, e⟩ := inN_ex hv
    subst e
    have eN : m (P + 3) p = nI (pN Pl p) := (c.2.2.2.2.2 p hp).2
    have h12 := (pw.2.2.2.2 p hp).2.2
    have := lo_has (Q := Q) (v := u) (x := nI (pN Pl p)) (N := pN Pl p) rfl (by omega) z0 z1 rfl
    rw [b01_congr (show (inN (nI p) (pP Pl) ∧ inN u (pN Pl (nI p).toNatClampNeg)) ↔ inN u (pN Pl p) from by rw [nI_clamp (by omega)]; exact ⟨fun z => z.2, fun z => ⟨hv, z⟩⟩)]
    by_cases hu : u < 0
    · rw [wp_t hu] at this ⊢; exact this
    · rw [wp_f hu] at this ⊢; rw [wp_bind, s5.r5, wp_bind, s5.l5 (by omega), eN]; exact this
  · rw [b01_n hv, wp_t rfl, z0, b01_n (fun z => hv z.1)]
theorem w_hasPair (c : PC (wI h m) P Pl) (pw : PW Pl) {v u : Int32} {Q : Int32 → Prop} : wp (fX5_hasPair (wI h m) P v u) Q = Q (b01 (inN v (pP Pl) ∧ inN u (pN Pl v.toNatClampNeg - 1))) := by
  have s5 : Sh5 h P := c.1
  have h6 := pw.2.2.1
  have z0 : wp ((bz 0).bind fun x2 => some x2) Q = Q 0 := by rw [wp_bind, wp_eq bz_0, wp_some]
  have z1 : wp ((bz 1).bind fun x2 => some x2) Q = Q 1 := by rw [wp_bind, wp_eq bz_1, wp_some]
  unfold fX5_hasPair jX5_hasPair_28 jX5_hasPair_29
  rw [wp_bind, s5.o, wp_bind, w_hasProgram c pw]
  by_cases hv : inN v (pP Pl)
  · rw [b01_t hv, wp_f (by decide)]
    obtain ⟨p, hp, e⟩ := inN_ex hv
    subst e
    have eN : m (P + 3) p = nI (pN Pl p) := (c.2.2.2.2.2 p hp).2
    have h12 := (pw.2.2.2.2 p hp).2
    have := lo_has (Q := Q) (v := u) (x := nI (pN Pl p - 1)) (N := pN Pl p - 1) rfl (by omega) z0 z1 rfl
    rw [b01_congr (show (inN (nI p) (pP Pl) ∧ inN u (pN Pl (nI p).toNatClampNeg - 1)) ↔ inN u (pN Pl p - 1) from by rw [nI_clamp (by omega)]; exact ⟨fun z => z.2, fun z => ⟨hv, z⟩⟩)]
    by_cases hu : u < 0
    · rw [wp_t hu] at this ⊢; exact this
    · rw [wp_f hu] at this ⊢; rw [wp_bind, s5.r5, wp_bind, s5.l5 (by omega), eN, L_1, i_sub (by omega)]; exact this
  · rw [b01_n hv, wp_t rfl, z0, b01_n (fun z => hv z.1)]
end CR
section RR2
variable {m : Mem} {Pl : PD}
theorem w_isProgram (f : PF m Pl) (pw : PW Pl) {v : Int32} {Q : Int32 → Prop} : wp (gX12_isProgram m v) Q = Q (b01 (inN v (pP Pl))) := by
  obtain ⟨k, hk, e9, e2, e3, e4, e5, e6⟩ := f
  have h6 := pw.2.2.1
  unfold gX12_isProgram
  rw [wp_bind, e9, w_rd (by omega) (by decide), e4, wp_bind, w_isIn (by omega), wp_bind, w_bz, wp_some]
theorem w_isNodeR {v : Int32} {Q : Int32 → Prop} : wp (gX12_isNode v) Q = Q (b01 (inN v 16)) := by
  unfold gX12_isNode
  rw [wp_bind, L_15, w_isInK (by decide), wp_bind, w_bz, wp_some]
theorem w_isReport {D : RD} (R : RRr (m 1) D) (w : RW D) {v : Int32} {Q : Int32 → Prop} : wp (gX12_isReport m v) Q = Q (b01 (inN v (rC D))) := by
  have := w.1
  unfold gX12_isReport
  rw [wp_bind, L_272, w_rd (by decide) (by decide), R.1, wp_bind, w_isIn (by omega), wp_bind, w_bz, wp_some]
theorem w_isPair (f : PF m Pl) (pw : PW Pl) {v u : Int32} {Q : Int32 → Prop} : wp (gX12_isPair m v u) Q = Q (b01 (inN v (pP Pl) ∧ inN u (pN Pl v.toNatClampNeg - 1))) := by
  have h6 := pw.2.2.1
  unfold gX12_isPair gjX12_isPair_27 gjX12_isPair_28
  rw [wp_bind, w_isProgram f pw]
  by_cases hv : inN v (pP Pl)
  · rw [b01_t hv, wp_f (by decide)]
    obtain ⟨p, hp, e⟩ := inN_ex hv
    subst e
    have h12 := (pw.2.2.2.2 p hp).2
    rw [b01_congr (show (inN (nI p) (pP Pl) ∧ inN u (pN Pl (nI p).toNatClampNeg - 1)) ↔ inN u (pN Pl p - 1) from by rw [nI_clamp (by omega)]; exact ⟨fun z => z.2, fun z => ⟨hv, z⟩⟩), wp_bind, w_stepsOf f pw hp, wp_bind, w_isIn2 (by omega) (by omega)]
    by_cases hu : inN u (pN Pl p - 1)
    · rw [b01_t hu, wp_f (by decide), wp_bind, wp_eq bz_1, wp_some]
    · rw [b01_n hu, wp_t rfl, wp_bind, wp_eq bz_0, wp_some]
  · rw [b01_n hv, wp_t rfl, wp_bind, wp_eq bz_0, wp_some, b01_n (fun z => hv z.1)]
end RR2
/-! the class's own object -/
section C11
variable {h : Hp} {m : Mem} {k : Nat} {v : Int32}
theorem CS.o (c : CS h) {Q : Unit → Prop} : wp (gO (wI h m) 11 0) Q = Q () := w_gO (h := wI h m) (show 0 < hN h by have := c.1; omega) c.2.1
theorem CS.gi (c : CS h) {Q : Int32 → Prop} : wp (gI (wI h m) 11 0 k) Q = Q (m 0 k) := w_gI (h := wI h m) (show 0 < hN h by have := c.1; omega) c.2.1
theorem CS.pi (c : CS h) {Q : Hp → Prop} : wp (pI (wI h m) 11 0 k v) Q = Q (wI h (up m 0 k v)) := w_pI (h := wI h m) (show 0 < hN h by have := c.1; omega) c.2.1
theorem CS.gr (c : CS h) {Q : Nat → Prop} {r : Nat} (hr : hR h 0 k = some r) : wp (gR (wI h m) 11 0 k) Q = Q r := w_gR (h := wI h m) (show 0 < hN h by have := c.1; omega) c.2.1 hr
theorem CS.r0 (c : CS h) : hR h 0 0 = some 1 := c.2.2.1.1
theorem CS.r2 (c : CS h) : hR h 0 2 = some 2 := c.2.2.2.1.1
theorem CS.s6 (c : CS h) : Sh6 h 2 := c.2.2.2.1.2
theorem CS.r5 (c : CS h) : hR h 0 5 = some 18 := c.2.2.2.2.2.1.1
theorem CS.s2 (c : CS h) : Sh2 h 18 := c.2.2.2.2.2.1.2
theorem CS.r6 (c : CS h) : hR h 0 6 = some 36 := c.2.2.2.2.2.2.1.1
theorem CS.t36 (c : CS h) : hS h 36 = .inr ((.object RX3), 2) := c.2.2.2.2.2.2.1.2
theorem CS.r7 (c : CS h) : hR h 0 7 = some 37 := c.2.2.2.2.2.2.2.1.1
theorem CS.t37 (c : CS h) : hS h 37 = .inr (.boolean, 2) := c.2.2.2.2.2.2.2.1.2
theorem CS.r8 (c : CS h) : hR h 0 8 = some 38 := c.2.2.2.2.2.2.2.2.1.1
theorem CS.s10 (c : CS h) : Sh10 h 38 := c.2.2.2.2.2.2.2.2.1.2
theorem CS.r9 (c : CS h) : hR h 0 9 = some 41 := c.2.2.2.2.2.2.2.2.2.1.1
theorem CS.s9 (c : CS h) : Sh9 h 41 := c.2.2.2.2.2.2.2.2.2.1.2
theorem CS.r10 (c : CS h) : hR h 0 10 = some 47 := c.2.2.2.2.2.2.2.2.2.2.1.1
theorem CS.s4 (c : CS h) : Sh4 h 47 := c.2.2.2.2.2.2.2.2.2.2.1.2
theorem CS.r11 (c : CS h) : hR h 0 11 = some 57 := c.2.2.2.2.2.2.2.2.2.2.2.2.1
theorem CS.r12 (c : CS h) : hR h 0 12 = some 73 := c.2.2.2.2.2.2.2.2.2.2.2.2.2.1.1
theorem CS.t73 (c : CS h) : hS h 73 = .inr (.int, 72) := c.2.2.2.2.2.2.2.2.2.2.2.2.2.1.2
theorem CS.r13 (c : CS h) : hR h 0 13 = some 74 := c.2.2.2.2.2.2.2.2.2.2.2.2.2.2.1.1
theorem CS.s0 (c : CS h) : Sh0 h 74 := c.2.2.2.2.2.2.2.2.2.2.2.2.2.2.1.2
theorem CS.rs (c : CS h) : RS 81 h := c.2.2.2.2.2.2.2.2.2.2.2.2.2.2.2
theorem lR_ok {h : Hp} {a n j : Nat} {ty : FieldType} (ha : a < hN h) (hs : hS h a = .inr (ty, n)) (hj : j < n) (hn : n < 2 ^ 31) : lR h ty a (nI j) = hR h a j := by
  unfold lR; rw [ga_ok ha hs]; show (ix (nI j) n).bind _ = _; rw [ix_nI hj hn]; rfl
theorem lQ_ok {h : Hp} {a n j : Nat} {ty : FieldType} (ha : a < hN h) (hs : hS h a = .inr (ty, n)) (hj : j < n) (hn : n < 2 ^ 31) : lQ h ty a (nI j) = some (hR h a j) := by
  unfold lQ; rw [ga_ok ha hs]; show (ix (nI j) n).bind _ = _; rw [ix_nI hj hn]; rfl
/-- the present state -/
theorem CS.present (c : CS h) {i b : Nat} (e : m 18 0 = nI i) (hi : i < 13) (hb : hR h 19 i = some b) {Q : Nat → Prop} : wp (fX2_present (wI h m) 18) Q = Q b := by
  have s2 := c.s2
  have l := lR_ok (h := wI h m) (a := 19) (j := i) (show 19 < hN h by have := c.1; omega) s2.2.2.2 hi (by decide)
  unfold fX2_present
  rw [wp_bind, s2.r2, wp_bind, s2.g0, e, wp_bind, wp_eq (l.trans hb), wp_some]
end C11

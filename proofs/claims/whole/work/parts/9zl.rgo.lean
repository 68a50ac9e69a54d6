/-! the reference goes on from a moment -/
/-- the reference's search, with the word that says whether there is room -/
def RQ (Pl : PD) (S : Nat → Nat) (X : Nat) (m0 m : Mem) (Z : SS) (fl : Int32) : Prop := RFr m0 m ∧ RXc m Pl S X ∧ RZ Pl S X m Z ∧ SI Pl S X Z ∧ fl = (if zO Z = 2 then 0 else 1)
section RGO
variable {Pl : PD} {S : Nat → Nat} {X : Nat} {M : MO} {m m0 m' : Mem} {Z : SS} {fl : Int32} {i t q k w : Nat}
theorem goW_6 (pw : PW Pl) : goW Pl S X M i t q Z 6 = goW Pl S X M i t q Z (pP Pl) := by
  have e : ∀ d, goW Pl S X M i t q Z (pP Pl + d) = goW Pl S X M i t q Z (pP Pl) := by
    intro d
    induction d with
    | zero => rfl
    | succ d ih =>
      show ci (canC Pl S X M q (pP Pl + d)) _ (goW Pl S X M i t q Z (pP Pl + d)) = _
      rw [ci_f (fun z => by have := z.1.1; omega), ih]
  have := e (6 - pP Pl)
  have p6 := pw.2.2.1
  rwa [show pP Pl + (6 - pP Pl) = 6 by omega] at this
theorem goT_6 (pw : PW Pl) : goT Pl S X M i Z 6 = goT Pl S X M i Z (pP Pl) := by
  have e : ∀ d, goT Pl S X M i Z (pP Pl + d) = goT Pl S X M i Z (pP Pl) := by
    intro d
    induction d with
    | zero => rfl
    | succ d ih =>
      show ci (tk Pl X (pP Pl + d) ∧ _) _ (goT Pl S X M i Z (pP Pl + d)) = _
      rw [ci_f (fun z => by have := z.1.1; omega), ih]
  have := e (6 - pP Pl)
  have p6 := pw.2.2.1
  rwa [show pP Pl + (6 - pP Pl) = 6 by omega] at this
theorem goW_end (h : zO (goW Pl S X M i t q Z w) ≠ 3) : ∀ d, goW Pl S X M i t q Z (w + d) = goW Pl S X M i t q Z w := by
  intro d
  induction d with
  | zero => rfl
  | succ d ih =>
    show ci (canC Pl S X M q (w + d)) (addM Pl S X (goW Pl S X M i t q Z (w + d)) (comeM M t (w + d)) (i * 64 + t * 8 + (w + d + 1))) (goW Pl S X M i t q Z (w + d)) = _
    rw [ih, addM_o h]
    by_cases y : canC Pl S X M q (w + d)
    · rw [ci_t y]
    · rw [ci_f y]
theorem rmo_come (I : MOK Pl X M) (r : RMo Pl X m M) (hw : w < 6) (ht : tk Pl X t) (t6 : t < 6) (cw : cr Pl X w) (c0 : moC M w = 0) : RMo Pl X (up (up m 23 w 0) 24 w (nI t)) (comeM M t w) := by
  have nt : ¬ tk Pl X w := fun z => tk_cr z cw
  have d0 : moD M w = 0 := I.2.2.1 w nt c0
  refine ⟨fun p hp => ?_, fun l hl => ?_⟩
  · rw [up_r (show (23 : Nat) ≠ 24 by decide), up_a, up_a, up_r (show (24 : Nat) ≠ 23 by decide)]
    by_cases z : p = w
    · rw [if_pos z, if_pos z, z]
      have e : moC (comeM M t w) w = t + 1 := sbf_at
      unfold rdn rwh
      rw [ci_t (Or.inr (by rw [e]; omega)), ci_f nt, e]
      constructor
      · show (0 : Int32) = nI (moD M w + 1) - 1
        rw [d0]; rfl
      · exact (i_sub (a := t + 1) (b := 1) (by omega)).symm
    · rw [if_neg z, if_neg z]
      have e : moC (comeM M t w) p = moC M p := sbf_ne z
      have := r.1 p hp
      unfold rdn rwh at this ⊢
      rw [e]; exact this
  · rw [up_r (by decide), up_r (by decide), up_r (by decide), up_r (by decide)]
    exact r.2 l hl
theorem fl_0 : ((if zO Z = 2 then (0 : Int32) else 1) = 0) ↔ zO Z = 2 := by
  by_cases z : zO Z = 2
  · rw [if_pos z]; exact ⟨fun _ => z, fun _ => rfl⟩
  · rw [if_neg z]; exact ⟨fun y => absurd y (by decide), fun y => absurd y z⟩
theorem fl_s (hn : zN Z ≤ 4000) (e : m 0 47 = (if zO Z = 1 then nI (zN Z - 1) else mI)) : (0 ≤ m 0 47) ↔ zO Z = 1 := by
  rw [e]
  by_cases z : zO Z = 1
  · rw [if_pos z, z_ge (by omega)]; exact ⟨fun _ => z, fun _ => trivial⟩
  · rw [if_neg z, m_nge0]; exact ⟨fun y => y.elim, fun y => absurd y z⟩
/-- unpacked: the same search, and the moment in the rows -/
theorem rq_un (G : RQ Pl S X m0 m Z fl) (hi : i < zN Z) (hM : zM Z i = M) : wp (gX12_unpack m (nI i)) (fun m' => RQ Pl S X m0 m' Z fl ∧ RMo Pl X m' M) := by
  obtain ⟨f, R, z, si, e⟩ := G
  obtain ⟨K, k1, k2⟩ := z.2.2.2.1 i hi
  rw [hM] at k2
  have n4 := si.2.1
  refine wp_mono (r_unpack (by omega) k1 k2) ?_
  rintro m' ⟨g, r⟩
  have ff : RFr m m' := ⟨fun o o1 o2 => g o (by omega) (by omega) (by omega) (by omega), fun j _ _ _ => by rw [g 0 (by decide) (by decide) (by decide) (by decide)]⟩
  exact ⟨⟨f.tr ff, R.rf ff, z.fr (fun j _ => by rw [g 0 (by decide) (by decide) (by decide) (by decide)]) (fun x _ => by rw [g 27 (by decide) (by decide) (by decide) (by decide)]) (fun o o1 o2 => g o (by omega) (by omega) (by omega) (by omega)), si, e⟩, r⟩
/-- rows 23 .. 26 changed, then come -/
theorem rq_come {v1 v2 v3 : Int32} (G : RQ Pl S X m0 m Z fl) (g : ∀ o, o ≠ 23 → o ≠ 24 → o ≠ 25 → o ≠ 26 → m' o = m o) (hO : zO Z = 3) (I : MOK Pl X M) (L : MOL M) (r : RMo Pl X m' M) (hi : k / 64 < zN Z) (h8 : k % 64 / 8 < 6) (h7 : k % 8 < 7) (hd : dep M 6 = dep (zM Z (k / 64)) 6 + 1) (e1 : v1 = nI (k / 64)) (e2 : v2 = nI (k % 64 / 8)) (e3 : v3 = nI (k % 8) - 1) : wp (gX12_come m' v1 v2 v3) (fun y => RQ Pl S X m0 y.2 (addM Pl S X Z M k) y.1) := by
  obtain ⟨f, R, z, si, e⟩ := G
  have ff : RFr m m' := ⟨fun o o1 o2 => g o (by omega) (by omega) (by omega) (by omega), fun j _ _ _ => by rw [g 0 (by decide) (by decide) (by decide) (by decide)]⟩
  have z' : RZ Pl S X m' Z := z.fr (fun j _ => by rw [g 0 (by decide) (by decide) (by decide) (by decide)]) (fun x _ => by rw [g 27 (by decide) (by decide) (by decide) (by decide)]) (fun o o1 o2 => g o (by omega) (by omega) (by omega) (by omega))
  have R' := R.rf ff
  refine wp_mono (r_come (k := k) R' I r z' hO si.2.1 (fun j hj => (si.2.2.1 j hj).1) (Or.inr ⟨by omega, e1, e2, e3⟩)) ?_
  rintro y ⟨y1, y2, y3⟩
  exact ⟨(f.tr ff).tr y1, R'.rf y1, y2, si_add si I L hi h8 h7 hd, y3⟩
theorem r_goW (G : RQ Pl S X m0 m Z fl) (hi : i < zN Z) (hM : zM Z i = M) (ht : tk Pl X t) (hq : isTop Pl X M t q) : wp (lp (gbX12_goFrom_78 (nI i) (nI t) (nI q)) FU (fl, (0 : Int32), m)) (fun y => RQ Pl S X m0 y.2 (goW Pl S X M i t q Z (pP Pl)) y.1) := by
  have si0 := G.2.2.2.1
  have I : MOK Pl X M := by rw [← hM]; exact (si0.2.2.1 i hi).1
  have L : MOL M := by rw [← hM]; exact (si0.2.2.1 i hi).2
  have pw := G.2.1.2.1
  have P6 := pw.2.2.1
  have t6 : t < 6 := Nat.lt_of_lt_of_le ht.1 P6
  obtain ⟨qP, qd, _, qh⟩ := isTop_at ht I hq
  have i4 : i < 4000 := Nat.lt_of_lt_of_le hi si0.2.1
  rw [← goW_6 pw]
  refine wp_for (κ := Int32 × Mem) (fun w c => (c.1, nI w, c.2)) 6 (fun w c => RQ Pl S X m0 c.2 (goW Pl S X M i t q Z w) c.1) (fun w c hw hI => ?_) (fun c hI => ?_) 0 (fl, m) (Nat.zero_le _) G (by decide)
  · obtain ⟨f1, m1⟩ := c
    change RQ Pl S X m0 m1 (goW Pl S X M i t q Z w) f1 at hI
    have st := goW_st (Pl := Pl) (S := S) (X := X) (Z := Z) (M := M) (i := i) (t := t) (q := q) w
    have eM : zM (goW Pl S X M i t q Z w) i = M := by rw [st.2 i hi, hM]
    have hi1 : i < zN (goW Pl S X M i t q Z w) := Nat.lt_of_lt_of_le hi st.1
    have si1 := hI.2.2.2.1
    have e1 : f1 = (if zO (goW Pl S X M i t q Z w) = 2 then 0 else 1) := hI.2.2.2.2
    have e47 := hI.2.2.1.2.2.1
    have fin : zO (goW Pl S X M i t q Z w) ≠ 3 → RQ Pl S X m0 m1 (goW Pl S X M i t q Z 6) f1 := fun y => by
      have := goW_end y (6 - w)
      rw [show w + (6 - w) = 6 by omega] at this
      rw [this]; exact hI
    simp only [gbX12_goFrom_78]
    rw [L_6, wp_f (by rw [i_le (by decide) (by omega)]; omega)]
    by_cases o2 : zO (goW Pl S X M i t q Z w) = 2
    · rw [wp_t (by rw [e1]; exact fl_0.mpr o2), wp_some, lq_r]
      exact fin (by omega)
    · rw [wp_f (by rw [e1]; exact fun y => o2 (fl_0.mp y))]
      by_cases o1 : zO (goW Pl S X M i t q Z w) = 1
      · rw [wp_t ((fl_s si1.2.1 e47).mpr o1), wp_some, lq_r]
        exact fin (by omega)
      · rw [wp_f (fun y => o1 ((fl_s si1.2.1 e47).mp y)), wp_bind]
        have o3 : zO (goW Pl S X M i t q Z w) = 3 := by rcases si1.1 with y | y | y <;> omega
        refine wp_mono (rq_un hI hi1 eM) ?_
        rintro m2 ⟨G2, r2⟩
        rw [wp_bind]
        refine wp_mono (r_canCome G2.2.1 I r2 hw qP qd qh) ?_
        rintro y (⟨rfl, can⟩ | ⟨rfl, can⟩)
        · rw [wp_f (by decide), wp_bind, show (0 : Int32) = nI 0 from rfl, w_wr hw (by decide), wp_bind, w_wr hw (by decide), wp_bind]
          have kk : (i * 64 + t * 8 + (w + 1)) / 64 = i := by omega
          have k8 : (i * 64 + t * 8 + (w + 1)) % 64 / 8 = t := by omega
          have k7 : (i * 64 + t * 8 + (w + 1)) % 8 = w + 1 := by omega
          refine wp_mono (rq_come (M := comeM M t w) (k := i * 64 + t * 8 + (w + 1)) (m' := up (up m2 23 w 0) 24 w (nI t)) G2 (fun o o1 o2 _ _ => by rw [up_r o2, up_r o1]) o3 (MOK_come pw ht I hq can) (MOL_come L) (rmo_come I r2 hw ht t6 can.1 can.2.1) (by rw [kk]; exact hi1) (by omega) (by omega) (by rw [kk, eM]; exact dep_come hw can.2.1) (by rw [kk]) (by rw [k8]) (by rw [k7]; exact (i_sub (a := w + 1) (b := 1) (by omega)).symm)) ?_
          rintro ⟨y1, y2⟩ G3
          show wp (gjX12_goFrom_140 (nI i) y1 (nI t) (nI q) (nI w) y2) _
          unfold gjX12_goFrom_140
          rw [wp_bind, wp_some, wp_some, lq_l, nI_1]
          refine ⟨(y1, y2), rfl, ?_⟩
          show RQ Pl S X m0 y2 (ci (canC Pl S X M q w) _ _) y1
          rw [ci_t can]; exact G3
        · rw [wp_t rfl]
          unfold gjX12_goFrom_140
          rw [wp_bind, wp_some, wp_some, lq_l, nI_1]
          refine ⟨(f1, m2), rfl, ?_⟩
          show RQ Pl S X m0 m2 (ci (canC Pl S X M q w) _ _) f1
          rw [ci_f can]; exact G2
  · simp only [gbX12_goFrom_78]
    rw [L_6, wp_t (by rw [i_le (by decide) (by omega)]; omega), wp_some, lq_r]
    exact hI
theorem goT_end {u : Nat} (h : zO (goT Pl S X M i Z u) ≠ 3) : ∀ d, goT Pl S X M i Z (u + d) = goT Pl S X M i Z u := by
  intro d
  induction d with
  | zero => rfl
  | succ d ih =>
    show ci (tk Pl X (u + d) ∧ moD M (u + d) < pN Pl (u + d)) (goW Pl S X M i (u + d) (tpq Pl X M (u + d)) (ci (wt S M (tpq Pl X M (u + d))) (goT Pl S X M i Z (u + d)) (addM Pl S X (goT Pl S X M i Z (u + d)) (doM S M (tpq Pl X M (u + d))) (i * 64 + (u + d) * 8))) (pP Pl)) (goT Pl S X M i Z (u + d)) = _
    rw [ih, addM_o h]
    have e2 : ci (wt S M (tpq Pl X M (u + d))) (goT Pl S X M i Z u) (goT Pl S X M i Z u) = goT Pl S X M i Z u := by
      by_cases y : wt S M (tpq Pl X M (u + d))
      · rw [ci_t y]
      · rw [ci_f y]
    rw [e2, goW_o h]
    by_cases y : tk Pl X (u + d) ∧ moD M (u + d) < pN Pl (u + d)
    · rw [ci_t y]
    · rw [ci_f y]
theorem r_goFrom (G : RQ Pl S X m0 m Z 1) (hi : i < zN Z) (hM : zM Z i = M) : wp (gX12_goFrom m (nI i)) (fun y => RQ Pl S X m0 y.2 (goT Pl S X M i Z (pP Pl)) y.1) := by
  have si0 := G.2.2.2.1
  have I : MOK Pl X M := by rw [← hM]; exact (si0.2.2.1 i hi).1
  have L : MOL M := by rw [← hM]; exact (si0.2.2.1 i hi).2
  have pw := G.2.1.2.1
  have P6 := pw.2.2.1
  have i4 : i < 4000 := Nat.lt_of_lt_of_le hi si0.2.1
  unfold gX12_goFrom
  rw [wp_bind, ← goT_6 pw]
  refine wp_mono (Q := fun y => RQ Pl S X m0 y.2 (goT Pl S X M i Z 6) y.1) ?_ ?_
  · refine wp_for (κ := Int32 × Mem) (fun u c => (c.1, nI u, c.2)) 6 (fun u c => RQ Pl S X m0 c.2 (goT Pl S X M i Z u) c.1) (fun u c hu hI => ?_) (fun c hI => ?_) 0 (1, m) (Nat.zero_le _) G (by decide)
    · obtain ⟨f1, m1⟩ := c
      change RQ Pl S X m0 m1 (goT Pl S X M i Z u) f1 at hI
      have st := goT_st (Pl := Pl) (S := S) (X := X) (Z := Z) (M := M) (i := i) u
      have eM : zM (goT Pl S X M i Z u) i = M := by rw [st.2 i hi, hM]
      have hi1 : i < zN (goT Pl S X M i Z u) := Nat.lt_of_lt_of_le hi st.1
      have si1 := hI.2.2.2.1
      have e1 : f1 = (if zO (goT Pl S X M i Z u) = 2 then 0 else 1) := hI.2.2.2.2
      have same : ∀ m2, RQ Pl S X m0 m2 (goT Pl S X M i Z u) f1 → ¬ (tk Pl X u ∧ moD M u < pN Pl u) → wp (gjX12_goFrom_146 (nI i) f1 (nI u) m2) (lq (fun s' => ∃ c' : Int32 × Mem, s' = (c'.1, nI (u + 1), c'.2) ∧ RQ Pl S X m0 c'.2 (goT Pl S X M i Z (u + 1)) c'.1) (fun y => RQ Pl S X m0 y.2 (goT Pl S X M i Z 6) y.1)) := fun m2 G2 hno => by
        unfold gjX12_goFrom_146
        rw [wp_bind, wp_some, wp_some, lq_l, nI_1]
        refine ⟨(f1, m2), rfl, ?_⟩
        show RQ Pl S X m0 m2 (ci (tk Pl X u ∧ moD M u < pN Pl u) _ _) f1
        rw [ci_f hno]; exact G2
      simp only [gbX12_goFrom_4]
      rw [L_6, wp_f (by rw [i_le (by decide) (by omega)]; omega), wp_bind]
      refine wp_mono (r_isTask hI.2.1 hu) ?_
      rintro y (⟨rfl, ht⟩ | ⟨rfl, ht⟩)
      · rw [wp_f (by decide), wp_bind]
        refine wp_mono (rq_un hI hi1 eM) ?_
        rintro m2 ⟨G2, r2⟩
        rw [wp_bind]
        refine wp_mono (r_goesOn G2.2.1 I r2 ht) ?_
        rintro y (⟨q, hq, rfl⟩ | ⟨hno, rfl⟩)
        · obtain ⟨qP, qd, _, qh⟩ := isTop_at ht I hq
          have eq : tpq Pl X M u = q := tpq_is pw I hq
          have go : goT Pl S X M i Z (u + 1) = goW Pl S X M i u q (ci (wt S M q) (goT Pl S X M i Z u) (addM Pl S X (goT Pl S X M i Z u) (doM S M q) (i * 64 + u * 8))) (pP Pl) := by
            show ci (tk Pl X u ∧ moD M u < pN Pl u) (goW Pl S X M i u (tpq Pl X M u) (ci (wt S M (tpq Pl X M u)) (goT Pl S X M i Z u) (addM Pl S X (goT Pl S X M i Z u) (doM S M (tpq Pl X M u)) (i * 64 + u * 8))) (pP Pl)) (goT Pl S X M i Z u) = _
            rw [ci_t ⟨ht, hq.1⟩, eq]
          have tail : ∀ Z' f3 m3, RQ Pl S X m0 m3 Z' f3 → i < zN Z' → zM Z' i = M → goW Pl S X M i u q Z' (pP Pl) = goT Pl S X M i Z (u + 1) → wp (gjX12_goFrom_75 (nI i) f3 (nI u) (nI q) m3) (lq (fun s' => ∃ c' : Int32 × Mem, s' = (c'.1, nI (u + 1), c'.2) ∧ RQ Pl S X m0 c'.2 (goT Pl S X M i Z (u + 1)) c'.1) (fun y => RQ Pl S X m0 y.2 (goT Pl S X M i Z 6) y.1)) := fun Z' f3 m3 G3 h3 h4 h5 => by
            unfold gjX12_goFrom_75
            rw [wp_bind]
            refine wp_mono (r_goW G3 h3 h4 ht hq) ?_
            rintro ⟨y1, y2⟩ G4
            rw [h5] at G4
            unfold gjX12_goFrom_146
            rw [wp_bind, wp_some, wp_some, lq_l, nI_1]
            exact ⟨(y1, y2), rfl, G4⟩
          have e1' : f1 = (if zO (goT Pl S X M i Z u) = 2 then 0 else 1) := e1
          have e47 := G2.2.2.1.2.2.1
          have stay : zO (goT Pl S X M i Z u) ≠ 3 → goW Pl S X M i u q (goT Pl S X M i Z u) (pP Pl) = goT Pl S X M i Z (u + 1) := fun y => by
            rw [go, addM_o y]
            by_cases x : wt S M q
            · rw [ci_t x]
            · rw [ci_f x]
          rw [wp_t (by rw [z_ge (by omega)]; trivial), wp_bind]
          refine wp_mono (r_isWaiting G2.2.1 I r2 qP qd qh) ?_
          rintro y (⟨rfl, hw⟩ | ⟨rfl, hw⟩)
          · rw [wp_f (by decide)]
            exact tail _ f1 m2 G2 hi1 eM (by rw [go, ci_t hw])
          · rw [wp_t rfl]
            by_cases o2 : zO (goT Pl S X M i Z u) = 2
            · rw [wp_t (by rw [e1]; exact fl_0.mpr o2)]
              exact tail _ f1 m2 G2 hi1 eM (stay (by omega))
            · rw [wp_f (by rw [e1]; exact fun y => o2 (fl_0.mp y))]
              by_cases o1 : zO (goT Pl S X M i Z u) = 1
              · rw [wp_t ((fl_s si1.2.1 e47).mpr o1)]
                exact tail _ f1 m2 G2 hi1 eM (stay (by omega))
              · rw [wp_f (fun y => o1 ((fl_s si1.2.1 e47).mp y)), wp_bind]
                have o3 : zO (goT Pl S X M i Z u) = 3 := by rcases si1.1 with y | y | y <;> omega
                refine wp_mono (r_doMove G2.2.1 I r2 qP qd qh hw) ?_
                rintro m3 ⟨g3, r3⟩
                rw [wp_bind]
                have kk : (i * 64 + u * 8) / 64 = i := by omega
                have k8 : (i * 64 + u * 8) % 64 / 8 = u := by omega
                have k7 : (i * 64 + u * 8) % 8 = 0 := by omega
                have s2 : sll S M q < 10 := (G2.2.1.2.2.1 q (moD M q) qP qd).2.2.1
                refine wp_mono (rq_come (M := doM S M q) (k := i * 64 + u * 8) (m' := m3) G2 (fun o o1 _ o3 o4 => g3 o o1 o3 o4) o3 (MOK_do pw ht I hq hw) (MOL_do L s2) r3 (by rw [kk]; exact hi1) (by omega) (by omega) (by rw [kk, eM]; exact dep_do (by omega)) (by rw [kk]) (by rw [k8]) (by rw [k7]; rfl)) ?_
                rintro ⟨y1, y2⟩ G3
                have ast := add_st (Pl := Pl) (S := S) (X := X) (Z := goT Pl S X M i Z u) (M := doM S M q) (k := i * 64 + u * 8)
                exact tail _ y1 y2 G3 (Nat.lt_of_lt_of_le hi1 ast.1) (by rw [ast.2 i hi1, eM]) (by rw [go, ci_f hw])
        · rw [wp_f (by rw [m_nge0]; exact id)]
          exact same m2 G2 (fun z => hno z.2)
      · rw [wp_t rfl]
        exact same m1 hI (fun z => ht z.1)
    · simp only [gbX12_goFrom_4]
      rw [L_6, wp_t (by rw [i_le (by decide) (by omega)]; omega), wp_some, lq_r]
      exact hI
  · rintro ⟨y1, y2⟩ G4
    have e : y1 = (if zO (goT Pl S X M i Z 6) = 2 then 0 else 1) := G4.2.2.2.2
    rw [wp_bind]
    by_cases o2 : zO (goT Pl S X M i Z 6) = 2
    · rw [if_pos o2] at e
      rw [e] at G4 ⊢
      rw [wp_eq bz_0, wp_some]; exact G4
    · rw [if_neg o2] at e
      rw [e] at G4 ⊢
      rw [wp_eq bz_1, wp_some]; exact G4
end RGO

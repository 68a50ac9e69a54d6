/-! the class goes on from a moment, and from all -/
section CGT
variable {h : Hp} {m : Mem} {a b c turn : Nat} {Pl : PD} {S : Nat → Nat} {X : Nat} {Z : SS} {M : MO} {i t q k v st ow : Nat}
theorem goT_st (u : Nat) : zN Z ≤ zN (goT Pl S X M i Z u) ∧ ∀ j, j < zN Z → zM (goT Pl S X M i Z u) j = zM Z j := by
  induction u with
  | zero => exact ⟨Nat.le_refl _, fun _ _ => rfl⟩
  | succ u ih =>
    show zN Z ≤ zN (ci (tk Pl X u ∧ moD M u < pN Pl u) (goW Pl S X M i u (tpq Pl X M u) (ci (wt S M (tpq Pl X M u)) (goT Pl S X M i Z u) (addM Pl S X (goT Pl S X M i Z u) (doM S M (tpq Pl X M u)) (i * 64 + u * 8))) (pP Pl)) (goT Pl S X M i Z u)) ∧ ∀ j, j < zN Z → zM (ci (tk Pl X u ∧ moD M u < pN Pl u) (goW Pl S X M i u (tpq Pl X M u) (ci (wt S M (tpq Pl X M u)) (goT Pl S X M i Z u) (addM Pl S X (goT Pl S X M i Z u) (doM S M (tpq Pl X M u)) (i * 64 + u * 8))) (pP Pl)) (goT Pl S X M i Z u)) j = zM Z j
    by_cases z : tk Pl X u ∧ moD M u < pN Pl u
    · rw [ci_t z]
      have g := goW_st (Pl := Pl) (S := S) (X := X) (Z := ci (wt S M (tpq Pl X M u)) (goT Pl S X M i Z u) (addM Pl S X (goT Pl S X M i Z u) (doM S M (tpq Pl X M u)) (i * 64 + u * 8))) (M := M) (i := i) (t := u) (q := tpq Pl X M u) (pP Pl)
      have e : zN Z ≤ zN (ci (wt S M (tpq Pl X M u)) (goT Pl S X M i Z u) (addM Pl S X (goT Pl S X M i Z u) (doM S M (tpq Pl X M u)) (i * 64 + u * 8))) ∧ ∀ j, j < zN Z → zM (ci (wt S M (tpq Pl X M u)) (goT Pl S X M i Z u) (addM Pl S X (goT Pl S X M i Z u) (doM S M (tpq Pl X M u)) (i * 64 + u * 8))) j = zM Z j := by
        by_cases y : wt S M (tpq Pl X M u)
        · rw [ci_t y]; exact ih
        · rw [ci_f y]
          have := add_st (Pl := Pl) (S := S) (X := X) (Z := goT Pl S X M i Z u) (M := doM S M (tpq Pl X M u)) (k := i * 64 + u * 8)
          exact ⟨Nat.le_trans ih.1 this.1, fun j hj => by rw [this.2 j (by omega), ih.2 j hj]⟩
      exact ⟨Nat.le_trans e.1 g.1, fun j hj => by rw [g.2 j (by omega), e.2 j hj]⟩
    · rw [ci_f z]; exact ih
theorem c_99 {Q : (Int32 × Hp) ⊕ Hp → Prop} (G : GZ Pl S X h m a b c turn Z) (hb : b + 4 < a ∨ a + 11 < b) (hc : c < a ∨ a + 11 < c) (hi : i < zN Z) (hM : zM Z i = M) (E : EN st ow M) (ht : tk Pl X t) (hq : isTop Pl X M t q) (hQ : ∀ h' m', FR8 a h m h' m' → GZ Pl S X h' m' a b c turn (goW Pl S X M i t q Z (pP Pl)) → Q (.inl (nI (t + 1), wI h' m'))) : wp (jX8_goOnFrom_99 a (nI i) (lN st) (nI t) (nI q) (wI h m)) Q := by
  have C := G.1
  have s := C.1
  have I : MOK Pl X M := by rw [← hM]; exact (G.2.2.2.1.2.2.1 i hi).1
  obtain ⟨qP, qd, _, _⟩ := isTop_at ht I hq
  have q6 := C.p6 qP
  have nb := (C.2.2.1.2.2.2.2 q qP).2.2
  unfold jX8_goOnFrom_99
  rw [wp_bind, s.r15, wp_bind, w_doneBy E q6, wp_bind, L_12, i_mul, i_add, Nat.mul_comm q 12, s.l15 (by omega), G.2.1 q (moD M q) qP qd, wp_bind]
  refine wp_mono (c_goW G hb hc hi hM ht hq) ?_
  rintro r ⟨h', m', rfl, f, G'⟩
  unfold jX8_goOnFrom_195
  rw [wp_bind, wp_some, wp_some, L_1, i_add]
  exact hQ h' m' f G'
theorem c_goOnFrom (G : GZ Pl S X h m a b c turn Z) (hb : b + 4 < a ∨ a + 11 < b) (hc : c < a ∨ a + 11 < c) (hi : i < zN Z) (hM : zM Z i = M) : wp (fX8_goOnFrom (wI h m) a (nI i)) (fun r => ∃ h' m', r = wI h' m' ∧ FR8 a h m h' m' ∧ GZ Pl S X h' m' a b c turn (goT Pl S X M i Z (pP Pl))) := by
  have si0 := G.2.2.2.1
  have I : MOK Pl X M := by rw [← hM]; exact (si0.2.2.1 i hi).1
  have L : MOL M := by rw [← hM]; exact (si0.2.2.1 i hi).2
  have pw := G.1.2.2.1
  have P6 := pw.2.2.1
  have i4 : i < 4000 := Nat.lt_of_lt_of_le hi si0.2.1
  obtain ⟨st, ow, E, j2, j3⟩ := G.2.2.1.at' hi
  rw [hM] at E
  unfold fX8_goOnFrom
  rw [wp_bind, G.1.1.r10, wp_bind, G.1.1.l10 i4, j2, wp_bind]
  refine wp_mono (Q := fun r => ∃ h' m', r = wI h' m' ∧ FR8 a h m h' m' ∧ GZ Pl S X h' m' a b c turn (goT Pl S X M i Z (pP Pl))) ?_ (fun r hr => by rw [wp_some]; exact hr)
  refine wp_for (κ := Hp × Mem) (fun u k => (nI u, wI k.1 k.2)) (pP Pl) (fun u k => FR8 a h m k.1 k.2 ∧ GZ Pl S X k.1 k.2 a b c turn (goT Pl S X M i Z u)) (fun u k hu hI => ?_) (fun k hI => ?_) 0 (h, m) (Nat.zero_le _) ⟨FR8.rfl', G⟩ (by omega)
  · obtain ⟨h1, m1⟩ := k
    obtain ⟨f, G1⟩ := hI
    change FR8 a h m h1 m1 at f
    change GZ Pl S X h1 m1 a b c turn (goT Pl S X M i Z u) at G1
    obtain ⟨C1, cm1, z1, si1, tl1⟩ := id G1
    have s := C1.1
    have u6 := C1.p6 hu
    have g2 : m1 b 2 = nI (pP Pl) := C1.2.1.2.2.2.1
    have sst := goT_st (Pl := Pl) (S := S) (X := X) (Z := Z) (M := M) (i := i) u
    have eM : zM (goT Pl S X M i Z u) i = M := by rw [sst.2 i hi, hM]
    have hi1 : i < zN (goT Pl S X M i Z u) := Nat.lt_of_lt_of_le hi sst.1
    have same : ¬ (tk Pl X u ∧ moD M u < pN Pl u) → wp (jX8_goOnFrom_53 a (nI i) (lN st) (nI u) mI (wI h1 m1)) (lq (fun s' => ∃ c' : Hp × Mem, s' = (nI (u + 1), wI c'.1 c'.2) ∧ FR8 a h m c'.1 c'.2 ∧ GZ Pl S X c'.1 c'.2 a b c turn (goT Pl S X M i Z (u + 1))) (fun r => ∃ h' m', r = wI h' m' ∧ FR8 a h m h' m' ∧ GZ Pl S X h' m' a b c turn (goT Pl S X M i Z (pP Pl)))) := fun hno => by
      unfold jX8_goOnFrom_53 jX8_goOnFrom_195
      rw [wp_t (show mI = -1 from rfl), wp_bind, wp_some, wp_some, lq_l, L_1, i_add]
      refine ⟨(h1, m1), rfl, f, ?_⟩
      show GZ Pl S X h1 m1 a b c turn (ci (tk Pl X u ∧ moD M u < pN Pl u) _ _)
      rw [ci_f hno]; exact G1
    simp only [bX8_goOnFrom_10]
    rw [wp_bind, C1.q6, wp_bind, C1.sh5.g2, g2, wp_f (by rw [i_le (by omega) (by omega)]; omega), wp_bind, s.g0]
    obtain ⟨ks, T, _, _, _, e0, _⟩ := id z1
    rw [e0]
    have o4 : zO (goT Pl S X M i Z u) < 4 := by rcases si1.1 with y | y | y <;> omega
    by_cases hO : zO (goT Pl S X M i Z u) = 3
    · rw [wp_t (by rw [hO]; rfl), wp_bind, s.g8, wp_bind, w_has (by omega)]
      by_cases ht : tk Pl X u
      · rw [b01_t ((C1.2.2.2.2.2.2.2.1 u (by omega)).mpr ht), wp_f (by decide), wp_bind, s.o, wp_bind]
        refine wp_mono (c_onTop C1 E ht) (fun r hr => ?_)
        rcases hr with ⟨q, hq, rfl⟩ | ⟨hno, rfl⟩
        · obtain ⟨qP, qd, _, _⟩ := isTop_at ht I hq
          have q6 := C1.p6 qP
          have eq : tpq Pl X M u = q := tpq_is pw I hq
          have go : goT Pl S X M i Z (u + 1) = goW Pl S X M i u q (ci (wt S M q) (goT Pl S X M i Z u) (addM Pl S X (goT Pl S X M i Z u) (doM S M q) (i * 64 + u * 8))) (pP Pl) := by
            show ci (tk Pl X u ∧ moD M u < pN Pl u) (goW Pl S X M i u (tpq Pl X M u) (ci (wt S M (tpq Pl X M u)) (goT Pl S X M i Z u) (addM Pl S X (goT Pl S X M i Z u) (doM S M (tpq Pl X M u)) (i * 64 + u * 8))) (pP Pl)) (goT Pl S X M i Z u) = _
            rw [ci_t ⟨ht, hq.1⟩, eq]
          rw [go]
          obtain ⟨st1, ow1, E1, _, j31⟩ := z1.at' hi1
          rw [eM] at E1
          have es := (en_inj E E1).mpr mEq_rfl
          unfold jX8_goOnFrom_53
          rw [mI_e, wp_f (fun e => by rw [m_eq (by omega)] at e; exact e), wp_bind, s.r11, wp_bind, s.l11 i4, j31, ← es.2, wp_bind, s.o, wp_bind]
          refine wp_mono (c_waitsFor C1 E I ht) (fun r hr => ?_)
          rcases hr with ⟨q', h1', h2', rfl⟩ | ⟨hnw, rfl⟩
          · have hq' := isTop_un pw I h1' hq
            subst hq'
            obtain ⟨_, s2, _⟩ := C1.sb (S := S) qP qd
            rw [wp_f (fun e => by rw [m_eq (by omega)] at e; exact e), ci_t h2']
            exact c_99 G1 hb hc hi1 eM E ht hq (fun h2 m2 f2 G2 => ⟨(h2, m2), rfl, f.tr f2, G2⟩)
          · have hw := hnw q hq
            rw [wp_t rfl, ci_f hw, wp_bind, s.o, wp_bind]
            have ds := c_doStep (q := q) C1 z1 hO si1.2.1 hi1 ht (by rw [eM]; exact I) (by rw [eM]; exact hq) (by rw [eM]; exact hw)
            rw [eM] at ds
            refine wp_mono ds (fun r hr => ?_)
            have d64 : (i * 64 + u * 8) / 64 = i := by omega
            obtain ⟨_, s2, _⟩ := C1.sb (S := S) qP qd
            have I' := MOK_do (S := S) pw ht I hq hw
            refine g_keep (F := fun x => jX8_goOnFrom_99 a (nI i) (lN st) (nI u) (nI q) x) G1 hb hc hO ht I' (MOL_do L s2) (by rw [d64]; exact hi1) (by omega) (by omega) (by rw [d64, eM]; exact dep_do q6) (stk_do pw ht I hq (by rw [← eM]; exact si1.2.2.2.1 i hi1 hO)) hr (fun h2 m2 f2 G2 => ?_)
            have ast := add_st (Pl := Pl) (S := S) (X := X) (Z := goT Pl S X M i Z u) (M := doM S M q) (k := i * 64 + u * 8)
            exact c_99 G2 hb hc (Nat.lt_of_lt_of_le hi1 ast.1) (by rw [ast.2 i hi1, eM]) E ht hq (fun h3 m3 f3 G3 => ⟨(h3, m3), rfl, (f.tr f2).tr f3, G3⟩)
        · exact same (fun z => hno z.2)
      · rw [b01_n (fun z => ht ((C1.2.2.2.2.2.2.2.1 u (by omega)).mp z)), wp_t rfl]
        exact same (fun z => ht z.1)
    · rw [wp_f (by rw [L_3, i_eq (by omega) (by decide)]; exact hO), wp_some, lq_r]
      refine ⟨h1, m1, rfl, f, ?_⟩
      have e : ∀ d, goT Pl S X M i Z (u + d) = goT Pl S X M i Z u := by
        intro d
        induction d with
        | zero => rfl
        | succ d ih =>
          show ci (tk Pl X (u + d) ∧ moD M (u + d) < pN Pl (u + d)) (goW Pl S X M i (u + d) (tpq Pl X M (u + d)) (ci (wt S M (tpq Pl X M (u + d))) (goT Pl S X M i Z (u + d)) (addM Pl S X (goT Pl S X M i Z (u + d)) (doM S M (tpq Pl X M (u + d))) (i * 64 + (u + d) * 8))) (pP Pl)) (goT Pl S X M i Z (u + d)) = _
          rw [ih, addM_o hO]
          have e2 : ci (wt S M (tpq Pl X M (u + d))) (goT Pl S X M i Z u) (goT Pl S X M i Z u) = goT Pl S X M i Z u := by
            by_cases y : wt S M (tpq Pl X M (u + d))
            · rw [ci_t y]
            · rw [ci_f y]
          rw [e2, goW_o hO]
          by_cases y : tk Pl X (u + d) ∧ moD M (u + d) < pN Pl (u + d)
          · rw [ci_t y]
          · rw [ci_f y]
      have := e (pP Pl - u)
      rw [show u + (pP Pl - u) = pP Pl by omega] at this
      rw [this]; exact G1
  · obtain ⟨h1, m1⟩ := k
    obtain ⟨f, G1⟩ := hI
    have C1 : CX h1 m1 a b c Pl S X := G1.1
    have g2 : m1 b 2 = nI (pP Pl) := C1.2.1.2.2.2.1
    simp only [bX8_goOnFrom_10]
    rw [wp_bind, C1.q6, wp_bind, C1.sh5.g2, g2, wp_t (by rw [i_le (by omega) (by omega)]; omega), wp_some, lq_r]
    exact ⟨h1, m1, rfl, f, G1⟩
/-- from all moments in turn -/
theorem c_srch (G : GZ Pl S X h m a b c turn Z) (hb : b + 4 < a ∨ a + 11 < b) (hc : c < a ∨ a + 11 < c) : wp (lp (bX8_search_79 a) FU ((0 : Int32), wI h m)) (fun r => ∃ h' m', r = wI h' m' ∧ FR8 a h m h' m' ∧ GZ Pl S X h' m' a b c turn (goF Pl S X Z 4000)) := by
  refine wp_for (κ := Hp × Mem) (fun u k => (nI u, wI k.1 k.2)) 4000 (fun u k => FR8 a h m k.1 k.2 ∧ GZ Pl S X k.1 k.2 a b c turn (goF Pl S X Z u)) (fun u k hu hI => ?_) (fun k hI => ?_) 0 (h, m) (Nat.zero_le _) ⟨FR8.rfl', G⟩ (by decide)
  · obtain ⟨h1, m1⟩ := k
    obtain ⟨f, G1⟩ := hI
    change FR8 a h m h1 m1 at f
    change GZ Pl S X h1 m1 a b c turn (goF Pl S X Z u) at G1
    obtain ⟨C1, cm1, z1, si1, tl1⟩ := id G1
    have s := C1.1
    obtain ⟨ks, T, _, _, _, e0, e1, _⟩ := id z1
    have n4 := si1.2.1
    have done : zO (goF Pl S X Z u) ≠ 3 ∨ zN (goF Pl S X Z u) ≤ u → GZ Pl S X h1 m1 a b c turn (goF Pl S X Z 4000) := fun y => by
      have := goF_more (Pl := Pl) (S := S) (X := X) (Z := Z) u (4000 - u) y
      rw [show u + (4000 - u) = 4000 by omega] at this
      rw [this]; exact G1
    simp only [bX8_search_79]
    rw [wp_bind, s.g1, e1]
    by_cases hn : zN (goF Pl S X Z u) ≤ u
    · rw [wp_t (by rw [i_le (by omega) (by omega)]; exact hn), wp_some, lq_r]
      exact ⟨h1, m1, rfl, f, done (Or.inr hn)⟩
    · rw [wp_f (by rw [i_le (by omega) (by omega)]; exact hn), wp_bind, s.g0, e0]
      have o4 : zO (goF Pl S X Z u) < 4 := by rcases si1.1 with y | y | y <;> omega
      by_cases hO : zO (goF Pl S X Z u) = 3
      · rw [wp_t (by rw [hO]; rfl), wp_bind, s.o, wp_bind]
        refine wp_mono (c_goOnFrom G1 hb hc (i := u) (by omega) rfl) ?_
        rintro r ⟨h2, m2, rfl, f2, G2⟩
        rw [wp_bind, wp_some, wp_some, lq_l, L_1, i_add]
        refine ⟨(h2, m2), rfl, f.tr f2, ?_⟩
        show GZ Pl S X h2 m2 a b c turn (ci (u < zN (goF Pl S X Z u)) _ _)
        rw [ci_t (by omega)]; exact G2
      · rw [wp_f (by rw [L_3, i_eq (by omega) (by decide)]; exact hO), wp_some, lq_r]
        exact ⟨h1, m1, rfl, f, done (Or.inl hO)⟩
  · obtain ⟨h1, m1⟩ := k
    obtain ⟨f, G1⟩ := hI
    change GZ Pl S X h1 m1 a b c turn (goF Pl S X Z 4000) at G1
    have s := G1.1.1
    obtain ⟨ks, T, _, _, _, e0, e1, _⟩ := id G1.2.2.1
    have n4 := G1.2.2.2.1.2.1
    simp only [bX8_search_79]
    rw [wp_bind, s.g1, e1, wp_t (by rw [i_le (by omega) (by omega)]; exact n4), wp_some, lq_r]
    exact ⟨h1, m1, rfl, f, G1⟩
end CGT

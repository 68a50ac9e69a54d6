/-! the class looks for a ring -/
/-- the ring told: its tasks and its locks as bits -/
def RGT (Pl : PD) (S : Nat → Nat) (X : Nat) (M : MO) (rt rl : Int32) : Prop := ∃ u K x, u < 6 ∧ (∀ u', u' < u → ¬ Rc 6 (wEd Pl S X M) u' u') ∧ Way 6 (wEd Pl S X M) u u K x ∧ (∀ b, b < 32 → (bt rt b = true ↔ ∃ i, i < K ∧ x i = b)) ∧ ∀ l, l < 32 → (bt rl l = true ↔ ∃ i q, i < K ∧ isTop Pl X M (x i) q ∧ sll S M q = l)
/-- ring and route as the class tells them -/
def TLD (Pl : PD) (S : Nat → Nat) (X : Nat) (m : Mem) (a : Nat) (Z : SS) : Prop := RGT Pl S X (zM Z (zN Z - 1)) (m a 3) (m a 4) ∧ m a 2 = nI (dep (zM Z (zN Z - 1)) 6) ∧ ∀ i, i < dep (zM Z (zN Z - 1)) 6 → m (a + 1) i = nI (zB Z (anc (zB Z) (zN Z - 1) (dep (zM Z (zN Z - 1)) 6 - 1 - i)) % 64)
section CRG
variable {h : Hp} {m : Mem} {a b c turn : Nat} {Pl : PD} {S : Nat → Nat} {X : Nat} {Z : SS} {t : Nat}
theorem rgt_un {M : MO} {p q p' q' : Int32} (h1 : RGT Pl S X M p q) (h2 : RGT Pl S X M p' q') : p = p' ∧ q = q' := by
  obtain ⟨u, K, x, u6, ul, w, bp, bq⟩ := h1
  obtain ⟨u', K', x', u6', ul', w', bp', bq'⟩ := h2
  have eu : u = u' := by
    have r1 : Rc 6 (wEd Pl S X M) u u := Rc_iff.mpr fun z => w.no z
    have r2 : Rc 6 (wEd Pl S X M) u' u' := Rc_iff.mpr fun z => w'.no z
    rcases Nat.lt_trichotomy u u' with z | z | z
    · exact absurd r1 (ul' u z)
    · exact z
    · exact absurd r2 (ul u' z)
  subst eu
  have eK := w.K w'
  subst eK
  have ex := w.nodes w'
  constructor
  · refine b_ext fun i hi => Bool.eq_iff_iff.mpr ?_
    rw [bp i hi, bp' i hi]
    exact ⟨fun ⟨j, j1, j2⟩ => ⟨j, j1, by rw [← ex j (by omega)]; exact j2⟩, fun ⟨j, j1, j2⟩ => ⟨j, j1, by rw [ex j (by omega)]; exact j2⟩⟩
  · refine b_ext fun i hi => Bool.eq_iff_iff.mpr ?_
    rw [bq i hi, bq' i hi]
    exact ⟨fun ⟨j, q, j1, j2⟩ => ⟨j, q, j1, by rw [← ex j (by omega)]; exact j2⟩, fun ⟨j, q, j1, j2⟩ => ⟨j, q, j1, by rw [ex j (by omega)]; exact j2⟩⟩
/-- other cells than those that hold the moments -/
theorem CZ.go {m' : Mem} {o : Nat} (z : CZ h m a turn Z) (h4 : m' (a + 4) = m (a + 4)) (h5 : m' (a + 5) = m (a + 5)) (h1 : m' a 1 = m a 1) (h14 : m' a 14 = m a 14) (h0 : m' a 0 = nI o) (hr : o ≠ 1 → m' a 2 = 0 ∧ m' a 3 = 0 ∧ m' a 4 = 0) : CZ h m' a turn (o, zN Z, zM Z, zB Z) := by
  obtain ⟨ks, T, ct, tb, cj, e0, e1, em, er⟩ := z
  refine ⟨ks, T, ⟨by rw [h14]; exact ct.1, ct.2.1, fun s hs => by rw [h5]; exact ct.2.2 s hs⟩, tb, cj, h0, by rw [h1]; exact e1, fun j hj => ?_, hr⟩
  rw [h4]
  exact em j hj
theorem c_findRing (C : CX h m a b c Pl S X) (hb : b + 4 < a ∨ a + 11 < b) (hc : c < a ∨ a + 11 < c) (z : CZ h m a turn Z) (hO : zO Z = 3) (N0 : 0 < zN Z) (N4 : zN Z ≤ 4000) (I : MOK Pl X (zM Z (zN Z - 1))) (D0 : dep (zM Z 0) 6 = 0) (hB : ∀ j, 0 < j → j < zN Z → zB Z j / 64 < j ∧ dep (zM Z j) 6 = dep (zM Z (zB Z j / 64)) 6 + 1) (ht : tk Pl X t) (hn : (∀ q, isTop Pl X (zM Z (zN Z - 1)) t q → ¬ wt S (zM Z (zN Z - 1)) q) → ¬ stk Pl S X (zM Z (zN Z - 1))) : wp (fX8_findRing (wI h m) a (nI t)) (fun r => ∃ m', r = wI h m' ∧ FR8 a h m h m' ∧ CZ h m' a turn (ci (stk Pl S X (zM Z (zN Z - 1))) 1 3, zN Z, zM Z, zB Z) ∧ (stk Pl S X (zM Z (zN Z - 1)) → TLD Pl S X m' a Z)) := by
  have s := C.1
  have pw := C.2.2.1
  obtain ⟨ks, T, ct, tb, cj, e0, e1, em, er⟩ := z
  have z : CZ h m a turn Z := ⟨ks, T, ct, tb, cj, e0, e1, em, er⟩
  have lst : zN Z - 1 < zN Z := by omega
  have E := (em _ lst).1
  obtain ⟨r2, r3, r4⟩ := er (by omega)
  generalize hM : zM Z (zN Z - 1) = M at *
  unfold fX8_findRing
  rw [wp_bind, s.r10, wp_bind, s.g1, e1, show (nI (zN Z) - (1 : Int32)) = nI (zN Z - 1) from i_sub N0, wp_bind, s.l10 (by omega), (cj _ lst).1, wp_bind, s.r11, wp_bind, s.g1, e1, show (nI (zN Z) - (1 : Int32)) = nI (zN Z - 1) from i_sub N0, wp_bind, s.l11 (by omega), (cj _ lst).2.1, wp_bind, s.o, wp_bind]
  refine wp_mono (c_waitsFor C E I ht) (fun r hr => ?_)
  rcases hr with ⟨q, h1, h2, rfl⟩ | ⟨h1, rfl⟩
  · obtain ⟨qP, qd, _, _⟩ := isTop_at ht I h1
    obtain ⟨_, s2, _⟩ := C.sb (S := S) qP qd
    rw [mI_e, wp_f (fun e => by rw [m_eq (by omega)] at e; exact e), wp_bind]
    refine wp_mono (c_lay C hb hc E I) ?_
    rintro r ⟨m1, rfl, f1, lw⟩
    rw [wp_bind]
    have nE6 : ∀ k : Mem, k (a + 8) = m1 (a + 8) → ∀ x y, x < 6 → y < 6 → (nE (k (a + 8)) x y ↔ wEd Pl S X M x y) := fun k hk x y hx hy => by
      unfold nE; rw [hk]; exact (lw x hx).2 y (by omega)
    -- still nothing found / found
    let NFd : Nat → Mem → Prop := fun i k => (∀ o, o ≠ a + 9 → o ≠ a + 9 + 1 → o ≠ a + 9 + 2 → k o = m1 o) ∧ ∀ u, u < i → ¬ Rc 6 (wEd Pl S X M) u u
    let FDd : Mem → Prop := fun k => FR8 a h m h k ∧ stk Pl S X M ∧ k a 0 = nI 1 ∧ CZ h k a turn (1, zN Z, zM Z, zB Z) ∧ TLD Pl S X k a Z
    refine wp_mono (Q := fun r => ∃ k, r = wI h k ∧ (NFd 6 k ∨ FDd k)) ?_ ?_
    · refine wp_for (κ := Mem) (fun i k => (nI i, wI h k)) 6 (fun i k => NFd i k ∨ FDd k) (fun i k hi hI => ?_) (fun k hI => ?_) 0 m1 (Nat.zero_le _) (Or.inl ⟨fun _ _ _ _ => rfl, fun u hu => absurd hu (Nat.not_lt_zero _)⟩) (by decide)
      · simp only [bX8_findRing_128]
        rw [L_6, wp_f (by rw [i_le (by decide) (by omega)]; omega), wp_bind, s.g0]
        rcases hI with ⟨k1, k2⟩ | hF
        · have ka : k a = m a := by rw [k1 a (by omega) (by omega) (by omega), f1 a (by omega) (by omega)]
          have goon : ∀ k', (∀ o, o ≠ a + 9 → o ≠ a + 9 + 1 → o ≠ a + 9 + 2 → k' o = m1 o) → ¬ Rc 6 (wEd Pl S X M) i i → wp (jX8_findRing_184 a (nI i) (wI h k')) (lq (fun s' => ∃ c', s' = (nI (i + 1), wI h c') ∧ (NFd (i + 1) c' ∨ FDd c')) (fun r => ∃ k, r = wI h k ∧ (NFd 6 k ∨ FDd k))) := by
            intro k' hk' hno
            unfold jX8_findRing_184
            rw [wp_bind, wp_some, wp_some, lq_l, L_1, i_add]
            refine ⟨k', rfl, Or.inl ⟨hk', fun u hu => ?_⟩⟩
            by_cases y : u = i
            · rw [y]; exact hno
            · exact k2 u (by omega)
          rw [ka, e0, hO, wp_t (show nI 3 = 3 from rfl), wp_bind, s.r17, wp_bind, s.l17 hi]
          have k8 : k (a + 8) = m1 (a + 8) := k1 _ (by omega) (by omega) (by omega)
          by_cases w0 : k (a + 8) i = 0
          · rw [wp_t w0]
            refine goon k k1 ?_
            rintro ⟨_, y, y6, he, _⟩
            have := (nE6 k k8 i y hi y6).mpr he
            unfold nE at this
            rw [w0, b_0] at this
            cases this
          · rw [wp_f w0, wp_bind, s.r18, wp_bind, s.r17, wp_bind, s.s18.o, wp_bind]
            refine wp_mono (c_find s.s18 (show a + 8 < hN h by have := s.1; omega) s.2.2.2.2.2.2.2.2.2.1.2 (by decide) (by omega) (by omega) (by omega) hi hi) ?_
            rintro ⟨r1, r2'⟩ ⟨m2, e2, f2, hf⟩
            have e2 : r2' = wI h m2 := e2
            subst e2
            have f2' : ∀ o, o ≠ a + 9 → o ≠ a + 9 + 1 → o ≠ a + 9 + 2 → m2 o = m1 o := fun o o1 o2 o3 => by rw [f2 o o1 o2 o3, k1 o o1 o2 o3]
            rcases hf with ⟨e3, K, x, w, wK, wx⟩ | ⟨e3, w, _⟩
            · have e3 : r1 = 1 := e3
              subst e3
              have w' : Way 6 (wEd Pl S X M) i i K x := Way_congr (nE6 k k8) hi w
              have xl := w'.lt hi
              have K6 := w'.leK hi
              have stkM : stk Pl S X M := ⟨i, hi, Rc_iff.mpr fun q => w'.no q⟩
              have ym : ∀ j, ∃ v, j < K → m1 (a + 7) (x j) = nI v ∧ v < 10 ∧ ∃ q, isTop Pl X M (x j) q ∧ sll S M q = v := by
                intro j
                by_cases hj : j < K
                · have ej := (w'.2.2.2 j hj).2.1
                  rcases (lw (x j) (xl j (by omega))).1 with ⟨q', t1, t2, t3, t4⟩ | ⟨t1, _⟩
                  · obtain ⟨qP', qd', _, _⟩ := isTop_at t1 I t2
                    exact ⟨_, fun _ => ⟨t4, (C.sb (S := S) qP' qd').2.1, q', t2, rfl⟩⟩
                  · exact absurd ej (t1 _)
                · exact ⟨0, fun q => absurd q hj⟩
              obtain ⟨y, hy⟩ := Classical.skolem.mp ym
              have m2a : m2 a = m a := by rw [f2' a (by omega) (by omega) (by omega), f1 a (by omega) (by omega)]
              rw [wp_f (show ¬ (1 : Int32) = 0 by decide), wp_bind, s.p0, wp_bind, s.o, wp_bind]
              refine wp_mono (c_tellRing (m := up m2 a 0 1) (x := x) (y := y) s (by rw [up_r (by omega)]; exact wK) K6 (fun j hj => ?_) (by rw [up_ne (by omega), m2a]; exact r3) (by rw [up_ne (by omega), m2a]; exact r4)) ?_
              · rw [up_r (by omega), up_r (by omega), f2' (a + 7) (by omega) (by omega) (by omega)]
                exact ⟨wx j (by omega), xl j (by omega), (hy j hj).1, (hy j hj).2.1⟩
              · rintro r ⟨m3, rfl, g1, g2, g3, g4⟩
                have m3f : ∀ o, o ≠ a → o ≠ a + 7 → o ≠ a + 8 → o ≠ a + 9 → o ≠ a + 9 + 1 → o ≠ a + 9 + 2 → m3 o = m o := fun o o0 o7 o8 o9 o10 o11 => by rw [g1 o o0, up_r o0, f2' o o9 o10 o11, f1 o o7 o8]
                have m3a : ∀ j, j ≠ 3 → j ≠ 4 → j ≠ 0 → m3 a j = m a j := fun j j3 j4 j0 => by rw [g2 j j3 j4, up_ne (by omega), m2a]
                rw [wp_bind, s.o, wp_bind]
                refine wp_mono (c_tellRoute (m := m3) (n := zN Z) (B := zB Z) (D := fun j => dep (zM Z j) 6) (N := dep M 6) s (by rw [m3a 1 (by omega) (by omega) (by omega)]; exact e1) N0 N4 (by rw [m3a 2 (by omega) (by omega) (by omega)]; exact r2) (fun j hj => by rw [m3f (a + 4) (by omega) (by omega) (by omega) (by omega) (by omega) (by omega)]; exact (em j hj).2) hB D0 (by show dep (zM Z (zN Z - 1)) 6 = _; rw [hM]) (by have := dep_le pw I 6; omega)) ?_
                rintro r ⟨m4, rfl, p1, p2, p3, p4⟩
                unfold jX8_findRing_184
                rw [wp_bind, wp_some, wp_some, lq_l, L_1, i_add]
                have m4a : ∀ j, j ≠ 3 → j ≠ 4 → j ≠ 0 → j ≠ 2 → m4 a j = m a j := fun j j3 j4 j0 j2 => by rw [p2 j j2, m3a j j3 j4 j0]
                have m40 : m4 a 0 = nI 1 := by rw [p2 0 (by omega), g2 0 (by omega) (by omega), up_at]; rfl
                refine ⟨m4, rfl, Or.inr ⟨⟨⟨h.2.2.1, rfl, fun _ _ _ => rfl⟩, fun o ho => ?_, ?_, fun j hj => ?_⟩, stkM, m40, ?_, ?_, ?_, ?_⟩⟩
                · rw [p1 o (by omega) (by omega), m3f o (by omega) (by omega) (by omega) (by omega) (by omega) (by omega)]
                · rw [p1 _ (by omega) (by omega), m3f _ (by omega) (by omega) (by omega) (by omega) (by omega) (by omega)]
                · exact m4a j (by omega) (by omega) (by omega) (by omega)
                · refine z.go ?_ ?_ ?_ ?_ m40 (fun q => absurd rfl q)
                  · rw [p1 _ (by omega) (by omega), m3f _ (by omega) (by omega) (by omega) (by omega) (by omega) (by omega)]
                  · rw [p1 _ (by omega) (by omega), m3f _ (by omega) (by omega) (by omega) (by omega) (by omega) (by omega)]
                  · exact m4a 1 (by omega) (by omega) (by omega) (by omega)
                  · exact m4a 14 (by omega) (by omega) (by omega) (by omega)
                · rw [hM, p2 3 (by omega), p2 4 (by omega)]
                  refine ⟨i, K, x, hi, k2, w', g3, fun l hl => ?_⟩
                  rw [g4 l hl]
                  constructor
                  · rintro ⟨j, j1, j2⟩
                    obtain ⟨q', q1, q2⟩ := (hy j j1).2.2
                    exact ⟨j, q', j1, q1, by rw [q2]; exact j2⟩
                  · rintro ⟨j, q', j1, q1, q2⟩
                    obtain ⟨q'', q3, q4⟩ := (hy j j1).2.2
                    rw [isTop_un pw I q3 q1, q2] at q4
                    exact ⟨j, j1, q4.symm⟩
                · rw [hM]; exact p3
                · rw [hM]; exact p4
            · have e3 : r1 = 0 := e3
              subst e3
              rw [wp_t rfl]
              exact goon m2 f2' (fun q => Rc_iff.mp q ((noWay_congr (nE6 k k8) hi).mp w))
        · rw [hF.2.2.1, wp_f (by decide), wp_some, lq_r]
          exact ⟨k, rfl, Or.inr hF⟩
      · simp only [bX8_findRing_128]
        rw [L_6, wp_t (by rw [i_le (by decide) (by decide)]; omega), wp_some, lq_r]
        exact ⟨k, rfl, hI⟩
    · rintro r ⟨k, rfl, hk⟩
      rw [wp_some]
      rcases hk with ⟨k1, k2⟩ | ⟨k1, k2, _, k3, k4⟩
      · have ns : ¬ stk Pl S X M := fun ⟨u, u6, hu⟩ => k2 u u6 hu
        have ka : ∀ o, o ≠ a + 7 → o ≠ a + 8 → o ≠ a + 9 → o ≠ a + 9 + 1 → o ≠ a + 9 + 2 → k o = m o := fun o o7 o8 o9 o10 o11 => by rw [k1 o o9 o10 o11, f1 o o7 o8]
        have kk : k a = m a := ka a (by omega) (by omega) (by omega) (by omega) (by omega)
        refine ⟨k, rfl, ⟨⟨h.2.2.1, rfl, fun _ _ _ => rfl⟩, fun o ho => ka o (by omega) (by omega) (by omega) (by omega) (by omega), ka _ (by omega) (by omega) (by omega) (by omega) (by omega), fun j _ => by rw [kk]⟩, ?_, fun q => absurd q ns⟩
        rw [ci_f ns]
        refine z.go (ka _ (by omega) (by omega) (by omega) (by omega) (by omega)) (ka _ (by omega) (by omega) (by omega) (by omega) (by omega)) (by rw [kk]) (by rw [kk]) (by rw [kk, e0, hO]) (fun _ => by rw [kk]; exact ⟨r2, r3, r4⟩)
      · refine ⟨k, rfl, k1, ?_, fun _ => k4⟩
        rw [ci_t k2]; exact k3
  · rw [wp_t (show mI = -1 from rfl), wp_some]
    have ns := hn h1
    refine ⟨m, rfl, FR8.rfl', ?_, fun q => absurd q ns⟩
    rw [ci_f ns]
    exact z.go rfl rfl rfl rfl (by rw [e0, hO]) (fun _ => ⟨r2, r3, r4⟩)
end CRG

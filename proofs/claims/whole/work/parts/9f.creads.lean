/-! the class's search reads a moment -/
/-- where the class's search is: the search at a, the programs at b, their steps at c -/
def CX (h : Hp) (m : Mem) (a b c : Nat) (Pl : PD) (S : Nat → Nat) (X : Nat) : Prop := Sh8 h a ∧ PC (wI h m) b Pl ∧ PW Pl ∧ hR h a 6 = some b ∧ hR h a 7 = some c ∧ (c < hN h ∧ hS h c = .inr (.int, 72)) ∧ (∀ q j, q < pP Pl → j < pN Pl q → m c (12 * q + j) = nI (S (12 * q + j)) ∧ S (12 * q + j) / 16 ≤ 8 ∧ S (12 * q + j) % 16 < 10) ∧ (∀ t, t < 31 → (bt (m a 8) t = true ↔ tk Pl X t)) ∧ ∀ t, t < 31 → (bt (m a 9) t = true ↔ cr Pl X t)
section CRD
variable {h : Hp} {m : Mem} {a b c : Nat} {Pl : PD} {S : Nat → Nat} {X : Nat} {st ow : Nat} {M : MO} {t q p l : Nat}
theorem EN.s64 (E : EN st ow M) : st < 2 ^ 64 := Nat.lt_trans E.1 (by decide)
theorem EN.o64 (E : EN st ow M) : ow < 2 ^ 64 := Nat.lt_trans E.2.1 (by decide)
theorem gl_done (E : EN st ow M) (hp : p < 6) : (((lN st).toUInt64 >>> (((4 : Int32) * nI p).toInt64.toUInt64 &&& Int64.toUInt64 63)).toInt64 &&& (15 : Int64)).toInt32 = nI (moD M p) := by
  rw [L_4, i_mul, show (15 : Int64) = lN (2 ^ 4 - 1) from rfl, wb_fd E.s64 (by omega) (by decide), E.2.2.1 p hp, lN_i32]
theorem gl_came (E : EN st ow M) (hp : p < 6) : ((lN st).toUInt64 >>> (((24 : Int32) + ((3 : Int32) * nI p)).toInt64.toUInt64 &&& Int64.toUInt64 63)).toInt64 &&& (7 : Int64) = lN (moC M p) := by
  rw [L_24, L_3, i_mul, i_add, show (7 : Int64) = lN (2 ^ 3 - 1) from rfl, wb_fd E.s64 (by omega) (by decide), E.2.2.2.1 p hp]
theorem gl_alone (E : EN st ow M) (hl : l < 10) : ((lN st).toUInt64 >>> (((42 : Int32) + nI l).toInt64.toUInt64 &&& Int64.toUInt64 63)).toInt64 &&& (1 : Int64) = lN (moA M l) := by
  rw [L_42, i_add, show (1 : Int64) = lN (2 ^ 1 - 1) from rfl, wb_fd E.s64 (by omega) (by decide), E.2.2.2.2.1 l hl]
theorem w_doneBy {g : Hp} {Q : Int32 → Prop} (E : EN st ow M) (hp : p < 6) : wp (fX8_doneBy g (lN st) (nI p)) Q = Q (nI (moD M p)) := by
  unfold fX8_doneBy
  rw [wp_some, gl_done E hp]
theorem w_ownersOf {g : Hp} {Q : Int32 → Prop} (E : EN st ow M) (hl : l < 10) : wp (fX8_ownersOf g (lN ow) (nI l)) Q = Q (nI (moW M l)) := by
  unfold fX8_ownersOf
  have e : ow / 2 ^ (6 * l) &&& 63 = moW M l := by
    rw [← E.2.2.2.2.2 l hl]; exact Nat.and_two_pow_sub_one_eq_mod _ 6
  rw [wp_some, L_6, i_mul, wb_shr E.o64 (by omega), lN_i32, show (63 : Int32) = nI 63 from rfl, nx_andn, e]
theorem EN.cm (E : EN st ow M) (hp : p < 6) : moC M p < 8 := by rw [← E.2.2.2.1 p hp]; exact fd_lt
theorem EN.dn (E : EN st ow M) (hp : p < 6) : moD M p < 16 := by rw [← E.2.2.1 p hp]; exact fd_lt
theorem EN.al (E : EN st ow M) (hl : l < 10) : moA M l < 2 := by rw [← E.2.2.2.2.1 l hl]; exact fd_lt
theorem EN.ww (E : EN st ow M) (hl : l < 10) : moW M l < 64 := by rw [← E.2.2.2.2.2 l hl]; exact fd_lt
theorem gl_isat (E : EN st ow M) (hp : p < 6) (ht : t < 6) : lg_cmp (((lN st).toUInt64 >>> (((24 : Int32) + ((3 : Int32) * nI p)).toInt64.toUInt64 &&& Int64.toUInt64 63)).toInt64 &&& (7 : Int64)) ((nI t + (1 : Int32)).toInt64) = 0 ↔ moC M p = t + 1 := by
  have := E.cm hp
  rw [gl_came E hp, lg_cmp_eq, L_1, i_add, i64_s _ (by omega), lN_inj (by omega) (by omega)]
theorem CX.len (C : CX h m a b c Pl S X) (hp : p < pP Pl) : m (b + 3) p = nI (pN Pl p) := (C.2.1.2.2.2.2.2 p hp).2
theorem CX.srt (C : CX h m a b c Pl S X) (hp : p < pP Pl) : m (b + 2) p = nI (pS Pl p) := (C.2.1.2.2.2.2.2 p hp).1
theorem CX.p6 (C : CX h m a b c Pl S X) (hp : p < pP Pl) : p < 6 := Nat.lt_of_lt_of_le hp C.2.2.1.2.2.1
theorem CX.sh5 (C : CX h m a b c Pl S X) : Sh5 h b := C.2.1.1
theorem CX.q6 {Q : Nat → Prop} (C : CX h m a b c Pl S X) : wp (gR (wI h m) 8 a 6) Q = Q b := by rw [C.1.q6, C.2.2.2.1, wp_some]
theorem CX.q7 {Q : Nat → Prop} (C : CX h m a b c Pl S X) : wp (gR (wI h m) 8 a 7) Q = Q c := by rw [C.1.q7, C.2.2.2.2.1, wp_some]
theorem c_onTop (C : CX h m a b c Pl S X) (E : EN st ow M) (ht : tk Pl X t) : wp (fX8_onTop (wI h m) a (lN st) (nI t)) (fun r => (∃ q, isTop Pl X M t q ∧ r = nI q) ∨ (¬ moD M t < pN Pl t ∧ r = mI)) := by
  have t6 := C.p6 ht.1
  have pw := C.2.2.1
  have nb := (pw.2.2.2.2 t ht.1).2.2
  have P6 := pw.2.2.1
  unfold fX8_onTop
  rw [wp_bind, C.q6, wp_bind, C.sh5.r5, wp_bind, C.sh5.l5 t6, C.len ht.1, gl_done E t6]
  have d16 := E.dn t6
  by_cases z : moD M t < pN Pl t
  · rw [wp_f (by rw [i_le (by omega) (by omega)]; omega)]
    unfold jX8_onTop_27
    rw [wp_bind, C.1.g9]
    by_cases y : m a 9 = 0
    · rw [wp_t y]
      unfold jX8_onTop_42
      rw [wp_some]
      refine Or.inl ⟨t, ⟨z, Or.inr (Or.inr ⟨rfl, fun r hr => ?_⟩)⟩, rfl⟩
      have := (C.2.2.2.2.2.2.2.2 r (by have := C.p6 hr.1.1; omega)).mpr hr.1
      rw [y, b_0] at this
      cases this
    · rw [wp_f y, mI_e, wp_f (fun e => by rw [m_eq (by omega)] at e; exact e), wp_bind]
      refine wp_mono (Q := fun r => ∃ q, isTop Pl X M t q ∧ r = nI q) ?_ (fun r hr => by rw [wp_some]; exact Or.inl hr)
      refine wp_for (κ := Nat) (fun i k => (nI k, nI i)) (pP Pl) (fun i k => k < 6 ∧ ((k = t ∧ ∀ r, r < i → ¬ act Pl X M r t) ∨ (act Pl X M k t ∧ ∀ r, r < i → act Pl X M r t → pS Pl r ≤ pS Pl k))) (fun i k hi hI => ?_) (fun k hI => ?_) 0 t (Nat.zero_le _) ⟨t6, Or.inl ⟨rfl, fun r hr => absurd hr (Nat.not_lt_zero _)⟩⟩ (by omega)
      · obtain ⟨k6, hI⟩ := hI
        have i6 := C.p6 hi
        have kP : k < pP Pl := by rcases hI with ⟨e, _⟩ | ⟨e, _⟩; rw [e]; exact ht.1; exact e.1.1
        have stay : (¬ act Pl X M i t ∨ (act Pl X M i t ∧ pS Pl i ≤ pS Pl k)) → wp (jX8_onTop_144 a (lN st) (nI t) (nI k) (nI i) (wI h m)) (lq (fun s' => ∃ c', s' = (nI c', nI (i + 1)) ∧ c' < 6 ∧ ((c' = t ∧ ∀ r, r < i + 1 → ¬ act Pl X M r t) ∨ (act Pl X M c' t ∧ ∀ r, r < i + 1 → act Pl X M r t → pS Pl r ≤ pS Pl c'))) (fun r => ∃ q, isTop Pl X M t q ∧ r = nI q)) := by
          intro hs
          unfold jX8_onTop_144
          rw [wp_bind, wp_some, wp_some, lq_l, L_1, i_add]
          refine ⟨k, rfl, k6, ?_⟩
          rcases hI with ⟨e, f⟩ | ⟨e, f⟩
          · left
            refine ⟨e, fun r hr => ?_⟩
            rcases Nat.lt_or_ge r i with q | q
            · exact f r q
            · have : r = i := by omega
              subst this
              rcases hs with s | ⟨s1, s2⟩
              · exact s
              · have := ht.2.2
                have := s1.1.2.2
                rw [e] at s2
                omega
          · right
            refine ⟨e, fun r hr ha => ?_⟩
            rcases Nat.lt_or_ge r i with q | q
            · exact f r q ha
            · have : r = i := by omega
              subst this
              rcases hs with s | ⟨s1, s2⟩
              · exact absurd ha s
              · exact s2
        simp only [bX8_onTop_48]
        have g2 : m b 2 = nI (pP Pl) := C.2.1.2.2.2.1
        rw [wp_bind, C.q6, wp_bind, C.sh5.g2, g2, wp_f (by rw [i_le (by omega) (by omega)]; omega), wp_bind, C.1.g9]
        by_cases c1 : cr Pl X i
        · have b1 := (C.2.2.2.2.2.2.2.2 i (by omega)).mpr c1
          rw [wp_f (fun e => by rw [(b_has (by omega)).mp e] at b1; cases b1)]
          by_cases c2 : moC M i = t + 1
          · rw [wp_t ((gl_isat E i6 t6).mpr c2), wp_bind, C.q6, wp_bind, C.sh5.r5, wp_bind, C.sh5.l5 i6, C.len hi, gl_done E i6]
            have nb' := (pw.2.2.2.2 i hi).2.2
            have d' := E.dn i6
            by_cases c3 : moD M i < pN Pl i
            · rw [wp_f (by rw [i_le (by omega) (by omega)]; omega), wp_bind, C.q6, wp_bind, C.sh5.r4, wp_bind, C.sh5.l4 i6, C.srt hi, wp_bind, C.q6, wp_bind, C.sh5.r4, wp_bind, C.sh5.l4 k6, C.srt kP]
              have s1 := (pw.2.2.2.2 i hi).1
              have s2 := (pw.2.2.2.2 k kP).1
              have ai : act Pl X M i t := ⟨c1, c2, c3⟩
              by_cases c4 : pS Pl i ≤ pS Pl k
              · rw [wp_t (by rw [i_le (by omega) (by omega)]; exact c4)]
                exact stay (Or.inr ⟨ai, c4⟩)
              · rw [wp_f (by rw [i_le (by omega) (by omega)]; exact c4)]
                unfold jX8_onTop_144
                rw [wp_bind, wp_some, wp_some, lq_l, L_1, i_add]
                refine ⟨i, rfl, i6, Or.inr ⟨ai, fun r hr ha => ?_⟩⟩
                rcases Nat.lt_or_ge r i with q | q
                · rcases hI with ⟨e, f⟩ | ⟨e, f⟩
                  · exact absurd ha (f r q)
                  · have := f r q ha; omega
                · have : r = i := by omega
                  rw [this]; exact Nat.le_refl _
            · rw [wp_t (by rw [i_le (by omega) (by omega)]; omega)]
              exact stay (Or.inl fun z => c3 z.2.2)
          · rw [wp_f (fun e => c2 ((gl_isat E i6 t6).mp e))]
            exact stay (Or.inl fun z => c2 z.2.1)
        · rw [wp_t ((b_has (by omega)).mpr (Bool.eq_false_iff.mpr fun e => c1 ((C.2.2.2.2.2.2.2.2 i (by omega)).mp e)))]
          exact stay (Or.inl fun z => c1 z.1)
      · obtain ⟨k6, hI⟩ := hI
        simp only [bX8_onTop_48]
        have g2 : m b 2 = nI (pP Pl) := C.2.1.2.2.2.1
        rw [wp_bind, C.q6, wp_bind, C.sh5.g2, g2, wp_t (by rw [i_le (by omega) (by omega)]; omega), wp_some, lq_r]
        refine ⟨k, ⟨z, ?_⟩, rfl⟩
        rcases hI with ⟨e, f⟩ | ⟨e, f⟩
        · exact Or.inr (Or.inr ⟨e, fun r hr => f r hr.1.1 hr⟩)
        · have s1 := (pw.2.2.2.2 k e.1.1).1
          have s0 := e.1.2.2
          by_cases y2 : pS Pl k = 2
          · exact Or.inl ⟨e, y2⟩
          · exact Or.inr (Or.inl ⟨e, by omega, fun r hr => by have := f r hr.1.1 hr; omega⟩)
  · rw [wp_t (by rw [i_le (by omega) (by omega)]; omega)]
    unfold jX8_onTop_27
    rw [wp_bind, C.1.g9]
    unfold jX8_onTop_42
    by_cases y : m a 9 = 0
    · rw [wp_t y, wp_some]; exact Or.inr ⟨z, rfl⟩
    · rw [wp_f y, wp_t rfl, wp_some]; exact Or.inr ⟨z, rfl⟩
end CRD

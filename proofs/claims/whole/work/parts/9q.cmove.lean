/-! the class's doStep and letCome -/
/-- after a candidate was kept or not -/
def KPo (Pl : PD) (S : Nat → Nat) (X : Nat) (h : Hp) (m : Mem) (a turn : Nat) (Z : SS) (M : MO) (k : Nat) (r : Int32 × Hp) : Prop := ∃ h' m', r.2 = wI h' m' ∧ FR8 a h m h' m' ∧ ((r.1 = 0 ∧ zO (addM Pl S X Z M k) ≠ 1 ∧ CZ h' m' a turn (addM Pl S X Z M k)) ∨ (r.1 = 1 ∧ nwM Z M ∧ zN Z ≠ 4000 ∧ CZ h' m' a turn (3, zN Z + 1, sbf (zM Z) (zN Z) M, sbf (zB Z) (zN Z) k)))
section CM2
variable {h : Hp} {m : Mem} {a b c turn : Nat} {Pl : PD} {S : Nat → Nat} {X : Nat} {Z : SS} {M : MO} {st ow i t q k v : Nat}
theorem CZ.at' (z : CZ h m a turn Z) (hi : i < zN Z) : ∃ st ow, EN st ow (zM Z i) ∧ hJ h (a + 2) i = lN st ∧ hJ h (a + 3) i = lN ow := by
  obtain ⟨ks, T, ct, tb, cj, e0, e1, em, er⟩ := z
  exact ⟨_, _, (em i hi).1, (cj i hi).1, (cj i hi).2.1⟩
theorem k_bz (s : Sh8 h a) (z : CZ h m a turn Z) (hO : zO Z = 3) (hn : zN Z ≤ 4000) (E : EN st ow M) : wp (fX8_keep (wI h m) a (lN st) (lN ow) (nI k)) (fun r => wp (bz r.1) (fun x => wp (some (x, r.2)) (KPo Pl S X h m a turn Z M k))) := by
  refine wp_mono (k_keep (Pl := Pl) (S := S) (X := X) s z hO hn E) (fun r hr => ?_)
  obtain ⟨h', m', e, f, hc⟩ := hr
  have : r.1 = 0 ∨ r.1 = 1 := by rcases hc with ⟨e, _⟩ | ⟨e, _⟩; exact Or.inl e; exact Or.inr e
  rcases this with e1 | e1
  · rw [e1, wp_eq bz_0, wp_some]
    exact ⟨h', m', e, f, by rw [e1] at hc; exact hc⟩
  · rw [e1, wp_eq bz_1, wp_some]
    exact ⟨h', m', e, f, by rw [e1] at hc; exact hc⟩
theorem c_172 (s : Sh8 h a) (z : CZ h m a turn Z) (hO : zO Z = 3) (hn : zN Z ≤ 4000) (i4 : i < 4000) (t6 : t < 6) (q6 : q < 6) (E : EN (st + 2 ^ (4 * q)) ow M) : wp (jX8_doStep_172 a (nI i) (nI t) (nI q) (lN st) (lN ow) (wI h m)) (KPo Pl S X h m a turn Z M (i * 64 + t * 8)) := by
  unfold jX8_doStep_172
  rw [wp_bind, s.o, wp_bind, L_4, i_mul, wb_1l (by omega), wb_add, by_0 i4 t6]
  refine wp_mono (k_bz (Pl := Pl) (S := S) (X := X) s z hO hn E) (fun r hr => ?_)
  rw [wp_bind]
  exact hr
theorem c_doStep (C : CX h m a b c Pl S X) (z : CZ h m a turn Z) (hO : zO Z = 3) (hn : zN Z ≤ 4000) (hi : i < zN Z) (ht : tk Pl X t) (I : MOK Pl X (zM Z i)) (hq : isTop Pl X (zM Z i) t q) (hw : ¬ wt S (zM Z i) q) : wp (fX8_doStep (wI h m) a (nI i) (nI t) (nI q)) (KPo Pl S X h m a turn Z (doM S (zM Z i) q) (i * 64 + t * 8)) := by
  have s := C.1
  obtain ⟨st, ow, E, j2, j3⟩ := z.at' hi
  obtain ⟨qP, qd, _, _⟩ := isTop_at ht I hq
  have q6 := C.p6 qP
  have t6 := C.p6 ht.1
  obtain ⟨s1, s2, s3⟩ := C.sb (S := S) qP qd
  have nb := (C.2.2.1.2.2.2.2 q qP).2.2
  have hd : moD (zM Z i) q + 1 < 16 := by omega
  have W64 := E.ww s2
  generalize hM : zM Z i = M at *
  have fold1 : S (12 * q + moD M q) / 16 = sdd S M q := rfl
  have fold2 : S (12 * q + moD M q) % 16 = sll S M q := rfl
  have p1 : 2 ^ (6 * sll S M q + q) < 2 ^ 64 := Nat.pow_lt_pow_right (by decide) (by omega)
  have p2 : 2 ^ (42 + sll S M q) < 2 ^ 64 := Nat.pow_lt_pow_right (by decide) (by omega)
  have fin : ∀ {st' ow' : Nat}, EN (st' + 2 ^ (4 * q)) ow' (doM S M q) → wp (jX8_doStep_172 a (nI i) (nI t) (nI q) (lN st') (lN ow') (wI h m)) (KPo Pl S X h m a turn Z (doM S M q) (i * 64 + t * 8)) := fun e => c_172 s z hO hn (by omega) t6 q6 e
  unfold fX8_doStep
  rw [wp_bind, s.r10, wp_bind, s.l10 (by omega), j2, wp_bind, s.r11, wp_bind, s.l11 (by omega), j3, wp_bind, C.q7, wp_bind, w_doneBy E q6, wp_bind, C.step qP qd, wp_bind, w_lock s3, fold2, wp_bind, wp_some, wp_bind, wp_some, L_6, i_mul, i_add, wb_1l (by omega), L_42, i_add, wb_1l (by omega), wp_bind, w_deed s3, fold1]
  have take : (sdd S M q = 0 ∨ sdd S M q = 1 ∨ sdd S M q = 3) → wp (if nI (moW M (sll S M q)) = 0 then (some (lN ow ||| lN (2 ^ (6 * sll S M q + q)))).bind fun x18 => (some (lN st ||| lN (2 ^ (42 + sll S M q)))).bind fun x19 => jX8_doStep_172 a (nI i) (nI t) (nI q) x19 x18 (wI h m) else jX8_doStep_172 a (nI i) (nI t) (nI q) (lN st) (lN ow) (wI h m)) (KPo Pl S X h m a turn Z (doM S M q) (i * 64 + t * 8)) := by
    intro hdd
    by_cases w0 : moW M (sll S M q) = 0
    · rw [wp_t (by rw [w0]; rfl), wp_bind, wp_some, wp_bind, wp_some, wb_or E.o64 p1, wb_or E.s64 p2]
      exact fin (en_do1 E q6 s2 hd hdd w0)
    · rw [wp_f (by rw [z_eq (by omega)]; exact w0)]
      exact fin (en_do0 E q6 hd (fun z => w0 z.2) (fun e => by omega) (fun e => by omega))
  by_cases d0 : sdd S M q = 0
  · rw [wp_t (by rw [d0]; rfl), wp_bind, w_ownersOf E s2]
    exact take (Or.inl d0)
  · rw [wp_f (by rw [z_eq (by omega)]; exact d0)]
    by_cases d1 : sdd S M q = 1
    · rw [wp_t (by rw [d1]; rfl), wp_bind, w_ownersOf E s2]
      exact take (Or.inr (Or.inl d1))
    · rw [wp_f (by rw [L_1, i_eq (by omega) (by decide)]; exact d1)]
      by_cases d2 : sdd S M q = 2
      · rw [wp_t (by rw [d2]; rfl), wp_bind, wp_some, wb_or E.o64 p1]
        exact fin (en_do2 E q6 s2 hd d2)
      · rw [wp_f (by rw [L_2, i_eq (by omega) (by decide)]; exact d2)]
        by_cases d3 : sdd S M q = 3
        · rw [wp_t (by rw [d3]; rfl), wp_bind, w_ownersOf E s2]
          exact take (Or.inr (Or.inr d3))
        · rw [wp_f (by rw [L_3, i_eq (by omega) (by decide)]; exact d3)]
          by_cases d4 : sdd S M q = 4
          · rw [wp_t (by rw [d4]; rfl)]
            by_cases hb : (moW M (sll S M q)).testBit q = true
            · rw [wp_f (fun e => by rw [(own_bit E s2 q6).mp e] at hb; cases hb), wp_bind, wp_some, wp_bind, wp_some, wb_clr E.o64 (by omega), wb_clr E.s64 (by omega)]
              exact fin (en_do4 E q6 s2 hd d4 hb)
            · rw [wp_t ((own_bit E s2 q6).mpr (Bool.eq_false_iff.mpr hb))]
              exact fin (en_do0 E q6 hd (fun z => by omega) d2 (fun e => hb e.2))
          · rw [wp_f (by rw [L_4, i_eq (by omega) (by decide)]; exact d4)]
            exact fin (en_do0 E q6 hd (fun z => by omega) d2 (fun e => d4 e.1))
theorem c_letCome (C : CX h m a b c Pl S X) (z : CZ h m a turn Z) (hO : zO Z = 3) (hn : zN Z ≤ 4000) (hi : i < zN Z) (ht : tk Pl X t) (v6 : v < 6) : wp (fX8_letCome (wI h m) a (nI i) (nI t) (nI v)) (fun r => (moC (zM Z i) v ≠ 0 ∧ r = (0, wI h m)) ∨ (moC (zM Z i) v = 0 ∧ KPo Pl S X h m a turn Z (comeM (zM Z i) t v) (i * 64 + t * 8 + (v + 1)) r)) := by
  have s := C.1
  obtain ⟨st, ow, E, j2, j3⟩ := z.at' hi
  have t6 := C.p6 ht.1
  have c8 := E.cm v6
  unfold fX8_letCome
  rw [wp_bind, wp_some, wp_bind, s.r10, wp_bind, s.l10 (by omega), j2, gl_came E v6]
  by_cases c0 : moC (zM Z i) v = 0
  · rw [wp_t (by rw [c0]; exact (lg_cmp_eq _ _).mpr rfl), wp_bind, s.r11, wp_bind, s.l11 (by omega), j3, wp_bind, s.o, wp_bind, by_1 (by omega) t6 v6, i64_s t (by omega), show (1 : Int64) = lN 1 from rfl, wb_add, L_24, L_3, i_mul, i_add, wb_shl _ (by omega)]
    have E2 := en_come E v6 t6 c0
    have p : (t + 1) * 2 ^ (24 + 3 * v) < 2 ^ 64 := by
      have e : 2 ^ 64 = 2 ^ (64 - (24 + 3 * v)) * 2 ^ (24 + 3 * v) := by rw [← Nat.pow_add]; congr 1; omega
      rw [e]
      exact Nat.mul_lt_mul_of_pos_right (Nat.lt_of_lt_of_le (show t + 1 < 2 ^ 3 by omega) (Nat.pow_le_pow_right (by decide) (by omega))) (Nat.two_pow_pos _)
    rw [wb_or E.s64 p]
    refine wp_mono (k_bz (Pl := Pl) (S := S) (X := X) s z hO hn E2) (fun r hr => ?_)
    rw [wp_bind]
    refine wp_mono hr (fun x hx => ?_)
    exact wp_mono hx (fun y hy => Or.inr ⟨c0, hy⟩)
  · rw [wp_f (fun e => c0 (by
      have e' := (lg_cmp_eq _ _).mp e
      rw [show (0 : Int64) = lN 0 from rfl, lN_inj (by omega) (by decide)] at e'
      exact e')), wp_some]
    exact Or.inl ⟨c0, rfl⟩
end CM2

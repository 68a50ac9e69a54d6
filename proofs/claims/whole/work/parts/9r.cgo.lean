/-! the class goes on from a moment -/
/-- which sorts can come ahead of each step, as the class has it -/
def COM (m : Mem) (a : Nat) (Pl : PD) (S : Nat → Nat) : Prop := ∀ q j, q < pP Pl → j < pN Pl q → m (a + 6) (12 * q + j) = nI (if cx (pS Pl q) (fun j => S (12 * q + j)) j &&& 4 = 0 then 0 else cx (pS Pl q) (fun j => S (12 * q + j)) j)
def GZ (Pl : PD) (S : Nat → Nat) (X : Nat) (h : Hp) (m : Mem) (a b c turn : Nat) (Z : SS) : Prop := CX h m a b c Pl S X ∧ COM m a Pl S ∧ CZ h m a turn Z ∧ SI Pl S X Z ∧ (zO Z = 1 → TLD Pl S X m a Z)
theorem sort_can : ∀ c, c < 8 → ∀ so, so < 3 → ∀ sv, sv < 3 → c % 2 = 0 → c &&& cx0 so = c → sv ≠ 0 → ((if c &&& 4 = 0 then 0 else c).testBit sv = true ↔ (sv = 1 ∧ so = 0 ∧ c = 6) ∨ (sv = 2 ∧ so ≠ 2 ∧ ¬ c &&& 4 = 0)) := by
  intro c hc so hso sv hsv
  rcases (by omega : so = 0 ∨ so = 1 ∨ so = 2) with rfl | rfl | rfl <;> rcases (by omega : sv = 0 ∨ sv = 1 ∨ sv = 2) with rfl | rfl | rfl <;> rcases (by omega : c = 0 ∨ c = 1 ∨ c = 2 ∨ c = 3 ∨ c = 4 ∨ c = 5 ∨ c = 6 ∨ c = 7) with rfl | rfl | rfl | rfl | rfl | rfl | rfl | rfl <;> decide
section CGO
variable {h : Hp} {m : Mem} {a b c turn : Nat} {Pl : PD} {S : Nat → Nat} {X : Nat} {Z : SS} {M : MO} {i t q k v : Nat}
theorem COM.fr {h' : Hp} {m' : Mem} (C : COM m a Pl S) (f : FR8 a h m h' m') : COM m' a Pl S := fun q j hq hj => by
  rw [f.2.2.1]; exact C q j hq hj
/-- a candidate kept or not, and looked at: as the search told once -/
theorem g_keep {α : Type} {F : Hp → Option α} {Q : α → Prop} {r : Int32 × Hp} (G : GZ Pl S X h m a b c turn Z) (hb : b + 4 < a ∨ a + 11 < b) (hc : c < a ∨ a + 11 < c) (hO : zO Z = 3) (ht : tk Pl X t) (I : MOK Pl X M) (L : MOL M) (hi : k / 64 < zN Z) (h8 : k % 64 / 8 < 6) (h7 : k % 8 < 7) (hd : dep M 6 = dep (zM Z (k / 64)) 6 + 1) (hn : (∀ q, isTop Pl X M t q → ¬ wt S M q) → ¬ stk Pl S X M) (hr : KPo Pl S X h m a turn Z M k r) (hF : ∀ h' m', FR8 a h m h' m' → GZ Pl S X h' m' a b c turn (addM Pl S X Z M k) → wp (F (wI h' m')) Q) : wp (if r.1 = 0 then F r.2 else (gO r.2 8 a).bind fun _ => (fX8_findRing r.2 a (nI t)).bind fun x => F x) Q := by
  obtain ⟨C, cm, z, si, tl⟩ := G
  obtain ⟨h', m', e, f, hcase⟩ := hr
  have si' := si_add (k := k) si I L hi h8 h7 hd
  rw [e]
  rcases hcase with ⟨e0, no, z'⟩ | ⟨e1, nw, n4, z'⟩
  · rw [wp_t e0]
    exact hF h' m' f ⟨C.fr f hb hc, cm.fr f, z', si', fun q => absurd q no⟩
  · rw [wp_f (by rw [e1]; decide), wp_bind, (f.sh C.1).o, wp_bind]
    rw [addM_new nw n4] at si' hF
    have eM : zM ((3, zN Z + 1, sbf (zM Z) (zN Z) M, sbf (zB Z) (zN Z) k) : SS) (zN ((3, zN Z + 1, sbf (zM Z) (zN Z) M, sbf (zB Z) (zN Z) k) : SS) - 1) = M := by
      show sbf (zM Z) (zN Z) M (zN Z + 1 - 1) = M
      rw [Nat.add_sub_cancel, sbf_at]
    have fr := c_findRing (t := t) (C.fr f hb hc) hb hc z' rfl (Nat.succ_pos _) si'.2.1 (by rw [eM]; exact I) (si'.2.2.2.2.2.1 (Nat.succ_pos _)) (fun j j0 hj => ⟨(si'.2.2.2.2.2.2 j j0 hj).1, (si'.2.2.2.2.2.2 j j0 hj).2.2.2⟩) ht (by rw [eM]; exact hn)
    rw [eM] at fr
    refine wp_mono fr ?_
    rintro x ⟨m2, rfl, f2, z2, t2⟩
    have f3 := f.tr f2
    refine hF h' m2 f3 ⟨C.fr f3 hb hc, cm.fr f3, z2, si', fun q => t2 (Classical.byContradiction fun y => ?_)⟩
    change ci (stk Pl S X M) 1 3 = 1 at q
    rw [ci_f y] at q
    omega
theorem goW_st (w : Nat) : zN Z ≤ zN (goW Pl S X M i t q Z w) ∧ ∀ j, j < zN Z → zM (goW Pl S X M i t q Z w) j = zM Z j := by
  induction w with
  | zero => exact ⟨Nat.le_refl _, fun _ _ => rfl⟩
  | succ w ih =>
    show zN Z ≤ zN (ci (canC Pl S X M q w) (addM Pl S X (goW Pl S X M i t q Z w) (comeM M t w) (i * 64 + t * 8 + (w + 1))) (goW Pl S X M i t q Z w)) ∧ ∀ j, j < zN Z → zM (ci (canC Pl S X M q w) (addM Pl S X (goW Pl S X M i t q Z w) (comeM M t w) (i * 64 + t * 8 + (w + 1))) (goW Pl S X M i t q Z w)) j = zM Z j
    by_cases z : canC Pl S X M q w
    · rw [ci_t z]
      have := add_st (Pl := Pl) (S := S) (X := X) (Z := goW Pl S X M i t q Z w) (M := comeM M t w) (k := i * 64 + t * 8 + (w + 1))
      exact ⟨Nat.le_trans ih.1 this.1, fun j hj => by rw [this.2 j (by omega), ih.2 j hj]⟩
    · rw [ci_f z]; exact ih
/-- those that come -/
theorem c_goW (G : GZ Pl S X h m a b c turn Z) (hb : b + 4 < a ∨ a + 11 < b) (hc : c < a ∨ a + 11 < c) (hi : i < zN Z) (hM : zM Z i = M) (ht : tk Pl X t) (hq : isTop Pl X M t q) {u2 : Int64} : wp (lp (bX8_goOnFrom_121 a (nI i) u2 (nI t) (nI (if cx (pS Pl q) (fun j => S (12 * q + j)) (moD M q) &&& 4 = 0 then 0 else cx (pS Pl q) (fun j => S (12 * q + j)) (moD M q)))) FU ((0 : Int32), wI h m)) (fun r => ∃ h' m', r = wI h' m' ∧ FR8 a h m h' m' ∧ GZ Pl S X h' m' a b c turn (goW Pl S X M i t q Z (pP Pl))) := by
  have si0 := G.2.2.2.1
  have I : MOK Pl X M := by rw [← hM]; exact (si0.2.2.1 i hi).1
  have L : MOL M := by rw [← hM]; exact (si0.2.2.1 i hi).2
  have pw := G.1.2.2.1
  have P6 := pw.2.2.1
  have t6 := G.1.p6 ht.1
  obtain ⟨qP, qd, _, _⟩ := isTop_at ht I hq
  have i4 : i < 4000 := Nat.lt_of_lt_of_le hi si0.2.1
  refine wp_for (κ := Hp × Mem) (fun w k => (nI w, wI k.1 k.2)) (pP Pl) (fun w k => FR8 a h m k.1 k.2 ∧ GZ Pl S X k.1 k.2 a b c turn (goW Pl S X M i t q Z w)) (fun w k hw hI => ?_) (fun k hI => ?_) 0 (h, m) (Nat.zero_le _) ⟨FR8.rfl', G⟩ (by omega)
  · obtain ⟨h1, m1⟩ := k
    obtain ⟨f, G1⟩ := hI
    change FR8 a h m h1 m1 at f
    change GZ Pl S X h1 m1 a b c turn (goW Pl S X M i t q Z w) at G1
    obtain ⟨C1, cm1, z1, si1, tl1⟩ := id G1
    have s := C1.1
    have w6 := C1.p6 hw
    have g2 : m1 b 2 = nI (pP Pl) := C1.2.1.2.2.2.1
    have st := goW_st (Pl := Pl) (S := S) (X := X) (Z := Z) (M := M) (i := i) (t := t) (q := q) w
    have eM : zM (goW Pl S X M i t q Z w) i = M := by rw [st.2 i hi, hM]
    have hi1 : i < zN (goW Pl S X M i t q Z w) := Nat.lt_of_lt_of_le hi st.1
    have stay : ∀ h2 m2, FR8 a h m h2 m2 → GZ Pl S X h2 m2 a b c turn (goW Pl S X M i t q Z (w + 1)) → ∀ u6, wp (jX8_goOnFrom_189 a (nI i) u2 (nI t) u6 (nI w) (wI h2 m2)) (lq (fun s' => ∃ c' : Hp × Mem, s' = (nI (w + 1), wI c'.1 c'.2) ∧ FR8 a h m c'.1 c'.2 ∧ GZ Pl S X c'.1 c'.2 a b c turn (goW Pl S X M i t q Z (w + 1))) (fun r => ∃ h' m', r = wI h' m' ∧ FR8 a h m h' m' ∧ GZ Pl S X h' m' a b c turn (goW Pl S X M i t q Z (pP Pl)))) := by
      intro h2 m2 f2 G2 u6
      unfold jX8_goOnFrom_189
      rw [wp_bind, wp_some, wp_some, lq_l, L_1, i_add]
      exact ⟨(h2, m2), rfl, f2, G2⟩
    have same : ¬ canC Pl S X M q w → GZ Pl S X h1 m1 a b c turn (goW Pl S X M i t q Z (w + 1)) := fun hno => by
      show GZ Pl S X h1 m1 a b c turn (ci (canC Pl S X M q w) _ _)
      rw [ci_f hno]; exact G1
    simp only [bX8_goOnFrom_121]
    rw [wp_bind, C1.q6, wp_bind, C1.sh5.g2, g2, wp_f (by rw [i_le (by omega) (by omega)]; omega), wp_bind, s.g0]
    obtain ⟨ks, T, _, _, _, e0, _⟩ := id z1
    rw [e0]
    have o4 : zO (goW Pl S X M i t q Z w) < 4 := by rcases si1.1 with y | y | y <;> omega
    by_cases hO : zO (goW Pl S X M i t q Z w) = 3
    · rw [wp_t (by rw [hO]; rfl), wp_bind, s.g9, wp_bind, w_has (by omega)]
      by_cases c1 : cr Pl X w
      · rw [b01_t ((C1.2.2.2.2.2.2.2.2 w (by omega)).mpr c1), wp_f (by decide), wp_bind, C1.q6, wp_bind, C1.sh5.r4, wp_bind, C1.sh5.l4 w6, C1.srt hw, wp_bind]
        have s2 := (pw.2.2.2.2 w hw).1
        have sq := (pw.2.2.2.2 q qP).1
        have c8 := cx_8 (pS Pl q) (fun j => S (12 * q + j)) (moD M q)
        have key := sort_can _ c8.1 (pS Pl q) (by omega) (pS Pl w) (by omega) c8.2 (cx_sub _ _ _) c1.2.2
        rw [w_has (by omega), bt_nI (by omega)]
        by_cases c2 : (if cx (pS Pl q) (fun j => S (12 * q + j)) (moD M q) &&& 4 = 0 then 0 else cx (pS Pl q) (fun j => S (12 * q + j)) (moD M q)).testBit (pS Pl w) = true
        · rw [b01_t c2, wp_f (by decide), wp_bind, s.o, wp_bind]
          have lc := c_letCome (v := w) C1 z1 hO si1.2.1 hi1 ht w6
          rw [eM] at lc
          refine wp_mono lc (fun r hr => ?_)
          rcases hr with ⟨n0, rfl⟩ | ⟨y0, hr⟩
          · rw [wp_t rfl]
            exact stay h1 m1 f (same fun z => n0 z.2.1) _
          · have can : canC Pl S X M q w := ⟨c1, y0, by
              rcases key.mp c2 with ⟨k1, k2, k3⟩ | ⟨k1, k2, k3⟩
              · exact Or.inl ⟨k1, k2, k3⟩
              · exact Or.inr ⟨k1, k2, k3⟩⟩
            have d64 : (i * 64 + t * 8 + (w + 1)) / 64 = i := by omega
            refine g_keep (F := fun x => jX8_goOnFrom_189 a (nI i) u2 (nI t) _ (nI w) x) G1 hb hc hO ht (MOK_come pw ht I hq can) (MOL_come L) (by rw [d64]; exact hi1) (by omega) (by omega) (by rw [d64, eM]; exact dep_come w6 y0) (stk_come ht c1 y0 (by rw [← eM]; exact si1.2.2.2.1 i hi1 hO)) hr (fun h2 m2 f2 G2 => stay h2 m2 (f.tr f2) ?_ _)
            show GZ Pl S X h2 m2 a b c turn (ci (canC Pl S X M q w) _ _)
            rw [ci_t can]; exact G2
        · rw [b01_n c2, wp_t rfl]
          refine stay h1 m1 f (same fun z => c2 (key.mpr ?_)) _
          rcases z.2.2 with ⟨k1, k2, k3⟩ | ⟨k1, k2, k3⟩
          · exact Or.inl ⟨k1, k2, k3⟩
          · exact Or.inr ⟨k1, k2, k3⟩
      · rw [b01_n (fun z => c1 ((C1.2.2.2.2.2.2.2.2 w (by omega)).mp z)), wp_t rfl]
        exact stay h1 m1 f (same fun z => c1 z.1) _
    · rw [wp_f (by rw [L_3, i_eq (by omega) (by decide)]; exact hO), wp_some, lq_r]
      refine ⟨h1, m1, rfl, f, ?_⟩
      have e : ∀ d, goW Pl S X M i t q Z (w + d) = goW Pl S X M i t q Z w := by
        intro d
        induction d with
        | zero => rfl
        | succ d ih =>
          show ci (canC Pl S X M q (w + d)) (addM Pl S X (goW Pl S X M i t q Z (w + d)) (comeM M t (w + d)) (i * 64 + t * 8 + (w + d + 1))) (goW Pl S X M i t q Z (w + d)) = _
          rw [ih, addM_o hO]
          by_cases y : canC Pl S X M q (w + d)
          · rw [ci_t y]
          · rw [ci_f y]
      have := e (pP Pl - w)
      rw [show w + (pP Pl - w) = pP Pl by omega] at this
      rw [this]; exact G1
  · obtain ⟨h1, m1⟩ := k
    obtain ⟨f, G1⟩ := hI
    have C1 : CX h1 m1 a b c Pl S X := G1.1
    have g2 : m1 b 2 = nI (pP Pl) := C1.2.1.2.2.2.1
    simp only [bX8_goOnFrom_121]
    rw [wp_bind, C1.q6, wp_bind, C1.sh5.g2, g2, wp_t (by rw [i_le (by omega) (by omega)]; omega), wp_some, lq_r]
    exact ⟨h1, m1, rfl, f, G1⟩
end CGO

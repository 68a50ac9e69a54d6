/-! the class takes a lock -/
section TK
variable {h : Hp} {m : Mem} {w P b n : Nat} {D : RD} {G : GD} {U : Nat → Nat} {H : HD} {A : LA} {Pl : PD}
theorem c_take54 (W : WH h w P b) (R : RRc m (b + 8) D) (wD : RW D) (Rg : GRc m (b + 4) G) (hU : ∀ x, x < 16 → m (b + 3) x = nI (U x) ∧ U x < 16) {p s x l so c : Nat} (e3 : m w 3 = nI p) (e4 : m w 4 = nI s) (h5 : p < 6) (h6 : s < 12) (hx : x < 16) (e5 : m w 5 = nI c) (hc : c < 8 ∧ c % 2 = 0) (es : m (P + 2) p = nI so) (hso : so ≤ 2) (k : WKc m w H) (hw : HW H) (hl : l < 10) (hn : ¬ isH H l) : wp (jX9_takeUp_54 w (nI l) (nI x) (wI h m)) (fun r => ∃ m', r = wI h m' ∧ (∀ a, ¬ (w ≤ a ∧ a ≤ w + 5) → ¬ a = b + 3 → ¬ (b + 8 ≤ a ∧ a ≤ b + 14) → m' a = m a) ∧ (∀ j, j ≠ 6 → j ≠ 7 → m' w j = m w j) ∧ (∀ y, y < 16 → m' (b + 3) y = nI (sbf U x (U x ||| useB so c) y)) ∧ RRc m' (b + 8) (unsA (unsA (useD D (U x ||| useB so c) p s x) G (sbf U x (U x ||| useB so c)) 6 1 4 p s 16) G (sbf U x (U x ||| useB so c)) 7 2 8 p s 16) ∧ WKc m' w (push H l x)) := by
  have s9 := W.1
  have W' := W
  obtain ⟨_, _, _, _, _, d1, d2, d3⟩ := W
  have hu0 := hU x hx
  have ub : useB so c < 16 := by
    unfold useB
    exact or16 (or16 (or16 (by split <;> decide) (by split <;> decide)) (by split <;> decide)) (by split <;> decide)
  have hu16 : U x ||| useB so c < 16 := or16 hu0.2 ub
  simp (disch := omega) only [jX9_takeUp_54, wp_bind, s9.o]
  refine wp_mono (c_learnUse W' R wD e3 e4 h5 h6 hx e5 hc.1 hc.2 es hso hu0.1 hu0.2) ?_
  rintro r ⟨m1, rfl, f1, g1, R1⟩
  have w1 := useD_W wD (u := U x ||| useB so c) (p := p) (s := s) (x := x) h5 (by omega) hx
  have hU1 : ∀ y, y < 16 → m1 (b + 3) y = nI (sbf U x (U x ||| useB so c) y) ∧ sbf U x (U x ||| useB so c) y < 16 := by
    intro y hy
    rw [g1 y]
    by_cases z : y = x
    · rw [if_pos z, z, sbf_at]; exact ⟨rfl, hu16⟩
    · rw [if_neg z, sbf_ne z]; exact hU y hy
  have Rg1 : GRc m1 (b + 4) G := Rg.congr (fun a h1 h2 => f1 a (by omega) (by omega))
  have e31 : m1 w 3 = nI p := by rw [f1 w (by omega) (by omega)]; exact e3
  have e41 : m1 w 4 = nI s := by rw [f1 w (by omega) (by omega)]; exact e4
  simp (disch := omega) only [wp_bind, s9.o, L_6, L_1, L_4]
  refine wp_mono (c_tellUnsafe W' R1 w1 Rg1 hU1 e31 e41 (by decide) (by decide) h5 (by omega)) ?_
  rintro r ⟨m2, rfl, f2, R2⟩
  have w2 := unsA_W (G := G) (U := sbf U x (U x ||| useB so c)) (its := 6) (bi := 1) (bo := 4) w1 (by decide) (by decide) h5 (by omega : s ≤ 12) 16 (Nat.le_refl _)
  have hU2 : ∀ y, y < 16 → m2 (b + 3) y = nI (sbf U x (U x ||| useB so c) y) ∧ sbf U x (U x ||| useB so c) y < 16 := fun y hy => by rw [f2 (b + 3) (by omega) (by omega)]; exact hU1 y hy
  have Rg2 : GRc m2 (b + 4) G := Rg1.congr (fun a h1 h2 => f2 a (by omega) (by omega))
  have e32 : m2 w 3 = nI p := by rw [f2 w (by omega) (by omega)]; exact e31
  have e42 : m2 w 4 = nI s := by rw [f2 w (by omega) (by omega)]; exact e41
  try simp (disch := omega) only [wp_bind, s9.o, L_7, L_2, L_8]
  refine wp_mono (c_tellUnsafe W' R2 w2 Rg2 hU2 e32 e42 (by decide) (by decide) h5 (by omega)) ?_
  rintro r ⟨m3, rfl, f3, R3⟩
  have fw : ∀ a, ¬ (w + 1 ≤ a ∧ a ≤ w + 3) → ¬ a = b + 3 → ¬ (b + 8 ≤ a ∧ a ≤ b + 14) → m3 a = m a := fun a h1 h2 h3 => by rw [f3 a h3 h1, f2 a h3 h1, f1 a h2 h3]
  have k3 : WKc m3 w H := k.congr (by rw [fw w (by omega) (by omega) (by omega)]) (by rw [fw w (by omega) (by omega) (by omega)]) (fw _ (by omega) (by omega) (by omega)) (fw _ (by omega) (by omega) (by omega))
  try simp (disch := omega) only [wp_bind, s9.o]
  refine wp_mono (c_hold s9 k3 hw (x := x) hl hn) ?_
  rintro r ⟨m4, rfl, f4, g4, k4⟩
  rw [wp_some]
  refine ⟨m4, rfl, fun a h1 h2 h3 => by rw [f4 a (by omega) (by omega) (by omega), fw a (by omega) h2 h3], fun j h1 h2 => by rw [g4 j h1 h2, fw w (by omega) (by omega) (by omega)], fun y hy => ?_, R3.congr (fun a h1 h2 => f4 a (by omega) (by omega) (by omega)), k4⟩
  rw [f4 _ (by omega) (by omega) (by omega), f3 _ (by omega) (by omega)]
  exact (hU2 y hy).1
theorem c_learnN (W : WH h w P b) (R : RRc m (b + 8) D) (wD : RW D) (Rg : GRc m (b + 4) G) (wG : GW G) {p s x : Nat} {l : Int32} (e3 : m w 3 = nI p) (e4 : m w 4 = nI s) (h5 : p < 6) (h6 : s < 12) (hx : x < 16) (k : WKc m w H) (hw : HW H) : wp (lp (bX9_takeUp_27 w l (nI x)) FU (nI 0, wI h m)) (fun r => ∃ m', r = wI h m' ∧ (∀ a, ¬ (b + 4 ≤ a ∧ a ≤ b + 14) → ¬ (w + 1 ≤ a ∧ a ≤ w + 3) → m' a = m a) ∧ RRc m' (b + 8) (learnN (D, G) p s (hD H) x (hK H)).1 ∧ GRc m' (b + 4) (learnN (D, G) p s (hD H) x (hK H)).2) := by
  have s9 := W.1
  have W' := W
  obtain ⟨_, _, _, _, _, d1, d2, d3⟩ := W
  have hk10 := hw.1
  refine wp_for (κ := Mem) (fun i c => (nI i, wI h c)) (hK H) (fun i m' => (∀ a, ¬ (b + 4 ≤ a ∧ a ≤ b + 14) → ¬ (w + 1 ≤ a ∧ a ≤ w + 3) → m' a = m a) ∧ RRc m' (b + 8) (learnN (D, G) p s (hD H) x i).1 ∧ GRc m' (b + 4) (learnN (D, G) p s (hD H) x i).2) (fun i c hi HH => ?_) (fun c HH => ?_) 0 m (by omega) ⟨fun _ _ _ => rfl, R, Rg⟩ (by omega)
  · obtain ⟨fr, Ri, Rgi⟩ := HH
    have wi := learnN_W wD wG (nd := hD H) h5 h6 hx i (fun j hj => (hw.2.1 j (by omega)).2)
    have ew : c w = m w := fr w (by omega) (by omega)
    have e3i : c w 3 = nI p := by rw [ew]; exact e3
    have e4i : c w 4 = nI s := by rw [ew]; exact e4
    have e6i : c w 6 = nI (hK H) := by rw [ew]; exact k.1
    have e5i : c (w + 5) i = nI (hD H i) := by rw [fr _ (by omega) (by omega)]; exact (k.2.1 i hi).2
    simp (disch := omega) only [bX9_takeUp_27, wp_bind, s9.g6, e6i, i_le, wp_f, s9.r9, s9.l9, e5i, s9.o]
    refine wp_mono (c_learnOrder W' Ri wi.1 Rgi wi.2 e3i e4i h5 h6 (hw.2.1 i hi).2 hx) ?_
    rintro r ⟨m', rfl, f', R', Rg'⟩
    simp only [wp_some, lq_l, L_1, i_add]
    exact ⟨m', rfl, fun a h1 h2 => by rw [f' a h1 h2]; exact fr a h1 h2, R', Rg'⟩
  · obtain ⟨fr, Ri, Rgi⟩ := HH
    have e6i : c w 6 = nI (hK H) := by rw [fr w (by omega) (by omega)]; exact k.1
    simp (disch := omega) only [bX9_takeUp_27, wp_bind, s9.g6, e6i, i_le, wp_t, wp_some, lq_r]
    exact ⟨c, rfl, fr, Ri, Rgi⟩
/-- the class's learnt, ints apart -/
def LX (h : Hp) (m : Mem) (b : Nat) (A : LA) (n : Nat) : Prop := Sh3 h b ∧ RRc m (b + 8) (aD A) ∧ GRc m (b + 4) (aG A) ∧ (∀ x, x < 16 → m (b + 3) x = nI (aU A x)) ∧ (∀ p, p < 6 → m (b + 2) p = aR A p) ∧ (∀ j, j < 72 → m (b + 1) j = nI (aS A j)) ∧ CC h m b A n
theorem keep_D {c : CD} : aD (keepC A c) = aD A := by
  by_cases z : ∃ i, i < aK A ∧ cEq (aC A i) c
  · rw [keep_old z]; rfl
  · rw [keep_new z]; rfl
theorem keep_G {c : CD} : aG (keepC A c) = aG A := by
  by_cases z : ∃ i, i < aK A ∧ cEq (aC A i) c
  · rw [keep_old z]; rfl
  · rw [keep_new z]; rfl
theorem keep_U {c : CD} : aU (keepC A c) = aU A := by
  by_cases z : ∃ i, i < aK A ∧ cEq (aC A i) c
  · rw [keep_old z]; rfl
  · rw [keep_new z]; rfl
theorem keep_R {c : CD} : aR (keepC A c) = aR A := by
  by_cases z : ∃ i, i < aK A ∧ cEq (aC A i) c
  · rw [keep_old z]; rfl
  · rw [keep_new z]; rfl
theorem keep_S {c : CD} : aS (keepC A c) = aS A := by
  by_cases z : ∃ i, i < aK A ∧ cEq (aC A i) c
  · rw [keep_old z]; rfl
  · rw [keep_new z]; rfl
theorem keep_K {c : CD} : aK A ≤ aK (keepC A c) ∧ aK (keepC A c) ≤ aK A + 1 := by
  by_cases z : ∃ i, i < aK A ∧ cEq (aC A i) c
  · rw [keep_old z]; exact ⟨Nat.le_refl _, Nat.le_succ _⟩
  · rw [keep_new z]; exact ⟨Nat.le_succ _, Nat.le_refl _⟩
theorem keep_W {c : CD} (cw : ∀ i, i < aK A → CW (aC A i)) (hc : CW c) : ∀ i, i < aK (keepC A c) → CW (aC (keepC A c) i) := by
  by_cases z : ∃ i, i < aK A ∧ cEq (aC A i) c
  · rw [keep_old z]; exact cw
  · rw [keep_new z]
    intro i hi
    change i < aK A + 1 at hi
    show CW (sbf (aC A) (aK A) c i)
    by_cases z : i = aK A
    · rw [z, sbf_at]; exact hc
    · rw [sbf_ne z]; exact cw i (by omega)
theorem XC.WH {h' : Hp} (W : WH h w P b) (x : XC b h h') : WH h' w P b := by
  obtain ⟨s9, r1, r2, s5, s3, d1, d2, d3⟩ := W
  have hw : w < hN h := s9.lt
  refine ⟨s9.x x.1, ?_, ?_, s5.x x.1, s3.x x.1, d1, d2, d3⟩
  · rw [x.2.1 w 1 hw (Or.inr (by decide))]; exact r1
  · rw [x.2.1 w 2 hw (Or.inr (by decide))]; exact r2
theorem c_takeUp (W : WH h w P b) (L : LX h m b A n) (lw : LW A) (hk : aK A < 4000) {p s l d kd so c : Nat} (e3 : m w 3 = nI p) (e4 : m w 4 = nI s) (h5 : p < 6) (h6 : s < 12) (hd : d < 4) (hkd : kd < 8) (ek : m (P + 1) l = nI kd) (e5 : m w 5 = nI c) (hc : c < 8 ∧ c % 2 = 0) (es : m (P + 2) p = nI so) (hso : so ≤ 2) (k : WKc m w H) (hw : HW H) (hl : l < 10) (hn : ¬ isH H l) (hcx : c = cx (pS Pl p) (fun i => aS A (12 * p + i)) s) (hsp : so = pS Pl p) (hkp : kd = pk Pl l) : wp (fX9_takeUp (wI h m) w (nI l) (nI d)) (fun r => ∃ h' m' n', r = wI h' m' ∧ XC b h h' ∧ (∀ a, a < hN h → ¬ (w ≤ a ∧ a ≤ w + 5) → ¬ (b ≤ a ∧ a ≤ b + 14) → m' a = m a) ∧ (∀ j, j ≠ 6 → j ≠ 7 → m' w j = m w j) ∧ LX h' m' b (takeA Pl p s d (nodeOf Pl d l) A H) n' ∧ WKc m' w (push H l (nodeOf Pl d l)) ∧ (n' = n ∧ hN h' = hN h ∧ hZ h' = hZ h ∨ n' = 2 * n ∧ n = aK A ∧ hN h' = hN h + 1 ∧ hZ h' = hZ h + n')) := by
  have s9 := W.1
  obtain ⟨s3, L1, L2, L3, L4, L5, L6⟩ := L
  obtain ⟨w1, w2, w3, w4, w5, w6⟩ := lw
  have hk9 := hw.lt hl hn
  have hx : nodeOf Pl d l < 16 := by unfold nodeOf; rw [← hkp]; split <;> omega
  have hxe : 2 * kd + (if d = 1 then 1 else 0) = nodeOf Pl d l := by unfold nodeOf; rw [hkp]
  have W' := W
  obtain ⟨_, _, _, s5, _, d1, d2, d3⟩ := W
  have b14 := s3.1
  have P4 := s5.1
  have w5' := s9.1
  simp (disch := omega) only [fX9_takeUp, wp_bind, s9.o, w_nodeOf W' ek, hxe, W'.le]
  rw [wp_eq (c_rowWith s9 k hw hk9 hx), s3.o]
  refine wp_mono (c_addRow s3 L6 w4 w5 (chn_W hw hk9 hx)) ?_
  rintro r ⟨h1, m1, n1, rfl, X1, f1, g1, C1, room⟩
  have W1 := X1.WH W'
  have s31 := s3.x X1.1
  have ew : m1 w = m w := f1 w (by omega) (by omega)
  have R1 : RRc m1 (b + 8) (aD (keepC A (chn H (nodeOf Pl d l)))) := by rw [keep_D]; exact L1.congr (fun a h1 h2 => f1 a (by omega) (by omega))
  have Rg1 : GRc m1 (b + 4) (aG (keepC A (chn H (nodeOf Pl d l)))) := by rw [keep_G]; exact L2.congr (fun a h1 h2 => f1 a (by omega) (by omega))
  have wD1 : RW (aD (keepC A (chn H (nodeOf Pl d l)))) := by rw [keep_D]; exact w1
  have wG1 : GW (aG (keepC A (chn H (nodeOf Pl d l)))) := by rw [keep_G]; exact w2
  have k1 : WKc m1 w H := k.congr (by rw [ew]) (by rw [ew]) (f1 _ (by omega) (by omega)) (f1 _ (by omega) (by omega))
  have e31 : m1 w 3 = nI p := by rw [ew]; exact e3
  have e41 : m1 w 4 = nI s := by rw [ew]; exact e4
  have fin : ∀ (m2 : Mem) (DG : RD × GD), DG = (if d = 3 then (aD (keepC A (chn H (nodeOf Pl d l))), aG (keepC A (chn H (nodeOf Pl d l)))) else learnN (aD (keepC A (chn H (nodeOf Pl d l))), aG (keepC A (chn H (nodeOf Pl d l)))) p s (hD H) (nodeOf Pl d l) (hK H)) → RW DG.1 → RRc m2 (b + 8) DG.1 → GRc m2 (b + 4) DG.2 → (∀ a, ¬ (b + 4 ≤ a ∧ a ≤ b + 14) → ¬ (w + 1 ≤ a ∧ a ≤ w + 3) → m2 a = m1 a) → wp (jX9_takeUp_54 w (nI l) (nI (nodeOf Pl d l)) (wI h1 m2)) (fun r => ∃ h' m' n', r = wI h' m' ∧ XC b h h' ∧ (∀ a, a < hN h → ¬ (w ≤ a ∧ a ≤ w + 5) → ¬ (b ≤ a ∧ a ≤ b + 14) → m' a = m a) ∧ (∀ j, j ≠ 6 → j ≠ 7 → m' w j = m w j) ∧ LX h' m' b (takeA Pl p s d (nodeOf Pl d l) A H) n' ∧ WKc m' w (push H l (nodeOf Pl d l)) ∧ (n' = n ∧ hN h' = hN h ∧ hZ h' = hZ h ∨ n' = 2 * n ∧ n = aK A ∧ hN h' = hN h + 1 ∧ hZ h' = hZ h + n')) := by
    intro m2 DG hDG wDG R2 Rg2 f2
    have ew2 : m2 w = m1 w := f2 w (by omega) (by omega)
    have k2 : WKc m2 w H := k1.congr (by rw [ew2]) (by rw [ew2]) (f2 _ (by omega) (by omega)) (f2 _ (by omega) (by omega))
    have hU2 : ∀ y, y < 16 → m2 (b + 3) y = nI (aU (keepC A (chn H (nodeOf Pl d l))) y) ∧ aU (keepC A (chn H (nodeOf Pl d l))) y < 16 := by
      intro y hy
      rw [f2 _ (by omega) (by omega), f1 _ (by omega) (by omega), keep_U]
      exact ⟨L3 y hy, w3 y hy⟩
    refine wp_mono (c_take54 W1 R2 wDG Rg2 hU2 (p := p) (s := s) (so := so) (c := c) (by rw [ew2]; exact e31) (by rw [ew2]; exact e41) h5 h6 hx (by rw [ew2, ew]; exact e5) hc (by rw [f2 _ (by omega) (by omega), f1 _ (by omega) (by omega)]; exact es) hso k2 hw hl hn) ?_
    rintro r ⟨m3, rfl, f3, g3, u3, R3, k3⟩
    refine ⟨h1, m3, n1, rfl, X1, fun a h1 h2 h3 => ?_, fun j h1 h2 => ?_, ⟨s31, ?_, ?_, ?_, ?_, ?_, ?_⟩, k3, room⟩
    · rw [f3 a h2 (by omega) (by omega), f2 a (by omega) (by omega), f1 a h1 (by omega)]
    · rw [g3 j h1 h2, ew2, ew]
    · show RRc m3 (b + 8) (aD (takeA Pl p s d (nodeOf Pl d l) A H))
      unfold takeA
      simp only
      rw [← hDG, ← hcx, ← hsp]
      exact R3
    · show GRc m3 (b + 4) (aG (takeA Pl p s d (nodeOf Pl d l) A H))
      unfold takeA
      simp only
      rw [← hDG]
      exact Rg2.congr (fun a h1 h2 => f3 a (by omega) (by omega) (by omega))
    · intro y hy
      rw [u3 y hy]
      unfold takeA
      simp only
      rw [← hcx, ← hsp]
      rfl
    · intro q hq
      rw [f3 _ (by omega) (by omega) (by omega), f2 _ (by omega) (by omega), f1 _ (by omega) (by omega), L4 q hq]
      exact (congrFun keep_R q).symm
    · intro j hj
      rw [f3 _ (by omega) (by omega) (by omega), f2 _ (by omega) (by omega), f1 _ (by omega) (by omega), L5 j hj]
      exact congrArg nI (congrFun keep_S j).symm
    · have eb : m3 b = m1 b := by rw [f3 b (by omega) (by omega) (by omega), f2 b (by omega) (by omega)]
      obtain ⟨c1, c2, c3⟩ := C1
      exact ⟨by rw [eb]; exact c1, by rw [eb]; exact c2, c3⟩
  rw [L_3]
  by_cases hd3 : d = 3
  · rw [wp_t (by rw [hd3])]
    exact fin m1 (aD (keepC A (chn H (nodeOf Pl d l))), aG (keepC A (chn H (nodeOf Pl d l)))) (by rw [if_pos hd3]) wD1 R1 Rg1 (fun _ _ _ => rfl)
  · rw [wp_f (by rw [i_eq (by omega) (by decide)]; exact hd3), wp_bind]
    refine wp_mono (c_learnN W1 R1 wD1 Rg1 wG1 e31 e41 h5 h6 hx k1 hw) ?_
    rintro r ⟨m2, rfl, f2, R2, Rg2⟩
    refine fin m2 _ (by rw [if_neg hd3]) (learnN_W wD1 wG1 h5 h6 hx _ (fun j hj => (hw.2.1 j hj).2)).1 R2 Rg2 f2
end TK

/-! a step of a run: what is kept by the spec; the class's step -/
section SK
variable {H : HD} {A : LA} {Pl : PD} {p s : Nat}
theorem useB_lt (so c : Nat) : useB so c < 16 := by
  unfold useB
  exact or16 (or16 (or16 (by split <;> decide) (by split <;> decide)) (by split <;> decide)) (by split <;> decide)
theorem takeA_W (lw : LW A) (hw : HW H) {d x : Nat} (hk : hK H < 10) (h5 : p < 6) (h6 : s < 12) (hx : x < 16) (hA : aK A < 4000) : LW (takeA Pl p s d x A H) := by
  obtain ⟨w1, w2, w3, w4, w5, w6⟩ := lw
  have hc := chn_W hw hk hx
  have wDG : RW (if d = 3 then (aD (keepC A (chn H x)), aG (keepC A (chn H x))) else learnN (aD (keepC A (chn H x)), aG (keepC A (chn H x))) p s (hD H) x (hK H)).1 ∧ GW (if d = 3 then (aD (keepC A (chn H x)), aG (keepC A (chn H x))) else learnN (aD (keepC A (chn H x)), aG (keepC A (chn H x))) p s (hD H) x (hK H)).2 := by
    rw [keep_D, keep_G]
    by_cases hd : d = 3
    · rw [if_pos hd]; exact ⟨w1, w2⟩
    · rw [if_neg hd]; exact learnN_W w1 w2 h5 h6 hx _ (fun j hj => (hw.2.1 j hj).2)
  unfold takeA
  simp only
  generalize (if d = 3 then (aD (keepC A (chn H x)), aG (keepC A (chn H x))) else learnN (aD (keepC A (chn H x)), aG (keepC A (chn H x))) p s (hD H) x (hK H)) = DG at wDG
  refine ⟨?_, wDG.2, fun y hy => ?_, keep_W w4 hc, ?_, fun j hj => ?_⟩
  · exact unsA_W (unsA_W (useD_W wDG.1 h5 (by omega) hx) (by decide) (by decide) h5 (by omega) 16 (Nat.le_refl _)) (by decide) (by decide) h5 (by omega) 16 (Nat.le_refl _)
  · show sbf (aU (keepC A (chn H x))) x (aU (keepC A (chn H x)) x ||| useB _ _) y < 16
    rw [keep_U]
    by_cases z : y = x
    · rw [z, sbf_at]; exact or16 (w3 x hx) (useB_lt _ _)
    · rw [sbf_ne z]; exact w3 y hy
  · show aK (keepC A (chn H x)) ≤ 4000
    have := (keep_K (A := A) (c := chn H x)).2
    omega
  · show aS (keepC A (chn H x)) j < 160
    rw [keep_S]; exact w6 j hj
theorem take_S {d x : Nat} : aS (takeA Pl p s d x A H) = aS A := (show aS (keepC A (chn H x)) = aS A from keep_S)
theorem take_R {d x : Nat} : aR (takeA Pl p s d x A H) = aR A := (show aR (keepC A (chn H x)) = aR A from keep_R)
theorem take_K {d x : Nat} : aK (takeA Pl p s d x A H) = aK (keepC A (chn H x)) := rfl
theorem setD_W (lw : LW A) {D : RD} (wD : RW D) : LW (setD A D) := ⟨wD, lw.2⟩
/-- all cases of a step -/
theorem step_cases (P : LA × HD → Prop) (h1 : aS A (12 * p + s) / 16 < 4 → isH H (aS A (12 * p + s) % 16) → P (setD A (addR (aD A) 1 p s 1 (fun _ => hD H (plc H (aS A (12 * p + s) % 16)))), H)) (h2 : aS A (12 * p + s) / 16 < 4 → ¬ isH H (aS A (12 * p + s) % 16) → P (takeA Pl p s (aS A (12 * p + s) / 16) (nodeOf Pl (aS A (12 * p + s) / 16) (aS A (12 * p + s) % 16)) A H, push H (aS A (12 * p + s) % 16) (nodeOf Pl (aS A (12 * p + s) / 16) (aS A (12 * p + s) % 16)))) (h3 : aS A (12 * p + s) / 16 = 4 → isH H (aS A (12 * p + s) % 16) → P (A, drop1 H (plc H (aS A (12 * p + s) % 16)))) (h4 : aS A (12 * p + s) / 16 = 4 → ¬ isH H (aS A (12 * p + s) % 16) → P (setD A (addR (aD A) 8 p s 1 (fun _ => 2 * pk Pl (aS A (12 * p + s) % 16))), H)) (h5 : 4 < aS A (12 * p + s) / 16 → P (A, H)) : P (stepA Pl p s (A, H)) := by
  unfold stepA
  simp only
  by_cases c1 : aS A (12 * p + s) / 16 < 4
  · rw [if_pos c1]
    by_cases c2 : isH H (aS A (12 * p + s) % 16)
    · rw [ci_t c2]; exact h1 c1 c2
    · rw [ci_f c2]; exact h2 c1 c2
  · rw [if_neg c1]
    by_cases c3 : aS A (12 * p + s) / 16 = 4
    · rw [if_pos c3]
      by_cases c2 : isH H (aS A (12 * p + s) % 16)
      · rw [ci_t c2]; exact h3 c3 c2
      · rw [ci_f c2]; exact h4 c3 c2
    · rw [if_neg c3]; exact h5 (by omega)
theorem pV_of {P : PD} (pw : PW P) (hp : p < pP P) (hs : s < pN P p) : pV P (12 * p + s) := by
  have := (pw.2.2.2.2 p hp).2.2
  unfold pV
  rw [show (12 * p + s) / 12 = p by omega, show (12 * p + s) % 12 = s by omega]
  exact ⟨hp, hs⟩
theorem nodeOf_lt (pw : PW Pl) {d l : Nat} (hl : l < pL Pl) : nodeOf Pl d l < 16 := by
  have h1 := pw.2.2.2.1 l hl
  have h2 := pw.1
  unfold nodeOf
  split <;> omega
theorem stepA_W (pw : PW Pl) (hp : p < pP Pl) (hs : s < pN Pl p) (sw : SW Pl (aS A)) (lw : LW A) (hw : HW H) (hA : aK A < 4000) : LW (stepA Pl p s (A, H)).1 ∧ HW (stepA Pl p s (A, H)).2 ∧ aS (stepA Pl p s (A, H)).1 = aS A ∧ aR (stepA Pl p s (A, H)).1 = aR A ∧ aK A ≤ aK (stepA Pl p s (A, H)).1 ∧ aK (stepA Pl p s (A, H)).1 ≤ aK A + 1 := by
  have h12 := (pw.2.2.2.2 p hp).2.2
  have h6 := pw.2.2.1
  have h10 := pw.2.1
  obtain ⟨v1, v2, v3⟩ := sw _ (pV_of pw hp hs)
  refine step_cases (fun r => LW r.1 ∧ HW r.2 ∧ aS r.1 = aS A ∧ aR r.1 = aR A ∧ aK A ≤ aK r.1 ∧ aK r.1 ≤ aK A + 1) (fun c1 c2 => ?_) (fun c1 c2 => ?_) (fun c1 c2 => ?_) (fun c1 c2 => ?_) (fun c1 => ?_)
  · refine ⟨setD_W lw (lw.1.add (by decide) (by decide) (by decide) (by decide) (by omega) (by omega) (fun _ _ => ?_)), hw, rfl, rfl, Nat.le_refl _, Nat.le_succ _⟩
    exact (hw.2.1 _ (plc_ok c2).1).2
  · have hl := v2 (by omega)
    have hk := hw.lt (l := aS A (12 * p + s) % 16) (by omega) c2
    have hx := nodeOf_lt pw (d := aS A (12 * p + s) / 16) hl
    exact ⟨takeA_W lw hw hk (by omega) (by omega) hx hA, push_W hw (by omega) hx c2 hk, take_S, take_R, keep_K.1, keep_K.2⟩
  · exact ⟨lw, drop1_W hw (plc_ok c2).1, rfl, rfl, Nat.le_refl _, Nat.le_succ _⟩
  · have hl := v2 (by omega)
    have := pw.2.2.2.1 _ hl
    have := pw.1
    exact ⟨setD_W lw (lw.1.add (by decide) (by decide) (by decide) (by decide) (by omega) (by omega) (fun _ _ => by show 2 * pk Pl _ < 16; omega)), hw, rfl, rfl, Nat.le_refl _, Nat.le_succ _⟩
  · exact ⟨lw, hw, rfl, rfl, Nat.le_refl _, Nat.le_succ _⟩
theorem cx1_id {c so d : Nat} (h : d < 5 ∨ 8 < d) : cx1 c so d = c := by
  unfold cx1
  rw [if_neg (by omega), if_neg (by omega), if_neg (by omega), if_neg (by omega)]
end SK
section CS
variable {h : Hp} {m : Mem} {w P b n : Nat} {H : HD} {A : LA} {Pl : PD} {p s : Nat}
/-- the class within a run -/
def RC (h : Hp) (m : Mem) (w P b : Nat) (Pl : PD) (p s : Nat) (A : LA) (H : HD) (n : Nat) : Prop := WH h w P b ∧ PC (wI h m) P Pl ∧ m w 3 = nI p ∧ m w 4 = nI s ∧ m w 5 = nI (cx (pS Pl p) (fun i => aS A (12 * p + i)) s) ∧ WKc m w H ∧ LX h m b A n
theorem LX.congr {m' : Mem} (L : LX h m b A n) (e : ∀ a, b ≤ a → a ≤ b + 14 → m' a = m a) : LX h m' b A n := by
  obtain ⟨s3, L1, L2, L3, L4, L5, c1, c2, c3⟩ := L
  refine ⟨s3, L1.congr (fun a h1 h2 => e a (by omega) (by omega)), L2.congr (fun a h1 h2 => e a (by omega) (by omega)), ?_, ?_, ?_, ?_, ?_, c3⟩
  · rw [e (b + 3) (by omega) (by omega)]; exact L3
  · rw [e (b + 2) (by omega) (by omega)]; exact L4
  · rw [e (b + 1) (by omega) (by omega)]; exact L5
  · rw [e b (by omega) (by omega)]; exact c1
  · rw [e b (by omega) (by omega)]; exact c2
theorem PC.congr {h' : Hp} {m' : Mem} (c : PC (wI h m) P Pl) (x : XX h h') (e : ∀ a, P ≤ a → a ≤ P + 4 → m' a = m a) : PC (wI h' m') P Pl := by
  obtain ⟨s5, c0, c1, c2, c3, c4⟩ := c
  have e0 := e P (by omega) (by omega)
  refine ⟨Sh5.w (Sh5.x (h := h) s5 x) m', ?_, ?_, ?_, fun l hl => ?_, fun q hq => ⟨?_, ?_⟩⟩
  · rw [wI_I, e0]; exact c0
  · rw [wI_I, e0]; exact c1
  · rw [wI_I, e0]; exact c2
  · rw [wI_I, e _ (by omega) (by omega)]; exact c3 l hl
  · rw [wI_I, e _ (by omega) (by omega)]; exact (c4 q hq).1
  · rw [wI_I, e _ (by omega) (by omega)]; exact (c4 q hq).2
theorem w_177 (s9 : Sh9 h w) (e4 : m w 4 = nI s) {u : Int32} {Q : Hp ⊕ Hp → Prop} : wp (jX9_run_177 w u (wI h m)) Q = Q (.inl (wI h (up m w 4 (nI (s + 1))))) := by
  unfold jX9_run_177
  rw [wp_bind, s9.g4, e4, wp_bind, s9.p4, wp_some, nI_1]
theorem c_step (C : RC h m w P b Pl p s A H n) (pw : PW Pl) (hp : p < pP Pl) (hs : s < pN Pl p) (sw : SW Pl (aS A)) (lw : LW A) (hw : HW H) (hA : aK A < 4000) {u : Int32} {Q : Hp → Prop} : wp (bX9_run_28 w u (wI h m)) (lq (fun r => ∃ h' m' n', r = wI h' m' ∧ XC b h h' ∧ (∀ a, a < hN h → ¬ (w ≤ a ∧ a ≤ w + 5) → ¬ (b ≤ a ∧ a ≤ b + 14) → m' a = m a) ∧ RC h' m' w P b Pl p (s + 1) (stepA Pl p s (A, H)).1 (stepA Pl p s (A, H)).2 n' ∧ (n' = n ∧ hN h' = hN h ∧ hZ h' = hZ h ∨ n' = 2 * n ∧ n = aK A ∧ hN h' = hN h + 1 ∧ hZ h' = hZ h + n')) Q) := by
  obtain ⟨W, pc, e3, e4, e5, k, L⟩ := C
  have h12 := (pw.2.2.2.2 p hp).2.2
  have hso := (pw.2.2.2.2 p hp).1
  have h6 := pw.2.2.1
  have h10 := pw.2.1
  obtain ⟨v1, v2, v3⟩ := sw _ (pV_of pw hp hs)
  have hc160 := lw.2.2.2.2.2 (12 * p + s) (by omega)
  have s9 := W.1
  have W' := W
  have L' := L
  obtain ⟨_, _, _, s5, _, d1, d2, d3⟩ := W
  obtain ⟨s3, L1, L2, L3, L4, L5, L6⟩ := L
  obtain ⟨_, pc0, pc1, pc2, pc3, pc4⟩ := pc
  have pc' : PC (wI h m) P Pl := ⟨s5, pc0, pc1, pc2, pc3, pc4⟩
  have eN : m (P + 3) p = nI (pN Pl p) := (pc4 p hp).2
  have eS : m (P + 2) p = nI (pS Pl p) := (pc4 p hp).1
  have eC := L5 (12 * p + s) (by omega)
  have hcx := cx_8 (pS Pl p) (fun i => aS A (12 * p + i)) s
  have b14 := s3.1
  have P4 := s5.1
  have w5 := s9.1
  have hbit := k.2.2
  generalize hcd : aS A (12 * p + s) = code at *

  have fin : ∀ (h' : Hp) (m' : Mem) (n' : Nat) (A' : LA) (H' : HD), XC b h h' → (∀ a, a < hN h → ¬ (w ≤ a ∧ a ≤ w + 5) → ¬ (b ≤ a ∧ a ≤ b + 14) → m' a = m a) → (∀ j, j ≠ 6 → j ≠ 7 → m' w j = m w j) → code / 16 < 5 → aS A' = aS A → LX h' m' b A' n' → WKc m' w H' → (n' = n ∧ hN h' = hN h ∧ hZ h' = hZ h ∨ n' = 2 * n ∧ n = aK A ∧ hN h' = hN h + 1 ∧ hZ h' = hZ h + n') → ∃ h'' m'' n'', wI h' (up m' w 4 (nI (s + 1))) = wI h'' m'' ∧ XC b h h'' ∧ (∀ a, a < hN h → ¬ (w ≤ a ∧ a ≤ w + 5) → ¬ (b ≤ a ∧ a ≤ b + 14) → m'' a = m a) ∧ RC h'' m'' w P b Pl p (s + 1) A' H' n'' ∧ (n'' = n ∧ hN h'' = hN h ∧ hZ h'' = hZ h ∨ n'' = 2 * n ∧ n = aK A ∧ hN h'' = hN h + 1 ∧ hZ h'' = hZ h + n'') := by
    intro h' m' n' A' H' X fr fw hcd5 eA LX' k' room
    refine ⟨h', up m' w 4 (nI (s + 1)), n', rfl, X, fun a h1 h2 h3 => by rw [up_r (by omega)]; exact fr a h1 h2 h3, ⟨X.WH W', ?_, ?_, up_at, ?_, ?_, ?_⟩, room⟩
    · exact pc'.congr X.1 (fun a h1 h2 => by rw [up_r (by omega)]; exact fr a (by omega) (by omega) (by omega))
    · rw [up_a, if_neg (by decide), fw 3 (by decide) (by decide)]; exact e3
    · rw [up_a, if_neg (by decide), fw 5 (by decide) (by decide), e5, eA]
      show _ = nI (cx1 _ _ (aS A (12 * p + s) / 16))
      rw [hcd, cx1_id (Or.inl hcd5)]
    · exact k'.congr (by rw [up_a, if_neg (by decide)]) (by rw [up_a, if_neg (by decide)]) (up_r (by omega)) (up_r (by omega))
    · exact LX'.congr (fun a h1 h2 => up_r (by omega))

  have tel : ∀ (st x : Nat), 1 ≤ st → st ≤ 9 → x < 16 → code / 16 < 5 → ∀ (u : Int32), wp ((fX9_tell (wI h m) w (nI st) (nI x)).bind (fun x44 => jX9_run_177 w u x44)) (lq (fun r => ∃ h' m' n', r = wI h' m' ∧ XC b h h' ∧ (∀ a, a < hN h → ¬ (w ≤ a ∧ a ≤ w + 5) → ¬ (b ≤ a ∧ a ≤ b + 14) → m' a = m a) ∧ RC h' m' w P b Pl p (s + 1) (setD A (addR (aD A) st p s 1 (fun _ => x))) H n' ∧ (n' = n ∧ hN h' = hN h ∧ hZ h' = hZ h ∨ n' = 2 * n ∧ n = aK A ∧ hN h' = hN h + 1 ∧ hZ h' = hZ h + n')) Q) := by
    intro st x h1 h2 hx hc5 u
    rw [wp_bind]
    refine wp_mono (c_tell W' L1 lw.1 e3 e4 h1 h2 hx) ?_
    rintro r ⟨m1, rfl, f1, R1⟩
    have e41 : m1 w 4 = nI s := by rw [f1 w (by omega)]; exact e4
    rw [w_177 s9 e41, lq_l]
    refine fin h m1 n _ H (XC.rfl' b h) (fun a h1 h2 h3 => f1 a (by omega)) (fun j h1 h2 => by rw [f1 w (by omega)]) hc5 rfl ?_ ?_ (Or.inl ⟨rfl, rfl, rfl⟩)
    · refine ⟨s3, R1, L2.congr (fun a h1 h2 => f1 a (by omega)), ?_, ?_, ?_, ?_⟩
      · rw [f1 _ (by omega)]; exact L3
      · rw [f1 _ (by omega)]; exact L4
      · rw [f1 _ (by omega)]; exact L5
      · obtain ⟨c1, c2, c3⟩ := L6
        exact ⟨by rw [f1 _ (by omega)]; exact c1, by rw [f1 _ (by omega)]; exact c2, c3⟩
    · exact k.congr (by rw [f1 w (by omega)]) (by rw [f1 w (by omega)]) (f1 _ (by omega)) (f1 _ (by omega))
  refine step_cases (A := A) (H := H) (Pl := Pl) (p := p) (s := s) (fun q => wp (bX9_run_28 w u (wI h m)) (lq (fun r => ∃ h' m' n', r = wI h' m' ∧ XC b h h' ∧ (∀ a, a < hN h → ¬ (w ≤ a ∧ a ≤ w + 5) → ¬ (b ≤ a ∧ a ≤ b + 14) → m' a = m a) ∧ RC h' m' w P b Pl p (s + 1) q.1 q.2 n' ∧ (n' = n ∧ hN h' = hN h ∧ hZ h' = hZ h ∨ n' = 2 * n ∧ n = aK A ∧ hN h' = hN h + 1 ∧ hZ h' = hZ h + n')) Q)) ?_ ?_ ?_ ?_ ?_
  all_goals rw [hcd]
  all_goals rw [show 12 * p + s = p * 12 + s by omega] at eC
  · intro c1 c2
    have hl := v2 (by omega)
    simp (disch := omega) only [bX9_run_28, wp_bind, s9.g4, e4, W'.pl, s5.r5, s9.g3, e3, s5.l5, eN, i_le, wp_f, W'.le, s3.r0, L_12, i_mul, i_add, s3.l0, eC, w_deed, w_lock, L_4, s9.g7, w_has, b01_z]
    rw [wp_f (fun z => z ((hbit _ (by omega)).mpr c2))]
    simp (disch := omega) only [wp_bind, s9.o]
    refine wp_mono (c_takenAs s9 k hw (by omega) c2) ?_
    rintro r rfl
    try simp (disch := omega) only [wp_bind, s9.o, L_1]
    have := tel 1 (hD H (plc H (code % 16))) (by decide) (by decide) (hw.2.1 _ (plc_ok c2).1).2 (by omega) u
    rw [wp_bind] at this
    exact this
  · intro c1 c2
    have hl := v2 (by omega)
    have ek : m (P + 1) (code % 16) = nI (pk Pl (code % 16)) := pc3 _ hl
    have hkd := pw.2.2.2.1 _ hl
    have hk8 := pw.1
    simp (disch := omega) only [bX9_run_28, wp_bind, s9.g4, e4, W'.pl, s5.r5, s9.g3, e3, s5.l5, eN, i_le, wp_f, W'.le, s3.r0, L_12, i_mul, i_add, s3.l0, eC, w_deed, w_lock, L_4, s9.g7, w_has, b01_z]
    rw [wp_t (show ¬ bt (m w 7) (code % 16) = true from fun z => c2 ((hbit _ (by omega)).mp z))]
    simp (disch := omega) only [jX9_run_115, L_4, i_le, wp_f, wp_bind, s9.o]
    refine wp_mono (c_takeUp (Pl := Pl) W' L' lw hA (p := p) (s := s) (kd := pk Pl (code % 16)) (so := pS Pl p) e3 e4 (by omega) (by omega) c1 (by omega) ek e5 hcx eS hso k hw (by omega) c2 rfl rfl rfl) ?_
    rintro r ⟨h1, m1, n1, rfl, X1, f1, g1, LX1, k1, room⟩
    have e41 : m1 w 4 = nI s := by rw [g1 4 (by decide) (by decide)]; exact e4
    rw [w_177 (s9.x X1.1) e41, lq_l]
    exact fin h1 m1 n1 _ _ X1 f1 g1 (by omega) take_S LX1 k1 room
  · intro c1 c2
    have hl := v2 (by omega)
    simp (disch := omega) only [bX9_run_28, wp_bind, s9.g4, e4, W'.pl, s5.r5, s9.g3, e3, s5.l5, eN, i_le, wp_f, W'.le, s3.r0, L_12, i_mul, i_add, s3.l0, eC, w_deed, w_lock, L_4, wp_t]
    simp (disch := omega) only [jX9_run_115, L_4, i_le, wp_t, i_eq, wp_bind, s9.g7, w_has, b01_z]
    rw [wp_f (fun z => z ((hbit _ (by omega)).mpr c2))]
    simp (disch := omega) only [jX9_run_171, fX9_follow, wp_bind, s9.o, w_deed, w_lock, L_4, i_le, wp_t, i_eq]
    refine wp_mono (c_letGo s9 k hw (l := code % 16) (by omega)) ?_
    rintro r ⟨m1, rfl, f1, g1, k1⟩
    simp only [jX9_follow_66, wp_some]
    have e41 : m1 w 4 = nI s := by rw [g1 4 (by decide) (by decide)]; exact e4
    rw [w_177 s9 e41, lq_l]
    refine fin h m1 n A _ (XC.rfl' b h) (fun a h1 h2 h3 => f1 a (by omega) (by omega) (by omega)) g1 (by omega) rfl (L'.congr (fun a h1 h2 => f1 a (by omega) (by omega) (by omega))) ?_ (Or.inl ⟨rfl, rfl, rfl⟩)
    have : without H (code % 16) = drop1 H (plc H (code % 16)) := ci_t c2
    rw [← this]; exact k1
  · intro c1 c2
    have hl := v2 (by omega)
    have ek : m (P + 1) (code % 16) = nI (pk Pl (code % 16)) := pc3 _ hl
    have hkd := pw.2.2.2.1 _ hl
    have hk8 := pw.1
    simp (disch := omega) only [bX9_run_28, wp_bind, s9.g4, e4, W'.pl, s5.r5, s9.g3, e3, s5.l5, eN, i_le, wp_f, W'.le, s3.r0, L_12, i_mul, i_add, s3.l0, eC, w_deed, w_lock, L_4, wp_t]
    simp (disch := omega) only [jX9_run_115, L_4, i_le, wp_t, i_eq, wp_bind, s9.g7, w_has, b01_z]
    rw [wp_t (show ¬ bt (m w 7) (code % 16) = true from fun z => c2 ((hbit _ (by omega)).mp z))]
    simp (disch := omega) only [wp_bind, W'.pl, s5.r3, s5.l3, ek, s9.o, L_8, L_2, i_mul]
    have := tel 8 (2 * pk Pl (code % 16)) (by decide) (by decide) (by omega) (by omega) u
    rw [wp_bind] at this
    exact this
  · intro c1
    simp (disch := omega) only [bX9_run_28, wp_bind, s9.g4, e4, W'.pl, s5.r5, s9.g3, e3, s5.l5, eN, i_le, wp_f, W'.le, s3.r0, L_12, i_mul, i_add, s3.l0, eC, w_deed, w_lock, L_4, wp_t]
    simp (disch := omega) only [jX9_run_115, L_4, i_le, wp_t, wp_f, i_eq, wp_bind]
    simp (disch := omega) only [jX9_run_171, wp_bind, s9.o]
    simp (disch := omega) only [fX9_follow, wp_bind, w_deed, w_lock, L_4, i_le, wp_t, wp_f, i_eq, W'.pl, s9.g3, e3, s9.g5, e5, s5.r4, s5.l4, eS, w_turn hcx, s9.p5, jX9_follow_66, wp_some]
    have e41 : up m w 5 (nI (cx1 (cx (pS Pl p) (fun i => aS A (12 * p + i)) s) (pS Pl p) (code / 16))) w 4 = nI s := by rw [up_a, if_neg (by decide)]; exact e4
    rw [w_177 s9 e41, lq_l]
    refine ⟨h, _, n, rfl, XC.rfl' b h, fun a h1 h2 h3 => by rw [up_r (by omega), up_r (by omega)], ⟨W', ?_, ?_, up_at, ?_, ?_, ?_⟩, Or.inl ⟨rfl, rfl, rfl⟩⟩
    · exact pc'.congr (XX.rfl' h) (fun a h1 h2 => by rw [up_r (by omega), up_r (by omega)])
    · rw [up_a, if_neg (by decide), up_a, if_neg (by decide)]; exact e3
    · rw [up_a, if_neg (by decide), up_at]
      show _ = nI (cx1 _ _ (aS A (12 * p + s) / 16))
      rw [hcd]
    · exact k.congr (by rw [up_a, if_neg (by decide), up_a, if_neg (by decide)]) (by rw [up_a, if_neg (by decide), up_a, if_neg (by decide)]) (by rw [up_r (by omega), up_r (by omega)]) (by rw [up_r (by omega), up_r (by omega)])
    · exact L'.congr (fun a h1 h2 => by rw [up_r (by omega), up_r (by omega)])
end CS

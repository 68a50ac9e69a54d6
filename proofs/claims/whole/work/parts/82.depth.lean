/-! a program followed, telling nothing: how deep it goes; both sides -/
section DEP
variable {h h' : Hp} {m m' : Mem} {g g' : GS} {own : Nat → Nat} {ad : Nat → Option Nat} {Pl : PD} {A : LA} {H : HD} {w P p s : Nat}
theorem w_nodeOf2 (s9 : Sh9 h w) (q1 : hR h w 1 = some P) (s5 : Sh5 h P) {d l x : Nat} (ek : m (P + 1) l = nI x) (hl : l < 10) (hd : d < 2 ^ 31) {Q : Int32 → Prop} : wp (fX9_nodeOf (wI h m) w (nI l) (nI d)) Q = Q (nI (2 * x + (if d = 1 then 1 else 0))) := by
  unfold fX9_nodeOf jX9_nodeOf_21
  rw [wp_bind, s9.q1, q1, wp_some, wp_bind, s5.r3, wp_bind, s5.l3 hl, ek, L_2, i_mul]
  by_cases z : d = 1
  · rw [wp_t (by rw [z]; rfl), if_pos z, wp_some, L_1, i_add]
  · rw [wp_f (by rw [L_1, i_eq hd (by decide)]; exact z), if_neg z, wp_some, z_add0, Nat.add_zero]
theorem c_holdH (W : Sh9 h w) (k : WKc m w H) (hw : HW H) {l : Nat} {x : Int32} (hl : l < 10) (hn : isH H l) : wp (fX9_hold (wI h m) w (nI l) x) (fun r => r = wI h m) := by
  obtain ⟨k1, k2, k3⟩ := k
  have hb : bt (m w 7) l = true := (k3 l (by omega)).mpr hn
  have h10 := hw.1
  unfold fX9_hold jX9_hold_62
  rw [wp_bind, W.g6, k1, L_10]
  by_cases z : 10 ≤ hK H
  · rw [wp_t (nI_le z (by omega)), wp_some]
  · rw [wp_f (fun z' => z ((nI_leI (by omega) (by omega)).mp z')), wp_bind, W.g7, wp_bind, w_has (by omega), b01_t hb, wp_f (by decide), wp_some]
theorem step_H : (stepA Pl p s (A, H)).2 = if aS A (12 * p + s) / 16 < 4 then ci (isH H (aS A (12 * p + s) % 16)) H (push H (aS A (12 * p + s) % 16) (nodeOf Pl (aS A (12 * p + s) / 16) (aS A (12 * p + s) % 16))) else if aS A (12 * p + s) / 16 = 4 then without H (aS A (12 * p + s) % 16) else H := by
  refine step_cases (fun r => r.2 = if aS A (12 * p + s) / 16 < 4 then ci (isH H (aS A (12 * p + s) % 16)) H (push H (aS A (12 * p + s) % 16) (nodeOf Pl (aS A (12 * p + s) / 16) (aS A (12 * p + s) % 16))) else if aS A (12 * p + s) / 16 = 4 then without H (aS A (12 * p + s) % 16) else H) (fun c1 c2 => ?_) (fun c1 c2 => ?_) (fun c1 c2 => ?_) (fun c1 c2 => ?_) (fun c1 => ?_)
  · rw [if_pos c1, ci_t c2]
  · rw [if_pos c1, ci_f c2]
  · rw [if_neg (by omega), if_pos c1]; unfold without; rw [ci_t c2]
  · rw [if_neg (by omega), if_pos c1]; unfold without; rw [ci_f c2]
  · rw [if_neg (by omega), if_neg (by omega)]
theorem c_follow (s9 : Sh9 h w) (q1 : hR h w 1 = some P) (pc : PC (wI h m) P Pl) (pw : PW Pl) (hp : p < pP Pl) (hs : s < pN Pl p) (sw : SW Pl (aS A)) (c160 : aS A (12 * p + s) < 160) (e3 : m w 3 = nI p) {c : Nat} (e5 : m w 5 = nI c) (hc : c < 8 ∧ c % 2 = 0) (k : WKc m w H) (hw : HW H) : wp (fX9_follow (wI h m) w (nI (aS A (12 * p + s)))) (fun r => ∃ m', r = wI h m' ∧ (∀ a, a ≠ w → a ≠ w + 4 → a ≠ w + 5 → m' a = m a) ∧ m' w 3 = nI p ∧ m' w 5 = nI (cx1 c (pS Pl p) (aS A (12 * p + s) / 16)) ∧ WKc m' w (stepA Pl p s (A, H)).2) := by
  have s5 : Sh5 h P := pc.1
  have h12 := (pw.2.2.2.2 p hp).2.2
  have hso := (pw.2.2.2.2 p hp).1
  have h6 := pw.2.2.1
  have h10 := pw.2.1
  obtain ⟨v1, v2, v3⟩ := sw _ (pV_of pw hp hs)
  have eS : m (P + 2) p = nI (pS Pl p) := (pc.2.2.2.2.2 p hp).1
  unfold fX9_follow jX9_follow_66
  rw [wp_bind, w_deed (by omega), wp_bind, w_lock (by omega), L_4]
  by_cases c4 : 4 ≤ aS A (12 * p + s) / 16
  · rw [wp_t (nI_le c4 (by omega))]
    by_cases e4 : aS A (12 * p + s) / 16 = 4
    · have hl := v2 (by omega)
      rw [wp_t (by rw [e4]), wp_bind, s9.o, wp_bind]
      refine wp_mono (c_letGo s9 k hw (show aS A (12 * p + s) % 16 < 10 by omega)) ?_
      rintro r ⟨m', rfl, f1, f2, k'⟩
      rw [wp_some]
      refine ⟨m', rfl, f1, by rw [f2 3 (by decide) (by decide)]; exact e3, by rw [f2 5 (by decide) (by decide), e5, cx1_id (by omega)], ?_⟩
      rw [step_H, if_neg (by omega), if_pos e4]; exact k'
    · rw [wp_f (by rw [i_eq (by omega) (by decide)]; exact e4), wp_bind, s9.g5, e5, wp_bind, s9.q1, q1, wp_some, wp_bind, s5.r4, wp_bind, s9.g3, e3, wp_bind, s5.l4 (by omega), eS, wp_bind, w_turn hc (by omega) (by omega), wp_bind, s9.p5, wp_some]
      refine ⟨_, rfl, fun a h1 _ _ => up_r h1, by rw [up_a, if_neg (by decide)]; exact e3, by rw [up_at], ?_⟩
      rw [step_H, if_neg (by omega), if_neg e4]
      exact k.congr (by rw [up_a, if_neg (by decide)]) (by rw [up_a, if_neg (by decide)]) (up_r (by omega)) (up_r (by omega))
  · have hl := v2 (by omega)
    have ek : m (P + 1) (aS A (12 * p + s) % 16) = nI (pk Pl (aS A (12 * p + s) % 16)) := pc.2.2.2.2.1 _ hl
    rw [wp_f (fun z => c4 ((nI_leI (by omega) (by omega)).mp z)), wp_bind, s9.o, wp_bind, w_nodeOf2 s9 q1 s5 ek (by omega) (by omega), wp_bind, s9.o, wp_bind]
    by_cases ih : isH H (aS A (12 * p + s) % 16)
    · refine wp_mono (c_holdH s9 k hw (by omega) ih) ?_
      rintro r rfl
      rw [wp_some]
      exact ⟨m, rfl, fun _ _ _ _ => rfl, e3, by rw [e5, cx1_id (by omega)], by rw [step_H, if_pos (by omega), ci_t ih]; exact k⟩
    · refine wp_mono (c_hold s9 k hw (by omega) ih) ?_
      rintro r ⟨m', rfl, f1, f2, k'⟩
      rw [wp_some]
      refine ⟨m', rfl, f1, by rw [f2 3 (by decide) (by decide)]; exact e3, by rw [f2 5 (by decide) (by decide), e5, cx1_id (by omega)], ?_⟩
      rw [step_H, if_pos (by omega), ci_f ih]; exact k'
theorem c_wbegin (s9 : Sh9 h w) (pc : PC (wI h m) P Pl) (hwP : P + 4 < w) (pw : PW Pl) (hp : p < pP Pl) : wp (fX9_begin (wI h m) w P (nI p)) (fun r => ∃ m', r = wI (sR h w 1 (some P)) m' ∧ (∀ a, a ≠ w → m' a = m a) ∧ m' w 3 = nI p ∧ m' w 5 = nI (cx0 (pS Pl p)) ∧ WKc m' w (0, fun _ => 0, fun _ => 0)) := by
  have s5 : Sh5 h P := pc.1
  have h6 := pw.2.2.1
  have hso := (pw.2.2.2.2 p hp).1
  have x1 : XX h (sR h w 1 (some P)) := XX.sR (by intro c hc; rw [s9.2.1] at hc; cases hc; rfl)
  have s91 : Sh9 (sR h w 1 (some P)) w := s9.x x1
  have s51 : Sh5 (sR h w 1 (some P)) P := s5.x x1
  have r1 : hR (sR h w 1 (some P)) w 1 = some P := by rw [hR_s, if_pos ⟨rfl, rfl⟩]
  have q1 : ∀ {m' : Mem} {Q : Nat → Prop}, wp (gR (wI (sR h w 1 (some P)) m') 9 w 1) Q = Q P := fun {m' Q} => by rw [s91.q1, r1, wp_some]
  have eS : m (P + 2) p = nI (pS Pl p) := (pc.2.2.2.2.2 p hp).1
  have d1 : ∀ {Q : Hp → Prop}, wp (pR (wI h m) 9 w 1 P) Q = Q (wI (sR h w 1 (some P)) m) := fun {Q} => s9.d1
  simp (disch := omega) only [fX9_begin, wp_bind, d1, s91.p3, q1, s51.r4, s91.g3, up_at, s51.l4, up_r, eS, w_ctx, s91.p5, s91.p6, s91.p7, wp_some]
  refine ⟨_, rfl, fun a ha => by rw [up_r ha, up_r ha, up_r ha, up_r ha], ?_, ?_, ⟨?_, fun i hi => absurd hi (Nat.not_lt_zero _), fun l hl => ?_⟩⟩
  · rw [up_a, if_neg (by decide), up_a, if_neg (by decide), up_a, if_neg (by decide), up_at]
  · rw [up_a, if_neg (by decide), up_a, if_neg (by decide), up_at]
  · rw [up_a, if_neg (by decide), up_at]; rfl
  · rw [up_at, b_0]
    constructor
    · intro z; cases z
    · rintro ⟨i, hi, _⟩; exact absurd hi (Nat.not_lt_zero _)
/-- the most that is held, where first, and how many steps are shut -/
noncomputable def dpt (P : PD) (p : Nat) (A : LA) : Nat → Nat × Option Nat × Nat
  | 0 => (0, none, 0)
  | i + 1 => if (dpt P p A i).1 < hK (stepsA P p A (i + 1)).2 then (hK (stepsA P p A (i + 1)).2, some i, (dpt P p A i).2.2 + (if cx (pS P p) (fun j => aS A (12 * p + j)) i &&& 4 = 0 then 1 else 0)) else ((dpt P p A i).1, (dpt P p A i).2.1, (dpt P p A i).2.2 + (if cx (pS P p) (fun j => aS A (12 * p + j)) i &&& 4 = 0 then 1 else 0))
theorem dpt_le : ∀ i, (∀ j, j ≤ i → hK (stepsA Pl p A j).2 ≤ 10) → (dpt Pl p A i).1 ≤ 10 ∧ (dpt Pl p A i).2.2 ≤ i
  | 0, _ => ⟨Nat.zero_le _, Nat.zero_le _⟩
  | i + 1, hk => by
    obtain ⟨q1, q2⟩ := dpt_le i (fun j hj => hk j (by omega))
    have q3 := hk (i + 1) (Nat.le_refl _)
    have q4 : (if cx (pS Pl p) (fun j => aS A (12 * p + j)) i &&& 4 = 0 then 1 else 0) ≤ 1 := by split <;> omega
    rw [dpt]
    split
    · exact ⟨q3, by show _ + _ ≤ _; omega⟩
    · exact ⟨q1, by show _ + _ ≤ _; omega⟩
theorem c_depL {q : Nat} {v4 : Int32} (s9 : Sh9 h w) (q1 : hR h w 1 = some P) (pc : PC (wI h m) P Pl) (hwP : P + 4 < w) (pw : PW Pl) (hp : p < pP Pl) (sw : SW Pl (aS A)) (lw : LW A) (hA : aK A + 12 ≤ 4000) (e3 : m w 3 = nI p) (e5 : m w 5 = nI (cx0 (pS Pl p))) (k : WKc m w (0, fun _ => 0, fun _ => 0)) (hq : q < hN h) (tq : hS h q = .inr (.int, 72)) (nq : q ≠ w ∧ q ≠ w + 4 ∧ q ≠ w + 5) (hS : ∀ j, j < 72 → m q j = nI (aS A j)) : wp (lp (bX9_depthOf_18 w q v4) FU (0, (-1 : Int32), 0, 0, wI h m)) (fun r => ∃ m', r = (nI (dpt Pl p A (pN Pl p)).1, bI (dpt Pl p A (pN Pl p)).2.1, nI (dpt Pl p A (pN Pl p)).2.2, wI h m') ∧ ∀ a, a ≠ w → a ≠ w + 4 → a ≠ w + 5 → m' a = m a) := by
  have h12 := (pw.2.2.2.2 p hp).2.2
  have hso := (pw.2.2.2.2 p hp).1
  have h6 := pw.2.2.1
  have s5 : Sh5 h P := pc.1
  have w10 : ∀ i, i ≤ pN Pl p → hK (stepsA Pl p A i).2 ≤ 10 := fun i hi => (stepsA_W pw hp sw lw hA i hi).2.1.1
  refine wp_for (κ := Mem) (fun i c => (nI (dpt Pl p A i).1, bI (dpt Pl p A i).2.1, nI (dpt Pl p A i).2.2, nI i, wI h c)) (pN Pl p) (fun i c => (∀ a, a ≠ w → a ≠ w + 4 → a ≠ w + 5 → c a = m a) ∧ c w 3 = nI p ∧ c w 5 = nI (cx (pS Pl p) (fun j => aS A (12 * p + j)) i) ∧ WKc c w (stepsA Pl p A i).2) (fun i c hi HH => ?_) (fun c HH => ?_) 0 m (Nat.zero_le _) ⟨fun _ _ _ _ => rfl, e3, e5, k⟩ (by omega)
  all_goals
    obtain ⟨f2, g3, g5, kc⟩ := HH
    have pc2 : PC (wI h c) P Pl := PC.congr (h := h) (m := m) pc (XX.rfl' h) (fun a z1 z2 => f2 a (by omega) (by omega) (by omega))
    have eN : c (P + 3) p = nI (pN Pl p) := (pc2.2.2.2.2.2 p hp).2
    simp only [bX9_depthOf_18]
    rw [wp_bind, s9.q1, q1, wp_some, wp_bind, s5.r5, wp_bind, s9.g3, g3, wp_bind, s5.l5 (by omega), eN]
  · obtain ⟨a1, a2, a3, a4, a5, a6⟩ := stepsA_W pw hp sw lw hA i (by omega)
    obtain ⟨d1, d2⟩ := dpt_le (Pl := Pl) (p := p) (A := A) i (fun j hj => w10 j (by omega))
    have c8 := cx_8 (pS Pl p) (fun j => aS A (12 * p + j)) i
    have key : ∀ t, t = (if cx (pS Pl p) (fun j => aS A (12 * p + j)) i &&& 4 = 0 then 1 else 0) → wp (jX9_depthOf_51 w q v4 (nI (dpt Pl p A i).1) (bI (dpt Pl p A i).2.1) (nI i) (nI t) (nI (dpt Pl p A i).2.2) (wI h c)) (lq (fun s' => ∃ c', s' = (nI (dpt Pl p A (i + 1)).1, bI (dpt Pl p A (i + 1)).2.1, nI (dpt Pl p A (i + 1)).2.2, nI (i + 1), wI h c') ∧ (∀ a, a ≠ w → a ≠ w + 4 → a ≠ w + 5 → c' a = m a) ∧ c' w 3 = nI p ∧ c' w 5 = nI (cx (pS Pl p) (fun j => aS A (12 * p + j)) (i + 1)) ∧ WKc c' w (stepsA Pl p A (i + 1)).2) (fun r => ∃ m', r = (nI (dpt Pl p A (pN Pl p)).1, bI (dpt Pl p A (pN Pl p)).2.1, nI (dpt Pl p A (pN Pl p)).2.2, wI h m') ∧ ∀ a, a ≠ w → a ≠ w + 4 → a ≠ w + 5 → m' a = m a)) := by
      intro t ht
      have ei : nI p * 12 + nI i = nI (12 * p + i) := by rw [L_12, i_mul, i_add, Nat.mul_comm p 12]
      have e1 : nI i + 1 = nI (i + 1) := i_add _ 1
      have eq : c q (12 * p + i) = nI (aS A (12 * p + i)) := by rw [f2 q nq.1 nq.2.1 nq.2.2]; exact hS _ (by omega)
      simp only [jX9_depthOf_51]
      rw [wp_bind, wp_some, i_add, wp_bind, s9.g3, g3, ei, wp_bind, x_lI hq tq (by omega) (by decide), eq, wp_bind, s9.o, wp_bind]
      have fo := c_follow (A := (stepsA Pl p A i).1) (H := (stepsA Pl p A i).2) (s := i) s9 q1 pc2 pw hp hi (by rw [a3]; exact sw) (by rw [a3]; exact lw.2.2.2.2.2 _ (by omega)) g3 g5 c8 kc a2
      rw [a3] at fo
      refine wp_mono fo ?_
      rintro r ⟨m3, rfl, f3, g33, g35, k3⟩
      have k6 : m3 w 6 = nI (hK (stepsA Pl p A (i + 1)).2) := k3.1
      have w11 := w10 (i + 1) (by omega)
      have fin : (∀ a, a ≠ w → a ≠ w + 4 → a ≠ w + 5 → m3 a = m a) ∧ m3 w 3 = nI p ∧ m3 w 5 = nI (cx (pS Pl p) (fun j => aS A (12 * p + j)) (i + 1)) ∧ WKc m3 w (stepsA Pl p A (i + 1)).2 := ⟨fun a z1 z2 z3 => (f3 a z1 z2 z3).trans (f2 a z1 z2 z3), g33, g35, k3⟩
      show wp ((gI (wI h m3) 9 w 6).bind _) _
      rw [wp_bind, s9.g6, k6]
      by_cases hc : (dpt Pl p A i).1 < hK (stepsA Pl p A (i + 1)).2
      · rw [wp_f (fun z => by have := (nI_leI (by omega) (by omega)).mp z; omega), wp_bind]
        show wp (gI (wI h m3) 9 w 6) _
        rw [s9.g6, k6]
        simp only [jX9_depthOf_89]
        rw [wp_bind, wp_some, wp_some, lq_l, e1]
        refine ⟨m3, ?_, fin⟩
        rw [dpt, if_pos hc, ht]
        rfl
      · rw [wp_t (nI_le (by omega) (by omega))]
        simp only [jX9_depthOf_89]
        rw [wp_bind, wp_some, wp_some, lq_l, e1]
        refine ⟨m3, ?_, fin⟩
        rw [dpt, if_neg hc, ht]
    rw [wp_f (fun z => by have := (nI_leI (by omega) (by omega)).mp z; omega), wp_bind, s9.g5, g5, L_4]
    by_cases hz : cx (pS Pl p) (fun j => aS A (12 * p + j)) i &&& 4 = 0
    · rw [wp_t ((nzi (by omega)).mpr hz)]
      exact key 1 (by rw [if_pos hz])
    · rw [wp_f (fun z => hz ((nzi (by omega)).mp z))]
      exact key 0 (by rw [if_neg hz])
  · rw [wp_t (nI_le (Nat.le_refl _) (by omega)), wp_some, lq_r]
    exact ⟨c, rfl, f2⟩
/-- a step of the reference, and what follows -/
theorem r_stepK {β : Type} {f : Mem → Option β} {Q : β → Prop} (F : RF m Pl A H) (pw : PW Pl) (hp : p < pP Pl) (hs : s < pN Pl p) (sw : SW Pl (aS A)) (lw : LW A) (hw : HW H) (hA : aK A < 4000) (HH : ∀ m', fr0 m m' → RF m' Pl (stepA Pl p s (A, H)).1 (stepA Pl p s (A, H)).2 → wp (f m') Q) : wp ((gX12_opOf m (nI p) (nI s)).bind fun x => if (4 : Int32) ≤ x then (gX12_opOf m (nI p) (nI s)).bind fun y => if y = (4 : Int32) then (gX12_doDrop m (nI p) (nI s)).bind f else f m else (gX12_doTake m (nI p) (nI s)).bind f) Q := by
  have h12 := (pw.2.2.2.2 p hp).2.2
  have h6 : p < 6 := Nat.lt_of_lt_of_le hp pw.2.2.1
  obtain ⟨v1, v2, v3⟩ := sw _ (pV_of pw hp hs)
  have F' := F
  obtain ⟨L, f0, k⟩ := F
  have st := L.2.2.2.2.2 _ (pV_of pw hp hs)
  have e : ∀ {Q : Int32 → Prop}, wp (gX12_opOf m (nI p) (nI s)) Q = Q (nI (aS A (12 * p + s) / 16)) := fun {Q} => w_opOf h6 (by omega) st.1
  rw [wp_bind, e, L_4]
  by_cases c1 : 4 ≤ aS A (12 * p + s) / 16
  · rw [wp_t (nI_le c1 (by omega)), wp_bind, e]
    by_cases c2 : aS A (12 * p + s) / 16 = 4
    · rw [wp_t (by rw [c2]), wp_bind]
      exact wp_mono (r_doDrop F' pw hp hs sw lw hw c2) (fun m' q => HH m' q.1 q.2)
    · rw [wp_f (by rw [i_eq (by omega) (by decide)]; exact c2)]
      exact HH m (fr0.rfl' m) (step_cases (fun r => RF m Pl r.1 r.2) (fun z _ => by omega) (fun z _ => by omega) (fun z _ => by omega) (fun z _ => by omega) (fun _ => F'))
  · rw [wp_f (fun z => c1 ((nI_leI (by omega) (by omega)).mp z)), wp_bind]
    exact wp_mono (r_doTake F' pw hp hs sw lw hw hA (by omega)) (fun m' q => HH m' q.1 q.2)
theorem r_depL {v2 : Int32} (L : LF (pV Pl) (m 1) A) (f : PF m Pl) (k : WKr m (0, fun _ => 0, fun _ => 0)) (pw : PW Pl) (hp : p < pP Pl) (sw : SW Pl (aS A)) (lw : LW A) (hA : aK A + 12 ≤ 4000) : wp (lp (gbX12_depth_39 (nI p) v2) FU (0, (-1 : Int32), 0, 0, m)) (fun r => ∃ m', r = (nI (dpt Pl p A (pN Pl p)).1, bI (dpt Pl p A (pN Pl p)).2.1, nI (dpt Pl p A (pN Pl p)).2.2, m') ∧ fr0 m m') := by
  have h12 := (pw.2.2.2.2 p hp).2.2
  have h6 := pw.2.2.1
  have w10 : ∀ i, i ≤ pN Pl p → hK (stepsA Pl p A i).2 ≤ 10 := fun i hi => (stepsA_W pw hp sw lw hA i hi).2.1.1
  refine wp_for (κ := Mem) (fun i c => (nI (dpt Pl p A i).1, bI (dpt Pl p A i).2.1, nI (dpt Pl p A i).2.2, nI i, c)) (pN Pl p) (fun i c => fr0 m c ∧ RF c Pl (stepsA Pl p A i).1 (stepsA Pl p A i).2) (fun i c hi HH => ?_) (fun c HH => ?_) 0 m (Nat.zero_le _) ⟨fr0.rfl' m, L, f, k⟩ (by omega)
  · obtain ⟨x, F⟩ := HH
    obtain ⟨a1, a2, a3, a4, a5, a6⟩ := stepsA_W pw hp sw lw hA i (by omega)
    obtain ⟨d1, d2⟩ := dpt_le (Pl := Pl) (p := p) (A := A) i (fun j hj => w10 j (by omega))
    have hop : ∀ k, k < i → c 1 (1541 + (12 * p + k)) = nI ((fun j => aS A (12 * p + j)) k / 16) ∧ (fun j => aS A (12 * p + j)) k / 16 ≤ 8 := fun k hk => by
      have vv := pV_of pw hp (show k < pN Pl p by omega)
      have e := (F.1.2.2.2.2.2 _ vv).1
      rw [a3] at e
      exact ⟨e, (sw _ vv).1⟩
    have key : ∀ t, t = (if cx (pS Pl p) (fun j => aS A (12 * p + j)) i &&& 4 = 0 then 1 else 0) → wp (gjX12_depth_67 (nI p) v2 (nI (dpt Pl p A i).1) (bI (dpt Pl p A i).2.1) (nI i) (nI t) (nI (dpt Pl p A i).2.2) c) (lq (fun s' => ∃ c', s' = (nI (dpt Pl p A (i + 1)).1, bI (dpt Pl p A (i + 1)).2.1, nI (dpt Pl p A (i + 1)).2.2, nI (i + 1), c') ∧ fr0 m c' ∧ RF c' Pl (stepsA Pl p A (i + 1)).1 (stepsA Pl p A (i + 1)).2) (fun r => ∃ m', r = (nI (dpt Pl p A (pN Pl p)).1, bI (dpt Pl p A (pN Pl p)).2.1, nI (dpt Pl p A (pN Pl p)).2.2, m') ∧ fr0 m m')) := by
      intro t ht
      have e1 : nI i + 1 = nI (i + 1) := i_add _ 1
      simp only [gjX12_depth_67]
      rw [wp_bind, wp_some, i_add]
      refine r_stepK (A := (stepsA Pl p A i).1) (H := (stepsA Pl p A i).2) F pw hp hi (by rw [a3]; exact sw) a1 a2 (by omega) (fun m3 x3 F3 => ?_)
      have k6 : m3 0 31 = nI (hK (stepsA Pl p A (i + 1)).2) := F3.2.2.1
      have w11 := w10 (i + 1) (by omega)
      simp only [gjX12_depth_109, gjX12_depth_129]
      rw [k6]
      by_cases hc : (dpt Pl p A i).1 < hK (stepsA Pl p A (i + 1)).2
      · rw [wp_t ((nI_ltI (by omega) (by omega)).mpr hc), wp_bind, wp_some, wp_bind, wp_some, wp_some, lq_l, e1]
        refine ⟨m3, ?_, x.trans x3, F3⟩
        rw [dpt, if_pos hc, ht]
        rfl
      · rw [wp_f (fun z => hc ((nI_ltI (by omega) (by omega)).mp z)), wp_bind, wp_some, wp_some, lq_l, e1]
        refine ⟨m3, ?_, x.trans x3, F3⟩
        rw [dpt, if_neg hc, ht]
    simp only [gbX12_depth_39]
    rw [wp_bind, w_stepsOf F.2.1 pw hp, wp_f (fun z => by have := (nI_leI (by omega) (by omega)).mp z; omega), wp_bind, w_isHard (S := fun j => aS A (12 * p + j)) F.2.1 pw hp (by omega) hop]
    by_cases hz : cx (pS Pl p) (fun j => aS A (12 * p + j)) i &&& 4 = 0
    · rw [b01_n (fun z => z hz), wp_t rfl]
      exact key 1 (by rw [if_pos hz])
    · rw [b01_t hz, wp_f (by decide)]
      exact key 0 (by rw [if_neg hz])
  · obtain ⟨x, F⟩ := HH
    simp only [gbX12_depth_39]
    rw [wp_bind, w_stepsOf F.2.1 pw hp, wp_t (nI_le (Nat.le_refl _) (by omega)), wp_some, lq_r]
    exact ⟨c, rfl, x⟩
/-- the watch's rows changed -/
theorem ic_w (I : IC h g own ad) (hl : sL g ≤ 12) {m' : Mem} {P : Nat} (e : ∀ a, ¬ (38 ≤ a ∧ a ≤ 56) → a ≠ 73 → m' a = hI h a) : IC (wI (sR h 41 1 (some P)) m') g own ad ∧ NF h (wI (sR h 41 1 (some P)) m') own := by
  have o := I.2.1
  have cs := I.1
  have r15 := I.2.2.2.2.2.2.2.2.2.1
  have sl := I.2.2.2.2.2.2.2.2.2.2.1
  have x1 : XX h (wI (sR h 41 1 (some P)) m') := XX.sR (h := h) (a := 41) (k := 1) (v := some P) (by intro c hc; rw [cs.s9.2.1] at hc; cases hc; rfl)
  have rr : ∀ a q, a ≠ 41 → hR (wI (sR h 41 1 (some P)) m') a q = hR h a q := fun a q ha => by
    show hR (sR h 41 1 (some P)) a q = _
    rw [hR_s, if_neg (fun z => ha z.1)]
  have kp : ∀ s, KEEP h (wI (sR h 41 1 (some P)) m') own (1 + s) := by
    intro s a ha ho
    have hna : ¬ (38 ≤ a ∧ a ≤ 56) := fun z => by
      have := o.1 a (by omega) (by omega) (by omega)
      omega
    have hn2 : a ≠ 73 := fun z => by
      have := o.1 a (by omega) (by omega) (by omega)
      omega
    exact ⟨fun j => by rw [wI_I, e a hna hn2], fun _ => rfl, fun q => rr a q (by omega)⟩
  refine ⟨I.go hl x1 o (fun _ _ => rfl) (fun s _ => kp s) ((sl 15 57 (by decide) r15).keep x1 (kp 15)) (fun a ha => ⟨fun h0 j _ => by rw [wI_I, e 0 (by omega) (by omega)], fun h2 j _ => by rw [wI_I, e 2 (by omega) (by omega)], fun _ _ j => by rw [wI_I, e a (by omega) (by omega)]⟩) (fun a q ha => rr a q (by omega)), x1, kp 16, fun a h1 h2 j => by rw [wI_I, e a (by omega) (by omega)], rr 74 8 (by decide), rr 0 3 (by decide)⟩
noncomputable def dV (v : Int32) (d : Nat × Option Nat × Nat) : Int32 := if v = 0 then nI d.1 else if v = 1 then bI d.2.1 else if v = 2 then nI d.2.2 else mI
theorem o_depth (I : IC h g own ad) (J : IR m g) (ok : okG g) (hA : aK (sH g (sA g)) + 12 ≤ 4000) (v u : Int32) : ∃ r h1 m1, fX11_depth h 0 v u = some (r, h1) ∧ gX12_depth m v u = some (r, m1) ∧ AFT h h1 m1 own g := by
  have I' := I
  have J' := J
  have ok' := ok
  obtain ⟨cs, ow, ⟨t1, t2⟩, ⟨f1, f2⟩, ⟨P, hP, p1, p2, pc⟩, ⟨a1, a2⟩, r52, r19, r36, r15, sl, li, bx⟩ := I
  obtain ⟨⟨j1, j2⟩, ⟨j3, j4⟩, jp, ⟨j5, j6⟩, jl, jw, ju, jb, jx⟩ := J
  obtain ⟨o1, pw, o2, o3, o4, o5⟩ := ok
  have pc' : PC (wI h (hI h)) P (sP g) := pc
  have s5 : Sh5 h P := pc.1
  obtain ⟨b, n, hb, L⟩ := li (sA g) o2
  have rb : hR h 19 (sA g) = some b := by rw [r19 _ (by omega)]; exact hb
  have pr : ∀ {Q : Nat → Prop}, wp (fX2_present (wI h (hI h)) 18) Q = Q b := fun {Q} => cs.present a1 (by omega) rb
  have s2 := cs.s2
  have okA0 := o4 (sA g) o2
  have isin : ∀ {Q : Int32 → Prop}, wp (gX12_isIn u 0 2) Q = Q (b01 (inN u 3)) := fun {Q} => w_isInK (K := 2) (by decide)
  refine bo2 (R := fun h1 m1 => AFT h h1 m1 own g) ?_
  show wp (fX11_depth (wI h (hI h)) 0 v u) _
  unfold fX11_depth gX12_depth gjX12_depth_17
  rw [wp_bind, cs.gr p1, wp_bind, s5.o, wp_bind, w_hasProgram pc' pw]
  have h6 := pw.2.2.1
  by_cases hv : inN v (pP (sP g))
  · obtain ⟨p, hp, e⟩ := inN_ex hv
    subst e
    have Sb := sl (sA g) b (by omega) hb
    have b14 := L.1.1
    have n41 := Sb.ne ow (a := 41) (by decide) (by decide) (by decide)
    have n45 := Sb.ne ow (a := 45) (by decide) (by decide) (by decide)
    have n46 := Sb.ne ow (a := 46) (by decide) (by decide) (by decide)
    rw [b01_t hv, wp_f (by decide), wp_bind, cs.gr cs.r9, wp_bind, cs.gr p1, wp_bind, cs.gr cs.r5, wp_bind, s2.o, wp_bind, pr, wp_bind, L.1.r0, wp_bind, cs.s9.o]
    unfold fX9_depthOf
    rw [wp_bind, wp_bind, cs.s9.o, wp_bind]
    refine wp_mono (c_wbegin cs.s9 pc' (by omega) pw hp) ?_
    rintro r ⟨m2, rfl, f2, e3, e5, k2⟩
    have x1 : XX h (sR h 41 1 (some P)) := XX.sR (by intro c hc; rw [cs.s9.2.1] at hc; cases hc; rfl)
    rw [wp_bind]
    refine wp_mono (c_depL (A := sH g (sA g)) (q := b + 1) (v4 := u) (cs.s9.x x1) (by rw [hR_s, if_pos ⟨rfl, rfl⟩]) (PC.congr (h := h) (m := hI h) pc x1 (fun a z1 z2 => f2 a (by omega))) (by omega) pw hp okA0.2 okA0.1 hA e3 e5 k2 (by show b + 1 < hN h; omega) (by show hS h (b + 1) = _; exact L.1.2.2.1.2) (by omega) (fun j hj => by rw [f2 _ (by omega)]; exact L.2.2.2.2.2.1 j hj)) ?_
    rintro r ⟨m3, rfl, f3⟩
    obtain ⟨IC2, NF2⟩ := ic_w (P := P) (m' := m3) I' o3 (fun a z1 z2 => by rw [f3 a (by omega) (by omega) (by omega), f2 a (by omega)])
    have key : ∀ m1, IR m1 g → AFT h (wI (sR h 41 1 (some P)) m3) m1 own g := fun m1 x => ⟨x, ok', own, ad, IC2, NF2, fun _ _ z => z, fun _ z => z, by show hN h ≤ hN h + 20; omega, by show hZ h ≤ hZ h + 10200; omega⟩
    have cl : ∀ {Q : Int32 × Hp → Prop}, Q (dV u (dpt (sP g) p (sH g (sA g)) (pN (sP g) p)), wI (sR h 41 1 (some P)) m3) → wp (if u = 0 then some (nI (dpt (sP g) p (sH g (sA g)) (pN (sP g) p)).1, wI (sR h 41 1 (some P)) m3) else if u = 1 then some (bI (dpt (sP g) p (sH g (sA g)) (pN (sP g) p)).2.1, wI (sR h 41 1 (some P)) m3) else if u = 2 then some (nI (dpt (sP g) p (sH g (sA g)) (pN (sP g) p)).2.2, wI (sR h 41 1 (some P)) m3) else some ((-1 : Int32), wI (sR h 41 1 (some P)) m3)) Q := by
      intro Q hQ
      unfold dV at hQ
      by_cases z0 : u = 0
      · rw [if_pos z0] at hQ; rw [wp_t z0, wp_some]; exact hQ
      · rw [if_neg z0] at hQ; rw [wp_f z0]
        by_cases z1 : u = 1
        · rw [if_pos z1] at hQ; rw [wp_t z1, wp_some]; exact hQ
        · rw [if_neg z1] at hQ; rw [wp_f z1]
          by_cases z2 : u = 2
          · rw [if_pos z2] at hQ; rw [wp_t z2, wp_some]; exact hQ
          · rw [if_neg z2] at hQ; rw [wp_f z2, wp_some]; exact hQ
    refine cl ?_
    rw [wp_some, wp_bind, w_isProgram jp pw, b01_t hv, wp_f (by decide), wp_bind, isin]
    by_cases hu : inN u 3
    · rw [b01_t hu, wp_f (by decide), wp_bind]
      refine wp_mono r_putAside (fun m4 ⟨g4, b4⟩ => ?_)
      rw [wp_bind, wp_some, wp_bind]
      have x5 : fr0 m4 (up m4 0 31 0) := ⟨fun o h0 _ _ _ _ _ => up_r h0, fun j hj => by rw [up_a, if_neg hj]⟩
      have L5 : LF (pV (sP g)) (up m4 0 31 0 1) (sH g (sA g)) := by rw [up_r (by decide), g4 1 (by decide)]; exact jl
      have f5 : PF (up m4 0 31 0) (sP g) := jp.congr (by rw [up_a, if_neg (by decide), g4 0 (by decide)]) (by rw [up_r (by decide), g4 2 (by decide)]) (by rw [up_r (by decide), g4 3 (by decide)]) (by rw [up_r (by decide), g4 4 (by decide)]) (by rw [up_r (by decide), g4 5 (by decide)]) (by rw [up_r (by decide), g4 6 (by decide)]) (by rw [up_r (by decide), g4 7 (by decide)])
      refine wp_mono (r_depL (v2 := u) L5 f5 ⟨up_at, fun i hi => absurd hi (Nat.not_lt_zero _)⟩ pw hp okA0.2 okA0.1 hA) ?_
      rintro r ⟨m6, rfl, x6⟩
      rw [wp_bind]
      refine wp_mono r_bringBack (fun m7 ⟨g7, b7⟩ => ?_)
      have J7 := key m7 (J'.try ok' g4 b4 (x5.trans x6) g7 b7)
      unfold dV gjX12_depth_159
      obtain ⟨t, ht, e⟩ := inN_ex hu
      subst e
      rcases (by omega : t = 0 ∨ t = 1 ∨ t = 2) with rfl | rfl | rfl
      · rw [wp_t (show nI 0 = 0 from rfl), wp_some, if_pos (show nI 0 = 0 from rfl)]; exact ⟨rfl, J7⟩
      · rw [wp_f (show ¬ nI 1 = 0 by decide), wp_t (show nI 1 = 1 from rfl), wp_some, if_neg (show ¬ nI 1 = 0 by decide), if_pos (show nI 1 = 1 from rfl)]; exact ⟨rfl, J7⟩
      · rw [wp_f (show ¬ nI 2 = 0 by decide), wp_f (show ¬ nI 2 = 1 by decide), wp_some, if_neg (show ¬ nI 2 = 0 by decide), if_neg (show ¬ nI 2 = 1 by decide), if_pos (show nI 2 = 2 from rfl)]; exact ⟨rfl, J7⟩
    · rw [b01_n hu, wp_t rfl, wp_some]
      have n0 : ¬ u = 0 := fun e => hu (by rw [e]; decide)
      have n1 : ¬ u = 1 := fun e => hu (by rw [e]; decide)
      have n2 : ¬ u = 2 := fun e => hu (by rw [e]; decide)
      unfold dV
      rw [if_neg n0, if_neg n1, if_neg n2]
      exact ⟨rfl, key m J'⟩
  · rw [b01_n hv, wp_t rfl, wp_some, wp_bind, w_isProgram jp pw, b01_n hv, wp_t rfl, wp_some]
    exact ⟨rfl, AFT.same I' J' ok'⟩
end DEP

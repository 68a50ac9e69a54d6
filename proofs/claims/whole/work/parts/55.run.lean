/-! a run of the class -/
section RU
variable {h : Hp} {m : Mem} {w P b n : Nat} {A : LA} {Pl : PD} {p : Nat}
theorem stepsA_W (pw : PW Pl) (hp : p < pP Pl) (sw : SW Pl (aS A)) (lw : LW A) (hA : aK A + 12 ≤ 4000) : ∀ i, i ≤ pN Pl p → LW (stepsA Pl p A i).1 ∧ HW (stepsA Pl p A i).2 ∧ aS (stepsA Pl p A i).1 = aS A ∧ aR (stepsA Pl p A i).1 = aR A ∧ aK A ≤ aK (stepsA Pl p A i).1 ∧ aK (stepsA Pl p A i).1 ≤ aK A + i := by
  have h12 := (pw.2.2.2.2 p hp).2.2
  intro i
  induction i with
  | zero =>
    intro _
    exact ⟨lw, ⟨Nat.zero_le _, fun i hi => absurd hi (Nat.not_lt_zero _), fun i j hi => absurd hi (Nat.not_lt_zero _)⟩, rfl, rfl, Nat.le_refl _, Nat.le_refl _⟩
  | succ i ih =>
    intro hi
    obtain ⟨a1, a2, a3, a4, a5, a6⟩ := ih (by omega)
    obtain ⟨b1, b2, b3, b4, b5, b6⟩ := stepA_W (A := (stepsA Pl p A i).1) (H := (stepsA Pl p A i).2) (s := i) pw hp (by omega) (by rw [a3]; exact sw) a1 a2 (by omega)
    exact ⟨b1, b2, b3.trans a3, b4.trans a4, Nat.le_trans a5 b5, by show aK (stepA Pl p i ((stepsA Pl p A i).1, (stepsA Pl p A i).2)).1 ≤ _; omega⟩
theorem keptN_W {D : RD} (w : RW D) {s : Nat} {nd : Nat → Nat} (h5 : p < 6) (h6 : s ≤ 12) : ∀ k, (∀ i, i < k → nd i < 16) → RW (keptN D p s nd k) := by
  intro k
  induction k with
  | zero => intro _; exact w
  | succ k ih => intro hn; exact (ih (fun i hi => hn i (by omega))).add (by decide) (by decide) (by decide) (by decide) h5 h6 (fun _ _ => hn k (by omega))
theorem runA_W (pw : PW Pl) (hp : p < pP Pl) (sw : SW Pl (aS A)) (lw : LW A) (hA : aK A + 12 ≤ 4000) : LW (runA Pl p A) ∧ aS (runA Pl p A) = aS A ∧ aK A ≤ aK (runA Pl p A) ∧ aK (runA Pl p A) ≤ aK A + pN Pl p := by
  have h12 := (pw.2.2.2.2 p hp).2.2
  have h6 := pw.2.2.1
  obtain ⟨a1, a2, a3, a4, a5, a6⟩ := stepsA_W pw hp sw lw hA (pN Pl p) (Nat.le_refl _)
  refine ⟨⟨keptN_W a1.1 (by omega) h12 _ (fun i hi => (a2.2.1 i hi).2), a1.2.1, a1.2.2.1, a1.2.2.2.1, ?_, ?_⟩, a3, a5, a6⟩
  · exact a1.2.2.2.2.1
  · exact a1.2.2.2.2.2
/-- what a run changes of the heap -/
def XD (w b : Nat) (h h' : Hp) : Prop := XX h h' ∧ (∀ a k, a < hN h → (a ≠ b ∨ k ≠ 7) → (a ≠ w ∨ (k ≠ 1 ∧ k ≠ 2)) → hR h' a k = hR h a k) ∧ (∀ a, a < hN h → hR h b 7 ≠ some a → ∀ j, hJ h' a j = hJ h a j) ∧ (hR h' b 7 = hR h b 7 ∨ ∃ ρ, hR h' b 7 = some ρ ∧ hN h ≤ ρ)
theorem XD.rfl' (w b : Nat) (h : Hp) : XD w b h h := ⟨XX.rfl' h, fun _ _ _ _ _ => rfl, fun _ _ _ _ => rfl, Or.inl rfl⟩
theorem XD.trans {h1 h2 h3 : Hp} (x : XD w b h1 h2) (y : XD w b h2 h3) : XD w b h1 h3 := by
  obtain ⟨x1, x2, x3, x4⟩ := x
  obtain ⟨y1, y2, y3, y4⟩ := y
  have hle := x1.1
  refine ⟨x1.trans y1, fun a k ha hk hk2 => ?_, fun a ha hr j => ?_, ?_⟩
  · rw [y2 a k (by omega) hk hk2, x2 a k ha hk hk2]
  · rw [y3 a (by omega) ?_ j, x3 a ha hr j]
    rcases x4 with e | ⟨ρ, e, hρ⟩
    · rw [e]; exact hr
    · rw [e]; intro z; cases z; omega
  · rcases y4 with e | ⟨ρ, e, hρ⟩
    · rcases x4 with e2 | ⟨ρ, e2, hρ⟩
      · exact Or.inl (e.trans e2)
      · exact Or.inr ⟨ρ, e.trans e2, hρ⟩
    · exact Or.inr ⟨ρ, e, by omega⟩
theorem XC.D {h' : Hp} (x : XC b h h') : XD w b h h' := ⟨x.1, fun a k ha hk _ => x.2.1 a k ha hk, x.2.2.1, x.2.2.2⟩
theorem hR_s {a k a' k' : Nat} {v : Option Nat} : hR (sR h a k v) a' k' = if a' = a ∧ k' = k then v else hR h a' k' := rfl
theorem XD.begin (s9 : Sh9 h w) (hwb : w ≠ b) : XD w b h (sR (sR h w 2 (some b)) w 1 (some P)) := by
  have d : ∀ k, k = 1 ∨ k = 2 → ∀ c, hS h w = .inl c → dynF c k = true := by
    rintro k hk c hc
    rw [s9.2.1] at hc
    cases hc
    rcases hk with rfl | rfl <;> rfl
  refine ⟨(XX.sR (d 2 (Or.inr rfl))).trans (XX.sR (h := sR h w 2 (some b)) (d 1 (Or.inl rfl))), fun a k ha hk hk2 => ?_, fun _ _ _ _ => rfl, Or.inl ?_⟩
  · rw [hR_s, if_neg (fun z => hk2.elim (fun q => q z.1) (fun q => q.1 z.2)), hR_s, if_neg (fun z => hk2.elim (fun q => q z.1) (fun q => q.2 z.2))]
  · rw [hR_s, if_neg (fun z => hwb z.1.symm), hR_s, if_neg (fun z => hwb z.1.symm)]
theorem c_run (s9 : Sh9 h w) (d1 : P + 4 < w) (d2 : b + 14 < w ∨ w + 5 < b) (d3 : P + 4 < b) (pc : PC (wI h m) P Pl) (L : LX h m b A n) (pw : PW Pl) (hp : p < pP Pl) (sw : SW Pl (aS A)) (lw : LW A) (hA : aK A + 12 ≤ 4000) : wp (fX9_run (wI h m) w P b (nI p)) (fun r => ∃ h' m' n', r = (nI (rC (aD (runA Pl p A))) - nI (rC (aD A)), wI h' m') ∧ XD w b h h' ∧ (∀ a, a < hN h → ¬ (w ≤ a ∧ a ≤ w + 5) → ¬ (b ≤ a ∧ a ≤ b + 14) → m' a = m a) ∧ LX h' m' b (runA Pl p A) n' ∧ (n' = n ∧ hN h' = hN h ∧ hZ h' = hZ h ∨ n' = 2 * n ∧ n ≤ aK (runA Pl p A) ∧ hN h' = hN h + 1 ∧ hZ h' = hZ h + n')) := by
  have h12 := (pw.2.2.2.2 p hp).2.2
  have hso := (pw.2.2.2.2 p hp).1
  have h6 := pw.2.2.1
  have s5 : Sh5 h P := pc.1
  have L' := L
  obtain ⟨s3, L1, L2, L3, L4, L5, L6⟩ := L
  have hkn := L6.2.2.2.2.1
  have h32 := L6.2.2.1.le.1
  have b14 := s3.1
  have P4 := s5.1
  have w5 := s9.1
  have hwb : w ≠ b := by omega
  have xb := XD.begin (P := P) s9 hwb
  generalize hh1 : sR (sR h w 2 (some b)) w 1 (some P) = h1 at xb
  have s91 : Sh9 h1 w := s9.x xb.1
  have s51 : Sh5 h1 P := s5.x xb.1
  have s31 : Sh3 h1 b := s3.x xb.1
  have W1 : WH h1 w P b := by
    refine ⟨s91, ?_, ?_, s51, s31, d1, d2, d3⟩
    · rw [← hh1, hR_s, if_pos ⟨rfl, rfl⟩]
    · rw [← hh1, hR_s, if_neg (by omega), hR_s, if_pos ⟨rfl, rfl⟩]
  have N1 : hN h1 = hN h := by rw [← hh1]; rfl
  have Z1 : hZ h1 = hZ h := by rw [← hh1]; rfl
  have eS : m (P + 2) p = nI (pS Pl p) := (pc.2.2.2.2.2 p hp).1
  have e2 : ∀ {Q : Hp → Prop}, wp (pR (wI h m) 9 w 2 b) Q = Q (wI (sR h w 2 (some b)) m) := fun {Q} => s9.d2
  have s9' : Sh9 (sR h w 2 (some b)) w := s9.x (XX.sR (by intro c hc; rw [s9.2.1] at hc; cases hc; rfl))
  have e1 : ∀ {m' : Mem} {Q : Hp → Prop}, wp (pR (wI (sR h w 2 (some b)) m') 9 w 1 P) Q = Q (wI h1 m') := fun {m' Q} => by rw [s9'.d1, hh1]
  have q0 := L1.1
  simp (disch := omega) only [fX9_run, wp_bind, e2, s9'.o, fX9_begin, e1, s91.p3, W1.pl, s51.r4, s91.g3, up_at, s51.l4, up_r, eS, w_ctx, s91.p5, s91.p6, s91.p7, wp_some, W1.le, s31.r4, s31.s4.g0, q0, s91.p4]
  generalize hm1 : up (up (up (up (up m w 3 (nI p)) w 5 (nI (cx0 (pS Pl p)))) w 6 0) w 7 0) w 4 0 = m1
  have fm : ∀ a, a ≠ w → m1 a = m a := fun a ha => by rw [← hm1, up_r ha, up_r ha, up_r ha, up_r ha, up_r ha]
  have LX1 : LX h1 m1 b A n := by
    refine LX.congr (m := m) ⟨s31, L1, L2, L3, L4, L5, ?_⟩ (fun a g1 g2 => fm a (by omega))
    obtain ⟨c1, c2, c3, c4, c5, ρ, c6, c7, c8, c9⟩ := L6
    refine ⟨c1, c2, c3, c4, c5, ρ, ?_, by omega, by rw [xb.1.2.1 ρ c7]; exact c8, fun i hi => ?_⟩
    · rw [← hh1, hR_s, if_neg (fun z => hwb z.1.symm), hR_s, if_neg (fun z => hwb z.1.symm)]; exact c6
    · rw [← hh1]; exact c9 i hi
  have RC0 : RC h1 m1 w P b Pl p 0 A (0, fun _ => 0, fun _ => 0) n := by
    refine ⟨W1, PC.congr (m := m) pc xb.1 (fun a g1 g2 => fm a (by omega)), ?_, ?_, ?_, ⟨?_, fun i hi => absurd hi (Nat.not_lt_zero _), fun l hl => ?_⟩, LX1⟩
    · rw [← hm1, up_a, if_neg (by decide), up_a, if_neg (by decide), up_a, if_neg (by decide), up_a, if_neg (by decide), up_at]
    · rw [← hm1, up_at]; rfl
    · rw [← hm1, up_a, if_neg (by decide), up_a, if_neg (by decide), up_a, if_neg (by decide), up_at]; rfl
    · rw [← hm1, up_a, if_neg (by decide), up_a, if_neg (by decide), up_at]; rfl
    · rw [← hm1, up_a, if_neg (by decide), up_at, b_0]
      constructor
      · intro z; cases z
      · rintro ⟨i, hi, _⟩; exact absurd hi (Nat.not_lt_zero _)
  refine wp_mono (Q := fun r => ∃ h' m' n', r = wI h' m' ∧ XC b h1 h' ∧ (∀ a, a < hN h1 → ¬ (w ≤ a ∧ a ≤ w + 5) → ¬ (b ≤ a ∧ a ≤ b + 14) → m' a = m1 a) ∧ RC h' m' w P b Pl p (pN Pl p) (stepsA Pl p A (pN Pl p)).1 (stepsA Pl p A (pN Pl p)).2 n' ∧ (n' = n ∧ hN h' = hN h1 ∧ hZ h' = hZ h1 ∨ n' = 2 * n ∧ n ≤ aK (stepsA Pl p A (pN Pl p)).1 ∧ hN h' = hN h1 + 1 ∧ hZ h' = hZ h1 + n')) ?_ ?_
  · refine wp_for (κ := Hp × Mem × Nat) (fun _ c => wI c.1 c.2.1) (pN Pl p) (fun i c => XC b h1 c.1 ∧ (∀ a, a < hN h1 → ¬ (w ≤ a ∧ a ≤ w + 5) → ¬ (b ≤ a ∧ a ≤ b + 14) → c.2.1 a = m1 a) ∧ RC c.1 c.2.1 w P b Pl p i (stepsA Pl p A i).1 (stepsA Pl p A i).2 c.2.2 ∧ (c.2.2 = n ∧ hN c.1 = hN h1 ∧ hZ c.1 = hZ h1 ∨ c.2.2 = 2 * n ∧ n ≤ aK (stepsA Pl p A i).1 ∧ hN c.1 = hN h1 + 1 ∧ hZ c.1 = hZ h1 + c.2.2)) (fun i c hi HH => ?_) (fun c HH => ?_) 0 (h1, m1, n) (Nat.zero_le _) ⟨XC.rfl' b h1, fun _ _ _ _ => rfl, RC0, Or.inl ⟨rfl, rfl, rfl⟩⟩ (by omega)
    · obtain ⟨h2, m2, n2⟩ := c
      obtain ⟨x2, f2, R2, room⟩ := HH
      simp only at x2 f2 R2 room ⊢
      obtain ⟨a1, a2, a3, a4, a5, a6⟩ := stepsA_W pw hp sw lw hA i (by omega)
      refine wp_mono (c_step (Q := fun _ => False) R2 pw hp hi (by rw [a3]; exact sw) a1 a2 (by omega)) ?_
      intro r hr
      cases r with
      | inr e => exact hr.elim
      | inl e =>
        obtain ⟨h3, m3, n3, e, x3, f3, R3, room3⟩ := hr
        have hle := x2.1.1
        refine ⟨(h3, m3, n3), e, x2.trans (by omega) x3, fun a g1 g2 g3 => by show m3 a = _; rw [f3 a (by omega) g2 g3]; exact f2 a g1 g2 g3, R3, ?_⟩
        obtain ⟨_, _, _, _, a5', a6'⟩ := stepsA_W pw hp sw lw hA (i + 1) (by omega)
        have mono : aK (stepsA Pl p A i).1 ≤ aK (stepsA Pl p A (i + 1)).1 := (stepA_W (A := (stepsA Pl p A i).1) (H := (stepsA Pl p A i).2) pw hp hi (by rw [a3]; exact sw) a1 a2 (by omega)).2.2.2.2.1
        simp only
        omega
    · obtain ⟨h2, m2, n2⟩ := c
      obtain ⟨x2, f2, R2, room⟩ := HH
      simp only at x2 f2 R2 room ⊢
      obtain ⟨W2, pc2, e32, e42, e52, k2, LX2⟩ := R2
      have s92 := W2.1
      have s52 := W2.2.2.2.1
      have eN : m2 (P + 3) p = nI (pN Pl p) := (pc2.2.2.2.2.2 p hp).2
      simp (disch := omega) only [bX9_run_28, wp_bind, s92.g4, e42, W2.pl, s52.r5, s92.g3, e32, s52.l5, eN, i_le, wp_t, wp_some, lq_r]
      exact ⟨h2, m2, n2, rfl, x2, f2, ⟨W2, pc2, e32, e42, e52, k2, LX2⟩, room⟩
  · rintro r ⟨h2, m2, n2, rfl, x2, f2, R2, room⟩
    obtain ⟨a1, a2, a3, a4, a5, a6⟩ := stepsA_W pw hp sw lw hA (pN Pl p) (Nat.le_refl _)
    obtain ⟨W2, pc2, e32, e42, e52, k2, LX2⟩ := R2
    have s92 := W2.1
    obtain ⟨s32, L12, L22, L32, L42, L52, L62⟩ := LX2
    generalize hB : stepsA Pl p A (pN Pl p) = B at *
    have hk10 := a2.1
    have b142 := s32.1
    refine wp_mono (Q := fun r => ∃ m', r = wI h2 m' ∧ (∀ a, ¬ (b + 8 ≤ a ∧ a ≤ b + 14) → m' a = m2 a) ∧ RRc m' (b + 8) (keptN (aD B.1) p (pN Pl p) (hD B.2) (hK B.2))) ?_ ?_
    · refine wp_for (κ := Mem) (fun i c => (nI i, wI h2 c)) (hK B.2) (fun i m' => (∀ a, ¬ (b + 8 ≤ a ∧ a ≤ b + 14) → m' a = m2 a) ∧ RRc m' (b + 8) (keptN (aD B.1) p (pN Pl p) (hD B.2) i)) (fun i c hi HH => ?_) (fun c HH => ?_) 0 m2 (Nat.zero_le _) ⟨fun _ _ => rfl, L12⟩ (by omega)
      · obtain ⟨fr, Ri⟩ := HH
        have ew : c w = m2 w := fr w (by omega)
        have e6i : c w 6 = nI (hK B.2) := by rw [ew]; exact k2.1
        have e5i : c (w + 5) i = nI (hD B.2 i) := by rw [fr _ (by omega)]; exact (k2.2.1 i hi).2
        simp (disch := omega) only [bX9_run_193, wp_bind, s92.g6, e6i, i_le, wp_f, s92.r9, s92.l9, e5i, s92.o, L_9]
        refine wp_mono (c_tell W2 Ri (keptN_W a1.1 (by omega) h12 i (fun j hj => (a2.2.1 j (by omega)).2)) (by rw [ew]; exact e32) (by rw [ew]; exact e42) (by decide) (by decide) (a2.2.1 i hi).2) ?_
        rintro r ⟨m3, rfl, f3, R3⟩
        simp only [wp_some, lq_l, L_1, i_add]
        exact ⟨m3, rfl, fun a ha => by rw [f3 a ha]; exact fr a ha, R3⟩
      · obtain ⟨fr, Ri⟩ := HH
        have e6i : c w 6 = nI (hK B.2) := by rw [fr w (by omega)]; exact k2.1
        simp (disch := omega) only [bX9_run_193, wp_bind, s92.g6, e6i, i_le, wp_t, wp_some, lq_r]
        exact ⟨c, rfl, fr, Ri⟩
    · rintro r ⟨m3, rfl, f3, R3⟩
      have ew : m3 w = m2 w := f3 w (by omega)
      have e33 : m3 w 3 = nI p := by rw [ew]; exact e32
      have er : m3 (b + 2) p = aR B.1 p := by rw [f3 _ (by omega)]; exact L42 p (by omega)
      have R30 := R3.1
      simp (disch := omega) only [wp_bind, W2.le, s32.r1, s92.g3, e33, s32.l1, s32.t1, s32.r4, s32.s4.g0, up_r, R30, wp_some, er]
      have hle := x2.1.1
      have eB : runA Pl p A = (keptN (aD B.1) p (pN Pl p) (hD B.2) (hK B.2), aG B.1, aU B.1, sbf (aR B.1) p (aR B.1 p + 1), B.1.2.2.2.2) := by
        unfold runA
        rw [hB]
      refine ⟨h2, up m3 (b + 2) p (aR B.1 p + 1), n2, ?_, xb.trans x2.D, fun a g1 g2 g3 => ?_, ?_, ?_⟩
      · rw [eB]; rfl
      · rw [up_r (by omega), f3 a (by omega), f2 a (by omega) g2 g3, fm a (by omega)]
      · rw [eB]
        refine ⟨s32, R3.congr (fun a g1 g2 => up_r (by omega)), L22.congr (fun a g1 g2 => by rw [up_r (by omega), f3 a (by omega)]), ?_, fun q hq => ?_, ?_, ?_⟩
        · rw [up_r (by omega), f3 _ (by omega)]; exact L32
        · rw [up_a]
          show _ = sbf (aR B.1) p (aR B.1 p + 1) q
          by_cases z : q = p
          · rw [if_pos z, z, sbf_at]
          · rw [if_neg z, sbf_ne z, f3 _ (by omega)]; exact L42 q hq
        · rw [up_r (by omega), f3 _ (by omega)]; exact L52
        · obtain ⟨c1, c2, c3⟩ := L62
          have eb : up m3 (b + 2) p (aR B.1 p + 1) b = m2 b := by rw [up_r (by omega), f3 _ (by omega)]
          exact ⟨by rw [eb]; exact c1, by rw [eb]; exact c2, c3⟩
      · have eK : aK (runA Pl p A) = aK B.1 := by rw [eB]; rfl
        rw [eK]
        omega
end RU

/-! every program is run once, from nothing: both sides -/
section EVR
variable {h h' : Hp} {m m' : Mem} {g g' : GS} {own : Nat → Nat} {ad : Nat → Option Nat} {Pl : PD} {S : Nat → Nat}
noncomputable def runsA (P : PD) (S : Nat → Nat) : Nat → LA
  | 0 => noA S
  | p + 1 => runA P p (runsA P S p)
theorem LW_noA (s : ∀ j, j < 72 → S j < 160) : LW (noA S) := ⟨⟨Nat.zero_le _, fun r hr => absurd hr (Nat.not_lt_zero _)⟩, (fun x y pl hp => nomatch (show none = some pl from hp)), (fun _ _ => Nat.zero_lt_succ _), fun i hi => absurd hi (Nat.not_lt_zero _), Nat.zero_le _, s⟩
theorem runsA_W (pw : PW Pl) (sw : SW Pl S) (s : ∀ j, j < 72 → S j < 160) : ∀ i, i ≤ pP Pl → LW (runsA Pl S i) ∧ aS (runsA Pl S i) = S ∧ aK (runsA Pl S i) ≤ 12 * i
  | 0, _ => ⟨LW_noA s, rfl, Nat.le_refl _⟩
  | i + 1, hi => by
    obtain ⟨w1, w2, w3⟩ := runsA_W pw sw s i (by omega)
    have h6 := pw.2.2.1
    obtain ⟨q1, q2, q3, q4⟩ := runA_W pw (show i < pP Pl by omega) (by rw [w2]; exact sw) w1 (by omega)
    have n12 := (pw.2.2.2.2 i (by omega)).2.2
    exact ⟨q1, q2.trans w2, by show aK (runA Pl i (runsA Pl S i)) ≤ _; omega⟩
/-- how the trial's rows grew -/
def GRW (n : Nat) (h : Hp) (n' : Nat) (h' : Hp) : Prop := n ≤ n' ∧ 32 * hN h' + n ≤ 32 * hN h + n' ∧ hZ h' + 2 * n ≤ hZ h + 2 * n' ∧ (n' ≤ 128 ∨ n' = n)
theorem GRW.rfl' (n : Nat) (h : Hp) : GRW n h n h := ⟨Nat.le_refl _, Nat.le_refl _, Nat.le_refl _, Or.inr rfl⟩
theorem GRW.trans {n1 n2 n3 : Nat} {h1 h2 h3 : Hp} (x : GRW n1 h1 n2 h2) (y : GRW n2 h2 n3 h3) : GRW n1 h1 n3 h3 := by
  obtain ⟨x1, x2, x3, x4⟩ := x
  obtain ⟨y1, y2, y3, y4⟩ := y
  exact ⟨by omega, by omega, by omega, by omega⟩
theorem GRW.room {n n' : Nat} (x : GRW n h n' h') (h32 : 32 ≤ n) : hN h' ≤ hN h + 3 ∧ hZ h' ≤ hZ h + 192 := by
  obtain ⟨x1, x2, x3, x4⟩ := x
  exact ⟨by omega, by omega⟩
theorem c_every {P q n : Nat} (cs : CS h) (s3 : Sh3 h 57) (hP : P = 8 ∨ P = 13) (p1 : hR h 0 3 = some P) (pc : PC (wI h m) P Pl) (pw : PW Pl) (C : CE h 57 n) (hq : q < hN h) (tq : hS h q = .inr (.int, 72)) (hqb : ¬ (57 ≤ q ∧ q ≤ 71)) (hS : ∀ j, j < 72 → m q j = nI (S j)) (sw : SW Pl S) (s : ∀ j, j < 72 → S j < 160) : wp (fX11_runEveryone (wI h m) 0 q) (fun r => ∃ h' m' n', r = (65, wI h' m') ∧ XD 41 57 h h' ∧ (∀ a, a < hN h → ¬ (41 ≤ a ∧ a ≤ 46) → ¬ (57 ≤ a ∧ a ≤ 71) → m' a = m a) ∧ LX h' m' 57 (runsA Pl S (pP Pl)) n' ∧ GRW n h n' h') := by
  have h120 := cs.1
  have h6 := pw.2.2.1
  unfold fX11_runEveryone
  rw [wp_bind, cs.gr cs.r11, wp_bind, s3.o, wp_bind]
  refine wp_mono (c_begin s3 C hq tq hqb hS) ?_
  rintro r ⟨m1, rfl, fr1, L1⟩
  rw [wp_bind]
  refine wp_mono (Q := fun r => ∃ h' m' n', r = wI h' m' ∧ XD 41 57 h h' ∧ (∀ a, a < hN h → ¬ (41 ≤ a ∧ a ≤ 46) → ¬ (57 ≤ a ∧ a ≤ 71) → m' a = m a) ∧ LX h' m' 57 (runsA Pl S (pP Pl)) n' ∧ GRW n h n' h') ?_ ?_
  · refine wp_for (κ := Hp × Mem × Nat) (fun i c => (nI i, wI c.1 c.2.1)) (pP Pl) (fun i c => XD 41 57 h c.1 ∧ (∀ a, a < hN h → ¬ (41 ≤ a ∧ a ≤ 46) → ¬ (57 ≤ a ∧ a ≤ 71) → c.2.1 a = m a) ∧ LX c.1 c.2.1 57 (runsA Pl S i) c.2.2 ∧ GRW n h c.2.2 c.1) (fun i c hi HH => ?_) (fun c HH => ?_) 0 (h, m1, n) (Nat.zero_le _) ⟨XD.rfl' 41 57 h, fun a _ _ z => fr1 a (by omega), L1, GRW.rfl' n h⟩ (by omega)
    all_goals
      obtain ⟨h2, m2, n2⟩ := c
      obtain ⟨X2, f2, L2, G2⟩ := HH
      simp only at X2 f2 L2 G2
      have cs2 := cs.x X2.1
      have p2 : hR h2 0 3 = some P := by rw [X2.2.1 0 3 (by omega) (Or.inl (by decide)) (Or.inl (by decide))]; exact p1
      have pc2 : PC (wI h2 m2) P Pl := PC.congr (h := h) (m := m) pc X2.1 (fun a q1 q2 => f2 a (by omega) (by omega) (by omega))
      have s5 : Sh5 h2 P := pc2.1
      have ep : m2 P 2 = nI (pP Pl) := pc2.2.2.2.1
      simp only [bX11_runEveryone_10]
      rw [wp_bind, cs2.gr p2, wp_bind, s5.g2, ep]
    · obtain ⟨w1, w2, w3⟩ := runsA_W pw sw s i (by omega)
      rw [wp_f (fun z => by have := (nI_leI (by omega) (by omega)).mp z; omega), wp_bind, cs2.gr cs2.r9, wp_bind, cs2.gr p2, wp_bind, cs2.gr cs2.r11, wp_bind, cs2.s9.o, wp_bind]
      refine wp_mono (c_run cs2.s9 (by omega) (by omega) (by omega) pc2 L2 pw hi (by rw [w2]; exact sw) w1 (by omega)) ?_
      rintro r ⟨h3, m3, n3, rfl, X3, f3, L3, room⟩
      rw [wp_bind, wp_some, wp_some, lq_l, show nI i + 1 = nI (i + 1) from i_add _ 1]
      have hle := X2.1.1
      obtain ⟨_, _, wk⟩ := runsA_W pw sw s (i + 1) (by omega)
      have wk' : aK (runA Pl i (runsA Pl S i)) ≤ 12 * (i + 1) := wk
      have rl2 := L2.2.2.2.2.2.2.2.2.1.le
      have G3 : GRW n2 h2 n3 h3 := by
        rcases room with ⟨e1, e2, e3⟩ | ⟨e1, e2, e3, e4⟩
        · exact ⟨by omega, by omega, by omega, Or.inr e1⟩
        · refine ⟨by omega, by omega, by omega, Or.inl ?_⟩
          have := L2.2.2.2.2.2.2.2.2.1
          unfold rl at this
          omega
      exact ⟨(h3, m3, n3), rfl, XD.trans X2 X3, fun a q1 q2 q3 => (f3 a (by omega) (by omega) (by omega)).trans (f2 a q1 q2 q3), L3, G2.trans G3⟩
    · rw [wp_t (nI_le (Nat.le_refl _) (by omega)), wp_some, lq_r]
      exact ⟨h2, m2, n2, rfl, X2, f2, L2, G2⟩
  · rintro r ⟨h2, m2, n2, rfl, X2, f2, L2, G2⟩
    have cs2 := cs.x X2.1
    rw [wp_bind, cs2.gr cs2.r11, wp_bind, L2.1.r4, wp_some]
    exact ⟨h2, m2, n2, rfl, X2, f2, L2, G2⟩
theorem r_goAll {A : LA} (L : LF (pV Pl) (m 1) A) (lw : LW A) (f : PF m Pl) (pw : PW Pl) (sw : SW Pl (aS A)) : wp (gX12_goAll m) (fun m' => ∃ m1, (∀ o, o ≠ 20 → m1 o = m o) ∧ (∀ j, j < 9685 → m1 20 j = m 1 j) ∧ fr0 m1 m' ∧ LF (pV Pl) (m' 1) (runsA Pl (aS A) (pP Pl))) := by
  have h6 := pw.2.2.1
  unfold gX12_goAll
  rw [wp_bind]
  refine wp_mono r_putAside (fun m1 ⟨g1, b1⟩ => ?_)
  have e1 : m1 1 = m 1 := g1 1 (by decide)
  rw [wp_bind]
  refine wp_mono (r_clearAll (A := A) (V := pV Pl) (by rw [e1]; exact L) (fun j hj => pV_lt pw hj)) (fun m2 ⟨g2, L2⟩ => ?_)
  have x2 : fr0 m1 m2 := ⟨fun o _ q _ _ _ _ => g2 o q, fun j _ => by rw [g2 0 (by decide)]⟩
  rw [wp_bind]
  have pf : ∀ c : Mem, fr0 m1 c → PF c Pl := fun c x => f.congr ((x.2 9 (by decide)).trans (by rw [g1 0 (by decide)])) ((x.1 2 (by decide) (by decide) (by decide) (by decide) (by decide) (by decide)).trans (g1 2 (by decide))) ((x.1 3 (by decide) (by decide) (by decide) (by decide) (by decide) (by decide)).trans (g1 3 (by decide))) ((x.1 4 (by decide) (by decide) (by decide) (by decide) (by decide) (by decide)).trans (g1 4 (by decide))) ((x.1 5 (by decide) (by decide) (by decide) (by decide) (by decide) (by decide)).trans (g1 5 (by decide))) ((x.1 6 (by decide) (by decide) (by decide) (by decide) (by decide) (by decide)).trans (g1 6 (by decide))) ((x.1 7 (by decide) (by decide) (by decide) (by decide) (by decide) (by decide)).trans (g1 7 (by decide)))
  refine wp_mono (Q := fun c => fr0 m1 c ∧ LF (pV Pl) (c 1) (runsA Pl (aS A) (pP Pl))) ?_ (fun c H => by rw [wp_some]; exact ⟨m1, g1, b1, H.1, H.2⟩)
  refine wp_for (κ := Mem) (fun i c => (nI i, c)) (pP Pl) (fun i c => fr0 m1 c ∧ LF (pV Pl) (c 1) (runsA Pl (aS A) i)) (fun i c hi HH => ?_) (fun c HH => ?_) 0 m2 (Nat.zero_le _) ⟨x2, L2⟩ (by omega)
  all_goals
    obtain ⟨x, Lc⟩ := HH
    have fc := pf c x
    obtain ⟨k, hk, e9, _, _, e4, _⟩ := fc
    simp only [gbX12_goAll_10]
    rw [e9, wp_bind, w_rd (by omega) (by decide), e4]
  · obtain ⟨w1, w2, w3⟩ := runsA_W pw sw lw.2.2.2.2.2 i (by omega)
    rw [wp_f (fun z => by have := (nI_leI (by omega) (by omega)).mp z; omega), wp_bind]
    refine wp_mono (r_goRun Lc (pf c x) pw hi (by rw [w2]; exact sw) w1 (by omega)) (fun m3 ⟨x3, L3⟩ => ?_)
    rw [wp_bind, wp_some, wp_some, lq_l, show nI i + 1 = nI (i + 1) from i_add _ 1]
    exact ⟨m3, rfl, x.trans x3, L3⟩
  · rw [wp_t (nI_le (Nat.le_refl _) (by omega)), wp_some, lq_r]
    exact ⟨x, Lc⟩
end EVR

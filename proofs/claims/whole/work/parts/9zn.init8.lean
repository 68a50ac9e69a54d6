/-! an object with its rows, made one behind the other -/
/-- slots of the first n -/
def zs (sh : Nat → jSh) : Nat → Nat
  | 0 => 0
  | n + 1 => zs sh n + jsz (sh n)
/-- n cells made behind h0, told to the fields K of a -/
def GB (a : Nat) (h0 r : Hp) (K : Nat → Nat) (sh : Nat → jSh) (n : Nat) : Prop := hN r = hN h0 + n ∧ hZ r = hZ h0 + zs sh n ∧ FX a h0 r ∧ (∀ i, i < n → hS r (hN h0 + i) = sh i ∧ hR r a (K i) = some (hN h0 + i) ∧ ∀ j, hI r (hN h0 + i) j = 0) ∧ ∀ q, (∀ i, i < n → K i ≠ q) → hR r a q = hR h0 a q
section GBS
variable {a : Nat} {h0 h : Hp} {K : Nat → Nat} {sh : Nat → jSh} {n : Nat}
theorem FX.rfl' : FX a h h := ⟨Nat.le_refl _, fun _ _ => ⟨rfl, fun _ => rfl, fun _ => rfl⟩, fun _ _ _ _ => rfl⟩
theorem GB_0 : GB a h h K sh 0 := ⟨rfl, rfl, FX.rfl', fun i hi => absurd hi (Nat.not_lt_zero _), fun _ _ => rfl⟩
/-- one more cell, of any shape, and told -/
theorem GB_1 (ha : a < hN h0) (G : GB a h0 h K sh n) (hk : ∀ i, i < n → K i ≠ K n) : GB a h0 (sR (nw h (sh n)) a (K n) (some (hN h))) K sh (n + 1) := by
  obtain ⟨g1, g2, g3, g4, g5⟩ := G
  have A : AL h (sR (nw h (sh n)) a (K n) (some (hN h))) a (K n) (sh n) := AL_ok (by omega)
  have F := g3.trans A.fx
  obtain ⟨a1, a2, a3, a4, a5, a6⟩ := A
  refine ⟨by rw [a1, g1]; rfl, by rw [a2, g2]; show hZ h0 + zs sh n + jsz (sh n) = hZ h0 + (zs sh n + jsz (sh n)); omega, F, fun i hi => ?_, fun q hq => ?_⟩
  · by_cases z : i = n
    · rw [z, ← g1]
      refine ⟨a3, a4, fun j => ?_⟩
      show (if hN h = hN h then (0 : Int32) else _) = 0
      rw [if_pos rfl]
    · obtain ⟨b1, b2, b3⟩ := g4 i (by omega)
      obtain ⟨c1, c2, c3⟩ := a5 (hN h0 + i) (by omega)
      exact ⟨by rw [c1]; exact b1, by rw [a6 a (K i) (by omega) (Or.inr (hk i (by omega)))]; exact b2, fun j => by rw [c2 j]; exact b3 j⟩
  · rw [a6 a q (by omega) (Or.inr (fun e => hq n (by omega) e.symm))]
    exact g5 q fun i hi => hq i (by omega)
theorem GB.s {c : Nat} (G : GB a h0 h K sh n) (ha : a < hN h0) (hs : hS h0 a = .inl c) : hS h a = .inl c := (G.2.2.1.2.1 a ha).1.trans hs
/-- a row -/
theorem gb_arr {β : Type} {c k : Nat} {ty : FieldType} {e : Nat} {f : Hp → Option β} {Q : β → Prop} (ha : a < hN h0) (hs : hS h0 a = .inl c) (G : GB a h0 h K sh n) (hk : ∀ i, i < n → K i ≠ K n) (ek : K n = k) (es : sh n = .inr (ty, e)) (he : e < 100000) (H : ∀ h2, GB a h0 h2 K sh (n + 1) → wp (f h2) Q) : wp ((nA h ty (nI e)).bind fun h1 => (pR h1 c a k (hN h)).bind f) Q := by
  have l : hN h = hN h0 + n := G.1
  rw [wp_bind, wp_eq (nA_ok he), wp_bind]
  have hs1 : hS (nw h (.inr (ty, e))) a = .inl c := by
    show (if a = hN h then _ else h.1 a) = _
    rw [if_neg (by omega)]; exact G.s ha hs
  have e1 : pR (nw h (.inr (ty, e))) c a k (hN h) = some (sR (nw h (.inr (ty, e))) a k (some (hN h))) := by
    unfold pR
    rw [gO_ok (show a < hN h + 1 by omega) hs1]; rfl
  rw [wp_eq e1]
  have := GB_1 ha G hk
  rw [ek, es] at this
  exact H _ this
end GBS
def K10 : Nat → Nat := fun i => [0, 2].getD i 0
def s10 : Nat → jSh := fun i => [.inr (.int, 17), .inr (.int, 16)].getD i (.inl 0)
theorem c_init10 {h : Hp} {a : Nat} (hs : hS h a = .inl 10) (hN' : hN h = a + 1) : wp (fX10_init h a) (fun r => GB a h r K10 s10 2) := by
  have ha : a < hN h := by omega
  unfold fX10_init
  rw [L_17, L_16]
  refine gb_arr (K := K10) (sh := s10) (n := 0) ha hs GB_0 (by decide) rfl rfl (by decide) (fun h1 G1 => ?_)
  refine gb_arr (n := 1) ha hs G1 (by decide) rfl rfl (by decide) (fun h2 G2 => ?_)
  rw [wp_some]; exact G2
def K8 : Nat → Nat := fun i => [5, 10, 11, 12, 13, 15, 16, 17].getD i 0
def s8 : Nat → jSh := fun i => [.inr (.int, 78), .inr (.long, 4000), .inr (.long, 4000), .inr (.int, 4000), .inr (.int, 8192), .inr (.int, 72), .inr (.int, 6), .inr (.int, 6)].getD i (.inl 0)
theorem c_init8 {h : Hp} {a : Nat} (hs : hS h a = .inl 8) (hN' : hN h = a + 1) (h0 : ∀ j, hI h a j = 0) : wp (fX8_init h a) (fun r => FX a h r ∧ hN r = a + 12 ∧ hZ r ≤ hZ h + 24000 ∧ Sh8 r a ∧ SDT (hI r) a 0) := by
  have ha : a < hN h := by omega
  unfold fX8_init
  rw [L_78, L_4000, L_8192, L_72, L_6]
  refine gb_arr (K := K8) (sh := s8) (n := 0) ha hs GB_0 (by decide) rfl rfl (by decide) (fun h1 G1 => ?_)
  refine gb_arr (n := 1) ha hs G1 (by decide) rfl rfl (by decide) (fun h2 G2 => ?_)
  refine gb_arr (n := 2) ha hs G2 (by decide) rfl rfl (by decide) (fun h3 G3 => ?_)
  refine gb_arr (n := 3) ha hs G3 (by decide) rfl rfl (by decide) (fun h4 G4 => ?_)
  refine gb_arr (n := 4) ha hs G4 (by decide) rfl rfl (by decide) (fun h5 G5 => ?_)
  refine gb_arr (n := 5) ha hs G5 (by decide) rfl rfl (by decide) (fun h6 G6 => ?_)
  refine gb_arr (n := 6) ha hs G6 (by decide) rfl rfl (by decide) (fun h7 G7 => ?_)
  refine gb_arr (n := 7) ha hs G7 (by decide) rfl rfl (by decide) (fun h8 G8 => ?_)
  clear G1 G2 G3 G4 G5 G6 G7
  have sa := G8.s ha hs
  obtain ⟨g1, g2, g3, g4, g5⟩ := G8
  rw [hN'] at g1 g4
  have n8 : hN h8 = a + 9 := by omega
  rw [wp_bind, wp_some, wp_bind]
  have F9 : FX a h8 (nw h8 (.inl 10)) := by
    refine ⟨Nat.le_succ _, fun x hx => ⟨?_, fun j => ?_, fun j => ?_⟩, fun x q hx _ => ?_⟩
    · show (if x = hN h8 then _ else h8.1 x) = h8.1 x
      rw [if_neg (by omega)]
    · show (if x = hN h8 then _ else h8.2.1 x j) = h8.2.1 x j
      rw [if_neg (by omega)]
    · show (if x = hN h8 then _ else h8.2.2.1 x j) = h8.2.2.1 x j
      rw [if_neg (by omega)]
    · show (if x = hN h8 then _ else h8.2.2.2.1 x q) = h8.2.2.2.1 x q
      rw [if_neg (by omega)]
  have R9 : ∀ q, hR (nw h8 (.inl 10)) a q = hR h8 a q := fun q => by
    show (if a = hN h8 then _ else h8.2.2.2.1 a q) = h8.2.2.2.1 a q
    rw [if_neg (by omega)]
  have S9 : hS (nw h8 (.inl 10)) (a + 9) = .inl 10 := by
    show (if a + 9 = hN h8 then _ else _) = _
    rw [if_pos n8.symm]
  have Z9 : hZ (nw h8 (.inl 10)) = hZ h8 + jsz (.inl 10) := rfl
  have N9 : hN (nw h8 (.inl 10)) = a + 9 + 1 := by show hN h8 + 1 = _; omega
  rw [n8]
  generalize hnw : nw h8 (.inl 10) = h9 at *
  refine wp_mono (c_init10 S9 N9) ?_
  rintro x ⟨w1, w2, w3, w4, w5⟩
  rw [N9] at w1 w4
  have t0 := w4 0 (by decide)
  have t1 := w4 1 (by decide)
  have xN : hN x = a + 12 := by omega
  have xa : hS x a = .inl 8 := by rw [(w3.2.1 a (by omega)).1, (F9.2.1 a (by omega)).1]; exact sa
  have e1 : pR x 8 a 18 (a + 9) = some (sR x a 18 (some (a + 9))) := by
    unfold pR
    rw [gO_ok (by omega) xa]; rfl
  rw [wp_bind, wp_eq e1, wp_some]
  have hx : ∀ y, y < a + 9 → hS x y = hS h8 y ∧ ∀ j, hI x y j = hI h8 y j := fun y hy => ⟨by rw [(w3.2.1 y (by omega)).1, (F9.2.1 y (by omega)).1], fun j => by rw [(w3.2.1 y (by omega)).2.1 j, (F9.2.1 y (by omega)).2.1 j]⟩
  have hr : ∀ q, q ≠ 18 → hR (sR x a 18 (some (a + 9))) a q = hR h8 a q := fun q hq => by
    rw [hR_s, if_neg (by omega), w3.2.2 a q (by omega) (by omega), R9]
  have r9 : ∀ q, hR (sR x a 18 (some (a + 9))) (a + 9) q = hR x (a + 9) q := fun q => by rw [hR_s, if_neg (by omega)]
  refine ⟨⟨?_, fun y hy => ?_, fun y q hy hne => ?_⟩, xN, ?_, ?_, ?_⟩
  · show hN h ≤ hN x; omega
  · obtain ⟨p1, p2, p3⟩ := g3.2.1 y hy
    obtain ⟨q1, q2, q3⟩ := F9.2.1 y (by omega)
    obtain ⟨v1, v2, v3⟩ := w3.2.1 y (by omega)
    exact ⟨by show hS x y = _; rw [v1, q1, p1], fun j => by show hI x y j = _; rw [v2, q2, p2], fun j => by show hJ x y j = _; rw [v3, q3, p3]⟩
  · rw [hR_s, if_neg (fun e => hne e.1), w3.2.2 y q (by omega) (by omega), F9.2.2 y q (by omega) hne, g3.2.2 y q hy hne]
  · show hZ x ≤ _
    rw [w2, Z9, g2]
    have : zs s10 2 = 33 := rfl
    have : zs s8 (7 + 1) = 20354 := rfl
    have : jsz (.inl 10) = 3 := rfl
    omega
  · have i0 := g4 0 (by decide)
    have i1 := g4 1 (by decide)
    have i2 := g4 2 (by decide)
    have i3 := g4 3 (by decide)
    have i4 := g4 4 (by decide)
    have i5 := g4 5 (by decide)
    have i6 := g4 6 (by decide)
    have i7 := g4 7 (by decide)
    refine ⟨by show a + 11 < hN x; omega, xa, ⟨?_, ?_⟩, ⟨?_, ?_⟩, ⟨?_, ?_⟩, ⟨?_, ?_⟩, ⟨?_, ?_⟩, ⟨?_, ?_⟩, ⟨?_, ?_⟩, ⟨?_, ?_⟩, ?_, ?_, ?_, ⟨?_, ?_⟩, ?_, ?_⟩
    · rw [hr 5 (by decide)]; exact i0.2.1
    · exact (hx (a + 1) (by omega)).1.trans i0.1
    · rw [hr 10 (by decide)]; exact i1.2.1
    · exact (hx (a + 2) (by omega)).1.trans i1.1
    · rw [hr 11 (by decide)]; exact i2.2.1
    · exact (hx (a + 3) (by omega)).1.trans i2.1
    · rw [hr 12 (by decide)]; exact i3.2.1
    · exact (hx (a + 4) (by omega)).1.trans i3.1
    · rw [hr 13 (by decide)]; exact i4.2.1
    · exact (hx (a + 5) (by omega)).1.trans i4.1
    · rw [hr 15 (by decide)]; exact i5.2.1
    · exact (hx (a + 6) (by omega)).1.trans i5.1
    · rw [hr 16 (by decide)]; exact i6.2.1
    · exact (hx (a + 7) (by omega)).1.trans i6.1
    · rw [hr 17 (by decide)]; exact i7.2.1
    · exact (hx (a + 8) (by omega)).1.trans i7.1
    · rw [hR_s, if_pos ⟨rfl, rfl⟩]
    · show a + 9 + 2 < hN x; omega
    · exact (w3.2.1 (a + 9) (by omega)).1.trans S9
    · rw [r9]; exact t0.2.1
    · exact t0.1
    · rw [r9]; exact t1.2.1
    · exact t1.1
  · refine ⟨?_, by decide, fun s _ => ⟨0, ?_, by decide, by decide⟩⟩
    · show hI x a 14 = _
      rw [(hx a (by omega)).2 14, (g3.2.1 a (by omega)).2.1 14, h0]; rfl
    · show hI x (a + 5) s = _
      rw [(hx (a + 5) (by omega)).2 s, (g4 4 (by decide)).2.2 s]; rfl

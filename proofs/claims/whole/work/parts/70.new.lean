/-! a new state of the class -/
section NEW
variable {h : Hp}
/-- one cell more, told to an object's field -/
def AL (h h2 : Hp) (a k : Nat) (s : jSh) : Prop := hN h2 = hN h + 1 ∧ hZ h2 = hZ h + jsz s ∧ hS h2 (hN h) = s ∧ hR h2 a k = some (hN h) ∧ (∀ x, x < hN h → hS h2 x = hS h x ∧ (∀ j, hI h2 x j = hI h x j) ∧ ∀ j, hJ h2 x j = hJ h x j) ∧ (∀ x q, x < hN h → (x ≠ a ∨ q ≠ k) → hR h2 x q = hR h x q)
theorem nA_ok {ty : FieldType} {n : Nat} (hn : n < 100000) : nA h ty (nI n) = some (nw h (.inr (ty, n))) := by
  unfold nA
  rw [if_neg (by rw [nI_clamp (by omega)]; intro z; rcases z with z | z; · exact nI_pos (by omega) z
                 · omega), nI_clamp (by omega)]
theorem AL_ok {s : jSh} {a k : Nat} (ha : a < hN h) : AL h (sR (nw h s) a k (some (hN h))) a k s := by
  refine ⟨rfl, rfl, if_pos rfl, if_pos ⟨rfl, rfl⟩, fun x hx => ⟨?_, fun j => ?_, fun j => ?_⟩, fun x q hx hne => ?_⟩
  · show (if x = hN h then s else h.1 x) = h.1 x
    rw [if_neg (by omega)]
  · show (if x = hN h then 0 else h.2.1 x j) = h.2.1 x j
    rw [if_neg (by omega)]
  · show (if x = hN h then 0 else h.2.2.1 x j) = h.2.2.1 x j
    rw [if_neg (by omega)]
  · show (if x = a ∧ q = k then some (hN h) else if x = hN h then none else h.2.2.2.1 x q) = h.2.2.2.1 x q
    rw [if_neg (fun z => hne.elim (fun e => e z.1) (fun e => e z.2)), if_neg (by omega)]
theorem st_arr {β : Type} {a c k n : Nat} {ty : FieldType} {f : Hp → Option β} {Q : β → Prop} (ha : a < hN h) (hs : hS h a = .inl c) (hn : n < 100000) (H : ∀ h2, AL h h2 a k (.inr (ty, n)) → wp (f h2) Q) : wp ((nA h ty (nI n)).bind fun h1 => (pR h1 c a k (hN h)).bind f) Q := by
  rw [wp_bind, wp_eq (nA_ok hn), wp_bind]
  have hs1 : hS (nw h (.inr (ty, n))) a = .inl c := by
    show (if a = hN h then _ else h.1 a) = _
    rw [if_neg (by omega)]; exact hs
  have e : pR (nw h (.inr (ty, n))) c a k (hN h) = some (sR (nw h (.inr (ty, n))) a k (some (hN h))) := by
    unfold pR
    rw [gO_ok (show a < hN h + 1 by omega) hs1]; rfl
  rw [wp_eq e]
  exact H _ (AL_ok ha)
/-- cells come behind; an object's fields alone may change ahead -/
def FX (a : Nat) (h r : Hp) : Prop := hN h ≤ hN r ∧ (∀ x, x < hN h → hS r x = hS h x ∧ (∀ j, hI r x j = hI h x j) ∧ ∀ j, hJ r x j = hJ h x j) ∧ ∀ x q, x < hN h → x ≠ a → hR r x q = hR h x q
theorem AL.fx {h2 : Hp} {a k : Nat} {s : jSh} (A : AL h h2 a k s) : FX a h h2 := ⟨by rw [A.1]; omega, A.2.2.2.2.1, fun x q hx ha => A.2.2.2.2.2 x q hx (Or.inl ha)⟩
theorem FX.trans {a : Nat} {h1 h2 h3 : Hp} (x : FX a h1 h2) (y : FX a h2 h3) : FX a h1 h3 := by
  refine ⟨Nat.le_trans x.1 y.1, fun c hc => ?_, fun c q hc ha => ?_⟩
  · have h1 := x.2.1 c hc
    have h2 := y.2.1 c (Nat.lt_of_lt_of_le hc x.1)
    exact ⟨h2.1.trans h1.1, fun j => (h2.2.1 j).trans (h1.2.1 j), fun j => (h2.2.2 j).trans (h1.2.2 j)⟩
  · rw [y.2.2 c q (Nat.lt_of_lt_of_le hc x.1) ha, x.2.2 c q hc ha]
theorem c_initG {a : Nat} (hs : hS h a = .inl 1) (hN' : hN h = a + 1) : wp (fX1_init h a) (fun r => FX a h r ∧ hN r = a + 4 ∧ hZ r = hZ h + 288 ∧ Sh1 r a) := by
  unfold fX1_init
  rw [L_16, L_256]
  refine st_arr (c := 1) (k := 1) (by omega) hs (by decide) (fun h1 A1 => ?_)
  have n1 : hN h1 = a + 2 := by rw [A1.1, hN']
  refine st_arr (c := 1) (k := 2) (by omega) ((A1.2.2.2.2.1 a (by omega)).1.trans hs) (by decide) (fun h2 A2 => ?_)
  have n2 : hN h2 = a + 3 := by rw [A2.1, n1]
  refine st_arr (c := 1) (k := 3) (by omega) ((A2.2.2.2.2.1 a (by omega)).1.trans ((A1.2.2.2.2.1 a (by omega)).1.trans hs)) (by decide) (fun h3 A3 => ?_)
  have n3 : hN h3 = a + 4 := by rw [A3.1, n2]
  rw [wp_some]
  obtain ⟨_, z1, s1, r1, e1, f1⟩ := A1
  obtain ⟨_, z2, s2, r2, e2, f2⟩ := A2
  obtain ⟨_, z3, s3, r3, e3, f3⟩ := A3
  rw [hN'] at s1 r1
  rw [n1] at s2 r2
  rw [n2] at s3 r3
  refine ⟨(AL.fx ⟨by omega, z1, by rw [hN']; exact s1, by rw [hN']; exact r1, e1, f1⟩).trans ((AL.fx ⟨by omega, z2, by rw [n1]; exact s2, by rw [n1]; exact r2, e2, f2⟩).trans (AL.fx ⟨by omega, z3, by rw [n2]; exact s3, by rw [n2]; exact r3, e3, f3⟩)), n3, ?_, by omega, ?_, ⟨?_, ?_⟩, ⟨?_, ?_⟩, r3, s3⟩
  · rw [z3, z2, z1]; show hZ h + 16 + 16 + 256 = hZ h + 288; omega
  · rw [(e3 a (by omega)).1, (e2 a (by omega)).1, (e1 a (by omega)).1]; exact hs
  · rw [f3 a 1 (by omega) (Or.inr (by decide)), f2 a 1 (by omega) (Or.inr (by decide))]; exact r1
  · rw [(e3 _ (by omega)).1, (e2 _ (by omega)).1]; exact s1
  · rw [f3 a 2 (by omega) (Or.inr (by decide))]; exact r2
  · rw [(e3 _ (by omega)).1]; exact s2
theorem c_initR {a : Nat} (hs : hS h a = .inl 7) (hN' : hN h = a + 1) : wp (fX7_init h a) (fun r => FX a h r ∧ hN r = a + 7 ∧ hZ r = hZ h + 1420 ∧ Sh7 r a) := by
  unfold fX7_init
  rw [L_60, L_1020, L_160]
  refine st_arr (c := 7) (k := 1) (by omega) hs (by decide) (fun h1 A1 => ?_)
  have n1 : hN h1 = a + 2 := by rw [A1.1, hN']
  have t1 : hS h1 a = .inl 7 := (A1.2.2.2.2.1 a (by omega)).1.trans hs
  refine st_arr (c := 7) (k := 2) (by omega) t1 (by decide) (fun h2 A2 => ?_)
  have n2 : hN h2 = a + 3 := by rw [A2.1, n1]
  have t2 : hS h2 a = .inl 7 := (A2.2.2.2.2.1 a (by omega)).1.trans t1
  refine st_arr (c := 7) (k := 3) (by omega) t2 (by decide) (fun h3 A3 => ?_)
  have n3 : hN h3 = a + 4 := by rw [A3.1, n2]
  have t3 : hS h3 a = .inl 7 := (A3.2.2.2.2.1 a (by omega)).1.trans t2
  refine st_arr (c := 7) (k := 4) (by omega) t3 (by decide) (fun h4 A4 => ?_)
  have n4 : hN h4 = a + 5 := by rw [A4.1, n3]
  have t4 : hS h4 a = .inl 7 := (A4.2.2.2.2.1 a (by omega)).1.trans t3
  refine st_arr (c := 7) (k := 5) (by omega) t4 (by decide) (fun h5 A5 => ?_)
  have n5 : hN h5 = a + 6 := by rw [A5.1, n4]
  have t5 : hS h5 a = .inl 7 := (A5.2.2.2.2.1 a (by omega)).1.trans t4
  refine st_arr (c := 7) (k := 6) (by omega) t5 (by decide) (fun h6 A6 => ?_)
  have n6 : hN h6 = a + 7 := by rw [A6.1, n5]
  have t6 : hS h6 a = .inl 7 := (A6.2.2.2.2.1 a (by omega)).1.trans t5
  rw [wp_some]
  have F := A1.fx.trans (A2.fx.trans (A3.fx.trans (A4.fx.trans (A5.fx.trans A6.fx))))
  obtain ⟨_, z1, s1, r1, e1, f1⟩ := A1
  obtain ⟨_, z2, s2, r2, e2, f2⟩ := A2
  obtain ⟨_, z3, s3, r3, e3, f3⟩ := A3
  obtain ⟨_, z4, s4, r4, e4, f4⟩ := A4
  obtain ⟨_, z5, s5, r5, e5, f5⟩ := A5
  obtain ⟨_, z6, s6, r6, e6, f6⟩ := A6
  rw [hN'] at s1 r1
  rw [n1] at s2 r2
  rw [n2] at s3 r3
  rw [n3] at s4 r4
  rw [n4] at s5 r5
  rw [n5] at s6 r6
  refine ⟨F, n6, ?_, by omega, t6, ⟨?_, ?_⟩, ⟨?_, ?_⟩, ⟨?_, ?_⟩, ⟨?_, ?_⟩, ⟨?_, ?_⟩, r6, s6⟩
  · rw [z6, z5, z4, z3, z2, z1]; show hZ h + 60 + 60 + 60 + 60 + 1020 + 160 = hZ h + 1420; omega
  · rw [f6 a 1 (by omega) (Or.inr (by decide)), f5 a 1 (by omega) (Or.inr (by decide)), f4 a 1 (by omega) (Or.inr (by decide)), f3 a 1 (by omega) (Or.inr (by decide)), f2 a 1 (by omega) (Or.inr (by decide))]; exact r1
  · rw [(e6 _ (by omega)).1, (e5 _ (by omega)).1, (e4 _ (by omega)).1, (e3 _ (by omega)).1, (e2 _ (by omega)).1]; exact s1
  · rw [f6 a 2 (by omega) (Or.inr (by decide)), f5 a 2 (by omega) (Or.inr (by decide)), f4 a 2 (by omega) (Or.inr (by decide)), f3 a 2 (by omega) (Or.inr (by decide))]; exact r2
  · rw [(e6 _ (by omega)).1, (e5 _ (by omega)).1, (e4 _ (by omega)).1, (e3 _ (by omega)).1]; exact s2
  · rw [f6 a 3 (by omega) (Or.inr (by decide)), f5 a 3 (by omega) (Or.inr (by decide)), f4 a 3 (by omega) (Or.inr (by decide))]; exact r3
  · rw [(e6 _ (by omega)).1, (e5 _ (by omega)).1, (e4 _ (by omega)).1]; exact s3
  · rw [f6 a 4 (by omega) (Or.inr (by decide)), f5 a 4 (by omega) (Or.inr (by decide))]; exact r4
  · rw [(e6 _ (by omega)).1, (e5 _ (by omega)).1]; exact s4
  · rw [f6 a 5 (by omega) (Or.inr (by decide))]; exact r5
  · rw [(e6 _ (by omega)).1]; exact s5
theorem FX.x {a : Nat} {r : Hp} (x : FX a h r) (ha : ∀ c, hS h a = .inl c → ∀ q, dynF c q = false → hR r a q = hR h a q) : XX h r := by
  refine ⟨x.1, fun c hc => (x.2.1 c hc).1, fun c q k hc hs hd => ?_⟩
  by_cases z : c = a
  · subst z; exact ha k hs q hd
  · exact x.2.2 c q hc z
theorem FX.sh1 {a b : Nat} {r : Hp} (x : FX a h r) (s : Sh1 h b) (hne : b ≠ a) : Sh1 r b := by
  have l := s.1
  obtain ⟨_, c, ⟨r1, t1⟩, ⟨r2, t2⟩, r3, t3⟩ := s
  have hle := x.1
  exact ⟨by omega, by rw [(x.2.1 _ (by omega)).1]; exact c, ⟨by rw [x.2.2 _ _ (by omega) hne]; exact r1, by rw [(x.2.1 _ (by omega)).1]; exact t1⟩, ⟨by rw [x.2.2 _ _ (by omega) hne]; exact r2, by rw [(x.2.1 _ (by omega)).1]; exact t2⟩, by rw [x.2.2 _ _ (by omega) hne]; exact r3, by rw [(x.2.1 _ (by omega)).1]; exact t3⟩
theorem FX.sh7 {a b : Nat} {r : Hp} (x : FX a h r) (s : Sh7 h b) (hne : b ≠ a) : Sh7 r b := by
  have l := s.1
  obtain ⟨_, c, ⟨r1, t1⟩, ⟨r2, t2⟩, ⟨r3, t3⟩, ⟨r4, t4⟩, ⟨r5, t5⟩, r6, t6⟩ := s
  have hle := x.1
  exact ⟨by omega, by rw [(x.2.1 _ (by omega)).1]; exact c, ⟨by rw [x.2.2 _ _ (by omega) hne]; exact r1, by rw [(x.2.1 _ (by omega)).1]; exact t1⟩, ⟨by rw [x.2.2 _ _ (by omega) hne]; exact r2, by rw [(x.2.1 _ (by omega)).1]; exact t2⟩, ⟨by rw [x.2.2 _ _ (by omega) hne]; exact r3, by rw [(x.2.1 _ (by omega)).1]; exact t3⟩, ⟨by rw [x.2.2 _ _ (by omega) hne]; exact r4, by rw [(x.2.1 _ (by omega)).1]; exact t4⟩, ⟨by rw [x.2.2 _ _ (by omega) hne]; exact r5, by rw [(x.2.1 _ (by omega)).1]; exact t5⟩, by rw [x.2.2 _ _ (by omega) hne]; exact r6, by rw [(x.2.1 _ (by omega)).1]; exact t6⟩
theorem FX.nw (s : jSh) (a : Nat) : FX a h (nw h s) := by
  refine ⟨Nat.le_succ _, fun x hx => ⟨?_, fun j => ?_, fun j => ?_⟩, fun x q hx _ => ?_⟩
  · show (if x = hN h then s else h.1 x) = h.1 x
    rw [if_neg (by omega)]
  · show (if x = hN h then 0 else h.2.1 x j) = h.2.1 x j
    rw [if_neg (by omega)]
  · show (if x = hN h then 0 else h.2.2.1 x j) = h.2.2.1 x j
    rw [if_neg (by omega)]
  · show (if x = hN h then none else h.2.2.2.1 x q) = h.2.2.2.1 x q
    rw [if_neg (by omega)]
theorem FX.sR (a k : Nat) (v : Option Nat) : FX a h (sR h a k v) := by
  refine ⟨Nat.le_refl _, fun x hx => ⟨rfl, fun _ => rfl, fun _ => rfl⟩, fun x q hx ha => ?_⟩
  rw [hR_s, if_neg (fun z => ha z.1)]
/-- of an object whose fields were told: what they hold yet -/
theorem FX.fld {a c q : Nat} {h1 r : Hp} (x : FX c h1 r) (ha : a < hN h1) (hne : a ≠ c) : hR r a q = hR h1 a q := x.2.2 a q ha hne
theorem w_pR {a c k v : Nat} {Q : Hp → Prop} (ha : a < hN h) (hs : hS h a = .inl c) : wp (pR h c a k v) Q = Q (sR h a k (some v)) := wp_eq (by unfold pR; rw [gO_ok ha hs]; rfl)
/-- old cells are as they were -/
def OL (N : Nat) (h r : Hp) : Prop := hN h ≤ hN r ∧ ∀ x, x < N → hS r x = hS h x ∧ (∀ j, hI r x j = hI h x j) ∧ (∀ j, hJ r x j = hJ h x j) ∧ ∀ q, hR r x q = hR h x q
theorem FX.ol {a N : Nat} {r : Hp} (x : FX a h r) (h1 : N ≤ hN h) (h2 : N ≤ a) : OL N h r := ⟨x.1, fun c hc => ⟨(x.2.1 c (by omega)).1, (x.2.1 c (by omega)).2.1, (x.2.1 c (by omega)).2.2, fun q => x.2.2 c q (by omega) (by omega)⟩⟩
theorem OL.trans {N : Nat} {h1 h2 h3 : Hp} (x : OL N h1 h2) (y : OL N h2 h3) : OL N h1 h3 := by
  refine ⟨Nat.le_trans x.1 y.1, fun c hc => ?_⟩
  have a := x.2 c hc
  have b := y.2 c hc
  exact ⟨b.1.trans a.1, fun j => (b.2.1 j).trans (a.2.1 j), fun j => (b.2.2.1 j).trans (a.2.2.1 j), fun q => (b.2.2.2 q).trans (a.2.2.2 q)⟩
theorem c_newL : wp ((some (nw h (.inl 3))).bind fun h9 => fX3_init h9 (hN h)) (fun r => FX (hN h) h r ∧ hN r = hN h + 16 ∧ hZ r ≤ hZ h + 1900 ∧ Sh3 r (hN h) ∧ hR r (hN h) 7 = some (hN h + 15) ∧ hS r (hN h + 15) = .inr (.long, 32)) := by
  rw [wp_bind, wp_some]
  have F0 := FX.nw (h := h) (.inl 3) (hN h)
  have t0 : hS (nw h (.inl 3)) (hN h) = .inl 3 := if_pos rfl
  have n0 : hN (nw h (.inl 3)) = hN h + 1 := rfl
  have z0 : hZ (nw h (.inl 3)) ≤ hZ h + 20 := by show hZ h + szC 3 ≤ hZ h + 20; exact Nat.add_le_add_left (by decide) _
  generalize nw h (.inl 3) = k0 at F0 t0 n0 z0
  generalize hNN : hN h = N at *
  unfold fX3_init
  rw [L_72, L_6, L_16, L_32]
  refine st_arr (c := 3) (k := 0) (by omega) t0 (by decide) (fun k1 A1 => ?_)
  have n1 : hN k1 = N + 2 := by rw [A1.1, n0]
  have t1 : hS k1 N = .inl 3 := (A1.2.2.2.2.1 N (by omega)).1.trans t0
  refine st_arr (c := 3) (k := 1) (by omega) t1 (by decide) (fun k2 A2 => ?_)
  have n2 : hN k2 = N + 3 := by rw [A2.1, n1]
  have t2 : hS k2 N = .inl 3 := (A2.2.2.2.2.1 N (by omega)).1.trans t1
  refine st_arr (c := 3) (k := 2) (by omega) t2 (by decide) (fun k3 A3 => ?_)
  have n3 : hN k3 = N + 4 := by rw [A3.1, n2]
  have t3 : hS k3 N = .inl 3 := (A3.2.2.2.2.1 N (by omega)).1.trans t2
  rw [wp_bind, wp_some, wp_bind, n3]
  have F4 := FX.nw (h := k3) (.inl 1) N
  have u4 : hS (nw k3 (.inl 1)) (N + 4) = .inl 1 := by show (if N + 4 = hN k3 then _ else _) = _; rw [if_pos n3.symm]
  have n4 : hN (nw k3 (.inl 1)) = N + 4 + 1 := by show hN k3 + 1 = _; omega
  have z4 : hZ (nw k3 (.inl 1)) ≤ hZ k3 + 20 := by show hZ k3 + szC 1 ≤ hZ k3 + 20; exact Nat.add_le_add_left (by decide) _
  have R4 : ∀ q, hR (nw k3 (.inl 1)) N q = hR k3 N q := fun q => by show (if N = hN k3 then none else _) = _; rw [if_neg (by omega)]; rfl
  generalize nw k3 (.inl 1) = k4 at F4 u4 n4 z4 R4
  have t4 : hS k4 N = .inl 3 := (F4.2.1 N (by omega)).1.trans t3
  refine wp_mono (c_initG u4 n4) ?_
  rintro k5 ⟨F5, n5, z5, G5⟩
  have t5 : hS k5 N = .inl 3 := (F5.2.1 N (by omega)).1.trans t4
  rw [wp_bind, w_pR (by omega) t5, wp_bind, wp_some]
  have F6 := FX.sR (h := k5) N 3 (some (N + 4))
  have R6 : ∀ q, hR (sR k5 N 3 (some (N + 4))) N q = if q = 3 then some (N + 4) else hR k5 N q := fun q => by
    rw [hR_s]
    by_cases z : q = 3
    · rw [if_pos ⟨rfl, z⟩, if_pos z]
    · rw [if_neg (fun y => z y.2), if_neg z]
  have n6 : hN (sR k5 N 3 (some (N + 4))) = N + 8 := by show hN k5 = _; omega
  have z6 : hZ (sR k5 N 3 (some (N + 4))) = hZ k5 := rfl
  have t6 : hS (sR k5 N 3 (some (N + 4))) N = .inl 3 := t5
  generalize sR k5 N 3 (some (N + 4)) = k6 at F6 R6 n6 z6 t6
  rw [wp_bind, n6]
  have F7 := FX.nw (h := k6) (.inl 7) N
  have u7 : hS (nw k6 (.inl 7)) (N + 8) = .inl 7 := by show (if N + 8 = hN k6 then _ else _) = _; rw [if_pos n6.symm]
  have n7 : hN (nw k6 (.inl 7)) = N + 8 + 1 := by show hN k6 + 1 = _; omega
  have z7 : hZ (nw k6 (.inl 7)) ≤ hZ k6 + 20 := by show hZ k6 + szC 7 ≤ hZ k6 + 20; exact Nat.add_le_add_left (by decide) _
  have R7 : ∀ q, hR (nw k6 (.inl 7)) N q = hR k6 N q := fun q => by show (if N = hN k6 then none else _) = _; rw [if_neg (by omega)]; rfl
  generalize nw k6 (.inl 7) = k7 at F7 u7 n7 z7 R7
  have t7 : hS k7 N = .inl 3 := (F7.2.1 N (by omega)).1.trans t6
  refine wp_mono (c_initR u7 n7) ?_
  rintro k8 ⟨F8, n8, z8, G8⟩
  have t8 : hS k8 N = .inl 3 := (F8.2.1 N (by omega)).1.trans t7
  rw [wp_bind, w_pR (by omega) t8]
  have F9 := FX.sR (h := k8) N 4 (some (N + 8))
  have R9 : ∀ q, hR (sR k8 N 4 (some (N + 8))) N q = if q = 4 then some (N + 8) else hR k8 N q := fun q => by
    rw [hR_s]
    by_cases z : q = 4
    · rw [if_pos ⟨rfl, z⟩, if_pos z]
    · rw [if_neg (fun y => z y.2), if_neg z]
  have n9 : hN (sR k8 N 4 (some (N + 8))) = N + 15 := by show hN k8 = _; omega
  have z9 : hZ (sR k8 N 4 (some (N + 8))) = hZ k8 := rfl
  have t9 : hS (sR k8 N 4 (some (N + 8))) N = .inl 3 := t8
  generalize sR k8 N 4 (some (N + 8)) = k9 at F9 R9 n9 z9 t9
  refine st_arr (c := 3) (k := 7) (by omega) t9 (by decide) (fun k10 A10 => ?_)
  have n10 : hN k10 = N + 16 := by rw [A10.1, n9]
  have t10 : hS k10 N = .inl 3 := (A10.2.2.2.2.1 N (by omega)).1.trans t9
  rw [wp_some]
  have o0 := F0.ol (N := N) (by omega) (Nat.le_refl _)
  have o1 := A1.fx.ol (N := N) (by omega) (Nat.le_refl _)
  have o2 := A2.fx.ol (N := N) (by omega) (Nat.le_refl _)
  have o3 := A3.fx.ol (N := N) (by omega) (Nat.le_refl _)
  have o4 := F4.ol (N := N) (by omega) (Nat.le_refl _)
  have o5 := F5.ol (N := N) (by omega) (by omega)
  have o6 := F6.ol (N := N) (by omega) (Nat.le_refl _)
  have o7 := F7.ol (N := N) (by omega) (Nat.le_refl _)
  have o8 := F8.ol (N := N) (by omega) (by omega)
  have o9 := F9.ol (N := N) (by omega) (Nat.le_refl _)
  have oA := A10.fx.ol (N := N) (by omega) (Nat.le_refl _)
  have oo : OL N h k10 := o0.trans (o1.trans (o2.trans (o3.trans (o4.trans (o5.trans (o6.trans (o7.trans (o8.trans (o9.trans oA)))))))))
  have rA : ∀ q, q ≠ 7 → hR k10 N q = hR k9 N q := fun q hq => A10.2.2.2.2.2 N q (by omega) (Or.inr hq)
  have r8 : ∀ q, hR k8 N q = hR k6 N q := fun q => by rw [F8.2.2 N q (by omega) (by omega), R7]
  have r5 : ∀ q, hR k5 N q = hR k3 N q := fun q => by rw [F5.2.2 N q (by omega) (by omega), R4]
  have bas : ∀ q, q ≠ 7 → q ≠ 4 → q ≠ 3 → hR k10 N q = hR k3 N q := fun q h7 h4 h3 => by rw [rA q h7, R9, if_neg h4, r8, R6, if_neg h3, r5]
  have sA : ∀ x, x < hN k3 → hS k10 x = hS k3 x := fun x hx => by rw [(A10.2.2.2.2.1 x (by omega)).1, (F9.2.1 x (by omega)).1, (F8.2.1 x (by omega)).1, (F7.2.1 x (by omega)).1, (F6.2.1 x (by omega)).1, (F5.2.1 x (by omega)).1, (F4.2.1 x hx).1]
  obtain ⟨_, y1, s1, q1, e1, f1⟩ := A1
  obtain ⟨_, y2, s2, q2, e2, f2⟩ := A2
  obtain ⟨_, y3, s3, q3, e3, f3⟩ := A3
  rw [n0] at s1 q1
  rw [n1] at s2 q2
  rw [n2] at s3 q3
  have G5' : Sh1 k10 (N + 4) := A10.fx.sh1 (F9.sh1 (F8.sh1 (F7.sh1 (F6.sh1 G5 (by omega)) (by omega)) (by omega)) (by omega)) (by omega)
  have G8' : Sh7 k10 (N + 8) := A10.fx.sh7 (F9.sh7 G8 (by omega)) (by omega)
  obtain ⟨_, yA, sAA, qA, eA, fA⟩ := A10
  rw [n9] at sAA qA
  refine ⟨⟨oo.1, fun x hx => ?_, fun x q hx _ => ?_⟩, n10, ?_, ⟨by omega, t10, ⟨?_, ?_⟩, ⟨?_, ?_⟩, ⟨?_, ?_⟩, ⟨?_, G5'⟩, ?_, G8'⟩, qA, sAA⟩
  · rw [hNN] at hx
    have := oo.2 x hx
    exact ⟨this.1, this.2.1, this.2.2.1⟩
  · rw [hNN] at hx
    exact (oo.2 x hx).2.2.2 q
  · have w1 : jsz (.inr (.int, 72)) = 72 := rfl
    have w2 : jsz (.inr (.int, 6)) = 6 := rfl
    have w3 : jsz (.inr (.int, 16)) = 16 := rfl
    have w4 : jsz (.inr (.long, 32)) = 32 := rfl
    omega
  · rw [bas 0 (by decide) (by decide) (by decide), f3 N 0 (by omega) (Or.inr (by decide)), f2 N 0 (by omega) (Or.inr (by decide))]; exact q1
  · rw [sA _ (by omega), (e3 _ (by omega)).1, (e2 _ (by omega)).1]; exact s1
  · rw [bas 1 (by decide) (by decide) (by decide), f3 N 1 (by omega) (Or.inr (by decide))]; exact q2
  · rw [sA _ (by omega), (e3 _ (by omega)).1]; exact s2
  · rw [bas 2 (by decide) (by decide) (by decide)]; exact q3
  · rw [sA _ (by omega)]; exact s3
  · rw [rA 3 (by decide), R9, if_neg (by decide), r8, R6, if_pos rfl]
  · rw [rA 4 (by decide), R9, if_pos rfl]
end NEW

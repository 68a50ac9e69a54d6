/-! rows copied, filled; a state copied, cleared, begun -/
def cpM (m : Mem) (a0 a k : Nat) : Mem := fun b j => if b = a ∧ j < k then m a0 j else m b j
def flM (m : Mem) (a n : Nat) (v : Int32) : Mem := fun b j => if b = a ∧ j < n then v else m b j
theorem cpM_r {m : Mem} {a0 a k b : Nat} (h : b ≠ a) : cpM m a0 a k b = m b := by
  funext j
  show (if b = a ∧ j < k then m a0 j else m b j) = m b j
  rw [if_neg (fun z => h z.1)]
theorem cpM_a {m : Mem} {a0 a k j : Nat} (h : j < k) : cpM m a0 a k a j = m a0 j := by
  show (if a = a ∧ j < k then m a0 j else m a j) = m a0 j
  rw [if_pos ⟨rfl, h⟩]
theorem flM_r {m : Mem} {a n b : Nat} {v : Int32} (h : b ≠ a) : flM m a n v b = m b := by
  funext j
  show (if b = a ∧ j < n then v else m b j) = m b j
  rw [if_neg (fun z => h z.1)]
theorem flM_a {m : Mem} {a n j : Nat} {v : Int32} (h : j < n) : flM m a n v a j = v := by
  show (if a = a ∧ j < n then v else m a j) = v
  rw [if_pos ⟨rfl, h⟩]
section CP
variable {h : Hp} {m : Mem}
theorem w_kI {ty : FieldType} {a0 a k n0 n1 : Nat} {Q : Hp → Prop} (h0 : a0 < hN h) (s0 : hS h a0 = .inr (ty, n0)) (h1 : a < hN h) (s1 : hS h a = .inr (ty, n1)) (k0 : k ≤ n0) (k1 : k ≤ n1) (hk : k < 2 ^ 31) : wp (kI (wI h m) ty a0 0 a 0 (nI k)) Q = Q (wI h (cpM m a0 a k)) := by
  refine wp_eq ?_
  unfold kI
  rw [ga_ok (h := wI h m) h0 s0, Option.bind_some, ga_ok (h := wI h m) h1 s1, Option.bind_some, nI_clamp hk, if_neg]
  · refine congrArg some ?_
    unfold cpI wI cpM
    refine Prod.ext rfl (Prod.ext ?_ rfl)
    funext b j
    show (if b = a ∧ Int32.toNatClampNeg 0 ≤ j ∧ j < Int32.toNatClampNeg 0 + k then m a0 (Int32.toNatClampNeg 0 + (j - Int32.toNatClampNeg 0)) else m b j) = if b = a ∧ j < k then m a0 j else m b j
    rw [show Int32.toNatClampNeg 0 = 0 from rfl]
    by_cases z : b = a ∧ j < k
    · rw [if_pos (by omega), if_pos z, show 0 + (j - 0) = j by omega]
    · rw [if_neg (by omega), if_neg z]
  · rintro (z | z | z | z | z)
    · exact absurd z (by decide)
    · exact absurd z (by decide)
    · exact nI_pos hk z
    · change n0 < 0 + k at z; omega
    · change n1 < 0 + k at z; omega
theorem w_fill {a n : Nat} {v : Int32} {Q : Hp → Prop} (ha : a < hN h) (hs : hS h a = .inr (.int, n)) (hn : n < 100000) : wp (fJ7_fill_53178 (wI h m) a v) Q = Q (wI h (flM m a n v)) := by
  have : wp (fJ7_fill_53178 (wI h m) a v) (fun r => r = wI h (flM m a n v)) := by
    unfold fJ7_fill_53178
    rw [wp_bind, x_aL ha hs, wp_bind]
    refine wp_mono (Q := fun r => r = wI h (flM m a n v)) ?_ (fun r hr => by rw [wp_some]; exact hr)
    have z0 : flM m a 0 v = m := by
      funext b j
      show (if b = a ∧ j < 0 then v else m b j) = m b j
      rw [if_neg (by omega)]
    have key := wp_for (body := bJ7_fill_53178_5 a v (nI n)) (Q := fun r => r = wI h (flM m a n v)) (κ := Unit) (fun i _ => (nI i, wI h (flM m a i v))) n (fun _ _ => True) (fun i _ hi _ => ?_) (fun _ _ => ?_) 0 () (Nat.zero_le _) trivial (by omega)
    · rw [z0] at key; exact key
    · simp (disch := omega) only [bJ7_fill_53178_5, i_le, wp_f, wp_bind, x_tI ha hs, wp_some, lq_l, L_1, i_add]
      refine ⟨(), ?_, trivial⟩
      refine congrArg (fun q => (nI (i + 1), wI h q)) ?_
      funext b j
      show (if b = a ∧ j = i then v else if b = a ∧ j < i then v else m b j) = if b = a ∧ j < i + 1 then v else m b j
      by_cases z : b = a ∧ j < i + 1
      · rw [if_pos z]
        by_cases z2 : b = a ∧ j = i
        · rw [if_pos z2]
        · rw [if_neg z2, if_pos (by omega)]
      · rw [if_neg z, if_neg (by omega), if_neg (by omega)]
    · simp (disch := omega) only [bJ7_fill_53178_5, i_le, wp_t, wp_some, lq_r]
  obtain ⟨r, e, rfl⟩ := this
  exact wp_eq e
/-- all of a state but its chains' rows -/
def LI (m : Mem) (b : Nat) (A : LA) : Prop := RRc m (b + 8) (aD A) ∧ GRc m (b + 4) (aG A) ∧ (∀ x, x < 16 → m (b + 3) x = nI (aU A x)) ∧ (∀ p, p < 6 → m (b + 2) p = aR A p) ∧ (∀ j, j < 72 → m (b + 1) j = nI (aS A j)) ∧ m b 5 = nI (aK A) ∧ m b 6 = aA A
theorem c_copyG {g g' : Nat} {G : GD} (s : Sh1 h g) (s' : Sh1 h g') (hd : g + 3 < g' ∨ g' + 3 < g) (R : GRc m g G) : wp (fX1_copyFrom (wI h m) g' g) (fun r => ∃ m', r = wI h m' ∧ (∀ a, ¬ (g' ≤ a ∧ a ≤ g' + 3) → m' a = m a) ∧ GRc m' g' G) := by
  have l := s.1
  have l' := s'.1
  have t1 := s.2.2.1.2
  have t2 := s.2.2.2.1.2
  have t3 := s.2.2.2.2.2
  have t1' := s'.2.2.1.2
  have t2' := s'.2.2.2.1.2
  have t3' := s'.2.2.2.2.2
  unfold fX1_copyFrom
  rw [wp_bind, s.g0, wp_bind, s'.p0, wp_bind, s.r1, wp_bind, s'.r1, wp_bind, s'.r1, wp_bind, s'.n1, wp_bind, w_kI (by omega) t1 (by omega) t1' (by decide) (by decide) (by decide), wp_bind, s.r2, wp_bind, s'.r2, wp_bind, s'.r2, wp_bind, s'.n2, wp_bind, w_kI (by omega) t2 (by omega) t2' (by decide) (by decide) (by decide), wp_bind, s.r3, wp_bind, s'.r3, wp_bind, s'.r3, wp_bind, s'.n3, wp_bind, w_kI (by omega) t3 (by omega) t3' (by decide) (by decide) (by decide), wp_some]
  refine ⟨_, rfl, fun a ha => by rw [cpM_r (by omega), cpM_r (by omega), cpM_r (by omega), up_r (by omega)], ?_, fun x hx => ⟨fun y hy => ?_, fun y hy => ?_, fun y pl hy hp => ?_⟩⟩
  · rw [cpM_r (by omega), cpM_r (by omega), cpM_r (by omega), up_at]; exact R.1
  · rw [cpM_r (by omega), cpM_r (by omega), cpM_a hx, up_r (by omega)]; exact (R.2 x hx).1 y hy
  · rw [cpM_r (by omega), cpM_a hx, cpM_r (by omega), up_r (by omega)]; exact (R.2 x hx).2.1 y hy
  · rw [cpM_a (by omega), cpM_r (by omega), cpM_r (by omega), up_r (by omega)]; exact (R.2 x hx).2.2 y pl hy hp
theorem c_copyR {g g' : Nat} {D : RD} (s : Sh7 h g) (s' : Sh7 h g') (hd : g + 6 < g' ∨ g' + 6 < g) (R : RRc m g D) (w : RW D) : wp (fX7_copyFrom (wI h m) g' g) (fun r => ∃ m', r = wI h m' ∧ (∀ a, ¬ (g' ≤ a ∧ a ≤ g' + 6) → m' a = m a) ∧ RRc m' g' D) := by
  have l := s.1
  have l' := s'.1
  have h60 := w.1
  have e0 := R.1
  have t1 := s.2.2.1.2
  have t2 := s.2.2.2.1.2
  have t3 := s.2.2.2.2.1.2
  have t4 := s.2.2.2.2.2.1.2
  have t5 := s.2.2.2.2.2.2.1.2
  have t6 := s.2.2.2.2.2.2.2.2
  have t1' := s'.2.2.1.2
  have t2' := s'.2.2.2.1.2
  have t3' := s'.2.2.2.2.1.2
  have t4' := s'.2.2.2.2.2.1.2
  have t5' := s'.2.2.2.2.2.2.1.2
  have t6' := s'.2.2.2.2.2.2.2.2
  unfold fX7_copyFrom
  rw [wp_bind, s.g0, wp_bind, s'.p0, e0]
  have k0 : ∀ (m : Mem), m g' 0 = nI (rC D) → ∀ {Q : Int32 → Prop}, wp (gI (wI h m) 7 g' 0) Q = Q (nI (rC D)) := fun m hm {Q} => by rw [s'.g0, hm]
  rw [wp_bind, s.r1, wp_bind, s'.r1, wp_bind, k0 _ up_at, wp_bind, w_kI (by omega) t1 (by omega) t1' (by omega) (by omega) (by omega)]
  rw [wp_bind, s.r2, wp_bind, s'.r2, wp_bind, k0 _ (by rw [cpM_r (by omega), up_at]), wp_bind, w_kI (by omega) t2 (by omega) t2' (by omega) (by omega) (by omega)]
  rw [wp_bind, s.r3, wp_bind, s'.r3, wp_bind, k0 _ (by rw [cpM_r (by omega), cpM_r (by omega), up_at]), wp_bind, w_kI (by omega) t3 (by omega) t3' (by omega) (by omega) (by omega)]
  rw [wp_bind, s.r4, wp_bind, s'.r4, wp_bind, k0 _ (by rw [cpM_r (by omega), cpM_r (by omega), cpM_r (by omega), up_at]), wp_bind, w_kI (by omega) t4 (by omega) t4' (by omega) (by omega) (by omega)]
  rw [wp_bind, s.r5, wp_bind, s'.r5, wp_bind, k0 _ (by rw [cpM_r (by omega), cpM_r (by omega), cpM_r (by omega), cpM_r (by omega), up_at]), L_17, i_mul, wp_bind, w_kI (by omega) t5 (by omega) t5' (by omega) (by omega) (by omega)]
  rw [wp_bind, s.r6, wp_bind, s'.r6, wp_bind, s'.r6, wp_bind, s'.n6, wp_bind, w_kI (by omega) t6 (by omega) t6' (by decide) (by decide) (by decide), wp_some]
  refine ⟨_, rfl, fun a ha => by rw [cpM_r (by omega), cpM_r (by omega), cpM_r (by omega), cpM_r (by omega), cpM_r (by omega), cpM_r (by omega), up_r (by omega)], ?_, fun r hr => ?_, fun st x y g1 g2 g3 => ?_⟩
  · rw [cpM_r (by omega), cpM_r (by omega), cpM_r (by omega), cpM_r (by omega), cpM_r (by omega), cpM_r (by omega), up_at]
  · obtain ⟨⟨c1, c2, c3, c4⟩, c5⟩ := R.2.1 r hr
    have hN := (w.2 r hr).1
    refine ⟨⟨?_, ?_, ?_, ?_⟩, fun i hi => ?_⟩
    · rw [cpM_r (by omega), cpM_r (by omega), cpM_r (by omega), cpM_r (by omega), cpM_r (by omega), cpM_a hr, up_r (by omega)]; exact c1
    · rw [cpM_r (by omega), cpM_r (by omega), cpM_r (by omega), cpM_r (by omega), cpM_a hr, cpM_r (by omega), up_r (by omega)]; exact c2
    · rw [cpM_r (by omega), cpM_r (by omega), cpM_r (by omega), cpM_a hr, cpM_r (by omega), cpM_r (by omega), up_r (by omega)]; exact c3
    · rw [cpM_r (by omega), cpM_r (by omega), cpM_a hr, cpM_r (by omega), cpM_r (by omega), cpM_r (by omega), up_r (by omega)]; exact c4
    · rw [cpM_r (by omega), cpM_a (by omega), cpM_r (by omega), cpM_r (by omega), cpM_r (by omega), cpM_r (by omega), up_r (by omega)]; exact c5 i hi
  · rw [cpM_a (by omega), cpM_r (by omega), cpM_r (by omega), cpM_r (by omega), cpM_r (by omega), cpM_r (by omega), up_r (by omega)]
    exact R.2.2 st x y g1 g2 g3
/-- a state's rows for chains, whatever they hold -/
def CE (h : Hp) (b n : Nat) : Prop := rl n ∧ n ≤ 4096 ∧ ∃ ρ, hR h b 7 = some ρ ∧ ρ < hN h ∧ hS h ρ = .inr (.long, n)
theorem w_kJ {h : Hp} {m : Mem} {a0 a k n0 n1 : Nat} {Q : Hp → Prop} (h0 : a0 < hN h) (s0 : hS h a0 = .inr (.long, n0)) (h1 : a < hN h) (s1 : hS h a = .inr (.long, n1)) (k0 : k ≤ n0) (k1 : k ≤ n1) (hk : k < 2 ^ 31) : wp (kJ (wI h m) a0 0 a 0 (nI k)) Q = Q (wI (cpJ h a0 0 a 0 k) m) := by
  refine wp_eq ?_
  unfold kJ
  rw [ga_ok (h := wI h m) h0 s0, Option.bind_some, ga_ok (h := wI h m) h1 s1, Option.bind_some, nI_clamp hk, if_neg]
  · rfl
  · rintro (z | z | z | z | z)
    · exact absurd z (by decide)
    · exact absurd z (by decide)
    · exact nI_pos hk z
    · change n0 < 0 + k at z; omega
    · change n1 < 0 + k at z; omega
theorem hJ_cp {h : Hp} {a0 a k b j : Nat} : hJ (cpJ h a0 0 a 0 k) b j = if b = a ∧ j < k then hJ h a0 j else hJ h b j := by
  show (if b = a ∧ 0 ≤ j ∧ j < 0 + k then h.2.2.1 a0 (0 + (j - 0)) else h.2.2.1 b j) = _
  by_cases z : b = a ∧ j < k
  · rw [if_pos (by omega), if_pos z, show 0 + (j - 0) = j by omega]; rfl
  · rw [if_neg (by omega), if_neg z]; rfl
theorem c_copy {b b' n n' : Nat} {A : LA} (L : LX h m b A n) (s' : Sh3 h b') (C' : CE h b' n') (hd : b + 14 < b' ∨ b' + 14 < b) (hρ : hR h b 7 ≠ hR h b' 7) (w : RW (aD A)) : wp (fX3_copyFrom (wI h m) b' b) (fun r => ∃ h' m' n'', r = wI h' m' ∧ XC b' h h' ∧ (∀ a, a < hN h → ¬ (b' ≤ a ∧ a ≤ b' + 14) → m' a = m a) ∧ LX h' m' b' A n'' ∧ (n'' = n' ∧ hN h' = hN h ∧ hZ h' = hZ h ∨ n'' = n ∧ hN h' = hN h + 1 ∧ hZ h' = hZ h + n)) := by
  obtain ⟨s, L1, L2, L3, L4, L5, c1, c2, c3, c4, c5, ρ, c6, c7, c8, c9⟩ := L
  obtain ⟨d1, d2, ρ', d3, d4, d5⟩ := C'
  rw [c6, d3] at hρ
  have hρ2 : ρ ≠ ρ' := fun e => hρ (by rw [e])
  have l := s.1
  have l' := s'.1
  have t0 := s.2.2.1.2
  have t1 := s.2.2.2.1.2
  have t2 := s.2.2.2.2.1.2
  have t0' := s'.2.2.1.2
  have t1' := s'.2.2.2.1.2
  have t2' := s'.2.2.2.2.1.2
  unfold fX3_copyFrom
  rw [wp_bind, s.r0, wp_bind, s'.r0, wp_bind, s'.r0, wp_bind, s'.n0, wp_bind, w_kI (by omega) t0 (by omega) t0' (by decide) (by decide) (by decide)]
  rw [wp_bind, s.r1, wp_bind, s'.r1, wp_bind, s'.r1, wp_bind, s'.n1, wp_bind, w_kI (by omega) t1 (by omega) t1' (by decide) (by decide) (by decide)]
  rw [wp_bind, s.r2, wp_bind, s'.r2, wp_bind, s'.r2, wp_bind, s'.n2, wp_bind, w_kI (by omega) t2 (by omega) t2' (by decide) (by decide) (by decide)]
  rw [wp_bind, s'.r3, wp_bind, s.r3, wp_bind, s'.s3.o, wp_bind]
  generalize hm1 : cpM (cpM (cpM m (b + 1) (b' + 1) 72) (b + 2) (b' + 2) 6) (b + 3) (b' + 3) 16 = m1
  have f1 : ∀ a, ¬ (b' + 1 ≤ a ∧ a ≤ b' + 3) → m1 a = m a := fun a ha => by rw [← hm1, cpM_r (by omega), cpM_r (by omega), cpM_r (by omega)]
  have g1 : ∀ j, j < 72 → m1 (b' + 1) j = m (b + 1) j := fun j hj => by rw [← hm1, cpM_r (by omega), cpM_r (by omega), cpM_a hj]
  have g2 : ∀ j, j < 6 → m1 (b' + 2) j = m (b + 2) j := fun j hj => by rw [← hm1, cpM_r (by omega), cpM_a hj, cpM_r (by omega)]
  have g3 : ∀ j, j < 16 → m1 (b' + 3) j = m (b + 3) j := fun j hj => by rw [← hm1, cpM_a hj, cpM_r (by omega), cpM_r (by omega)]
  refine wp_mono (c_copyG s.s3 s'.s3 (by omega) (L2.congr (fun a q1 q2 => f1 a (by omega)))) ?_
  rintro r ⟨m2, rfl, f2, R2⟩
  rw [wp_bind, s'.r4, wp_bind, s.r4, wp_bind, s'.s4.o, wp_bind]
  refine wp_mono (c_copyR s.s4 s'.s4 (by omega) (L1.congr (fun a q1 q2 => by rw [f2 a (by omega), f1 a (by omega)])) w) ?_
  rintro r ⟨m3, rfl, f3, R3⟩
  have e5 : m3 b 5 = nI (aK A) := by rw [f3 b (by omega), f2 b (by omega), f1 b (by omega)]; exact c1
  have e6 : ∀ {v : Int32}, up m3 b' 5 v b 6 = aA A := fun {v} => by rw [up_r (by omega), f3 b (by omega), f2 b (by omega), f1 b (by omega)]; exact c2
  rw [wp_bind, s.g5, e5, wp_bind, s'.p5, wp_bind, s.g6, e6, wp_bind, s'.p6]
  generalize hm4 : up (up m3 b' 5 (nI (aK A))) b' 6 (aA A) = m4
  have f4 : ∀ a, ¬ (b' ≤ a ∧ a ≤ b' + 14) → m4 a = m a := fun a ha => by rw [← hm4, up_r (by omega), up_r (by omega), f3 a (by omega), f2 a (by omega), f1 a (by omega)]
  have u5 : m4 b' 5 = nI (aK A) := by rw [← hm4, up_a, if_neg (by decide), up_at]
  have u6 : m4 b' 6 = aA A := by rw [← hm4, up_at]
  have f43 : ∀ a, a ≠ b' → m4 a = m3 a := fun a ha => by rw [← hm4, up_r ha, up_r ha]
  have LIn : RRc m4 (b' + 8) (aD A) ∧ GRc m4 (b' + 4) (aG A) ∧ (∀ x, x < 16 → m4 (b' + 3) x = nI (aU A x)) ∧ (∀ p, p < 6 → m4 (b' + 2) p = aR A p) ∧ (∀ j, j < 72 → m4 (b' + 1) j = nI (aS A j)) := by
    refine ⟨R3.congr (fun a q1 q2 => f43 a (by omega)), R2.congr (fun a q1 q2 => by rw [f43 a (by omega), f3 a (by omega)]), fun x hx => ?_, fun p hp => ?_, fun j hj => ?_⟩
    · rw [f43 _ (by omega), f3 _ (by omega), f2 _ (by omega), g3 x hx]; exact L3 x hx
    · rw [f43 _ (by omega), f3 _ (by omega), f2 _ (by omega), g2 p hp]; exact L4 p hp
    · rw [f43 _ (by omega), f3 _ (by omega), f2 _ (by omega), g1 j hj]; exact L5 j hj
  have q7' : ∀ {h1 : Hp} {m : Mem} {Q : Nat → Prop} {σ : Nat}, Sh3 h1 b' → hR h1 b' 7 = some σ → wp (gR (wI h1 m) 3 b' 7) Q = Q σ := fun t r => by rw [t.q7, r, wp_some]
  have q7 : ∀ {h1 : Hp} {m : Mem} {Q : Nat → Prop} {σ : Nat}, Sh3 h1 b → hR h1 b 7 = some σ → wp (gR (wI h1 m) 3 b 7) Q = Q σ := fun t r => by rw [t.q7, r, wp_some]
  have J : ∀ (h1 : Hp) (σ nn : Nat), Sh3 h1 b → Sh3 h1 b' → hR h1 b 7 = some ρ → hR h1 b' 7 = some σ → ρ < hN h1 → hS h1 ρ = .inr (.long, n) → σ < hN h1 → hS h1 σ = .inr (.long, nn) → aK A ≤ nn → ∀ m5 : Mem, m5 b' 5 = nI (aK A) → wp (jX3_copyFrom_115 b' b (wI h1 m5)) (fun r => r = wI (cpJ h1 ρ 0 σ 0 (aK A)) m5) := by
    intro h1 σ nn t t' r1 r2 z1 z2 z3 z4 z5 m5 z6
    unfold jX3_copyFrom_115
    rw [wp_bind, q7 t r1, wp_bind, q7' t' r2, wp_bind, t'.g5, z6, wp_bind, w_kJ z1 z2 z3 z4 c5 z5 (by omega), wp_some]
  rw [wp_bind, q7' s' d3, wp_bind, x_aL d4 d5, wp_bind, s'.g5, u5]
  by_cases hle : aK A ≤ n'
  · rw [wp_t (nI_le hle (by omega))]
    refine wp_mono (J h ρ' n' s s' c6 d3 c7 c8 d4 d5 hle m4 u5) ?_
    rintro r rfl
    refine ⟨_, m4, n', rfl, ⟨XX.rfl' h, fun _ _ _ _ => rfl, fun a ha hr j => ?_, Or.inl rfl⟩, fun a _ ha => f4 a ha, ⟨s', LIn.1, LIn.2.1, LIn.2.2.1, LIn.2.2.2.1, LIn.2.2.2.2, u5, u6, d1, d2, hle, ρ', d3, d4, d5, fun i hi => ?_⟩, Or.inl ⟨rfl, rfl, rfl⟩⟩
    · rw [hJ_cp, if_neg (fun z => hr (by rw [d3, z.1]))]
    · rw [hJ_cp, if_pos ⟨rfl, hi⟩]; exact c9 i hi
  · rw [wp_f (fun z => hle ((nI_leI (by omega) (by omega)).mp z)), wp_bind, q7 s c6, wp_bind, x_aL c7 c8]
    have eA : nA (wI h m4) .long (nI n) = some (wI (nw h (.inr (.long, n))) (fun a j => if a = hN h then 0 else m4 a j)) := by
      unfold nA
      rw [if_neg (by rw [nI_clamp (by omega)]; intro z; rcases z with z | z; · exact nI_pos (by omega) z
                     · omega), nI_clamp (by omega)]
      rfl
    rw [wp_bind, wp_eq eA, wp_bind]
    have x1 := XX.nw h (.inr (.long, n))
    have t' := s'.x x1
    rw [wI_N, t'.d7]
    have xs : XX (nw h (.inr (.long, n))) (sR (nw h (.inr (.long, n))) b' 7 (some (hN h))) := XX.sR (fun c hc => by rw [t'.2.1] at hc; cases hc; rfl)
    have t2 := s.x (x1.trans xs)
    have t2' := t'.x xs
    have bne : b ≠ b' := by omega
    have rb : hR (sR (nw h (.inr (.long, n))) b' 7 (some (hN h))) b 7 = some ρ := by
      rw [hR_s, if_neg (fun z => bne z.1)]
      show (if b = hN h then none else h.2.2.2.1 b 7) = some ρ
      rw [if_neg (by omega)]; exact c6
    have rb' : hR (sR (nw h (.inr (.long, n))) b' 7 (some (hN h))) b' 7 = some (hN h) := by rw [hR_s, if_pos ⟨rfl, rfl⟩]
    have sρ : hS (sR (nw h (.inr (.long, n))) b' 7 (some (hN h))) ρ = .inr (.long, n) := by
      show (if ρ = hN h then _ else h.1 ρ) = _
      rw [if_neg (by omega)]; exact c8
    have sN : hS (sR (nw h (.inr (.long, n))) b' 7 (some (hN h))) (hN h) = .inr (.long, n) := if_pos rfl
    have hNN : hN (sR (nw h (.inr (.long, n))) b' 7 (some (hN h))) = hN h + 1 := rfl
    refine wp_mono (J _ (hN h) n t2 t2' rb rb' (by rw [hNN]; omega) sρ (by rw [hNN]; omega) sN c5 _ (by show (if b' = hN h then 0 else m4 b' 5) = _; rw [if_neg (by omega)]; exact u5)) ?_
    rintro r rfl
    have f5 : ∀ a, a < hN h → (fun (a j : Nat) => if a = hN h then (0 : Int32) else m4 a j) a = m4 a := fun a ha => by
      funext j
      show (if a = hN h then 0 else m4 a j) = m4 a j
      rw [if_neg (by omega)]
    refine ⟨_, _, n, rfl, ⟨x1.trans xs, fun a k ha hk => ?_, fun a ha hr j => ?_, Or.inr ⟨hN h, rb', Nat.le_refl _⟩⟩, fun a ha hb => (f5 a ha).trans (f4 a hb), ⟨t2', LIn.1.congr (fun a q1 q2 => f5 a (by omega)), LIn.2.1.congr (fun a q1 q2 => f5 a (by omega)), ?_, ?_, ?_, ?_, ?_, c3, c4, c5, hN h, rb', by rw [show hN (cpJ (sR (nw h (.inr (.long, n))) b' 7 (some (hN h))) ρ 0 (hN h) 0 (aK A)) = hN h + 1 from rfl]; omega, sN, fun i hi => ?_⟩, Or.inr ⟨rfl, rfl, rfl⟩⟩
    · show hR (sR (nw h (.inr (.long, n))) b' 7 (some (hN h))) a k = hR h a k
      rw [hR_s, if_neg (fun z => hk.elim (fun q => q z.1) (fun q => q z.2))]
      show (if a = hN h then none else h.2.2.2.1 a k) = h.2.2.2.1 a k
      rw [if_neg (by omega)]
    · rw [hJ_cp, if_neg (by omega)]
      show (if a = hN h then 0 else h.2.2.1 a j) = h.2.2.1 a j
      rw [if_neg (by omega)]
    · exact fun x hx => (congrFun (f5 (b' + 3) (by omega)) x).trans (LIn.2.2.1 x hx)
    · exact fun x hx => (congrFun (f5 (b' + 2) (by omega)) x).trans (LIn.2.2.2.1 x hx)
    · exact fun x hx => (congrFun (f5 (b' + 1) (by omega)) x).trans (LIn.2.2.2.2 x hx)
    · exact (congrFun (f5 b' (by omega)) 5).trans u5
    · exact (congrFun (f5 b' (by omega)) 6).trans u6
    · rw [hJ_cp, if_pos ⟨rfl, hi⟩]
      show (if ρ = hN h then 0 else h.2.2.1 ρ i) = _
      rw [if_neg (by omega)]; exact c9 i hi
/-- nothing learnt, with steps S -/
def noA (S : Nat → Nat) : LA := ((0, fun _ => 0, fun _ => 0, fun _ => 0, fun _ => 0, fun _ _ => 0), fun _ _ => none, fun _ => 0, fun _ => 0, (0, fun _ => (0, fun _ => 0)), 0, S)
theorem cn_none {P : Nat → Prop} (h : ∀ i, ¬ P i) : ∀ n, cn P n = 0
  | 0 => rfl
  | n + 1 => by rw [cn_f (h n), cn_none h n]
theorem noE {x y : Nat} : ¬ gE (fun _ _ => none) x y := fun z => z rfl
theorem noRc {x y : Nat} : ¬ Rc 16 (gE (fun _ _ => none)) x y := fun ⟨k, b, _, h2, _⟩ => noE h2
theorem c_clear {b n : Nat} {S : Nat → Nat} (s : Sh3 h b) (C : CE h b n) (hS : ∀ j, j < 72 → m (b + 1) j = nI (S j)) : wp (fX3_clear (wI h m) b) (fun r => ∃ m', r = wI h m' ∧ (∀ a, ¬ (b ≤ a ∧ a ≤ b + 14) → m' a = m a) ∧ LX h m' b (noA S) n) := by
  have l := s.1
  have t1 := s.2.2.2.1.2
  have t2 := s.2.2.2.2.1.2
  have sg := s.s3
  have sr := s.s4
  have g1 := sg.2.2.1.2
  have g2 := sg.2.2.2.1.2
  have r6 := sr.2.2.2.2.2.2.2.2
  obtain ⟨d1, d2, ρ, d3, d4, d5⟩ := C
  unfold fX3_clear
  rw [wp_bind, s.r1, wp_bind, w_fill (by omega) t1 (by decide), wp_bind, s.r2, wp_bind, w_fill (by omega) t2 (by decide), wp_bind, s.r3, wp_bind, sg.o, wp_bind]
  unfold fX1_clear
  rw [wp_bind, sg.p0, wp_bind, sg.r1, wp_bind, w_fill (by omega) g1 (by decide), wp_bind, sg.r2, wp_bind, w_fill (by omega) g2 (by decide), wp_some, wp_bind, s.r4, wp_bind, sr.o, wp_bind]
  unfold fX7_clear
  rw [wp_bind, sr.p0, wp_bind, sr.r6, wp_bind, w_fill (by omega) r6 (by decide), wp_some, wp_bind, s.p5, wp_bind, s.p6, wp_some]
  refine ⟨_, rfl, fun a ha => ?_, ⟨s, ⟨?_, fun r hr => absurd hr (Nat.not_lt_zero _), fun st x y q1 q2 q3 => ?_⟩, ⟨?_, fun x hx => ⟨fun y hy => ?_, fun y hy => ?_, fun y pl hy hp => by cases hp⟩⟩, fun x hx => ?_, fun p hp => ?_, fun j hj => ?_, ?_, ?_, d1, d2, Nat.zero_le _, ρ, d3, d4, d5, fun i hi => absurd hi (Nat.not_lt_zero _)⟩⟩
  · rw [up_r (by omega), up_r (by omega), flM_r (by omega), up_r (by omega), flM_r (by omega), flM_r (by omega), up_r (by omega), flM_r (by omega), flM_r (by omega)]
  · rw [up_r (by omega), up_r (by omega), flM_r (by omega), up_at]; rfl
  · rw [up_r (by omega), up_r (by omega), flM_a (by omega), b_0]
    constructor
    · intro z; cases z
    · rintro ⟨r, hr, _⟩; exact absurd hr (Nat.not_lt_zero _)
  · rw [up_r (by omega), up_r (by omega), flM_r (by omega), up_r (by omega), flM_r (by omega), flM_r (by omega), up_at]
    show 0 = nI (cn _ 256)
    rw [cn_none (P := fun k => gE (aG (noA S)) (k / 16) (k % 16)) (fun i z => z rfl)]; rfl
  · rw [up_r (by omega), up_r (by omega), flM_r (by omega), up_r (by omega), flM_r (by omega), flM_a hx, b_0]
    constructor
    · intro z; cases z
    · intro z; exact absurd z.2 noE
  · rw [up_r (by omega), up_r (by omega), flM_r (by omega), up_r (by omega), flM_a hx, b_0]
    constructor
    · intro z; cases z
    · intro z; exact absurd z.2 noRc
  · rw [up_r (by omega), up_r (by omega), flM_r (by omega), up_r (by omega), flM_r (by omega), flM_r (by omega), up_r (by omega), flM_a hx]; rfl
  · rw [up_r (by omega), up_r (by omega), flM_r (by omega), up_r (by omega), flM_r (by omega), flM_r (by omega), up_r (by omega), flM_r (by omega), flM_a hp]; rfl
  · rw [up_r (by omega), up_r (by omega), flM_r (by omega), up_r (by omega), flM_r (by omega), flM_r (by omega), up_r (by omega), flM_r (by omega), flM_r (by omega)]; exact hS j hj
  · rw [up_a, if_neg (by decide), up_at]; rfl
  · rw [up_at]; rfl
theorem c_begin {b n q : Nat} {S : Nat → Nat} (s : Sh3 h b) (C : CE h b n) (hq : q < hN h) (tq : hS h q = .inr (.int, 72)) (hqb : ¬ (b ≤ q ∧ q ≤ b + 14)) (hS : ∀ j, j < 72 → m q j = nI (S j)) : wp (fX3_begin (wI h m) b q) (fun r => ∃ m', r = wI h m' ∧ (∀ a, ¬ (b ≤ a ∧ a ≤ b + 14) → m' a = m a) ∧ LX h m' b (noA S) n) := by
  have l := s.1
  have t0 := s.2.2.1.2
  unfold fX3_begin
  rw [wp_bind, s.r0, wp_bind, s.r0, wp_bind, s.n0, wp_bind, w_kI hq tq (by omega) t0 (by decide) (by decide) (by decide), wp_bind, s.o, wp_bind]
  refine wp_mono (c_clear s C (S := S) (fun j hj => by rw [cpM_a hj]; exact hS j hj)) ?_
  rintro r ⟨m', rfl, f, L⟩
  rw [wp_some]
  exact ⟨m', rfl, fun a ha => by rw [f a ha, cpM_r (by omega)], L⟩
end CP

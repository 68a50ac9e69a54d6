/-! a state kept in a box, and taken out of it: both sides -/
section BXS
variable {h h' : Hp} {m m' : Mem} {g g' : GS} {own : Nat → Nat} {ad : Nat → Option Nat}
theorem tZ_ok {a n j : Nat} (ha : a < hN h) (hs : hS h a = .inr (.boolean, n)) (hj : j < n) (hn : n < 2 ^ 31) : tZ h a (nI j) 1 = some (sI h a j 1) := by
  unfold tZ; rw [ga_ok ha hs]; show (ix (nI j) n).bind _ = _; rw [ix_nI hj hn]; rfl
theorem x_tZ {a n j : Nat} {Q : Hp → Prop} (ha : a < hN h) (hs : hS h a = .inr (.boolean, n)) (hj : j < n) (hn : n < 2 ^ 31) : wp (tZ (wI h m) a (nI j) 1) Q = Q (wI h (up m a j 1)) := wp_eq (tZ_ok (h := wI h m) ha hs hj hn)
theorem w_wrZ {o n j : Nat} {Q : Mem → Prop} (hj : j < n) (hn : n < 2 ^ 31) : wp (wrZ m o n (nI j) 1) Q = Q (up m o j 1) := wp_eq (by unfold wrZ; rw [ix_nI hj hn]; rfl)
/-- a slot changes, and with it which state is present, or what a box holds -/
theorem ic_pt {s b n' : Nat} {A' : LA} (I : IC h g own ad) (hs : s < 15) (hb : ad s = some b) (x : XD 41 b h h') (f : ∀ a, a < hN h → ¬ (41 ≤ a ∧ a ≤ 46) → ¬ (b ≤ a ∧ a ≤ b + 14) → a ≠ 18 → a ≠ 37 → m' a = hI h a) (L : LX h' m' b A' n') (gp : sP g' = sP g) (gt : sT g' = sT g) (gB : sB g' = sB g) (gF : sF g' = sF g) (gG : sG g' = sG g) (a18 : m' 18 0 = nI (sA g') ∧ m' 18 1 = nI (sL g')) (hl : sL g' ≤ 12) (gH : ∀ i, i ≤ sL g' → i ≠ s → i ≤ sL g ∧ sH g' i = sH g i) (gN : s ≤ sL g' → sH g' s = A') (gX : ∀ q, q < 2 → 13 + q ≠ s → sX g' q = sX g q ∧ m' 37 q = hI h 37 q) (gY : ∀ q, q < 2 → 13 + q = s → sX g' q = some A' ∧ m' 37 q = 1) : ∃ own', IC (wI h' m') g' own' ad ∧ NF h (wI h' m') own ∧ (∀ a, a < hN h → own' a = own a) ∧ ∀ a, own' a = 17 → own a = 17 := by
  have I' := I
  obtain ⟨c, o, ⟨t1, t2⟩, ⟨f1, f2⟩, ⟨P, hP, p1, p2, p3⟩, ⟨a1, a2⟩, r52, r19, r36, r15, sl, li, bx⟩ := I
  have S := sl s b (by omega) hb
  have h120 := c.1
  have b14 := S.2.1.1
  have bnd : ∀ a, a < 120 → ¬ (20 ≤ a ∧ a ≤ 35) → ¬ (57 ≤ a ∧ a ≤ 72) → ¬ (b ≤ a ∧ a ≤ b + 14) := fun a q1 q2 q3 => S.ne o q1 q2 q3
  have bne : ∀ a, a < 120 → ¬ (20 ≤ a ∧ a ≤ 35) → ¬ (57 ≤ a ∧ a ≤ 72) → a ≠ b := fun a q1 q2 q3 z => bnd a q1 q2 q3 ⟨by omega, by omega⟩
  have ei : ∀ t, t ≠ s → ∀ a, a < hN h → own a = 1 + t → ∀ j, hI (wI h' m') a j = hI h a j := by
    intro t ht a ha ho j
    have hz : ¬ (a < 120 ∧ ¬ (20 ≤ a ∧ a ≤ 35) ∧ ¬ (57 ≤ a ∧ a ≤ 72)) := fun z => by
      have := o.1 a z.1 z.2.1 z.2.2; omega
    rw [wI_I, f a ha (by omega) ?_ (by omega) (by omega)]
    intro z
    have := S.1 a z.1 z.2
    omega
  have kp : ∀ t, t ≠ s → KEEP h (wI h' m') own (1 + t) := fun t ht => XD.keep (h' := wI h' m') o S x (ei t ht) ⟨by decide, by decide, by decide⟩ ht
  have hle := x.1.1
  have rr : ∀ a q, a < 120 → a ≠ 41 → ¬ (20 ≤ a ∧ a ≤ 35) → ¬ (57 ≤ a ∧ a ≤ 72) → hR (wI h' m') a q = hR h a q := fun a q ha h1 h2 h3 => x.2.1 a q (by omega) (Or.inl (bne a ha h2 h3)) (Or.inl h1)
  have C : CE h' b n' := by
    obtain ⟨_, _, _, _, _, _, _, _, q1, q2, _, ρ, q3, q4, q5, _⟩ := L
    exact ⟨q1, q2, ρ, q3, q4, q5⟩
  refine ⟨own2 own (hN h) s h', I'.up (s := s) (h' := wI h' m') x.1 (own2_W o hle h120) own2_e (fun t _ ht => kp t ht) (fun q hq => ?_) ⟨?_, fun j => ?_, fun j hj => ?_, fun a j h1 h2 => ?_, fun q hq => rr 0 q (by decide) (by decide) (by decide) (by decide), fun q => rr 52 q (by decide) (by decide) (by decide) (by decide)⟩ gp gt gB gF gG a18 (fun i hi => rr 19 i (by decide) (by decide) (by decide) (by decide)) (fun i hi => rr 36 i (by decide) (by decide) (by decide) (by decide)) hl gH (fun z => ⟨b, n', hb, by rw [gN z]; exact L⟩) gX (fun q hq hz => ⟨fun e => ?_, fun B hB => ?_⟩), ⟨x.1, kp 16 (by omega), fun a h1 h2 j => ?_, rr 74 8 (by decide) (by decide) (by decide) (by decide), rr 0 3 (by decide) (by decide) (by decide) (by decide)⟩, own2_e, fun a ha => ?_⟩
  · rw [hb] at hq
    cases hq
    exact XD.slt (h' := wI h' m') o S x L.1 C
  · rw [wI_I, f 0 (by omega) (by omega) (bnd 0 (by decide) (by decide) (by decide)) (by decide) (by decide)]
  · rw [wI_I, f 1 (by omega) (by omega) (bnd 1 (by decide) (by decide) (by decide)) (by decide) (by decide)]
  · rw [wI_I, f 2 (by omega) (by omega) (bnd 2 (by decide) (by decide) (by decide)) (by decide) (by decide)]
  · rw [wI_I, f a (by omega) (by omega) (bnd a (by omega) (by omega) (by omega)) (by omega) (by omega)]
  · rw [(gY q hq hz).1] at e; cases e
  · have e := (gY q hq hz).1
    rw [e] at hB
    cases hB
    exact ⟨(gY q hq hz).2, b, n', by rw [hz]; exact hb, L⟩
  · rw [wI_I, f a (by omega) (by omega) (bnd a (by omega) (by omega) (by omega)) (by omega) (by omega)]
  · unfold own2 at ha
    split at ha
    · omega
    · exact ha
def imgG (g : GS) (k : Nat) : GS := (g.1, g.2.1, sP g, (sA g, sL g, sH g), sbf (sX g) k (some (sH g (sA g))))
def bckG (g : GS) (B : LA) : GS := (g.1, g.2.1, sP g, (0, 0, fun _ => B), sX g)
theorem imgG_ok {k : Nat} (ok : okG g) : okG (imgG g k) := by
  obtain ⟨o1, pw, o2, o3, o4, o5⟩ := ok
  refine ⟨o1, pw, o2, o3, o4, fun q B hB => ?_⟩
  change sbf (sX g) k (some (sH g (sA g))) q = some B at hB
  by_cases z : q = k
  · rw [z, sbf_at] at hB; cases hB; exact o4 _ o2
  · rw [sbf_ne z] at hB; exact o5 q B hB
theorem bckG_ok {B : LA} (ok : okG g) (hB : okA (sP g) B) : okG (bckG g B) := by
  obtain ⟨o1, pw, o2, o3, o4, o5⟩ := ok
  exact ⟨o1, pw, Nat.le_refl _, Nat.zero_le _, fun _ _ => hB, o5⟩
theorem c_img33 {k b : Nat} (I : IC h g own ad) (ok : okG g) (hk : k < 2) (hb : ad (13 + k) = some b) : wp (jX11_image_33 0 (nI k) h) (fun r => r.1 = nI (rC (aD (sH g (sA g)))) ∧ ∃ own', IC r.2 (imgG g k) own' ad ∧ NF h r.2 own ∧ (∀ a, a < hN h → own' a = own a) ∧ (∀ a, own' a = 17 → own a = 17) ∧ hN r.2 ≤ hN h + 1 ∧ hZ r.2 ≤ hZ h + 4096) := by
  have I' := I
  obtain ⟨cs, o, ⟨t1, t2⟩, ⟨f1, f2⟩, ⟨P, hP, p1, p2, p3⟩, ⟨a1, a2⟩, r52, r19, r36, r15, sl, li, bx⟩ := I
  obtain ⟨o1, pw, o2, o3, o4, o5⟩ := ok
  obtain ⟨b0, n, hb0, L⟩ := li (sA g) o2
  have rb : hR h 19 (sA g) = some b0 := by rw [r19 _ (by omega)]; exact hb0
  have pr : ∀ {Q : Nat → Prop}, wp (fX2_present (wI h (hI h)) 18) Q = Q b0 := fun {Q} => cs.present a1 (by omega) rb
  have S := sl (13 + k) b (by omega) hb
  have S0 := sl (sA g) b0 (by omega) hb0
  obtain ⟨apart, hρ⟩ := S0.apart S (by omega)
  obtain ⟨n', C'⟩ := S.CE
  have s2 := cs.s2
  have h120 := cs.1
  have b14 := S.2.1.1
  have s36 : hS h 36 = .inr ((.object RX3), 2) := cs.t36
  have bnd : ∀ a, a < 120 → ¬ (20 ≤ a ∧ a ≤ 35) → ¬ (57 ≤ a ∧ a ≤ 72) → ¬ (b ≤ a ∧ a ≤ b + 14) := fun a q1 q2 q3 => S.ne o q1 q2 q3
  have e1 : lR (wI h (hI h)) (.object RX3) 36 (nI k) = some b := by
    rw [lR_ok (h := wI h (hI h)) (j := k) (show 36 < hN h by omega) s36 hk (by decide)]
    exact (r36 k hk).trans hb
  show wp (jX11_image_33 0 (nI k) (wI h (hI h))) _
  unfold jX11_image_33
  rw [wp_bind, cs.gr cs.r6, wp_bind, wp_eq e1, wp_bind, cs.gr cs.r5, wp_bind, s2.o, wp_bind, pr, wp_bind, S.2.1.o, wp_bind]
  refine wp_mono (c_copy L S.2.1 C' apart hρ (o4 _ o2).1.1) ?_
  rintro r ⟨h1, m1, n1, rfl, X1, fr1, L1, room⟩
  have cs1 := cs.x X1.1
  have hle := X1.1.1
  have t37 : hS h1 37 = .inr (.boolean, 2) := cs1.t37
  have s361 : hS h1 36 = .inr ((.object RX3), 2) := cs1.t36
  have bne36 : (36 : Nat) ≠ b := fun z => bnd 36 (by decide) (by decide) (by decide) ⟨by omega, by omega⟩
  have e2 : lR (wI h1 (up m1 37 k 1)) (.object RX3) 36 (nI k) = some b := by
    rw [lR_ok (h := wI h1 (up m1 37 k 1)) (j := k) (show 36 < hN h1 by omega) s361 hk (by decide)]
    exact (X1.2.1 36 k (by omega) (Or.inl bne36)).trans ((r36 k hk).trans hb)
  have b37 : ¬ (b ≤ 37 ∧ 37 ≤ b + 14) := bnd 37 (by decide) (by decide) (by decide)
  have LL : LX h1 (up m1 37 k 1) b (sH g (sA g)) n1 := L1.congr (fun a q1 q2 => by
    have hne : a ≠ 37 := fun z => b37 ⟨by omega, by omega⟩
    rw [up_r hne])
  rw [wp_bind, cs1.gr cs1.r7, wp_bind, x_tZ (show 37 < hN h1 by omega) t37 hk (by decide), wp_bind, cs1.gr cs1.r6, wp_bind, wp_eq e2, wp_bind, LL.1.r4, wp_bind, LL.1.s4.g0, LL.2.1.1, wp_some]
  obtain ⟨own', q1, q2, q3, q4⟩ := ic_pt (s := 13 + k) (g' := imgG g k) (m' := up m1 37 k 1) I' (by omega) hb X1.D (fun a q1 _ q3 _ q5 => by rw [up_r q5, fr1 a q1 q3]) LL rfl rfl rfl rfl rfl ⟨by rw [up_r (by decide), fr1 18 (by omega) (bnd 18 (by decide) (by decide) (by decide))]; exact a1, by rw [up_r (by decide), fr1 18 (by omega) (bnd 18 (by decide) (by decide) (by decide))]; exact a2⟩ o3 (fun i hi _ => ⟨hi, rfl⟩) (fun z => by have : 13 + k ≤ sL g := z; omega) (fun q hq hne => ⟨sbf_ne (by omega), by rw [up_a, if_neg (by omega), fr1 37 (by omega) b37]⟩) (fun q hq he => (show q = k by omega) ▸ ⟨sbf_at, up_at⟩)
  refine ⟨rfl, own', q1, q2, q3, q4, ?_, ?_⟩
  · show hN h1 ≤ hN h + 1; omega
  · have := L.2.2.2.2.2.2.2.2.2.1
    show hZ h1 ≤ hZ h + 4096; omega
theorem r_imgL {k : Nat} (hk : k < 2) : wp (lp (gbX12_image_13 (nI k)) FU (nI 0, m)) (fun m' => (∀ o, o ≠ 37 → m' o = m o) ∧ (∀ j, j < 9685 → m' 37 (9685 * k + j) = m 1 j) ∧ ∀ q, ¬ (9685 * k ≤ q ∧ q < 9685 * k + 9685) → m' 37 q = m 37 q) := by
  refine wp_for (κ := Mem) (fun i c => (nI i, c)) 9685 (fun i m' => (∀ o, o ≠ 37 → m' o = m o) ∧ (∀ j, j < i → m' 37 (9685 * k + j) = m 1 j) ∧ ∀ q, ¬ (9685 * k ≤ q ∧ q < 9685 * k + 9685) → m' 37 q = m 37 q) (fun i c hi HH => ?_) (fun c HH => ?_) 0 m (Nat.zero_le _) ⟨fun _ _ => rfl, fun j hj => by omega, fun _ _ => rfl⟩ (by decide)
  · simp (disch := omega) only [gbX12_image_13, L_9685, i_le, wp_f, wp_bind, w_rd, i_mul, i_add, w_wr, wp_some, lq_l, L_1]
    refine ⟨_, rfl, fun o ho => by rw [up_r ho]; exact HH.1 o ho, fun j hj => ?_, fun q hq => by rw [up_a, if_neg (by omega)]; exact HH.2.2 q hq⟩
    rw [up_a]
    by_cases z : j = i
    · rw [if_pos (by omega), z, HH.1 1 (by decide)]
    · rw [if_neg (by omega)]; exact HH.2.1 j (by omega)
  · simp (disch := omega) only [gbX12_image_13, L_9685, i_le, wp_t, wp_some, lq_r]
    exact HH
theorem r_bckL {k : Nat} (hk : k < 2) : wp (lp (gbX12_back_22 (nI k)) FU (nI 0, m)) (fun m' => (∀ o, o ≠ 1 → m' o = m o) ∧ ∀ j, j < 9685 → m' 1 j = m 37 (9685 * k + j)) := by
  refine wp_for (κ := Mem) (fun i c => (nI i, c)) 9685 (fun i m' => (∀ o, o ≠ 1 → m' o = m o) ∧ ∀ j, j < i → m' 1 j = m 37 (9685 * k + j)) (fun i c hi HH => ?_) (fun c HH => ?_) 0 m (Nat.zero_le _) ⟨fun _ _ => rfl, fun j hj => by omega⟩ (by decide)
  · simp (disch := omega) only [gbX12_back_22, L_9685, i_le, wp_f, wp_bind, w_rd, i_mul, i_add, w_wr, wp_some, lq_l, L_1]
    refine ⟨_, rfl, fun o ho => by rw [up_r ho]; exact HH.1 o ho, fun j hj => ?_⟩
    rw [up_a]
    by_cases z : j = i
    · rw [if_pos z, z, HH.1 37 (by decide)]
    · rw [if_neg z]; exact HH.2 j (by omega)
  · simp (disch := omega) only [gbX12_back_22, L_9685, i_le, wp_t, wp_some, lq_r]
    exact HH
end BXS

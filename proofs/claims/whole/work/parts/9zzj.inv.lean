/-! the invariant at the beginning -/
def gW : GS := ((0, fun _ => 0), (0, mI), (0, 0, 0, fun _ => 0, fun _ => 0, fun _ => 0), (0, 0, fun _ => noA (fun _ => 0)), fun _ => none)
def ownW : Nat → Nat := fun a => if 20 ≤ a ∧ a ≤ 35 then 1 else if 57 ≤ a ∧ a ≤ 72 then 16 else 0
def adW : Nat → Option Nat := fun s => if s = 0 then some 20 else if s = 15 then some 57 else none
theorem okW : okG gW := by
  refine ⟨Nat.zero_le _, ⟨Nat.zero_le _, Nat.zero_le _, Nat.zero_le _, fun l hl => absurd hl (Nat.not_lt_zero _), fun p hp => absurd hp (Nat.not_lt_zero _)⟩, Nat.le_refl _, Nat.zero_le _, fun i _ => ⟨LW_noA (fun _ _ => by decide), fun j v => absurd v.1 (Nat.not_lt_zero _)⟩, fun k B hB => by cases hB⟩
theorem cbW : CB 0 gW := ⟨0, 0, Nat.le_refl _, fun i _ => bnd_no okW.2.1, fun k B hB => by cases hB⟩
theorem lxW : LX hA0 (hI hA0) 20 (noA (fun _ => 0)) 32 := by
  obtain ⟨a1, a2, a3, a4, a5, a6⟩ := i20A0
  obtain ⟨_, _, _, _, _, _, _, _, _, _, _, b1, b2, b3, b4, _⟩ := i0A0
  obtain ⟨_, _, r1, r2, _⟩ := r3A0
  refine ⟨s20, ⟨b4, fun r hr => absurd hr (Nat.not_lt_zero _), fun st x y q1 q2 q3 => ?_⟩, ⟨?_, fun x hx => ⟨fun y hy => ?_, fun y hy => ?_, fun y pl hy hp => by cases hp⟩⟩, a3, a2, a1, b1, b2, Or.inl rfl, by decide, Nat.zero_le _, 35, r1, by rw [nA0]; decide, r2, fun i hi => absurd hi (Nat.not_lt_zero _)⟩
  · show bt (hI hA0 34 (16 * st + x)) y = true ↔ _
    rw [a6 _ (by omega), b_0]
    constructor
    · intro z; cases z
    · rintro ⟨r, hr, _⟩; exact absurd hr (Nat.not_lt_zero _)
  · show hI hA0 24 0 = nI (cn _ 256)
    rw [b3, cn_none (P := fun k => gE (aG (noA (fun _ => 0))) (k / 16) (k % 16)) (fun i z => z rfl)]; rfl
  · show bt (hI hA0 25 x) y = true ↔ _
    rw [a4 x hx, b_0]
    constructor
    · intro z; cases z
    · intro z; exact absurd z.2 noE
  · show bt (hI hA0 26 x) y = true ↔ _
    rw [a5 x hx, b_0]
    constructor
    · intro z; cases z
    · intro z; exact absurd z.2 noRc
theorem icW : IC hA0 gW ownW adW := by
  obtain ⟨i1, i2, i3, i4, i5, i6, i7, i8, i9, i10, _⟩ := i0A0
  obtain ⟨r1, r2, r3, r4, r5, r6, _⟩ := r3A0
  refine ⟨cA0, ⟨fun a h1 h2 h3 => ?_, fun a h1 h2 => ?_, fun a ha => ?_⟩, ⟨i1, fun j hj => absurd hj (Nat.not_lt_zero _)⟩, ⟨i2, i3⟩, ⟨8, Or.inl rfl, r1, r2, p8A0, i4, i5, i6, fun l hl => absurd hl (Nat.not_lt_zero _), fun p hp => absurd hp (Nat.not_lt_zero _)⟩, ⟨i7, i8⟩, r52A0, fun i hi => ?_, fun i hi => ?_, rfl, fun s b hs hb => ?_, fun i hi => ?_, fun k hk => ⟨fun _ => ?_, fun B hB => by cases hB⟩⟩
  · unfold ownW
    rw [if_neg h2, if_neg (by omega)]
  · unfold ownW
    rw [if_neg (by omega), if_pos (by omega)]
  · rw [nA0] at ha
    unfold ownW
    rw [if_neg (by omega), if_neg (by omega)]
  · rw [r19A0 i hi]
    unfold adW
    by_cases z : i = 0
    · rw [if_pos z, if_pos z]
    · rw [if_neg z, if_neg z, if_neg (by omega)]
  · rw [r36A0 i hi]
    unfold adW
    rw [if_neg (by omega), if_neg (by omega)]
  · unfold adW at hb
    by_cases z : s = 0
    · rw [if_pos z] at hb
      cases hb
      subst z
      refine ⟨fun a h1 h2 => if_pos (by omega), s20, 35, 32, r3, if_pos (by omega), by rw [nA0]; decide, r4, Or.inl rfl, by decide⟩
    · rw [if_neg z] at hb
      by_cases y : s = 15
      · rw [if_pos y] at hb
        cases hb
        subst y
        refine ⟨fun a h1 h2 => ?_, s57, 72, 32, r5, ?_, by rw [nA0]; decide, r6, Or.inl rfl, by decide⟩
        · unfold ownW
          rw [if_neg (by omega), if_pos (by omega)]
        · unfold ownW
          rw [if_neg (by omega), if_pos (by omega)]
      · rw [if_neg y] at hb; cases hb
  · have : i = 0 := by have : i ≤ 0 := hi; omega
    subst this
    exact ⟨20, 32, rfl, lxW⟩
  · rcases (by omega : k = 0 ∨ k = 1) with rfl | rfl
    · exact i9
    · exact i10
theorem irW : IR (mOf 81 hA0) gW := by
  obtain ⟨_, _, _, _, _, _, _, _, _, _, _, _, _, _, _, c1, c2, c3, c4, c5⟩ := i0A0
  have z : ∀ j, j < 1685 → mOf 81 hA0 1 j = 0 := iA0
  refine ⟨⟨fA0 11 (by decide) (by decide), fun j hj => absurd hj (Nat.not_lt_zero _)⟩, ⟨fA0 19 (by decide) (by decide), gA0⟩, ⟨0, by decide, fA0 9 (by decide) (by decide), c1, c2, c3, fun l hl => absurd hl (Nat.not_lt_zero _), fun p hp => absurd hp (Nat.not_lt_zero _)⟩, ⟨fA0 56 (by decide) (by decide), fA0 57 (by decide) (by decide)⟩, ?_, fun i hi => absurd hi (Nat.not_lt_zero _), fun i h1 h2 => ?_, fun k hk => ⟨fun _ => ?_, fun B hB => by cases hB⟩, lA0⟩
  · refine ⟨⟨z 272 (by decide), fun r hr => absurd hr (Nat.not_lt_zero _)⟩, fun x y hx hy => z _ (by omega), fun x hx => z _ (by omega), fun p hp => z _ (by omega), ⟨z 1539 (by decide), z 1540 (by decide), fun i hi => absurd hi (Nat.not_lt_zero _)⟩, fun j v => absurd v.1 (Nat.not_lt_zero _)⟩
  · have h1 : 0 < i := h1
    have h2 : i ≤ 0 := h2
    omega
  · rcases (by omega : k = 0 ∨ k = 1) with rfl | rfl
    · exact c4
    · exact c5
theorem inv0 : InvW 0 hA0 := by
  obtain ⟨_, _, _, _, _, _, _, _, _, _, f0, _⟩ := i0A0
  obtain ⟨_, _, _, _, _, _, r8⟩ := r3A0
  refine ⟨gW, ownW, adW, icW, ⟨Or.inl r8, Or.inl f0⟩, irW, okW, cbW, ?_, ?_⟩
  · have : sd hA0 = 12 := if_pos r8
    rw [this, nA0]; decide
  · have : sz hA0 = 24100 := if_pos r8
    have := zA0
    omega
/-! the reference's constructor: the rest of it writes what stands there -/
section RCN
variable {h : Hp} {m : Mem}
theorem rs_r {k o n : Nat} {ty : FieldType} (rs : RS 81 h) (hq : (k, o, ty, n) ∈ rTab) {Q : Nat → Prop} : wp (gR (wI h m) 12 81 k) Q = Q (81 + o) := w_gR (h := wI h m) (show 81 < hN h by have := rs.1; omega) rs.2.1 (rs.2.2 _ hq).1
theorem rs_o (rs : RS 81 h) {Q : Unit → Prop} : wp (gO (wI h m) 12 81) Q = Q () := w_gO (h := wI h m) (show 81 < hN h by have := rs.1; omega) rs.2.1
theorem rs_g {k : Nat} (rs : RS 81 h) {Q : Int32 → Prop} : wp (gI (wI h m) 12 81 k) Q = Q (m 81 k) := w_gI (h := wI h m) (show 81 < hN h by have := rs.1; omega) rs.2.1
theorem rs_p {k : Nat} {v : Int32} (rs : RS 81 h) {Q : Hp → Prop} : wp (pI (wI h m) 12 81 k v) Q = Q (wI h (up m 81 k v)) := w_pI (h := wI h m) (show 81 < hN h by have := rs.1; omega) rs.2.1
theorem rs_t {k o n j : Nat} {v : Int32} (rs : RS 81 h) (hq : (k, o, FieldType.int, n) ∈ rTab) (ho : o < 39) (hj : j < n) (hn : n < 2 ^ 31) {Q : Hp → Prop} : wp (tI (wI h m) (81 + o) (nI j) v) Q = Q (wI h (up m (81 + o) j v)) := w_tI (h := wI h m) (show 81 + o < hN h by have := rs.1; omega) (rs.2.2 _ hq).2 hj hn
theorem rs_l {k o n j : Nat} (rs : RS 81 h) (hq : (k, o, FieldType.int, n) ∈ rTab) (ho : o < 39) (hj : j < n) (hn : n < 2 ^ 31) {Q : Int32 → Prop} : wp (lI (wI h m) .int (81 + o) (nI j)) Q = Q (m (81 + o) j) := w_lI (h := wI h m) (show 81 + o < hN h by have := rs.1; omega) (rs.2.2 _ hq).2 hj hn
theorem c_anew (rs : RS 81 h) (z : ∀ j, j < 1685 → m 82 j = 0) (b : m 81 9 = 0) (z8 : ∀ j, j < 144 → m 89 j = 0) (z9 : ∀ j, j < 144 → m 90 j = 0) (e6 : m 81 56 = 0) (e7 : m 81 57 = 0) (k0 : m 119 0 = 0) (k1 : m 119 1 = 0) : wp (fX12_startAnew (wI h m) 81) (fun r => r = wI h m) := by
  unfold fX12_startAnew fX12_clearAll
  rw [wp_bind, rs_o rs, wp_bind, wp_bind]
  refine wp_mono (Q := fun r => r = wI h m) ?_ ?_
  · refine wp_for (κ := Unit) (fun i _ => (nI i, wI h m)) 1541 (fun _ _ => True) (fun i _ hi _ => ?_) (fun _ _ => ?_) 0 () (Nat.zero_le _) trivial (by decide)
    · simp only [bX12_clearAll_2]
      rw [L_1541, wp_f (by rw [i_le (by decide) (by omega)]; omega), wp_bind, rs_r (o := 1) (n := 9685) (ty := .int) rs (by decide), wp_bind, rs_t (o := 1) rs (k := 0) (n := 9685) (by decide) (by decide) (by omega) (by decide), up_self (z i (by omega)), wp_bind, wp_some, wp_some, lq_l, nI_1]
      exact ⟨(), rfl, trivial⟩
    · simp only [bX12_clearAll_2]
      rw [L_1541, wp_t (by rw [i_le (by decide) (by decide)]; omega), wp_some, lq_r]
  · rintro r rfl
    rw [wp_some, wp_bind]
    refine wp_mono (Q := fun r => r = wI h m) ?_ ?_
    · refine wp_for (κ := Unit) (fun i _ => (nI i, wI h m)) 72 (fun _ _ => True) (fun i _ hi _ => ?_) (fun _ _ => ?_) 0 () (Nat.zero_le _) trivial (by decide)
      · have e0 : (72 : Int32) * (0 : Int32) + nI i = nI i := by
          rw [show (72 : Int32) * 0 = nI 0 from rfl, i_add, Nat.zero_add]
        simp only [bX12_startAnew_6]
        rw [wp_f (by rw [L_72, i_le (by decide) (by omega)]; omega), wp_bind, rs_r (o := 1) (n := 9685) (ty := .int) rs (by decide), wp_bind, rs_r (o := 8) (n := 144) (ty := .int) rs (by decide), wp_bind, rs_g rs, b, e0, wp_bind, rs_l (o := 8) rs (k := 7) (n := 144) (by decide) (by decide) (by omega) (by decide), z8 i (by omega), L_1541, i_add, wp_bind, rs_t (o := 1) rs (k := 0) (n := 9685) (by decide) (by decide) (by omega) (by decide), up_self (z _ (by omega)), wp_bind, rs_r (o := 1) (n := 9685) (ty := .int) rs (by decide), wp_bind, rs_r (o := 9) (n := 144) (ty := .int) rs (by decide), wp_bind, rs_g rs, b, e0, wp_bind, rs_l (o := 9) rs (k := 8) (n := 144) (by decide) (by decide) (by omega) (by decide), z9 i (by omega), L_1613, i_add, wp_bind, rs_t (o := 1) rs (k := 0) (n := 9685) (by decide) (by decide) (by omega) (by decide), up_self (z _ (by omega)), wp_bind, wp_some, wp_some, lq_l, nI_1]
        exact ⟨(), rfl, trivial⟩
      · simp only [bX12_startAnew_6]
        rw [wp_t (by rw [L_72, i_le (by decide) (by decide)]; omega), wp_some, lq_r]
    · rintro r rfl
      rw [wp_bind, rs_p rs, up_self e6, wp_bind, rs_p rs, up_self e7, wp_bind]
      refine wp_mono (Q := fun r => r = wI h m) ?_ (fun r hr => by rw [wp_some]; exact hr)
      refine wp_for (κ := Unit) (fun i _ => (nI i, wI h m)) 2 (fun _ _ => True) (fun i _ hi _ => ?_) (fun _ _ => ?_) 0 () (Nat.zero_le _) trivial (by decide)
      · have tz : ∀ {Q : Hp → Prop}, wp (tZ (wI h m) (81 + 38) (nI i) 0) Q = Q (wI h (up m (81 + 38) i 0)) := fun {Q} => wp_eq (by
          unfold tZ
          rw [ga_ok (h := wI h m) (show 81 + 38 < hN h by have := rs.1; omega) (rs.2.2 (55, 38, .boolean, 2) (by decide)).2, Option.bind_some, ix_nI hi (by decide), Option.bind_some, if_pos (Or.inl rfl)]
          rfl)
        simp only [bX12_startAnew_78]
        rw [wp_f (by rw [L_2, i_le (by decide) (by omega)]; omega), wp_bind, rs_r (o := 38) (n := 2) (ty := .boolean) rs (by decide), wp_bind, tz, up_self (by rcases (by omega : i = 0 ∨ i = 1) with rfl | rfl; exact k0; exact k1), wp_bind, wp_some, wp_some, lq_l, nI_1]
        exact ⟨(), rfl, trivial⟩
      · simp only [bX12_startAnew_78]
        rw [wp_t (by rw [L_2, i_le (by decide) (by decide)]; omega), wp_some, lq_r]
end RCN
set_option maxRecDepth 100000 in
set_option maxHeartbeats 4000000 in
theorem c2_ok : fX12_init (nw hW1 (.inl 12)) (hN hW1) = some hA0 := by
  rw [nW1]
  have e : fX12_init (nw hW1 (.inl 12)) 81 = (pA12 (nw hW1 (.inl 12)) 81).bind fun x => (gO x 12 81).bind fun _ => (fX12_clearBank x 81 0).bind fun y => (gO y 12 81).bind fun _ => (fX12_startAnew y 81).bind fun z => some z := by
    unfold fX12_init pA12
    simp only [Option.bind_assoc, Option.bind_some]
  rw [e, eA0, Option.bind_some]
  obtain ⟨_, _, _, _, _, _, _, _, _, _, _, _, _, _, _, c1, c2, c3, c4, c5⟩ := i0A0
  have rs := rA0
  have : wp ((gO hA0 12 81).bind fun _ => (fX12_clearBank hA0 81 0).bind fun y => (gO y 12 81).bind fun _ => (fX12_startAnew y 81).bind fun z => some z) (fun r => r = hA0) := by
    show wp ((gO (wI hA0 (hI hA0)) 12 81).bind fun _ => (fX12_clearBank (wI hA0 (hI hA0)) 81 (nI 0)).bind fun y => (gO y 12 81).bind fun _ => (fX12_startAnew y 81).bind fun z => some z) _
    unfold fX12_clearBank
    rw [wp_bind, rs_o rs, wp_bind, wp_bind, rs_r (o := 2) (n := 2) (ty := .int) rs (by decide), wp_bind, rs_t (o := 2) rs (k := 1) (n := 2) (by decide) (by decide) (by decide) (by decide), up_self c1, wp_bind, rs_r (o := 3) (n := 2) (ty := .int) rs (by decide), wp_bind, rs_t (o := 3) rs (k := 2) (n := 2) (by decide) (by decide) (by decide) (by decide), up_self c2, wp_bind, rs_r (o := 4) (n := 2) (ty := .int) rs (by decide), wp_bind, rs_t (o := 4) rs (k := 3) (n := 2) (by decide) (by decide) (by decide) (by decide), up_self c3, wp_some, wp_bind, rs_o rs, wp_bind]
    refine wp_mono (c_anew rs iA0 (fA0 9 (by decide) (by decide)) i89A0.1 i89A0.2 (fA0 56 (by decide) (by decide)) (fA0 57 (by decide) (by decide)) c4 c5) ?_
    rintro r rfl
    rw [wp_some]; rfl
  obtain ⟨r, e1, e2⟩ := this
  rw [e1, e2]
theorem c1_ok (Γ : Gm) : V Γ 4 mX11_init 0 [(0, .ref 0)] [] (nw hE0 (.inl 11)) (none, hW1) := sX11_init (Nat.le_refl _) eW1

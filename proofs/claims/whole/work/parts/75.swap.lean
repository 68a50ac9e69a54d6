/-! two steps change places: both sides -/
section SWP
variable {h h' : Hp} {m m' : Mem} {g g' : GS} {own : Nat → Nat} {ad : Nat → Option Nat}
def sj (j i : Nat) : Nat := if i = j then j + 1 else if i = j + 1 then j else i
def xcM (m : Mem) (a j : Nat) : Mem := up (up m a j (m a (j + 1))) a (j + 1) (m a j)
def swA (A : LA) (j : Nat) : LA := (aD A, aG A, aU A, aR A, (aK A, aC A), aA A, fun i => aS A (sj j i))
theorem xcM_r {a j o : Nat} (ho : o ≠ a) : xcM m a j o = m o := by unfold xcM; rw [up_r ho, up_r ho]
theorem xcM_a {a j i : Nat} : xcM m a j a i = m a (sj j i) := by
  unfold xcM sj
  rw [up_a, up_a]
  by_cases z : i = j
  · rw [if_neg (by omega), if_pos z, if_pos z]
  · by_cases y : i = j + 1
    · rw [if_pos y, if_neg z, if_pos y]
    · rw [if_neg y, if_neg z, if_neg z, if_neg y]
theorem sj_lt {j i n : Nat} (hj : j + 1 < n) (hi : i < n) : sj j i < n := by
  unfold sj; split
  · omega
  · split <;> omega
theorem sj_off {j i c : Nat} : sj (c + j) (c + i) = c + sj j i := by
  unfold sj
  by_cases z : i = j
  · rw [if_pos (by omega), if_pos z]; omega
  · by_cases y : i = j + 1
    · rw [if_neg (by omega), if_pos (by omega), if_neg z, if_pos y]
    · rw [if_neg (by omega), if_neg (by omega), if_neg z, if_neg y]
theorem sj_far {j i : Nat} (h1 : i ≠ j) (h2 : i ≠ j + 1) : sj j i = i := by
  unfold sj; rw [if_neg h1, if_neg h2]
theorem c_exch {a p s : Nat} {Q : Hp → Prop} (ha : a < hN h) (hs : hS h a = .inr (.int, 72)) (hj : 12 * p + s + 1 < 72) : wp (fX11_exchange (wI h m) a (nI p) (nI s)) Q = Q (wI h (xcM m a (12 * p + s))) := by
  unfold fX11_exchange
  have e : nI p * 12 + nI s = nI (12 * p + s) := by
    rw [L_12, i_mul, i_add, Nat.mul_comm p 12]
  have e1 : nI (12 * p + s) + 1 = nI (12 * p + s + 1) := i_add _ 1
  rw [wp_bind, wp_some, e, e1, wp_bind, x_lI ha hs (by omega) (by decide), wp_bind, x_lI ha hs (by omega) (by decide), wp_bind, x_tI ha hs (by omega) (by decide), wp_bind, x_tI ha hs (by omega) (by decide), wp_some]
  rfl
theorem r_swapAt {k : Nat} {Q : Mem → Prop} (hk : k + 1 < 9685) : wp (gX12_swapAt m (nI k)) Q = Q (xcM m 1 k) := by
  unfold gX12_swapAt
  have e1 : nI k + 1 = nI (k + 1) := i_add _ 1
  rw [e1, wp_bind, w_rd (by omega) (by decide), wp_bind, w_rd (by omega) (by decide), wp_bind, w_wr (by omega) (by decide), wp_bind, w_wr (by omega) (by decide), wp_some]
  rfl
theorem r_swapSteps {p s : Nat} {Q : Mem → Prop} (hj : 12 * p + s + 1 < 72) : wp (gX12_swapSteps m (nI p) (nI s)) Q = Q (xcM (xcM m 1 (1541 + (12 * p + s))) 1 (1613 + (12 * p + s))) := by
  unfold gX12_swapSteps
  have e : ∀ c : Nat, nI c + nI 12 * nI p + nI s = nI (c + (12 * p + s)) := fun c => by
    rw [i_mul, i_add, i_add, Nat.add_assoc]
  rw [L_1541, L_1613, L_12, e, e, wp_bind, r_swapAt (by omega), wp_bind, r_swapAt (by omega), wp_some]
theorem LX.sw {b n j : Nat} {A : LA} (L : LX h m b A n) (hj : j + 1 < 72) : LX h (xcM m (b + 1) j) b (swA A j) n := by
  obtain ⟨s3, L1, L2, L3, L4, L5, c1, c2, c3⟩ := L
  refine ⟨s3, L1.congr (fun a h1 h2 => xcM_r (by omega)), L2.congr (fun a h1 h2 => xcM_r (by omega)), ?_, ?_, fun i hi => ?_, ?_, ?_, c3⟩
  · rw [xcM_r (by omega)]; exact L3
  · rw [xcM_r (by omega)]; exact L4
  · rw [xcM_a]; exact L5 _ (sj_lt hj hi)
  · rw [xcM_r (by omega)]; exact c1
  · rw [xcM_r (by omega)]; exact c2
theorem LF.sw {V : Nat → Prop} {a a' : Nat → Int32} {A : LA} {j : Nat} (L : LF V a A) (lw : LW A) (hV : ∀ i, V i → i < 72) (v1 : V j) (v2 : V (j + 1)) (e : ∀ i, i < 9685 → ¬ (1541 ≤ i ∧ i < 1685) → a' i = a i) (e1 : ∀ i, i < 72 → a' (1541 + i) = a (1541 + sj j i) ∧ a' (1613 + i) = a (1613 + sj j i)) : LF V a' (swA A j) := by
  obtain ⟨L1, L2, L3, L4, ⟨L5, L6, L7⟩, L8⟩ := L
  have hk := lw.2.2.2.2.1
  refine ⟨RRr.congr L1 lw.1 (fun j h1 h2 => e j (by omega) (by omega)), GRr.congr L2 (fun j hj => e j (by omega) (by omega)), fun x hx => by rw [e _ (by omega) (by omega)]; exact L3 x hx, fun q hq => by rw [e _ (by omega) (by omega)]; exact L4 q hq, ⟨by rw [e _ (by omega) (by omega)]; exact L5, by rw [e _ (by omega) (by omega)]; exact L6, fun i hi => ?_⟩, fun i hi => ?_⟩
  · have hi' : i < aK A := hi
    rw [e _ (by omega) (by omega), e _ (by omega) (by omega)]; exact L7 i hi
  · have h72 := hV i hi
    obtain ⟨q1, q2⟩ := e1 i h72
    rw [q1, q2]
    have hv : V (sj j i) := by
      unfold sj; split
      · exact v2
      · split
        · exact v1
        · exact hi
    exact L8 _ hv
theorem xc2 {j i : Nat} (hi : i < 72) (hj : j + 1 < 72) : xcM (xcM m 1 (1541 + j)) 1 (1613 + j) 1 (1541 + i) = m 1 (1541 + sj j i) ∧ xcM (xcM m 1 (1541 + j)) 1 (1613 + j) 1 (1613 + i) = m 1 (1613 + sj j i) := by
  have := sj_lt hj hi
  constructor
  · rw [xcM_a, sj_far (by omega) (by omega), xcM_a, sj_off]
  · rw [xcM_a, sj_off, xcM_a, sj_far (by omega) (by omega)]
theorem xc3 {j i : Nat} (hj : j + 1 < 72) (hi : ¬ (1541 ≤ i ∧ i < 1685)) : xcM (xcM m 1 (1541 + j)) 1 (1613 + j) 1 i = m 1 i := by
  rw [xcM_a, sj_far (by omega) (by omega), xcM_a, sj_far (by omega) (by omega)]
theorem okA_sw {P : PD} {A : LA} {j : Nat} (ok : okA P A) (hj : j + 1 < 72) (v1 : pV P j) (v2 : pV P (j + 1)) : okA P (swA A j) := by
  obtain ⟨⟨w1, w2, w3, w4, w5, w6⟩, sw⟩ := ok
  refine ⟨⟨w1, w2, w3, w4, w5, fun i hi => w6 _ (sj_lt hj hi)⟩, fun i hi => ?_⟩
  have hv : pV P (sj j i) := by
    unfold sj; split
    · exact v2
    · split
      · exact v1
      · exact hi
  exact sw _ hv
theorem o_swap (I : IC h g own ad) (J : IR m g) (ok : okG g) (v u : Int32) : ∃ r h1 m1, fX11_swap h 0 v u = some (r, h1) ∧ gX12_swap m v u = some (r, m1) ∧ ∃ g', AFT h h1 m1 own g' ∧ ((¬ (inN v (pP (sP g)) ∧ inN u (pN (sP g) v.toNatClampNeg - 1)) ∧ g' = g) ∨ ∃ p s, p < pP (sP g) ∧ s + 1 < pN (sP g) p ∧ v = nI p ∧ u = nI s ∧ g' = actG g (swA (sH g (sA g)) (12 * p + s))) := by
  have I' := I
  have J' := J
  have ok' := ok
  obtain ⟨cs, ow, ⟨t1, t2⟩, ⟨f1, f2⟩, ⟨P, hP, p1, p2, pc⟩, ⟨a1, a2⟩, r52, r19, r36, r15, sl, li, bx⟩ := I
  obtain ⟨⟨j1, j2⟩, ⟨j3, j4⟩, jp, ⟨j5, j6⟩, jl, jw, ju, jb, jx⟩ := J
  obtain ⟨o1, pw, o2, o3, o4, o5⟩ := ok
  have pc' : PC (wI h (hI h)) P (sP g) := pc
  have s5 : Sh5 h P := pc.1
  have okA0 := o4 (sA g) o2
  have s2 := cs.s2
  refine bo2 (R := fun h1 m1 => ∃ g', AFT h h1 m1 own g' ∧ ((¬ (inN v (pP (sP g)) ∧ inN u (pN (sP g) v.toNatClampNeg - 1)) ∧ g' = g) ∨ ∃ p s, p < pP (sP g) ∧ s + 1 < pN (sP g) p ∧ v = nI p ∧ u = nI s ∧ g' = actG g (swA (sH g (sA g)) (12 * p + s)))) ?_
  show wp (fX11_swap (wI h (hI h)) 0 v u) _
  have h6 := pw.2.2.1
  unfold fX11_swap gX12_swap
  rw [wp_bind, cs.gr p1, wp_bind, s5.o, wp_bind, w_hasPair pc' pw]
  by_cases hv : inN v (pP (sP g)) ∧ inN u (pN (sP g) v.toNatClampNeg - 1)
  · obtain ⟨p, hp, e⟩ := inN_ex hv.1
    subst e
    obtain ⟨s, hs, e⟩ := inN_ex hv.2
    subst e
    have hs1 : s + 1 < pN (sP g) p := by
      rw [nI_clamp (by omega)] at hs; omega
    have n12 := (pw.2.2.2.2 p hp).2.2
    have hj : 12 * p + s + 1 < 72 := by omega
    have v1 := pV_of pw hp (show s < pN (sP g) p by omega)
    have v2 : pV (sP g) (12 * p + s + 1) := pV_of pw hp hs1
    rw [b01_t hv, wp_f (by decide), wp_bind, cs.gr cs.r5, wp_bind, s2.o, wp_bind]
    refine wp_mono (c_act I' ok') ?_
    rintro ⟨b1, h1⟩ ⟨own1, ad1, q1, I1, NF1, q3, q4, q5, q6⟩
    have a11 := (a0_le ok').1
    have I1' := I1
    obtain ⟨cs1, ow1, _, _, _, _, _, _, _, _, sl1, li1, _⟩ := I1
    obtain ⟨bb, n1, hbb, L1'⟩ := li1 (a0 g + 1) (Nat.le_refl _)
    rw [q1] at hbb
    cases hbb
    have LA0 : LX h1 (hI h1) b1 (sH g (sA g)) n1 := by
      have : sH (actG g (sH g (sA g))) (a0 g + 1) = sH g (sA g) := sbf_at
      rw [this] at L1'; exact L1'
    have b14 := LA0.1.1
    have r0' : ∀ {Q : Nat → Prop}, wp (gR h1 3 b1 0) Q = Q (b1 + 1) := fun {Q} => LA0.1.r0 (m := hI h1)
    show wp ((gR h1 3 b1 0).bind _) _
    rw [wp_bind, r0', wp_bind]
    show wp (fX11_exchange (wI h1 (hI h1)) _ _ _) _
    rw [c_exch (by omega) LA0.1.2.2.1.2 hj, wp_some, wp_bind, w_isPair jp pw, b01_t hv, wp_f (by decide), wp_bind]
    refine wp_mono (r_keepAct (g := g) j5 (by omega)) (fun m3 K3 => ?_)
    have e31 : m3 1 = m 1 := K3.1 1 (by decide) (by decide)
    rw [wp_bind, r_swapSteps hj, wp_some]
    have LF4 : LF (pV (sP g)) (xcM (xcM m3 1 (1541 + (12 * p + s))) 1 (1613 + (12 * p + s)) 1) (swA (sH g (sA g)) (12 * p + s)) := LF.sw (a := m3 1) (by rw [e31]; exact jl) okA0.1 (fun j hj => pV_lt pw hj) v1 v2 (fun i _ hi => xc3 hj hi) (fun i hi => xc2 hi hj)
    refine ⟨rfl, actG g (swA (sH g (sA g)) (12 * p + s)), ⟨J'.act ok' K3 LF4 (fun o _ h1 _ _ _ _ => (xcM_r h1).trans (xcM_r h1)) (fun j _ => congrFun (show xcM (xcM m3 1 (1541 + (12 * p + s))) 1 (1613 + (12 * p + s)) 0 = m3 0 by rw [xcM_r (by decide), xcM_r (by decide)]) j), actG_ok ok' (okA_sw okA0 hj v1 v2), ?_⟩, Or.inr ⟨p, s, hp, hs1, rfl, rfl, rfl⟩⟩
    obtain ⟨own2', IC2, NF2, oe2, o17⟩ := I1'.sl (s := a0 g + 1) (g' := actG g (swA (sH g (sA g)) (12 * p + s))) (show a0 g + 1 ≤ 12 by omega) (Nat.le_refl _) q1 (XD.rfl' 41 b1 h1) (fun a _ _ z => xcM_r (by omega)) (LA0.sw hj) rfl rfl rfl rfl rfl rfl rfl rfl (fun i hi hne => by show sbf _ _ _ i = sbf _ _ _ i; rw [sbf_ne hne, sbf_ne hne]) sbf_at
    refine ⟨own2', ad1, IC2, NF1.trans NF2 q3, fun a ha ho => by rw [oe2 a (Nat.lt_of_lt_of_le ha NF1.1.1)]; exact q3 a ha ho, fun a ho => q4 a (o17 a ho), ?_, ?_⟩
    · have q5' : hN h1 ≤ hN h + 17 := q5
      show hN h1 ≤ hN h + 20
      omega
    · have q6' : hZ h1 ≤ hZ h + 6000 := q6
      show hZ h1 ≤ hZ h + 10200
      omega
  · rw [b01_n hv, wp_t rfl, wp_some, wp_bind, w_isPair jp pw, b01_n hv, wp_t rfl, wp_some]
    exact ⟨rfl, g, AFT.same I' J' ok', Or.inl ⟨hv, rfl⟩⟩
end SWP

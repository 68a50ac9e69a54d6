/-! the tape: both sides -/
section TAP
variable {h h' : Hp} {m m' : Mem} {g g' : GS} {own : Nat → Nat} {ad : Nat → Option Nat}
def tpG (g : GS) (n : Nat) (B : Nat → Int32) : GS := ((n, B), g.2)
theorem tpG_ok {n : Nat} {B : Nat → Int32} (ok : okG g) (hn : n ≤ 900) : okG (tpG g n B) := ⟨hn, ok.2⟩
theorem ic_tape {n : Nat} {B : Nat → Int32} (I : IC h g own ad) (hl : sL g ≤ 12) (e0 : m' 0 1 = nI n) (eB : ∀ j, j < n → m' 1 j = B j) (e : ∀ a, a ≠ 0 → a ≠ 1 → m' a = hI h a) : IC (wI h m') (tpG g n B) own ad ∧ NF h (wI h m') own := by
  obtain ⟨cs, ow, ⟨t1, t2⟩, ⟨f1, f2⟩, ⟨P, hP, p1, p2, pc⟩, ⟨a1, a2⟩, r52, r19, r36, r15, sl, li, bx⟩ := I
  have x : XX h (wI h m') := XX.wI h m'
  have kp : ∀ s, KEEP h (wI h m') own (1 + s) := by
    intro s a ha ho
    have hna : a ≠ 0 ∧ a ≠ 1 := by
      constructor
      · rintro rfl
        have := ow.1 0 (by omega) (by omega) (by omega)
        omega
      · rintro rfl
        have := ow.1 1 (by omega) (by omega) (by omega)
        omega
    exact ⟨fun j => by rw [wI_I, e a hna.1 hna.2], fun _ => rfl, fun _ => rfl⟩
  refine ⟨⟨cs.x x, ow, ⟨e0, eB⟩, ⟨?_, ?_⟩, ⟨P, hP, p1, p2, PC.congr (h := h) (m := hI h) pc x (fun a z1 z2 => e a (by omega) (by omega))⟩, ⟨?_, ?_⟩, r52, r19, r36, r15, fun s b hs hb => (sl s b hs hb).keep x (kp s), fun i hi => ?_, fun k hk => ⟨fun z => ?_, fun B' hB' => ?_⟩⟩, x, kp 16, fun a h1 h2 j => by rw [wI_I, e a (by omega) (by omega)], rfl, rfl⟩
  · rw [wI_I, e 2 (by decide) (by decide)]; exact f1
  · rw [wI_I, e 2 (by decide) (by decide)]; exact f2
  · rw [wI_I, e 18 (by decide) (by decide)]; exact a1
  · rw [wI_I, e 18 (by decide) (by decide)]; exact a2
  · obtain ⟨b, n', hb, L⟩ := li i hi
    have hi' : i ≤ sL g := hi
    exact ⟨b, n', hb, L.keep (sl i b (by omega) hb) x (kp i)⟩
  · rw [wI_I, e 37 (by decide) (by decide)]; exact (bx k hk).1 z
  · obtain ⟨q, b, n', hb, L⟩ := (bx k hk).2 B' hB'
    exact ⟨by rw [wI_I, e 37 (by decide) (by decide)]; exact q, b, n', hb, L.keep (sl (13 + k) b (by omega) hb) x (kp (13 + k))⟩
theorem ir_tape {n : Nat} {B : Nat → Int32} (J : IR m g) (e0 : m' 0 11 = nI n) (eB : ∀ j, j < n → m' 10 j = B j) (e : ∀ a, a ≠ 0 → a ≠ 10 → m' a = m a) (e1 : ∀ j, j ≠ 11 → m' 0 j = m 0 j) : IR m' (tpG g n B) := by
  obtain ⟨⟨j1, j2⟩, ⟨j3, j4⟩, jp, ⟨j5, j6⟩, jl, jw, ju, jb, jx⟩ := J
  unfold IR
  rw [e1 19 (by decide), e1 20 (by decide), e1 56 (by decide), e1 57 (by decide), e 1 (by decide) (by decide), e 36 (by decide) (by decide), e 37 (by decide) (by decide), e 38 (by decide) (by decide), e 11 (by decide) (by decide)]
  exact ⟨⟨e0, eB⟩, ⟨j3, j4⟩, jp.congr (e1 9 (by decide)) (e 2 (by decide) (by decide)) (e 3 (by decide) (by decide)) (e 4 (by decide) (by decide)) (e 5 (by decide) (by decide)) (e 6 (by decide) (by decide)) (e 7 (by decide) (by decide)), ⟨j5, j6⟩, jl, jw, ju, jb, jx⟩
theorem o_end (I : IC h g own ad) (J : IR m g) (ok : okG g) (v : Int32) : ∃ r h1 m1, fX11_end h 0 v = some (r, h1) ∧ gX12_end m v = some (r, m1) ∧ ∃ g', AFT h h1 m1 own g' ∧ (g' = g ∨ ∃ n B, n ≤ 900 ∧ g' = tpG g n B) := by
  have t1 := I.2.2.1.1
  have t2 := I.2.2.1.2
  have j1 := J.1.1
  have j2 := J.1.2
  have cs := I.1
  have h120 := cs.1
  rw [c_end (by omega) cs.2.1, r_end, t1, j1]
  by_cases c : 0 ≤ v ∧ v ≤ nI (sT g)
  · rw [if_pos c, if_pos c]
    obtain ⟨k, hk, e⟩ := nI_of (fun z => k2_nle z c.1)
    subst e
    have o9 := ok.1
    have hkn := (nI_leI hk (by omega)).mp c.2
    obtain ⟨I2, N2⟩ := ic_tape (m' := up (hI h) 0 1 (nI k)) (n := k) (B := sB g) I ok.2.2.2.1 up_at (fun j hj => by rw [up_r (by decide)]; exact t2 j (by omega)) (fun a h0 _ => up_r h0)
    have J2 := ir_tape (m' := up m 0 11 (nI k)) (n := k) (B := sB g) J up_at (fun j hj => by rw [up_r (by decide)]; exact j2 j (by omega)) (fun a h0 _ => up_r h0) (fun j hj => by rw [up_a, if_neg hj])
    exact ⟨_, _, _, rfl, rfl, tpG g k (sB g), ⟨J2, tpG_ok ok (by omega), own, ad, I2, N2, fun _ _ z => z, fun _ z => z, by show hN h ≤ _; omega, by show hZ h ≤ _; omega⟩, Or.inr ⟨k, sB g, by omega, rfl⟩⟩
  · rw [if_neg c, if_neg c]
    exact ⟨_, _, _, rfl, rfl, g, AFT.same I J ok, Or.inl rfl⟩
/-! the bytes that are fed -/
theorem i8_ext {x y : Int32} (hh : ∀ i, i < 8 → bt x i = bt y i) : x.toInt8 = y.toInt8 := by
  apply Int8.toBitVec_inj.mp
  rw [Int32.toBitVec_toInt8, Int32.toBitVec_toInt8]
  apply BitVec.eq_of_getLsbD_eq
  intro i hi
  rw [BitVec.getLsbD_signExtend, BitVec.getLsbD_signExtend]
  have := hh i hi
  unfold bt at this
  simp only [hi, show i < 32 by omega, decide_true, if_true, Bool.true_and, this]
theorem rsh_s : ∀ k, k < 4 → ((24 : Int32) - ((8 : Int32) * (nI k &&& (3 : Int32)))) &&& 31 = nI (24 - 8 * k) &&& 31 := by decide +kernel
theorem rsh_4 : ∀ t, t < 5 → ∀ k, k < 4 → nI (4 * t + k) &&& (3 : Int32) = nI k &&& 3 := by decide +kernel
theorem rsh_t {y : Int32} {t k : Nat} (ht : t < 5) (hk : k < 4) : rsh y (4 * t + k) = rsh y k := by
  unfold rsh; rw [rsh_4 t ht k hk]
theorem rsh_by {y : Int32} {k : Nat} (hk : k < 4) : rsh y k = by4 y (nI (24 - 8 * k)) := by
  unfold rsh by4
  rw [rsh_s k hk]
  congr 3
  apply i8_ext
  intro i hi
  rw [b_sshr _ (by omega) _ (by omega), b_ushr _ (by omega), if_pos (by omega)]
theorem put4_1 {n j : Nat} {v : Int32} : hI (put4 h n v) 1 j = if n ≤ j ∧ j < n + 4 then rsh v (j - n) else hI h 1 j := by
  have e0 : by4 v 24 = rsh v 0 := (rsh_by (k := 0) (by decide)).symm
  have e1 : by4 v 16 = rsh v 1 := (rsh_by (k := 1) (by decide)).symm
  have e2 : by4 v 8 = rsh v 2 := (rsh_by (k := 2) (by decide)).symm
  have e3 : by4 v 0 = rsh v 3 := (rsh_by (k := 3) (by decide)).symm
  unfold put4
  rw [e0, e1, e2, e3]
  have pb1 : ∀ (h : Hp) (n : Nat) (x : Int32), hI (pb h n x) 1 j = if j = n then x else hI h 1 j := fun h n x => by
    unfold pb
    rw [hI_ne (Or.inl (by decide))]
    by_cases z : j = n
    · rw [if_pos z, z, hI_at]
    · rw [if_neg z, hI_ne (Or.inr z)]
  rw [pb1, pb1, pb1, pb1]
  by_cases z : n ≤ j ∧ j < n + 4
  · rw [if_pos z]
    rcases (by omega : j = n ∨ j = n + 1 ∨ j = n + 2 ∨ j = n + 3) with rfl | rfl | rfl | rfl
    · rw [if_neg (by omega), if_neg (by omega), if_neg (by omega), if_pos rfl, Nat.sub_self]
    · rw [if_neg (by omega), if_neg (by omega), if_pos rfl, Nat.add_sub_cancel_left]
    · rw [if_neg (by omega), if_pos rfl, Nat.add_sub_cancel_left]
    · rw [if_pos rfl, Nat.add_sub_cancel_left]
  · rw [if_neg z, if_neg (by omega), if_neg (by omega), if_neg (by omega), if_neg (by omega)]
theorem put4_a {n a j : Nat} {v : Int32} (h0 : a ≠ 0) (h1 : a ≠ 1) : hI (put4 h n v) a j = hI h a j := by
  unfold put4 pb
  rw [hI_ne (Or.inl h0), hI_ne (Or.inl h1), hI_ne (Or.inl h0), hI_ne (Or.inl h1), hI_ne (Or.inl h0), hI_ne (Or.inl h1), hI_ne (Or.inl h0), hI_ne (Or.inl h1)]
def XW (h H : Hp) : Prop := H.1 = h.1 ∧ H.2.2 = h.2.2
theorem XW.put4 {H : Hp} {n : Nat} {v : Int32} (x : XW h H) : XW h (put4 H n v) := x
theorem XW.w {H : Hp} (x : XW h H) : H = wI h (hI H) := by
  show (H.1, H.2.1, H.2.2) = (h.1, H.2.1, h.2.2)
  rw [x.1, x.2]
theorem fd_1 {n j : Nat} {a b c d e : Int32} : hI (put4 (put4 (put4 (put4 (put4 h n a) (n + 4) b) (n + 8) c) (n + 12) d) (n + 16) e) 1 j = if n ≤ j ∧ j < n + 20 then rsh (rpk a b c d e (j - n)) (j - n) else hI h 1 j := by
  rw [put4_1, put4_1, put4_1, put4_1, put4_1]
  unfold rpk
  have sh : ∀ (t : Nat) (y : Int32), t < 5 → n + 4 * t ≤ j → j < n + 4 * t + 4 → rsh y (j - n) = rsh y (j - (n + 4 * t)) := fun t y ht z1 z2 => by
    rw [show j - n = 4 * t + (j - (n + 4 * t)) by omega]
    exact rsh_t ht (by omega)
  by_cases c0 : n ≤ j ∧ j < n + 4
  · rw [if_neg (by omega), if_neg (by omega), if_neg (by omega), if_neg (by omega), if_pos c0, if_pos (by omega), if_pos (by omega)]
  · by_cases c1 : n + 4 ≤ j ∧ j < n + 8
    · rw [if_neg (by omega), if_neg (by omega), if_neg (by omega), if_pos (by omega), if_pos (by omega), if_neg (by omega), if_pos (by omega), sh 1 _ (by decide) (by omega) (by omega)]
    · by_cases c2 : n + 8 ≤ j ∧ j < n + 12
      · rw [if_neg (by omega), if_neg (by omega), if_pos (by omega), if_pos (by omega), if_neg (by omega), if_neg (by omega), if_pos (by omega), sh 2 _ (by decide) (by omega) (by omega)]
      · by_cases c3 : n + 12 ≤ j ∧ j < n + 16
        · rw [if_neg (by omega), if_pos (by omega), if_pos (by omega), if_neg (by omega), if_neg (by omega), if_neg (by omega), if_pos (by omega), sh 3 _ (by decide) (by omega) (by omega)]
        · by_cases c4 : n + 16 ≤ j ∧ j < n + 20
          · rw [if_pos (by omega), if_pos (by omega), if_neg (by omega), if_neg (by omega), if_neg (by omega), if_neg (by omega), sh 4 _ (by decide) (by omega) (by omega)]
          · rw [if_neg (by omega), if_neg (by omega), if_neg (by omega), if_neg (by omega), if_neg (by omega), if_neg (by omega)]
theorem rf_10 {n j : Nat} {a b c d e : Int32} : ∀ k, rfM m n a b c d e k 10 j = if n ≤ j ∧ j < n + k then rsh (rpk a b c d e (j - n)) (j - n) else m 10 j
  | 0 => by rw [if_neg (by omega)]; rfl
  | k + 1 => by
    show up (rfM m n a b c d e k) 10 (n + k) (rsh (rpk a b c d e k) k) 10 j = _
    rw [up_a]
    by_cases z : j = n + k
    · rw [if_pos z, if_pos (by omega), show j - n = k by omega]
    · rw [if_neg z, rf_10 k]
      by_cases y : n ≤ j ∧ j < n + k
      · rw [if_pos y, if_pos (by omega)]
      · rw [if_neg y, if_neg (by omega)]
theorem o_feed (I : IC h g own ad) (J : IR m g) (ok : okG g) (a b c d e : Int32) : ∃ r h1 m1, fX11_feed h 0 a b c d e = some (r, h1) ∧ gX12_feed m a b c d e = some (r, m1) ∧ ∃ g', AFT h h1 m1 own g' ∧ (g' = g ∨ ∃ n B, n ≤ 900 ∧ g' = tpG g n B) := by
  have t1 := I.2.2.1.1
  have t2 := I.2.2.1.2
  have j1 := J.1.1
  have j2 := J.1.2
  have cs := I.1
  have h120 := cs.1
  have ts : TS h := ⟨by omega, cs.2.1, cs.r0, cs.2.2.1.2⟩
  rw [c_feed ts t1 ok.1, r_feed j1 ok.1]
  by_cases z : sT g + 20 ≤ 900
  · rw [if_pos z, if_pos z]
    generalize hB : (fun j => if sT g ≤ j ∧ j < sT g + 20 then rsh (rpk a b c d e (j - sT g)) (j - sT g) else sB g j) = B
    obtain ⟨I2, N2⟩ := ic_tape (m' := hI (put4 (put4 (put4 (put4 (put4 h (sT g) a) (sT g + 4) b) (sT g + 8) c) (sT g + 12) d) (sT g + 16) e)) (n := sT g + 20) (B := B) I ok.2.2.2.1 put4_n (fun j hj => by
      rw [fd_1, ← hB]
      by_cases y : sT g ≤ j ∧ j < sT g + 20
      · rw [if_pos y]; exact (if_pos y).symm
      · rw [if_neg y, t2 j (by omega)]; exact (if_neg y).symm) (fun x h0 h1 => funext fun j => by rw [put4_a h0 h1, put4_a h0 h1, put4_a h0 h1, put4_a h0 h1, put4_a h0 h1])
    have J2 := ir_tape (m' := up (rfM m (sT g) a b c d e 20) 0 11 (nI (sT g + 20))) (n := sT g + 20) (B := B) J up_at (fun j hj => by
      rw [up_r (by decide), rf_10, ← hB]
      by_cases y : sT g ≤ j ∧ j < sT g + 20
      · rw [if_pos y]; exact (if_pos y).symm
      · rw [if_neg y, j2 j (by omega)]; exact (if_neg y).symm) (fun x h0 h1 => by rw [up_r h0]; funext j; exact rfM_f h1 20) (fun j hj => by rw [up_a, if_neg hj]; exact rfM_f (by decide) 20)
    have xw : XW h (put4 (put4 (put4 (put4 (put4 h (sT g) a) (sT g + 4) b) (sT g + 8) c) (sT g + 12) d) (sT g + 16) e) := XW.put4 (XW.put4 (XW.put4 (XW.put4 (XW.put4 ⟨rfl, rfl⟩))))
    have ew := xw.w
    generalize hI (put4 (put4 (put4 (put4 (put4 h (sT g) a) (sT g + 4) b) (sT g + 8) c) (sT g + 12) d) (sT g + 16) e) = M at I2 N2 ew
    rw [ew]
    exact ⟨_, _, _, rfl, rfl, tpG g (sT g + 20) B, ⟨J2, tpG_ok ok z, own, ad, I2, N2, fun _ _ z => z, fun _ z => z, by show hN h ≤ _; omega, by show hZ h ≤ _; omega⟩, Or.inr ⟨_, _, z, rfl⟩⟩
  · rw [if_neg z, if_neg z]
    exact ⟨_, _, _, rfl, rfl, g, AFT.same I J ok, Or.inl rfl⟩
end TAP

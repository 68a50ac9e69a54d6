/-! an act of the class: the line of states -/
section ACT
variable {h : Hp} {g : GS} {own : Nat → Nat} {ad : Nat → Option Nat}
def rotH (h : Hp) (i : Nat) : Hp := (h.1, h.2.1, h.2.2.1, fun a q => if a = 19 ∧ q < i then h.2.2.2.1 19 (q + 1) else h.2.2.2.1 a q, h.2.2.2.2)
theorem hR_rot {i a q : Nat} : hR (rotH h i) a q = if a = 19 ∧ q < i then hR h 19 (q + 1) else hR h a q := rfl
theorem rotH_0 : rotH h 0 = h := by
  unfold rotH
  refine Prod.ext rfl (Prod.ext rfl (Prod.ext rfl (Prod.ext ?_ rfl)))
  funext a q
  show (if a = 19 ∧ q < 0 then _ else h.2.2.2.1 a q) = h.2.2.2.1 a q
  rw [if_neg (by omega)]
theorem rotH_s {i : Nat} : sR (rotH h i) 19 i (hR h 19 (i + 1)) = rotH h (i + 1) := by
  unfold rotH sR
  refine Prod.ext rfl (Prod.ext rfl (Prod.ext rfl (Prod.ext ?_ rfl)))
  funext a q
  show (if a = 19 ∧ q = i then h.2.2.2.1 19 (i + 1) else if a = 19 ∧ q < i then h.2.2.2.1 19 (q + 1) else h.2.2.2.1 a q) = if a = 19 ∧ q < i + 1 then h.2.2.2.1 19 (q + 1) else h.2.2.2.1 a q
  by_cases z : a = 19 ∧ q < i + 1
  · rw [if_pos z]
    by_cases z2 : q = i
    · rw [if_pos ⟨z.1, z2⟩, z2]
    · rw [if_neg (fun y => z2 y.2), if_pos ⟨z.1, by omega⟩]
  · rw [if_neg z, if_neg (by omega), if_neg (by omega)]
theorem rotX (cs : CS h) (i : Nat) : XX h (rotH h i) := by
  refine ⟨Nat.le_refl _, fun _ _ => rfl, fun a q c ha hs hd => ?_⟩
  rw [hR_rot, if_neg]
  rintro ⟨rfl, _⟩
  have := cs.s2.2.2.2
  rw [show (18 : Nat) + 1 = 19 from rfl, hs] at this
  cases this
def rotG (g : GS) : GS := (g.1, g.2.1, sP g, (11, 12, fun i => if i < 12 then sH g (i + 1) else sH g 0), sX g)
def rotO (own : Nat → Nat) : Nat → Nat := fun a => if own a = 1 then 13 else if 2 ≤ own a ∧ own a ≤ 13 then own a - 1 else own a
def rotA (ad : Nat → Option Nat) : Nat → Option Nat := fun i => if i < 12 then ad (i + 1) else if i = 12 then ad 0 else ad i
theorem tR_ok {h : Hp} {a n j v : Nat} (ha : a < hN h) (hs : hS h a = .inr ((.object RX3), n)) (hj : j < n) (hn : n < 2 ^ 31) (hv : v < hN h) (hc : hS h v = .inl 3) : tR h a (nI j) v = some (sR h a j (some v)) := by
  unfold tR; rw [ga_ok ha hs]; show (ix (nI j) n).bind _ = _; rw [ix_nI hj hn]; show (gO h 3 v).bind _ = _; rw [gO_ok hv hc]; rfl
theorem c_drop (I : IC h g own ad) (ok : okG g) (h12 : sA g = 12) : wp (fX2_dropOldest h 18) (fun r => IC r (rotG g) (rotO own) (rotA ad) ∧ NF h r own ∧ hN r = hN h ∧ hZ r = hZ h) := by
  have I' := I
  obtain ⟨c, o, ⟨t1, t2⟩, ⟨f1, f2⟩, ⟨P, hP, p1, p2, p3⟩, ⟨a1, a2⟩, r52, r19, r36, r15, sl, li, bx⟩ := I
  obtain ⟨o1, pw, o2, o3, o4, o5⟩ := ok
  have s2 := c.s2
  have h120 := c.1
  have sL12 : sL g = 12 := by omega
  have s19 : hS h 19 = .inr ((.object RX3), 13) := s2.2.2.2
  have ln : ∀ i, i < 13 → ∃ b, hR h 19 i = some b ∧ b < hN h ∧ hS h b = .inl 3 := by
    intro i hi
    obtain ⟨b, n, hb, L⟩ := li i (by omega)
    exact ⟨b, by rw [r19 i hi]; exact hb, L.1.lt, L.1.2.1⟩
  obtain ⟨b0, e0, l0, c0⟩ := ln 0 (by omega)
  have loop : wp (lp (bX2_dropOldest_9 18 b0) FU (nI 0, h)) (fun r => r = rotH h 12) := by
    have key := wp_for (body := bX2_dropOldest_9 18 b0) (Q := fun r => r = rotH h 12) (κ := Unit) (fun i _ => (nI i, rotH h i)) 12 (fun _ _ => True) (fun i _ hi _ => ?_) (fun _ _ => ?_) 0 () (Nat.zero_le _) trivial (by decide)
    · rw [rotH_0] at key; exact key
    · obtain ⟨b, eb, lb, cb⟩ := ln (i + 1) (by omega)
      have x := rotX c i
      have sx : Sh2 (rotH h i) 18 := s2.x x
      have rr : ∀ {Q : Nat → Prop}, wp (gR (rotH h i) 2 18 2) Q = Q 19 := fun {Q} => sx.r2 (m := hI (rotH h i))
      have e1 : lR (rotH h i) (.object RX3) 19 (nI (i + 1)) = some b := by
        rw [lR_ok (h := rotH h i) (j := i + 1) (show 19 < hN h by omega) s19 (by omega) (by decide), hR_rot, if_neg (by omega)]; exact eb
      have e2 : tR (rotH h i) 19 (nI i) b = some (rotH h (i + 1)) := by
        rw [tR_ok (h := rotH h i) (j := i) (show 19 < hN h by omega) s19 (by omega) (by decide) lb cb, ← eb, rotH_s]
      simp (disch := omega) only [bX2_dropOldest_9, L_12, i_le, wp_f, wp_bind, rr, L_1, i_add]
      rw [wp_eq e1, wp_eq e2]
      rw [wp_some, wp_some, lq_l]
      exact ⟨(), rfl, trivial⟩
    · simp (disch := omega) only [bX2_dropOldest_9, L_12, i_le, wp_t, wp_some, lq_r]
  unfold fX2_dropOldest
  have r2 : ∀ {Q : Nat → Prop}, wp (gR h 2 18 2) Q = Q 19 := fun {Q} => s2.r2 (m := hI h)
  have e1 : lR h (.object RX3) 19 0 = some b0 := by
    rw [show (0 : Int32) = nI 0 from rfl, lR_ok (show 19 < hN h by omega) s19 (by omega) (by decide)]; exact e0
  rw [wp_bind, r2, wp_bind, wp_eq e1, wp_bind]
  refine wp_mono loop ?_
  rintro r rfl
  have x := rotX c 12
  have sx : Sh2 (rotH h 12) 18 := s2.x x
  have rr : ∀ {Q : Nat → Prop}, wp (gR (rotH h 12) 2 18 2) Q = Q 19 := fun {Q} => sx.r2 (m := hI (rotH h 12))
  rw [wp_bind, rr, wp_bind, L_12, wp_eq (tR_ok (h := rotH h 12) (show 19 < hN h by omega) s19 (by omega) (by decide) l0 c0)]
  have x2 : XX h (sR (rotH h 12) 19 12 (some b0)) := x.trans (XX.sR (fun q hq => by rw [show hS (rotH h 12) 19 = .inr ((.object RX3), 13) from s19] at hq; cases hq))
  have s22 : Sh2 (sR (rotH h 12) 19 12 (some b0)) 18 := s2.x x2
  have gg : ∀ {Q : Int32 → Prop}, wp (gI (sR (rotH h 12) 19 12 (some b0)) 2 18 0) Q = Q (nI 12) := fun {Q} => by
    rw [show wp (gI (sR (rotH h 12) 19 12 (some b0)) 2 18 0) Q = Q (hI h 18 0) from s22.g0 (m := hI h), a1, h12]
  have pp : ∀ {v : Int32} {Q : Hp → Prop}, wp (pI (sR (rotH h 12) 19 12 (some b0)) 2 18 0 v) Q = Q (wI (sR (rotH h 12) 19 12 (some b0)) (up (hI h) 18 0 v)) := fun {v Q} => s22.p0 (m := hI h)
  rw [wp_bind, gg, wp_bind, pp, wp_some, show nI 12 - 1 = nI 11 from i_sub (b := 1) (by decide)]
  have RN : ∀ a q, a ≠ 19 → hR (wI (sR (rotH h 12) 19 12 (some b0)) (up (hI h) 18 0 (nI 11))) a q = hR h a q := fun a q ha => by
    show hR (sR (rotH h 12) 19 12 (some b0)) a q = _
    rw [hR_s, if_neg (fun z => ha z.1), hR_rot, if_neg (fun z => ha z.1)]
  have RL : ∀ q, q < 13 → hR (wI (sR (rotH h 12) 19 12 (some b0)) (up (hI h) 18 0 (nI 11))) 19 q = rotA ad q := fun q hq => by
    show hR (sR (rotH h 12) 19 12 (some b0)) 19 q = _
    unfold rotA
    by_cases z : q = 12
    · rw [hR_s, if_pos ⟨rfl, z⟩, if_neg (by omega), if_pos z, ← r19 0 (by omega)]; exact e0.symm
    · rw [hR_s, if_neg (fun y => z y.2), hR_rot, if_pos ⟨rfl, by omega⟩, if_pos (by omega), r19 _ (by omega)]
  have kp : ∀ ow, ow ≠ 0 → KEEP h (wI (sR (rotH h 12) 19 12 (some b0)) (up (hI h) 18 0 (nI 11))) own ow := by
    intro w hw a ha ho
    have h18 : a ≠ 18 := fun z => by have := o.1 18 (by decide) (by decide) (by decide); rw [← z] at this; omega
    have h19 : a ≠ 19 := fun z => by have := o.1 19 (by decide) (by decide) (by decide); rw [← z] at this; omega
    exact ⟨fun j => by rw [wI_I, up_r h18], fun j => rfl, fun q => RN a q h19⟩
  have sO : ∀ {s b : Nat}, s < 16 → SLT h own s b → SLT (wI (sR (rotH h 12) 19 12 (some b0)) (up (hI h) 18 0 (nI 11))) (rotO own) (if s = 0 then 12 else if s < 13 then s - 1 else s) b := by
    intro s b hs S
    have S' := S.keep (h' := wI (sR (rotH h 12) 19 12 (some b0)) (up (hI h) 18 0 (nI 11))) x2 (kp (1 + s) (by omega))
    obtain ⟨q1, q2, ρ, n, q3, q4, q5, q6, q7, q8⟩ := S'
    have om : ∀ a, own a = 1 + s → rotO own a = 1 + (if s = 0 then 12 else if s < 13 then s - 1 else s) := by
      intro a ha
      unfold rotO
      rw [ha]
      by_cases z : s = 0
      · rw [if_pos (by omega), if_pos z]
      · rw [if_neg (by omega), if_neg z]
        by_cases z2 : s < 13
        · rw [if_pos (by omega), if_pos z2]; omega
        · rw [if_neg (by omega), if_neg z2]
    exact ⟨fun a h1 h2 => om a (q1 a h1 h2), q2, ρ, n, q3, om ρ q4, q5, q6, q7, q8⟩
  refine ⟨⟨c.x x2, ⟨fun a h1 h2 h3 => ?_, fun a h1 h2 => ?_, fun a h1 => ?_⟩, ⟨?_, fun j hj => ?_⟩, ⟨?_, ?_⟩, ⟨P, hP, ?_, ?_, ?_⟩, ⟨?_, ?_⟩, fun q hq => ?_, RL, fun q hq => ?_, ?_, fun s b hs hb => ?_, fun i hi => ?_, fun q hq => ⟨fun hx => ?_, fun B hB => ?_⟩⟩, ⟨x2, kp 17 (by decide), fun a h1 h2 j => by rw [wI_I, up_r (by omega)], RN 74 8 (by decide), RN 0 3 (by decide)⟩, rfl, rfl⟩
  · have := o.1 a h1 h2 h3
    unfold rotO; rw [this, if_neg (by decide), if_neg (by decide)]
  · have := o.2.1 a h1 h2
    unfold rotO; rw [this, if_neg (by decide), if_neg (by decide)]
  · have := o.2.2 a h1
    unfold rotO; rw [this, if_neg (by decide), if_neg (by decide)]
  · rw [wI_I, up_r (by decide)]; exact t1
  · rw [wI_I, up_r (by decide)]; exact t2 j hj
  · rw [wI_I, up_r (by decide)]; exact f1
  · rw [wI_I, up_r (by decide)]; exact f2
  · rw [RN 0 3 (by decide)]; exact p1
  · rw [RN 0 4 (by decide)]; exact p2
  · exact PC.congr (h := h) (m := hI h) p3 x2 (fun a q1 q2 => by rw [up_r (by omega)])
  · rw [wI_I, up_at]; rfl
  · rw [wI_I, up_a, if_neg (by decide), a2, sL12]; rfl
  · rw [RN 52 q (by decide)]; exact r52 q hq
  · rw [RN 36 q (by decide), r36 q hq]
    unfold rotA; rw [if_neg (by omega), if_neg (by omega)]
  · unfold rotA; rw [if_neg (by decide), if_neg (by decide)]; exact r15
  · unfold rotA at hb
    by_cases z : s < 12
    · rw [if_pos z] at hb
      have := sO (by omega) (sl (s + 1) b (by omega) hb)
      rw [if_neg (by omega), if_pos (by omega), Nat.add_sub_cancel] at this
      exact this
    · rw [if_neg z] at hb
      by_cases z2 : s = 12
      · rw [if_pos z2] at hb
        have := sO (by omega) (sl 0 b (by omega) hb)
        rw [if_pos rfl] at this
        rw [z2]; exact this
      · rw [if_neg z2] at hb
        have := sO hs (sl s b hs hb)
        rw [if_neg (by omega), if_neg (by omega)] at this
        exact this
  · change i ≤ 12 at hi
    show ∃ b n, rotA ad i = some b ∧ LX _ _ b (if i < 12 then sH g (i + 1) else sH g 0) n
    unfold rotA
    by_cases z : i < 12
    · obtain ⟨b, n, hb, L⟩ := li (i + 1) (by omega)
      rw [if_pos z, if_pos z]
      exact ⟨b, n, hb, L.keep (h' := wI (sR (rotH h 12) 19 12 (some b0)) (up (hI h) 18 0 (nI 11))) (sl (i + 1) b (by omega) hb) x2 (kp _ (by omega))⟩
    · obtain ⟨b, n, hb, L⟩ := li 0 (by omega)
      rw [if_neg z, if_neg z, if_pos (by omega)]
      exact ⟨b, n, hb, L.keep (h' := wI (sR (rotH h 12) 19 12 (some b0)) (up (hI h) 18 0 (nI 11))) (sl 0 b (by omega) hb) x2 (kp _ (by omega))⟩
  · rw [wI_I, up_r (by decide)]; exact (bx q hq).1 hx
  · obtain ⟨e, b, n, hb, L⟩ := (bx q hq).2 B hB
    refine ⟨by rw [wI_I, up_r (by decide)]; exact e, b, n, ?_, L.keep (h' := wI (sR (rotH h 12) 19 12 (some b0)) (up (hI h) 18 0 (nI 11))) (sl (13 + q) b (by omega) hb) x2 (kp _ (by omega))⟩
    unfold rotA; rw [if_neg (by omega), if_neg (by omega)]; exact hb
end ACT

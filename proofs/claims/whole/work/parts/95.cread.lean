/-! how the class reads a text -/
theorem obi_r {α β : Type} {a : α} {f : α → OT β} : obi (.inr a) f = f a := rfl
theorem obi_l {α β : Type} {e : Nat × Nat} {f : α → OT β} : obi (.inl e) f = .inl e := rfl
section CRD
variable {h : Hp} {m m' : Mem} {B : Nat → Int32} {n Q w : Nat} {t : TT} {N : NT} {q : QT}
def PLc (h : Hp) (m : Mem) (Q : Nat) (q : QT) (w : Nat) : Prop := Sh5 h Q ∧ m Q 0 = nI (pK q.1) ∧ m Q 1 = nI (pL q.1) ∧ m Q 2 = nI (pP q.1) ∧ (∀ l, l < pL q.1 → m (Q + 1) l = nI (pk q.1 l)) ∧ (∀ p, p < w → m (Q + 2) p = nI (pS q.1 p)) ∧ (∀ p, p < 6 → m (Q + 3) p = nI (pN q.1 p)) ∧ ∀ j, j < 72 → m (Q + 4) j = nI (q.2 j)
def FRc (Q : Nat) (m m' : Mem) : Prop := ∀ a, a ≠ 2 → ¬ (4 ≤ a ∧ a ≤ 7) → ¬ (Q ≤ a ∧ a ≤ Q + 4) → m' a = m a
theorem FRc.trans {m1 m2 m3 : Mem} (x : FRc Q m1 m2) (y : FRc Q m2 m3) : FRc Q m1 m3 := fun a h1 h2 h3 => (y a h1 h2 h3).trans (x a h1 h2 h3)
def RSc (h : Hp) (m : Mem) (Q : Nat) (B : Nat → Int32) (n : Nat) (t : TT) (N : NT) (q : QT) (w : Nat) : Prop := TX h m B n ∧ TKc m t ∧ NMc m N ∧ PLc h m Q q w ∧ hR h 2 4 = some Q ∧ m 2 0 = 0 ∧ m 2 1 = mI ∧ 8 ≤ Q
def Flt (h : Hp) (m : Mem) (Q : Nat) (e : Nat × Nat) (r : Hp) : Prop := ∃ m', r = wI h m' ∧ FRc Q m m' ∧ m' 2 0 = nI e.1 ∧ m' 2 1 = nI e.2
def Okc (h : Hp) (m : Mem) (Q : Nat) (B : Nat → Int32) (n : Nat) (t : TT) (N : NT) (q : QT) (w : Nat) (r : Hp) : Prop := ∃ m', r = wI h m' ∧ FRc Q m m' ∧ RSc h m' Q B n t N q w
theorem Flt.go {m1 : Mem} {e : Nat × Nat} {r : Hp} (x : FRc Q m m1) (f : Flt h m1 Q e r) : Flt h m Q e r := by
  obtain ⟨m', e1, e2, e3⟩ := f
  exact ⟨m', e1, x.trans e2, e3⟩
theorem Okc.go {m1 : Mem} {r : Hp} (x : FRc Q m m1) (f : Okc h m1 Q B n t N q w r) : Okc h m Q B n t N q w r := by
  obtain ⟨m', e1, e2, e3⟩ := f
  exact ⟨m', e1, x.trans e2, e3⟩
theorem PLc.congr (p : PLc h m Q q w) (e : ∀ a, Q ≤ a → a ≤ Q + 4 → m' a = m a) : PLc h m' Q q w := by
  obtain ⟨p0, p1, p2, p3, p4, p5, p6, p7⟩ := p
  have e0 := e Q (by omega) (by omega)
  refine ⟨p0, by rw [e0]; exact p1, by rw [e0]; exact p2, by rw [e0]; exact p3, ?_, ?_, ?_, ?_⟩
  · rw [e (Q + 1) (by omega) (by omega)]; exact p4
  · rw [e (Q + 2) (by omega) (by omega)]; exact p5
  · rw [e (Q + 3) (by omega) (by omega)]; exact p6
  · rw [e (Q + 4) (by omega) (by omega)]; exact p7
theorem RSc.nx {t' : TT} (R : RSc h m Q B n t N q w) (e : ∀ a, a ≠ 2 → m' a = m a) (e2 : ∀ j, j ≠ 5 → j ≠ 6 → j ≠ 7 → m' 2 j = m 2 j) (k : TKc m' t') : RSc h m' Q B n t' N q w := by
  obtain ⟨⟨x1, x2, x3, x4, x5, x6⟩, _, ⟨n1, n2⟩, p, r4, f0, f1, q8⟩ := R
  refine ⟨⟨x1, x2, x3, x4, by rw [e2 3 (by decide) (by decide) (by decide)]; exact x5, by rw [e 1 (by decide)]; exact x6⟩, k, ⟨by rw [e2 8 (by decide) (by decide) (by decide)]; exact n1, by rw [e 4 (by decide), e 5 (by decide), e 6 (by decide), e 7 (by decide)]; exact n2⟩, p.congr (fun a h1 h2 => e a (by omega)), r4, by rw [e2 0 (by decide) (by decide) (by decide)]; exact f0, by rw [e2 1 (by decide) (by decide) (by decide)]; exact f1, q8⟩
theorem RSc.pl {q' : QT} {w' : Nat} (R : RSc h m Q B n t N q w) (e : ∀ a, ¬ (Q ≤ a ∧ a ≤ Q + 4) → m' a = m a) (p : PLc h m' Q q' w') : RSc h m' Q B n t N q' w' := by
  obtain ⟨⟨x1, x2, x3, x4, x5, x6⟩, ⟨k1, k2, k3⟩, ⟨n1, n2⟩, _, r4, f0, f1, q8⟩ := R
  have e2 := e 2 (by omega)
  exact ⟨⟨x1, x2, x3, x4, by rw [e2]; exact x5, by rw [e 1 (by omega)]; exact x6⟩, ⟨by rw [e2]; exact k1, by rw [e2]; exact k2, by rw [e2]; exact k3⟩, ⟨by rw [e2]; exact n1, by rw [e 4 (by omega), e 5 (by omega), e 6 (by omega), e 7 (by omega)]; exact n2⟩, p, r4, by rw [e2]; exact f0, by rw [e2]; exact f1, q8⟩
theorem c_nextT (R : RSc h m Q B n t N q w) (W : TW n t) : wp (fX6_nextToken (wI h m) 2) (fun r => Okc h m Q B n (nxt B n t) N q w r) := by
  refine wp_mono (c_next R.1 W.2.1 R.2.1.2.2) ?_
  rintro r ⟨m', rfl, f1, f2, k⟩
  exact ⟨m', rfl, fun a h1 _ _ => f1 a h1, R.nx f1 f2 k⟩
theorem c_failT {f : Nat} (R : RSc h m Q B n t N q w) : wp (fX6_fail (wI h m) 2 (nI f)) (fun r => Flt h m Q (f, t.2.1) r) := by
  have s6 := R.1.1
  unfold fX6_fail
  rw [wp_bind, s6.p0, wp_bind, s6.g6, up_j (show (6 : Nat) ≠ 0 by decide), R.2.1.2.1, wp_bind, s6.p1, wp_some]
  exact ⟨_, rfl, fun a h1 _ _ => by rw [up_r h1, up_r h1], by rw [up_j (show (0 : Nat) ≠ 1 by decide), up_at], up_at⟩
theorem c_passT {v : Nat} (R : RSc h m Q B n t N q w) (W : TW n t) (hv : v < 100) : wp (fX6_pass (wI h m) 2 (nI v)) (fun r => outc (sPass B n v t) (fun e => r.1 = 0 ∧ Flt h m Q e r.2) (fun t' => r.1 = 1 ∧ Okc h m Q B n t' N q w r.2)) := by
  have s6 := R.1.1
  have t18 := W.2.2.1
  unfold fX6_pass sPass
  rw [wp_bind, s6.g5, R.2.1.1]
  by_cases z : t.1 = v
  · rw [wp_t (by rw [z]), if_pos z, wp_bind, s6.o, wp_bind]
    refine wp_mono (c_nextT R W) (fun r hr => ?_)
    rw [wp_some]; exact ⟨rfl, hr⟩
  · rw [wp_f (fun y => z ((nI_eq (by omega) (by omega)).mp y)), if_neg z, wp_bind, s6.o, wp_bind]
    refine wp_mono (c_failT (f := 1) R) (fun r hr => ?_)
    rw [wp_some]; exact ⟨rfl, hr⟩
theorem c_tellT {so nu : Nat} (R : RSc h m Q B n t N q w) (W : TW n t) (NW' : NW n N) (hN : ntN N < 24) : wp (fX6_tellName (wI h m) 2 (nI so) (nI nu)) (fun r => outc (sNew B n so nu t N) (fun e => r.1 = 0 ∧ Flt h m Q e r.2) (fun a => r.1 = 1 ∧ Okc h m Q B n a.1 a.2 q w r.2)) := by
  have s6 := R.1.1
  have t18 := W.2.2.1
  obtain ⟨k1, k2, k3⟩ := R.2.1
  have M := R.2.2.1
  unfold fX6_tellName sNew jX6_tellName_96
  rw [wp_bind, s6.g5, k1, L_15]
  by_cases z : t.1 = 15
  · rw [wp_t (by rw [z]), if_pos z, wp_bind, s6.o, wp_bind]
    refine wp_mono (c_findNm R.1 R.2.1 W M NW') ?_
    rintro r rfl
    cases e : fnd B N t (ntN N) with
    | none =>
      rw [wp_t (show bI none = -1 from rfl), wp_bind, s6.g8, M.1, L_24, wp_f (fun y => by have := (nI_leI (by decide) (by omega)).mp y; omega)]
      have g8 : ∀ {m1 : Mem} {Q : Int32 → Prop}, m1 2 8 = nI (ntN N) → wp (gI (wI h m1) 6 2 8) Q = Q (nI (ntN N)) := fun {m1 Q} e => by rw [s6.g8, e]
      have u : ∀ {m1 : Mem} {a : Nat} {j : Nat} {v : Int32}, a ≠ 2 → up m1 a j v 2 8 = m1 2 8 := fun ha => by rw [up_r ha.symm]
      have r9 : ∀ {m1 : Mem} {Q : Nat → Prop}, wp (gR (wI h m1) 6 2 9) Q = Q 4 := fun {m1 Q} => s6.r9
      have r10 : ∀ {m1 : Mem} {Q : Nat → Prop}, wp (gR (wI h m1) 6 2 10) Q = Q 5 := fun {m1 Q} => s6.r10
      have r11 : ∀ {m1 : Mem} {Q : Nat → Prop}, wp (gR (wI h m1) 6 2 11) Q = Q 6 := fun {m1 Q} => s6.r11
      have r12 : ∀ {m1 : Mem} {Q : Nat → Prop}, wp (gR (wI h m1) 6 2 12) Q = Q 7 := fun {m1 Q} => s6.r12
      have t9 : ∀ {m1 : Mem} {v : Int32} {Q : Hp → Prop}, wp (tI (wI h m1) 4 (nI (ntN N)) v) Q = Q (wI h (up m1 4 (ntN N) v)) := fun {m1 v Q} => s6.t9 hN
      have t10 : ∀ {m1 : Mem} {v : Int32} {Q : Hp → Prop}, wp (tI (wI h m1) 5 (nI (ntN N)) v) Q = Q (wI h (up m1 5 (ntN N) v)) := fun {m1 v Q} => s6.t10 hN
      have t11 : ∀ {m1 : Mem} {v : Int32} {Q : Hp → Prop}, wp (tI (wI h m1) 6 (nI (ntN N)) v) Q = Q (wI h (up m1 6 (ntN N) v)) := fun {m1 v Q} => s6.t11 hN
      have t12 : ∀ {m1 : Mem} {v : Int32} {Q : Hp → Prop}, wp (tI (wI h m1) 7 (nI (ntN N)) v) Q = Q (wI h (up m1 7 (ntN N) v)) := fun {m1 v Q} => s6.t12 hN
      rw [wp_bind, r9, wp_bind, g8 M.1, wp_bind, s6.g6, k2, wp_bind, t9, wp_bind, r10, wp_bind, g8 (by rw [u (by decide)]; exact M.1), wp_bind, s6.g7, up_r (show (2 : Nat) ≠ 4 by decide), k3, wp_bind, t10, wp_bind, r11, wp_bind, g8 (by rw [u (by decide), u (by decide)]; exact M.1), wp_bind, t11, wp_bind, r12, wp_bind, g8 (by rw [u (by decide), u (by decide), u (by decide)]; exact M.1), wp_bind, t12, wp_bind, g8 (by rw [u (by decide), u (by decide), u (by decide), u (by decide)]; exact M.1), wp_bind, s6.p8, show nI (ntN N) + 1 = nI (ntN N + 1) from i_add _ 1]
      generalize hm1 : up (up (up (up (up m 4 (ntN N) (nI t.2.1)) 5 (ntN N) (nI t.2.2)) 6 (ntN N) (nI so)) 7 (ntN N) (nI nu)) 2 8 (nI (ntN N + 1)) = m1
      have fa : ∀ a, a ≠ 2 → ¬ (4 ≤ a ∧ a ≤ 7) → m1 a = m a := fun a h1 h2 => by rw [← hm1, up_r h1, up_r (by omega), up_r (by omega), up_r (by omega), up_r (by omega)]
      have f2 : ∀ j, j ≠ 8 → m1 2 j = m 2 j := fun j hj => by rw [← hm1, up_j hj, up_r (by decide), up_r (by decide), up_r (by decide), up_r (by decide)]
      have c4 : ∀ i, m1 4 i = if i = ntN N then nI t.2.1 else m 4 i := fun i => by rw [← hm1, up_r (by decide), up_r (by decide), up_r (by decide), up_r (by decide), up_a]
      have c5 : ∀ i, m1 5 i = if i = ntN N then nI t.2.2 else m 5 i := fun i => by rw [← hm1, up_r (by decide), up_r (by decide), up_r (by decide), up_a, up_r (by decide)]
      have c6 : ∀ i, m1 6 i = if i = ntN N then nI so else m 6 i := fun i => by rw [← hm1, up_r (by decide), up_r (by decide), up_a, up_r (by decide), up_r (by decide)]
      have c7 : ∀ i, m1 7 i = if i = ntN N then nI nu else m 7 i := fun i => by rw [← hm1, up_r (by decide), up_a, up_r (by decide), up_r (by decide), up_r (by decide)]
      have R1 : RSc h m1 Q B n t (addN N t so nu) q w := by
        obtain ⟨⟨x1, x2, x3, x4, x5, x6⟩, _, ⟨_, n2⟩, p, r4, f0, f1, q8⟩ := R
        refine ⟨⟨x1, x2, x3, x4, by rw [f2 3 (by decide)]; exact x5, by rw [fa 1 (by decide) (by decide)]; exact x6⟩, ⟨by rw [f2 5 (by decide)]; exact k1, by rw [f2 6 (by decide)]; exact k2, by rw [f2 7 (by decide)]; exact k3⟩, ⟨by rw [← hm1, up_at]; rfl, fun i hi => ?_⟩, p.congr (fun a h1 h2 => fa a (by omega) (by omega)), r4, by rw [f2 0 (by decide)]; exact f0, by rw [f2 1 (by decide)]; exact f1, q8⟩
        have hi' : i < ntN N + 1 := hi
        rw [c4, c5, c6, c7]
        show _ = nI (sbf (ntA N) (ntN N) t.2.1 i) ∧ _ = nI (sbf (ntA N) (ntN N) t.2.1 i + sbf (ntG N) (ntN N) (t.2.2 - t.2.1) i) ∧ _ = nI (sbf (ntS N) (ntN N) so i) ∧ _ = nI (sbf (ntU N) (ntN N) nu i)
        by_cases y : i = ntN N
        · rw [if_pos y, if_pos y, if_pos y, if_pos y, y, sbf_at, sbf_at, sbf_at, sbf_at]
          have := W.1
          exact ⟨rfl, by rw [show t.2.1 + (t.2.2 - t.2.1) = t.2.2 by omega], rfl, rfl⟩
        · rw [if_neg y, if_neg y, if_neg y, if_neg y, sbf_ne y, sbf_ne y, sbf_ne y, sbf_ne y]; exact n2 i (by omega)
      rw [wp_bind, s6.o, wp_bind]
      refine wp_mono (c_nextT R1 W) (fun r hr => ?_)
      rw [wp_some]
      exact ⟨rfl, Okc.go (fun a h1 h2 _ => fa a h1 h2) hr⟩
    | some i =>
      rw [wp_f (show ¬ bI (some i) = -1 from nI_m1 (by have := fnd_lt _ e; omega)), wp_bind, s6.o, wp_bind]
      refine wp_mono (c_failT (f := 2) R) (fun r hr => ?_)
      rw [wp_some]; exact ⟨rfl, hr⟩
  · rw [wp_f (fun y => z ((nI_eq (by omega) (by decide)).mp y)), if_neg z, wp_bind, s6.o, wp_bind]
    refine wp_mono (c_failT (f := 1) R) (fun r hr => ?_)
    rw [wp_some]; exact ⟨rfl, hr⟩
theorem c_knownT {so : Nat} (R : RSc h m Q B n t N q w) (W : TW n t) (NW' : NW n N) (hso : so < 100) : wp (fX6_knownName (wI h m) 2 (nI so)) (fun r => outc (sOld B n so t N) (fun e => r.1 = mI ∧ Flt h m Q e r.2) (fun a => r.1 = nI a.1 ∧ Okc h m Q B n a.2 N q w r.2)) := by
  have s6 := R.1.1
  have t18 := W.2.2.1
  have x24 := NW'.1
  obtain ⟨k1, k2, k3⟩ := R.2.1
  have M := R.2.2.1
  have bad : wp (jX6_knownName_36 2 (wI h m)) (fun r => r.1 = mI ∧ Flt h m Q (3, t.2.1) r.2) := by
    unfold jX6_knownName_36
    rw [wp_bind, s6.o, wp_bind]
    refine wp_mono (c_failT (f := 3) R) (fun r hr => ?_)
    rw [wp_some]; exact ⟨rfl, hr⟩
  unfold fX6_knownName sOld
  rw [wp_bind, s6.g5, k1, L_15]
  by_cases z : t.1 = 15
  · rw [wp_t (by rw [z]), if_pos z, wp_bind, s6.o, wp_bind]
    refine wp_mono (c_findNm R.1 R.2.1 W M NW') ?_
    rintro r rfl
    cases e : fnd B N t (ntN N) with
    | none =>
      rw [wp_t (show bI none = -1 from rfl)]
      exact bad
    | some i =>
      have hi := fnd_lt _ e
      obtain ⟨_, _, m6, m7⟩ := M.2 i hi
      have xb := (NW'.2 i hi).2.1
      have r11 : ∀ {m1 : Mem} {Q : Nat → Prop}, wp (gR (wI h m1) 6 2 11) Q = Q 6 := fun {m1 Q} => s6.r11
      have r12 : ∀ {m1 : Mem} {Q : Nat → Prop}, wp (gR (wI h m1) 6 2 12) Q = Q 7 := fun {m1 Q} => s6.r12
      have l11 : ∀ {m1 : Mem} {Q : Int32 → Prop}, wp (lI (wI h m1) .int 6 (nI i)) Q = Q (m1 6 i) := fun {m1 Q} => s6.l11 (by omega)
      have l12 : ∀ {m1 : Mem} {Q : Int32 → Prop}, wp (lI (wI h m1) .int 7 (nI i)) Q = Q (m1 7 i) := fun {m1 Q} => s6.l12 (by omega)
      rw [wp_f (show ¬ bI (some i) = -1 from nI_m1 (by omega)), wp_bind, r11, wp_bind]
      show wp (lI (wI h m) .int 6 (nI i)) _
      rw [l11, m6]
      simp only
      by_cases y : ntS N i = so
      · rw [wp_t (by rw [y]), if_pos y, wp_bind, s6.o, wp_bind]
        refine wp_mono (c_nextT R W) ?_
        rintro r ⟨m', rfl, fr, R'⟩
        rw [wp_bind, r12, wp_bind]
        show wp (lI (wI h m') .int 7 (nI i)) _
        rw [l12, wp_some, (R'.2.2.1.2 i hi).2.2.2]
        exact ⟨rfl, m', rfl, fr, R'⟩
      · rw [wp_f (fun x => y ((nI_eq (by omega) (by omega)).mp x)), if_neg y]
        exact bad
  · rw [wp_f (fun y => z ((nI_eq (by omega) (by decide)).mp y)), if_neg z, wp_bind, s6.o, wp_bind]
    refine wp_mono (c_failT (f := 1) R) (fun r hr => ?_)
    rw [wp_some]; exact ⟨rfl, hr⟩
theorem RSc.gp (R : RSc h m Q B n t N q w) {m1 : Mem} {Q1 : Nat → Prop} : wp (gR (wI h m1) 6 2 4) Q1 = Q1 Q := by
  obtain ⟨T, _, _, _, r4, _⟩ := R
  rw [T.1.q4, r4, wp_some]
theorem c_kind (R : RSc h m Q B n t N q (pP q.1)) (W : WF n t N q) : wp (fX6_readKind (wI h m) 2) (fun r => outc (sStop B n (sKind B n t N q)) (fun e => Flt h m Q e r) (fun a => Okc h m Q B n a.1 a.2.1 a.2.2 (pP a.2.2.1) r)) := by
  obtain ⟨w1, w2, w3, w4, w5, w6⟩ := W
  have s6 := R.1.1
  have s5 : Sh5 h Q := R.2.2.2.1.1
  have q1 := w3.1
  have q2 := w3.2.1
  have q3 := w3.2.2.1
  have q8 := R.2.2.2.2.2.2.2
  obtain ⟨x1, x2⟩ := nxt_W (B := B) w1
  unfold fX6_readKind sStop sKind jX6_readKind_57
  rw [wp_bind, R.gp, wp_bind, s5.g0, R.2.2.2.1.2.1, L_8]
  by_cases z : pK q.1 = 8
  · rw [wp_t (by rw [z]), if_pos z, wp_bind, s6.o, wp_bind]
    refine wp_mono (c_failT (f := 4) R) (fun r hr => ?_)
    rw [wp_some]; exact hr
  · rw [wp_f (fun y => z ((nI_eq (by omega) (by decide)).mp y)), if_neg z, wp_bind, s6.o, wp_bind]
    refine wp_mono (c_nextT R w1) ?_
    rintro r ⟨m1, rfl, f1, R1⟩
    rw [wp_bind, R1.gp, wp_bind, s5.g0, R1.2.2.2.1.2.1, wp_bind, s6.o, wp_bind]
    refine wp_mono (c_tellT (so := 0) (nu := pK q.1) R1 x1 w2 (by omega)) ?_
    rintro ⟨r1, r2⟩ hr
    cases e : sNew B n 0 (pK q.1) (nxt B n t) N with
    | inl f =>
      rw [e] at hr
      obtain ⟨z1, z2⟩ := hr
      have z1' : r1 = 0 := z1
      subst z1'
      rw [wp_t rfl, wp_some]
      exact Flt.go f1 z2
    | inr a =>
      rw [e] at hr
      obtain ⟨z1, m2, z2, f2, R2⟩ := hr
      have z1' : r1 = 1 := z1
      have z2' : r2 = wI h m2 := z2
      subst z1'
      subst z2'
      obtain ⟨_, _, rfl⟩ := sNew_i e
      obtain ⟨y1, y2⟩ := nxt_W (B := B) x1
      have R3 : RSc h (up m2 Q 0 (nI (pK q.1 + 1))) Q B n (nxt B n (nxt B n t)) (addN N (nxt B n t) 0 (pK q.1)) (kindQ q) (pP (kindQ q).1) := by
        refine R2.pl (fun a ha => up_r (by omega)) ?_
        obtain ⟨p0, p1, p2, p3, p4, p5, p6, p7⟩ := R2.2.2.2.1
        refine ⟨p0, by rw [up_at]; rfl, by rw [up_j (show (1 : Nat) ≠ 0 by decide)]; exact p2, by rw [up_j (show (2 : Nat) ≠ 0 by decide)]; exact p3, ?_, ?_, ?_, ?_⟩
        · rw [up_r (by omega)]; exact p4
        · rw [up_r (by omega)]; exact p5
        · rw [up_r (by omega)]; exact p6
        · rw [up_r (by omega)]; exact p7
      have f3 : FRc Q m (up m2 Q 0 (nI (pK q.1 + 1))) := fun a h1 h2 h3 => by rw [up_r (by omega), f2 a h1 h2 h3, f1 a h1 h2 h3]
      rw [wp_f (show ¬ (1 : Int32) = 0 by decide), wp_bind, R2.gp, wp_bind]
      show wp (gI (wI h m2) 5 Q 0) _
      rw [s5.g0, R2.2.2.2.1.2.1, wp_bind]
      show wp (pI (wI h m2) 5 Q 0 _) _
      rw [s5.p0, show nI (pK q.1) + 1 = nI (pK q.1 + 1) from i_add _ 1, wp_bind, s6.o, wp_bind, L_16]
      refine wp_mono (c_passT (v := 16) R3 y1 (by decide)) ?_
      rintro ⟨r1, r2⟩ hr
      rw [wp_some]
      simp only [obi_r]
      cases e2 : sPass B n 16 (nxt B n (nxt B n t)) with
      | inl f => rw [e2] at hr; exact Flt.go f3 hr.2
      | inr t' => rw [e2] at hr; exact Okc.go f3 hr.2
theorem c_lock (R : RSc h m Q B n t N q (pP q.1)) (W : WF n t N q) : wp (fX6_readLock (wI h m) 2) (fun r => outc (sStop B n (sLock B n t N q)) (fun e => Flt h m Q e r) (fun a => Okc h m Q B n a.1 a.2.1 a.2.2 (pP a.2.2.1) r)) := by
  obtain ⟨w1, w2, w3, w4, w5, w6⟩ := W
  have s6 := R.1.1
  have s5 : Sh5 h Q := R.2.2.2.1.1
  have q1 := w3.1
  have q2 := w3.2.1
  have q3 := w3.2.2.1
  have q8 := R.2.2.2.2.2.2.2
  obtain ⟨x1, x2⟩ := nxt_W (B := B) w1
  unfold fX6_readLock sStop sLock jX6_readLock_46 jX6_readLock_94
  rw [wp_bind, R.gp, wp_bind, s5.g1, R.2.2.2.1.2.2.1, L_10]
  by_cases z : pL q.1 = 10
  · rw [wp_t (by rw [z]), if_pos z, wp_bind, s6.o, wp_bind]
    refine wp_mono (c_failT (f := 4) R) (fun r hr => ?_)
    rw [wp_some]; exact hr
  · rw [wp_f (fun y => z ((nI_eq (by omega) (by decide)).mp y)), if_neg z, wp_bind, s6.o, wp_bind]
    refine wp_mono (c_nextT R w1) ?_
    rintro r ⟨m1, rfl, f1, R1⟩
    rw [wp_bind, R1.gp, wp_bind, s5.g1, R1.2.2.2.1.2.2.1, wp_bind, s6.o, wp_bind]
    refine wp_mono (c_tellT (so := 1) (nu := pL q.1) R1 x1 w2 (by omega)) ?_
    rintro ⟨r1, r2⟩ hr
    cases e : sNew B n 1 (pL q.1) (nxt B n t) N with
    | inl f =>
      rw [e] at hr
      obtain ⟨z1, z2⟩ := hr
      have z1' : r1 = 0 := z1
      subst z1'
      rw [wp_t rfl, wp_some]
      exact Flt.go f1 z2
    | inr a =>
      rw [e] at hr
      obtain ⟨z1, m2, z2, f2, R2⟩ := hr
      have z1' : r1 = 1 := z1
      have z2' : r2 = wI h m2 := z2
      subst z1'
      subst z2'
      obtain ⟨_, _, rfl⟩ := sNew_i e
      obtain ⟨y1, y2⟩ := nxt_W (B := B) x1
      have nw := addN_W (so := 1) (nu := pL q.1) x1 w2 (by omega) (by decide) (by omega)
      have f12 := f1.trans f2
      rw [wp_f (show ¬ (1 : Int32) = 0 by decide), wp_bind, s6.o, wp_bind, L_11]
      refine wp_mono (c_passT (v := 11) R2 y1 (by decide)) ?_
      rintro ⟨r1, r2⟩ hr
      simp only [obi_r]
      cases e2 : sPass B n 11 (nxt B n (nxt B n t)) with
      | inl f =>
        rw [e2] at hr
        obtain ⟨z1, z2⟩ := hr
        have z1' : r1 = 0 := z1
        subst z1'
        rw [wp_t rfl, wp_some]
        exact Flt.go f12 z2
      | inr t2 =>
        rw [e2] at hr
        obtain ⟨z1, m3, z2, f3, R3⟩ := hr
        have z1' : r1 = 1 := z1
        have z2' : r2 = wI h m3 := z2
        subst z1'
        subst z2'
        obtain ⟨_, rfl⟩ := sPass_i e2
        obtain ⟨y4, y5⟩ := nxt_W (B := B) y1
        have f13 := f12.trans f3
        rw [wp_f (show ¬ (1 : Int32) = 0 by decide), wp_bind, s6.o, wp_bind]
        refine wp_mono (c_knownT (so := 0) R3 y4 nw (by decide)) ?_
        rintro ⟨r1, r2⟩ hr
        simp only [obi_r]
        cases e3 : sOld B n 0 (nxt B n (nxt B n (nxt B n t))) (addN N (nxt B n t) 1 (pL q.1)) with
        | inl f =>
          rw [e3] at hr
          obtain ⟨z1, z2⟩ := hr
          have z1' : r1 = mI := z1
          subst z1'
          rw [wp_t (show mI = -1 from rfl), wp_some]
          exact Flt.go f13 z2
        | inr b =>
          rw [e3] at hr
          obtain ⟨z1, m4, z2, f4, R4⟩ := hr
          obtain ⟨_, i, i1, i2, rfl⟩ := sOld_i e3
          have k0 := (nw.2 i i1).2.2
          have z1' : r1 = nI (ntU (addN N (nxt B n t) 1 (pL q.1)) i) := z1
          have z2' : r2 = wI h m4 := z2
          subst z1'
          subst z2'
          obtain ⟨y6, y7⟩ := nxt_W (B := B) y4
          generalize hk : ntU (addN N (nxt B n t) 1 (pL q.1)) i = kk at k0 R4 ⊢
          obtain ⟨p0, p1, p2, p3, p4, p5, p6, p7⟩ := R4.2.2.2.1
          have R5 : RSc h (up (up m4 (Q + 1) (pL q.1) (nI kk)) Q 1 (nI (pL q.1 + 1))) Q B n (nxt B n (nxt B n (nxt B n (nxt B n t)))) (addN N (nxt B n t) 1 (pL q.1)) (lockQ q kk) (pP (lockQ q kk).1) := by
            refine R4.pl (fun a ha => by rw [up_r (by omega), up_r (by omega)]) ?_
            refine ⟨p0, by rw [up_j (show (0 : Nat) ≠ 1 by decide), up_r (by omega)]; exact p1, by rw [up_at]; rfl, by rw [up_j (show (2 : Nat) ≠ 1 by decide), up_r (by omega)]; exact p3, fun l hl => ?_, ?_, ?_, ?_⟩
            · have hl' : l < pL q.1 + 1 := hl
              rw [up_r (by omega), up_a]
              show _ = nI (sbf (pk q.1) (pL q.1) kk l)
              by_cases y : l = pL q.1
              · rw [if_pos y, y, sbf_at]
              · rw [if_neg y, sbf_ne y]; exact p4 l (by omega)
            · rw [up_r (by omega), up_r (by omega)]; exact p5
            · rw [up_r (by omega), up_r (by omega)]; exact p6
            · rw [up_r (by omega), up_r (by omega)]; exact p7
          have f5 : FRc Q m (up (up m4 (Q + 1) (pL q.1) (nI kk)) Q 1 (nI (pL q.1 + 1))) := fun a h1 h2 h3 => by rw [up_r (by omega), up_r (by omega), f4 a h1 h2 h3, f13 a h1 h2 h3]
          rw [wp_f (show ¬ nI kk = -1 from nI_m1 (by omega)), wp_bind]
          show wp (gR (wI h m4) 6 2 4) _
          rw [R4.gp, wp_bind]
          show wp (gR (wI h m4) 5 Q 3) _
          rw [s5.r3, wp_bind]
          show wp (gR (wI h m4) 6 2 4) _
          rw [R4.gp, wp_bind]
          show wp (gI (wI h m4) 5 Q 1) _
          rw [s5.g1, p2, wp_bind]
          show wp (tI (wI h m4) (Q + 1) (nI (pL q.1)) (nI kk)) _
          rw [s5.t3 (by omega), wp_bind, R4.gp, wp_bind, s5.g1, up_r (show Q ≠ Q + 1 by omega), p2, wp_bind, s5.p1, show nI (pL q.1) + 1 = nI (pL q.1 + 1) from i_add _ 1, wp_bind, s6.o, wp_bind, L_16]
          refine wp_mono (c_passT (v := 16) R5 y6 (by decide)) ?_
          rintro ⟨r1, r2⟩ hr
          rw [wp_some]
          simp only [obi_r]
          cases e4 : sPass B n 16 (nxt B n (nxt B n (nxt B n (nxt B n t)))) with
          | inl f => rw [e4] at hr; exact Flt.go f5 hr.2
          | inr t' => rw [e4] at hr; exact Okc.go f5 hr.2
end CRD

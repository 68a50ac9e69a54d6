/-! image and back: both sides -/
section BXT
variable {h h' : Hp} {m m' : Mem} {g g' : GS} {own : Nat → Nat} {ad : Nat → Option Nat}
theorem o_image (I : IC h g own ad) (J : IR m g) (ok : okG g) (v : Int32) : ∃ r h1 m1, fX11_image h 0 v = some (r, h1) ∧ gX12_image m v = some (r, m1) ∧ ∃ g', AFT h h1 m1 own g' ∧ ((¬ inN v 2 ∧ g' = g) ∨ ∃ k, k < 2 ∧ v = nI k ∧ g' = imgG g k) := by
  have I' := I
  have J' := J
  have ok' := ok
  obtain ⟨cs, ow, ⟨t1, t2⟩, ⟨f1, f2⟩, ⟨P, hP, p1, p2, pc⟩, ⟨a1, a2⟩, r52, r19, r36, r15, sl, li, bx⟩ := I
  obtain ⟨⟨j1, j2⟩, ⟨j3, j4⟩, jp, ⟨j5, j6⟩, jl, jw, ju, jb, jx⟩ := J
  obtain ⟨o1, pw, o2, o3, o4, o5⟩ := ok
  have h120 := cs.1
  have s36 : hS h 36 = .inr ((.object RX3), 2) := cs.t36
  refine bo2 (R := fun h1 m1 => ∃ g', AFT h h1 m1 own g' ∧ ((¬ inN v 2 ∧ g' = g) ∨ ∃ k, k < 2 ∧ v = nI k ∧ g' = imgG g k)) ?_
  by_cases hv : inN v 2
  · obtain ⟨k, hk, e⟩ := inN_ex hv
    subst e
    have ref : ∀ {r : Int32 × Hp}, r.1 = nI (rC (aD (sH g (sA g)))) → (∃ own' ad', IC r.2 (imgG g k) own' ad' ∧ NF h r.2 own ∧ (∀ a, a < hN h → own a = 17 → own' a = 17) ∧ (∀ a, own' a = 17 → own a = 17) ∧ hN r.2 ≤ hN h + 20 ∧ hZ r.2 ≤ hZ h + 10200) → wp (gX12_image m (nI k)) (fun r' => r'.1 = r.1 ∧ ∃ g', AFT h r.2 r'.2 own g' ∧ ((¬ inN (nI k) 2 ∧ g' = g) ∨ ∃ k', k' < 2 ∧ nI k = nI k' ∧ g' = imgG g k')) := by
      intro r er IC1
      unfold gX12_image
      rw [wp_bind, show (1 : Int32) = nI 1 from rfl, w_isInK (K := 1) (by decide), b01_t hv, wp_f (by decide), wp_bind]
      refine wp_mono (r_imgL hk) ?_
      rintro m1 ⟨fr, e1, e2⟩
      rw [wp_bind]
      show wp (wrZ m1 38 2 (nI k) 1) _
      rw [w_wrZ hk (by decide), wp_bind, L_272, w_rd (by decide) (by decide), wp_some]
      have u : ∀ o, o ≠ 37 → o ≠ 38 → up m1 38 k 1 o = m o := fun o q1 q2 => by rw [up_r q2, fr o q1]
      refine ⟨?_, imgG g k, ⟨?_, imgG_ok ok', IC1⟩, Or.inr ⟨k, hk, rfl, rfl⟩⟩
      · show up m1 38 k 1 1 272 = r.1
        rw [u 1 (by decide) (by decide), jl.1.1, er]
      · show IR (up m1 38 k 1) (imgG g k)
        unfold IR
        rw [u 0 (by decide) (by decide), u 10 (by decide) (by decide), u 1 (by decide) (by decide), u 36 (by decide) (by decide), u 11 (by decide) (by decide), up_r (show (37 : Nat) ≠ 38 by decide)]
        refine ⟨⟨j1, j2⟩, ⟨j3, j4⟩, jp.congr (by rw [u 0 (by decide) (by decide)]) (u 2 (by decide) (by decide)) (u 3 (by decide) (by decide)) (u 4 (by decide) (by decide)) (u 5 (by decide) (by decide)) (u 6 (by decide) (by decide)) (u 7 (by decide) (by decide)), ⟨j5, j6⟩, jl, jw, ju, fun q hq => ?_, jx⟩
        by_cases z : q = k
        · subst z
          refine ⟨fun e => ?_, fun B hB => ?_⟩
          · change sbf (sX g) q (some (sH g (sA g))) q = none at e
            rw [sbf_at] at e; cases e
          · change sbf (sX g) q (some (sH g (sA g))) q = some B at hB
            rw [sbf_at] at hB
            cases hB
            exact ⟨up_at, LF.congr jl (o4 _ o2).1 (fun j hj => pV_lt pw hj) (fun j hj => e1 j hj)⟩
        · have eX : sX (imgG g k) q = sX g q := sbf_ne z
          rw [eX, up_a, if_neg z, fr 38 (by decide)]
          refine ⟨(jb q hq).1, fun B hB => ⟨((jb q hq).2 B hB).1, LF.congr ((jb q hq).2 B hB).2 (o5 q B hB).1 (fun j hj => pV_lt pw hj) (fun j hj => e2 _ (by omega))⟩⟩
    have e1 : lQ (wI h (hI h)) (.object RX3) 36 (nI k) = some (ad (13 + k)) := by
      rw [lQ_ok (h := wI h (hI h)) (j := k) (show 36 < hN h by omega) s36 hk (by decide)]
      exact congrArg some (r36 k hk)
    show wp (fX11_image (wI h (hI h)) 0 (nI k)) _
    unfold fX11_image
    rw [wp_f (nI_pos (by omega)), wp_t (show nI k < 2 from (nI_ltI (b := 2) (by omega) (by decide)).mpr hk), wp_bind, cs.gr cs.r6, wp_bind, wp_eq e1]
    cases hz : ad (13 + k) with
    | some b =>
      refine wp_mono (c_img33 I' ok' hk hz) ?_
      rintro r ⟨er, own', q1, q2, q3, q4, q5, q6⟩
      have q5' : hN r.2 ≤ hN h + 1 := q5
      have q6' : hZ r.2 ≤ hZ h + 4096 := q6
      exact ref er ⟨own', ad, q1, q2, fun a ha ho => by rw [q3 a ha]; exact ho, q4, by omega, by omega⟩
    | none =>
      show wp ((gR (wI h (hI h)) 11 0 6).bind _) _
      rw [wp_bind, cs.gr cs.r6]
      have nl := c_newL (h := h)
      show wp ((some (nw h (.inl 3))).bind _) _
      rw [wp_bind] at nl ⊢
      rw [wp_some] at nl ⊢
      rw [wp_bind]
      refine wp_mono nl ?_
      rintro r1 ⟨F, n1, z1, S3, r7, s7⟩
      have IN := I'.new (s := 13 + k) (T := 36) (q := k) o3 (by omega) hz (Or.inr ⟨by omega, rfl, by omega⟩) F n1 S3 r7 s7
      rw [wp_bind]
      show wp (tR r1 36 (nI k) (hN h)) _
      rw [wp_eq (tR_ok (h := r1) (j := k) (n := 2) (by omega) (by rw [(F.2.1 36 (by omega)).1]; exact s36) hk (by decide) S3.lt S3.2.1)]
      refine wp_mono (c_img33 (b := hN h) IN.1 ok' hk sbf_at) ?_
      rintro r ⟨er, own', q1, q2, q3, q4, q5, q6⟩
      have hNs : hN (sR r1 36 k (some (hN h))) = hN h + 16 := n1
      have hZs : hZ (sR r1 36 k (some (hN h))) ≤ hZ h + 1900 := z1
      refine ref er ⟨own', _, q1, IN.2.trans q2 (fun a ha ho => by rw [own2_e a ha]; exact ho), fun a ha ho => by rw [q3 a (by omega), own2_e a ha]; exact ho, fun a ho => ?_, by omega, by omega⟩
      have := q4 a ho
      unfold own2 at this
      split at this
      · omega
      · exact this
  · have cl : wp (fX11_image h 0 v) (fun r => r = (-1, h)) := by
      unfold fX11_image jX11_image_9
      by_cases z : v < 0
      · rw [wp_t z, wp_some]
      · rw [wp_f z]
        obtain ⟨k, hk, e⟩ := nI_of z
        subst e
        have : ¬ k < 2 := fun q => hv ((inN_nI hk).mpr q)
        rw [wp_f (show ¬ nI k < 2 from fun q => this ((nI_ltI (b := 2) hk (by decide)).mp q)), wp_some]
    refine wp_mono cl ?_
    rintro r rfl
    unfold gX12_image
    rw [wp_bind, show (1 : Int32) = nI 1 from rfl, w_isInK (K := 1) (by decide), b01_n hv, wp_t rfl, wp_some]
    exact ⟨rfl, g, AFT.same I' J' ok', Or.inl ⟨hv, rfl⟩⟩
theorem o_back (I : IC h g own ad) (J : IR m g) (ok : okG g) (v : Int32) : ∃ r h1 m1, fX11_back h 0 v = some (r, h1) ∧ gX12_back m v = some (r, m1) ∧ ∃ g', AFT h h1 m1 own g' ∧ (g' = g ∨ ∃ k B, k < 2 ∧ v = nI k ∧ sX g k = some B ∧ g' = bckG g B) := by
  have I' := I
  have J' := J
  have ok' := ok
  obtain ⟨cs, o, ⟨t1, t2⟩, ⟨f1, f2⟩, ⟨P, hP, p1, p2, pc⟩, ⟨a1, a2⟩, r52, r19, r36, r15, sl, li, bx⟩ := I
  obtain ⟨⟨j1, j2⟩, ⟨j3, j4⟩, jp, ⟨j5, j6⟩, jl, jw, ju, jb, jx⟩ := J
  obtain ⟨o1, pw, o2, o3, o4, o5⟩ := ok
  have h120 := cs.1
  have s36 : hS h 36 = .inr ((.object RX3), 2) := cs.t36
  have t37 : hS h 37 = .inr (.boolean, 2) := cs.t37
  have s2 := cs.s2
  refine bo2 (R := fun h1 m1 => ∃ g', AFT h h1 m1 own g' ∧ (g' = g ∨ ∃ k B, k < 2 ∧ v = nI k ∧ sX g k = some B ∧ g' = bckG g B)) ?_
  by_cases hv : inN v 2
  · obtain ⟨k, hk, e⟩ := inN_ex hv
    subst e
    show wp (fX11_back (wI h (hI h)) 0 (nI k)) _
    unfold fX11_back gX12_back jX11_back_27 gjX12_back_18
    rw [wp_f (nI_pos (by omega)), wp_f (show ¬ (2 : Int32) ≤ nI k from fun q => by have := (nI_leI (a := 2) (by decide) (by omega)).mp q; omega), wp_bind, cs.gr cs.r7, wp_bind, x_lI (show 37 < hN h by omega) t37 hk (by decide)]
    have isin : ∀ {Q : Int32 → Prop}, wp (gX12_isIn (nI k) 0 1) Q = Q (b01 (inN (nI k) 2)) := fun {Q} => w_isInK (K := 1) (by decide)
    cases hX : sX g k with
    | none =>
      rw [(bx k hk).1 hX, wp_t rfl, wp_some, wp_bind, isin, b01_t hv, wp_f (by decide), wp_bind, w_rd hk (by decide), (jb k hk).1 hX, wp_t rfl, wp_some]
      exact ⟨rfl, g, AFT.same I' J' ok', Or.inl rfl⟩
    | some B =>
      obtain ⟨e37, b, n, hb, L⟩ := (bx k hk).2 B hX
      obtain ⟨m38, LFB⟩ := (jb k hk).2 B hX
      have okB := o5 k B hX
      obtain ⟨b0, n0, hb0, L0⟩ := li 0 (Nat.zero_le _)
      have S := sl (13 + k) b (by omega) hb
      have S0 := sl 0 b0 (by omega) hb0
      obtain ⟨apart, hρ⟩ := S.apart S0 (by omega)
      obtain ⟨n', C'⟩ := S0.CE
      have b14 := S0.2.1.1
      have bb14 := S.2.1.1
      have bnd : ∀ a, a < 120 → ¬ (20 ≤ a ∧ a ≤ 35) → ¬ (57 ≤ a ∧ a ≤ 72) → ¬ (b0 ≤ a ∧ a ≤ b0 + 14) := fun a q1 q2 q3 => S0.ne o q1 q2 q3
      have bd18 : ¬ (b ≤ 18 ∧ 18 ≤ b + 14) := S.ne o (by decide) (by decide) (by decide)
      have e1 : lQ (wI h (hI h)) (.object RX3) 36 (nI k) = some (some b) := by
        rw [lQ_ok (h := wI h (hI h)) (j := k) (show 36 < hN h by omega) s36 hk (by decide)]
        exact congrArg some ((r36 k hk).trans hb)
      rw [e37, wp_f (by decide), wp_bind, cs.gr cs.r6, wp_bind, wp_eq e1]
      show wp ((gR (wI h (hI h)) 11 0 5).bind _) _
      rw [wp_bind, cs.gr cs.r5, wp_bind, s2.o]
      unfold fX2_restart
      rw [wp_bind, wp_bind, s2.p0, wp_bind, s2.p1, wp_some]
      have rb : hR h 19 0 = some b0 := (r19 0 (by decide)).trans hb0
      have pr : ∀ {Q : Nat → Prop}, wp (fX2_present (wI h (up (up (hI h) 18 0 0) 18 1 0)) 18) Q = Q b0 := fun {Q} => cs.present (i := 0) (by rw [up_a, if_neg (by decide), up_at]; rfl) (by omega) rb
      have e2 : lR (wI h (up (up (hI h) 18 0 0) 18 1 0)) (.object RX3) 36 (nI k) = some b := by
        rw [lR_ok (h := wI h (up (up (hI h) 18 0 0) 18 1 0)) (j := k) (show 36 < hN h by omega) s36 hk (by decide)]
        exact (r36 k hk).trans hb
      have L' : LX h (up (up (hI h) 18 0 0) 18 1 0) b B n := L.congr (fun a q1 q2 => by
        have hne : a ≠ 18 := fun z => bd18 ⟨by omega, by omega⟩
        rw [up_r hne, up_r hne])
      rw [wp_bind, cs.gr cs.r5, wp_bind, s2.o, wp_bind, pr, wp_bind, cs.gr cs.r6, wp_bind, wp_eq e2, wp_bind, S0.2.1.o, wp_bind]
      refine wp_mono (c_copy L' S0.2.1 C' apart hρ okB.1.1) ?_
      rintro r ⟨h1, m1, n1, rfl, X1, fr1, L1, room⟩
      have cs1 := cs.x X1.1
      have hle := X1.1.1
      have s361 : hS h1 36 = .inr ((.object RX3), 2) := cs1.t36
      have bne36 : (36 : Nat) ≠ b0 := fun z => bnd 36 (by decide) (by decide) (by decide) ⟨by omega, by omega⟩
      have e3 : lR (wI h1 m1) (.object RX3) 36 (nI k) = some b := by
        rw [lR_ok (h := wI h1 m1) (j := k) (show 36 < hN h1 by omega) s361 hk (by decide)]
        exact (X1.2.1 36 k (by omega) (Or.inl bne36)).trans ((r36 k hk).trans hb)
      have s31 : Sh3 h1 b := S.2.1.x X1.1
      have cnt : m1 (b + 8) 0 = nI (rC (aD B)) := by
        rw [fr1 (b + 8) (by omega) (by omega)]; exact L'.2.1.1
      rw [wp_bind, cs1.gr cs1.r6, wp_bind, wp_eq e3, wp_bind, s31.r4, wp_bind, s31.s4.g0, cnt, wp_some]
      rw [wp_bind, isin, b01_t hv, wp_f (by decide), wp_bind, w_rd hk (by decide), m38, wp_f (by decide), wp_bind]
      refine wp_mono (r_bckL hk) ?_
      rintro m2 ⟨fr2, e4⟩
      rw [wp_bind, wp_some, wp_bind, wp_some, wp_bind, L_272, w_rd (by decide) (by decide), wp_some]
      have LF2 : LF (pV (sP g)) (m2 1) B := LF.congr LFB okB.1 (fun j hj => pV_lt pw hj) (fun j hj => e4 j hj)
      have u : ∀ o, o ≠ 0 → up (up m2 0 56 0) 0 57 0 o = m2 o := fun o q1 => by rw [up_r q1, up_r q1]
      have u0 : ∀ j, j ≠ 56 → j ≠ 57 → up (up m2 0 56 0) 0 57 0 0 j = m 0 j := fun j q1 q2 => by rw [up_a, if_neg q2, up_a, if_neg q1, fr2 0 (by decide)]
      have u1 : ∀ o, o ≠ 0 → o ≠ 1 → up (up m2 0 56 0) 0 57 0 o = m o := fun o q1 q2 => by rw [u o q1, fr2 o q2]
      refine ⟨?_, bckG g B, ⟨?_, bckG_ok ok' okB, ?_⟩, Or.inr ⟨k, B, hk, rfl, hX, rfl⟩⟩
      · show up (up m2 0 56 0) 0 57 0 1 272 = _
        rw [u 1 (by decide)]; exact LF2.1.1
      · show IR (up (up m2 0 56 0) 0 57 0) (bckG g B)
        unfold IR
        rw [u0 11 (by decide) (by decide), u0 19 (by decide) (by decide), u0 20 (by decide) (by decide), u 1 (by decide), u1 10 (by decide) (by decide), u1 11 (by decide) (by decide), u1 37 (by decide) (by decide), u1 38 (by decide) (by decide)]
        exact ⟨⟨j1, j2⟩, ⟨j3, j4⟩, jp.congr (u0 9 (by decide) (by decide)) (u1 2 (by decide) (by decide)) (u1 3 (by decide) (by decide)) (u1 4 (by decide) (by decide)) (u1 5 (by decide) (by decide)) (u1 6 (by decide) (by decide)) (u1 7 (by decide) (by decide)), ⟨by rw [up_a, if_neg (by decide), up_at]; rfl, by rw [up_at]; rfl⟩, LF2, fun i hi => absurd hi (Nat.not_lt_zero _), fun i h1 h2 => absurd h1 (Nat.not_lt_of_le h2), jb, jx⟩
      · obtain ⟨own', q1, q2, q3, q4⟩ := ic_pt (s := 0) (g' := bckG g B) (m' := m1) I' (by omega) hb0 X1.D (fun a q1 _ q3 q4 _ => by rw [fr1 a q1 q3, up_r q4, up_r q4]) L1 rfl rfl rfl rfl rfl ⟨by rw [fr1 18 (by omega) (bnd 18 (by decide) (by decide) (by decide)), up_a, if_neg (by decide), up_at]; rfl, by rw [fr1 18 (by omega) (bnd 18 (by decide) (by decide) (by decide)), up_at]; rfl⟩ (Nat.zero_le _) (fun i hi hne => absurd (Nat.le_zero.mp hi) hne) (fun _ => rfl) (fun q hq _ => ⟨rfl, by rw [fr1 37 (by omega) (bnd 37 (by decide) (by decide) (by decide)), up_r (by decide), up_r (by decide)]⟩) (fun q hq z => by omega)
        have n8 := L'.2.2.2.2.2.2.2.2.2.1
        refine ⟨own', ad, q1, q2, fun a ha ho => by rw [q3 a ha]; exact ho, q4, ?_, ?_⟩
        · show hN h1 ≤ hN h + 20; omega
        · show hZ h1 ≤ hZ h + 10200; omega
  · have cl : wp (fX11_back h 0 v) (fun r => r = (-1, h)) := by
      unfold fX11_back jX11_back_27
      by_cases z : v < 0
      · rw [wp_t z, wp_some]
      · rw [wp_f z]
        obtain ⟨k, hk, e⟩ := nI_of z
        subst e
        have : ¬ k < 2 := fun q => hv ((inN_nI hk).mpr q)
        rw [wp_t (show (2 : Int32) ≤ nI k from (nI_leI (a := 2) (by decide) hk).mpr (by omega)), wp_some]
    refine wp_mono cl ?_
    rintro r rfl
    unfold gX12_back gjX12_back_18
    have isin : ∀ {Q : Int32 → Prop}, wp (gX12_isIn v 0 1) Q = Q (b01 (inN v 2)) := fun {Q} => w_isInK (K := 1) (by decide)
    rw [wp_bind, isin, b01_n hv, wp_t rfl, wp_some]
    exact ⟨rfl, g, AFT.same I' J' ok', Or.inl rfl⟩
end BXT

def mX12_canMendLast : MI := (yX12_canMendLast, cX12_canMendLast, 6, some .boolean)
theorem oX12_canMendLast : mOK mX12_canMendLast 2 := ⟨by decide +kernel, by decide +kernel, by decide +kernel, by decide, w1963, w0150⟩
def jX12_canMendLast_48 (u0 : Nat) (u2 : Int32) (v3 : Int32) (v4 : Int32) (y0 : Int32) (h : Hp) : Option ((Int32 × Hp) ⊕ ((Hp) ⊕ (Hp))) :=
(gR h 12 u0 0).bind fun x13 =>
(gR h 12 u0 34).bind fun x14 =>
(lI h .int x14 v3).bind fun x15 =>
(tI h x13 ((0 : Int32) + x15) v4).bind fun h16 =>
if y0 = 0 then (
(some (v3 + (1 : Int32))).bind fun x18 =>
some (.inl (x18, h16))) else (
some (.inr (.inr h16)))
set_option maxRecDepth 20000 in
set_option maxHeartbeats 4000000 in
theorem sjX12_canMendLast_48 {Γ : Gm} {d : Nat} (hd : 4 ≤ d) {u0 : Nat} {u2 : Int32} {v3 : Int32} {v4 : Int32} {y0 : Int32} {h : Hp} {r : (Int32 × Hp) ⊕ ((Hp) ⊕ (Hp))} {t : Option Value × Hp} (H : jX12_canMendLast_48 u0 u2 v3 v4 y0 h = some r) (kI : ∀ s, r = .inl s → (fun s2 => V Γ d mX12_canMendLast 2 [(0, .ref u0), (2, .int u2), (3, .int s2.1)] [] s2.2 t) s) (kE : ∀ e, r = .inr e → (fun e => (match e with | .inl a0 => V Γ d mX12_canMendLast 78 [] [] a0 t | .inr b0 => V Γ d mX12_canMendLast 70 [] [] b0 t)) e) : V Γ d mX12_canMendLast 48 [(0, .ref u0), (2, .int u2), (3, .int v3), (4, .int v4)] [.int y0] h t := by
  unfold jX12_canMendLast_48 at H
  refine v_istore (L' := [(5, .int y0), (0, .ref u0), (2, .int u2), (3, .int v3), (4, .int v4)]) (q := 50) dX12_canMendLast_48 (by decide) rfl rfl ?_
  refine v_aload_n (q := 51) 1 dX12_canMendLast_50 rfl rfl rfl ?_
  obtain ⟨x13, x13e, H⟩ := bs H
  refine u_gR (q := 54) (r := (RX12, TX12, 58)) x13e dX12_canMendLast_51 w1356 rfl (by decide) rfl rfl ?_
  refine v_iconst (v := 0) (q := 55) dX12_canMendLast_54 (by decide) rfl ?_
  refine v_aload_n (q := 56) 1 dX12_canMendLast_55 rfl rfl rfl ?_
  obtain ⟨x14, x14e, H⟩ := bs H
  refine u_gR (q := 59) (r := (RX12, TX12, 58)) x14e dX12_canMendLast_56 w1390 rfl (by decide) rfl rfl ?_
  refine v_iload_n (q := 60) 3 dX12_canMendLast_59 rfl rfl rfl ?_
  obtain ⟨x15, x15e, H⟩ := bs H
  refine u_lI (q := 61) x15e dX12_canMendLast_60 rfl ?_
  refine v_iadd (q := 62) dX12_canMendLast_61 rfl ?_
  refine v_iload (q := 64) 4 dX12_canMendLast_62 rfl rfl ?_
  obtain ⟨h16, h16e, H⟩ := bs H
  refine u_tI (q := 65) h16e dX12_canMendLast_64 rfl ?_
  refine v_iload (q := 67) 0 dX12_canMendLast_65 rfl rfl ?_
  refine v_if_eq (q1 := 72) (q2 := 70) dX12_canMendLast_67 (by decide) rfl (fun c17 => ?_) (fun c17 => ?_)
  · have H := ip c17 H
    obtain ⟨x18, x18e, H⟩ := bs H
    refine v_iinc (v := x18) (L' := [(3, .int x18), (5, .int y0), (0, .ref u0), (2, .int u2), (4, .int v4)]) (q := 75) 3 dX12_canMendLast_72 rfl (Option.some.inj x18e) (by decide) rfl rfl ?_
    refine v_goto (q := 2) dX12_canMendLast_75 (by decide) ?_
    exact V.sub [2, 3, 0] rfl (kI (x18, h16) (Option.some.inj H).symm)
  · have H := ine c17 H
    exact V.sub [] rfl (kE (.inr h16) (Option.some.inj H).symm)
def bX12_canMendLast_2 (u0 : Nat) (u2 : Int32) (s2 : Int32 × Hp) : Option ((Int32 × Hp) ⊕ ((Hp) ⊕ (Hp))) :=
if u2 ≤ s2.1 then (
some (.inr (.inl s2.2))) else (
(gR s2.2 12 u0 0).bind fun x2 =>
(gR s2.2 12 u0 34).bind fun x3 =>
(lI s2.2 .int x3 s2.1).bind fun x4 =>
(lI s2.2 .int x2 ((0 : Int32) + x4)).bind fun x5 =>
(gR s2.2 12 u0 0).bind fun x6 =>
(gR s2.2 12 u0 34).bind fun x7 =>
(lI s2.2 .int x7 s2.1).bind fun x8 =>
(tI s2.2 x6 ((0 : Int32) + x8) (0 : Int32)).bind fun h9 =>
(gO h9 12 u0).bind fun _ =>
(fX12_layOrder h9 u0).bind fun x11 =>
if x11.1 < 0 then (
jX12_canMendLast_48 u0 u2 s2.1 x5 (0 : Int32) x11.2) else (
jX12_canMendLast_48 u0 u2 s2.1 x5 (1 : Int32) x11.2))
set_option maxRecDepth 20000 in
set_option maxHeartbeats 4000000 in
theorem sbX12_canMendLast_2 {Γ : Gm} {d : Nat} (hd : 4 ≤ d) {u0 : Nat} {u2 : Int32} {s2 : Int32 × Hp} {r : (Int32 × Hp) ⊕ ((Hp) ⊕ (Hp))} {t : Option Value × Hp} (H : bX12_canMendLast_2 u0 u2 s2 = some r) (kI : ∀ s, r = .inl s → (fun s2 => V Γ d mX12_canMendLast 2 [(0, .ref u0), (2, .int u2), (3, .int s2.1)] [] s2.2 t) s) (kE : ∀ e, r = .inr e → (fun e => (match e with | .inl a0 => V Γ d mX12_canMendLast 78 [] [] a0 t | .inr b0 => V Γ d mX12_canMendLast 70 [] [] b0 t)) e) : V Γ d mX12_canMendLast 2 [(0, .ref u0), (2, .int u2), (3, .int s2.1)] [] s2.2 t := by
  unfold bX12_canMendLast_2 at H
  refine v_iload_n (q := 3) 2 dX12_canMendLast_2 rfl rfl rfl ?_
  refine v_iload_n (q := 4) 1 dX12_canMendLast_3 rfl rfl rfl ?_
  refine v_icmp_ge (q1 := 78) (q2 := 7) dX12_canMendLast_4 (by decide) rfl (fun c1 => ?_) (fun c1 => ?_)
  · have H := ip c1 H
    exact V.sub [] rfl (kE (.inl s2.2) (Option.some.inj H).symm)
  · have H := ine c1 H
    refine v_aload_n (q := 8) 0 dX12_canMendLast_7 rfl rfl rfl ?_
    obtain ⟨x2, x2e, H⟩ := bs H
    refine u_gR (q := 11) (r := (RX12, TX12, 58)) x2e dX12_canMendLast_8 w1356 rfl (by decide) rfl rfl ?_
    refine v_iconst (v := 0) (q := 12) dX12_canMendLast_11 (by decide) rfl ?_
    refine v_aload_n (q := 13) 0 dX12_canMendLast_12 rfl rfl rfl ?_
    obtain ⟨x3, x3e, H⟩ := bs H
    refine u_gR (q := 16) (r := (RX12, TX12, 58)) x3e dX12_canMendLast_13 w1390 rfl (by decide) rfl rfl ?_
    refine v_iload_n (q := 17) 2 dX12_canMendLast_16 rfl rfl rfl ?_
    obtain ⟨x4, x4e, H⟩ := bs H
    refine u_lI (q := 18) x4e dX12_canMendLast_17 rfl ?_
    refine v_iadd (q := 19) dX12_canMendLast_18 rfl ?_
    obtain ⟨x5, x5e, H⟩ := bs H
    refine u_lI (q := 20) x5e dX12_canMendLast_19 rfl ?_
    refine v_istore (L' := [(4, .int x5), (0, .ref u0), (2, .int u2), (3, .int s2.1)]) (q := 22) dX12_canMendLast_20 (by decide) rfl rfl ?_
    refine v_aload_n (q := 23) 1 dX12_canMendLast_22 rfl rfl rfl ?_
    obtain ⟨x6, x6e, H⟩ := bs H
    refine u_gR (q := 26) (r := (RX12, TX12, 58)) x6e dX12_canMendLast_23 w1356 rfl (by decide) rfl rfl ?_
    refine v_iconst (v := 0) (q := 27) dX12_canMendLast_26 (by decide) rfl ?_
    refine v_aload_n (q := 28) 1 dX12_canMendLast_27 rfl rfl rfl ?_
    obtain ⟨x7, x7e, H⟩ := bs H
    refine u_gR (q := 31) (r := (RX12, TX12, 58)) x7e dX12_canMendLast_28 w1390 rfl (by decide) rfl rfl ?_
    refine v_iload_n (q := 32) 3 dX12_canMendLast_31 rfl rfl rfl ?_
    obtain ⟨x8, x8e, H⟩ := bs H
    refine u_lI (q := 33) x8e dX12_canMendLast_32 rfl ?_
    refine v_iadd (q := 34) dX12_canMendLast_33 rfl ?_
    refine v_iconst (v := 0) (q := 35) dX12_canMendLast_34 (by decide) rfl ?_
    obtain ⟨h9, h9e, H⟩ := bs H
    refine u_tI (q := 36) h9e dX12_canMendLast_35 rfl ?_
    refine v_aload_n (q := 37) 1 dX12_canMendLast_36 rfl rfl rfl ?_
    obtain ⟨_, o10, H⟩ := bs H
    obtain ⟨x11, x11e, H⟩ := bs H
    refine u_callV1 (M' := mX12_layOrder) (d' := 3) (rc := (RX12, TX12, 58)) (As := []) (st := []) (q := 40) oX12_layOrder dX12_canMendLast_37 w1940 w1942 w0127 rfl rfl (gO_sp o10).1 (gO_sp o10).2 rfl (Nat.le_of_ble_eq_true rfl) (Nat.le_of_ble_eq_true rfl) (Nat.lt_of_lt_of_le (by decide) hd) rfl (sX12_layOrder (Nat.le_refl _) x11e) rfl ?_
    refine v_if_lt (q1 := 47) (q2 := 43) dX12_canMendLast_40 (by decide) rfl (fun c12 => ?_) (fun c12 => ?_)
    · have H := ip c12 H
      refine v_iconst (v := 0) (q := 48) dX12_canMendLast_47 (by decide) rfl ?_
      exact V.sub [1, 2, 3, 0] rfl (sjX12_canMendLast_48 hd H kI kE)
    · have H := ine c12 H
      refine v_iconst (v := 1) (q := 44) dX12_canMendLast_43 (by decide) rfl ?_
      refine v_goto (q := 48) dX12_canMendLast_44 (by decide) ?_
      exact V.sub [1, 2, 3, 0] rfl (sjX12_canMendLast_48 hd H kI kE)
def fX12_canMendLast (h : Hp) (v0 : Nat) (v1 : Int32) (v2 : Int32) : Option (Int32 × Hp) :=
(lp (bX12_canMendLast_2 v0 v2) FU (v1, h)).bind fun e19 =>
(match e19 with
| .inl e20 => (
some (((0 : Int32), e20)))
| .inr e21 => (
some (((1 : Int32), e21))))
set_option maxRecDepth 20000 in
set_option maxHeartbeats 4000000 in
theorem sX12_canMendLast {Γ : Gm} {d : Nat} (hd : 4 ≤ d) {h : Hp} {v0 : Nat} {v1 : Int32} {v2 : Int32} {r : Int32 × Hp} (H : fX12_canMendLast h v0 v1 v2 = some r) : V Γ d mX12_canMendLast 0 [(0, .ref v0), (1, .int v1), (2, .int v2)] [] h (some (.int r.1), r.2) := by
  unfold fX12_canMendLast at H
  refine v_iload_n (q := 1) 1 dX12_canMendLast_0 rfl rfl rfl ?_
  refine v_istore_n (L' := [(3, .int v1), (0, .ref v0), (1, .int v1), (2, .int v2)]) (q := 2) dX12_canMendLast_1 rfl (by decide) rfl rfl ?_
  obtain ⟨e19, e19L, H⟩ := bs H
  refine V.sub [1, 3, 0] rfl ?_
  refine lp_V (P := (fun s2 => V Γ d mX12_canMendLast 2 [(0, .ref v0), (2, .int v2), (3, .int s2.1)] [] s2.2 (some (.int r.1), r.2))) (E := (fun e => (match e with | .inl a0 => V Γ d mX12_canMendLast 78 [] [] a0 (some (.int r.1), r.2) | .inr b0 => V Γ d mX12_canMendLast 70 [] [] b0 (some (.int r.1), r.2)))) (fun s r hb kI kE => sbX12_canMendLast_2 hd (s2 := s) (r := r) hb kI kE) FU (v1, h) e19 e19L ?_
  rcases e19 with e20 | e21
  · skip
    refine v_iconst (v := 0) (q := 79) dX12_canMendLast_78 (by decide) rfl ?_
    cases H
    exact v_zreturn rfl (by decide) dX12_canMendLast_79
  · skip
    refine v_iconst (v := 1) (q := 71) dX12_canMendLast_70 (by decide) rfl ?_
    cases H
    exact v_zreturn rfl (by decide) dX12_canMendLast_71
def mX12_canMendMore : MI := (yX12_canMendMore, cX12_canMendMore, 7, some .boolean)
theorem oX12_canMendMore : mOK mX12_canMendMore 3 := ⟨by decide +kernel, by decide +kernel, by decide +kernel, by decide, w1959, w0150⟩
def jX12_canMendMore_69 (u0 : Nat) (u1 : Int32) (u3 : Int32) (v4 : Int32) (v5 : Int32) (y0 : Int32) (h : Hp) : Option ((Int32 × Hp) ⊕ ((Hp) ⊕ (Hp))) :=
(gR h 12 u0 0).bind fun x13 =>
(gR h 12 u0 34).bind fun x14 =>
(lI h .int x14 v4).bind fun x15 =>
(tI h x13 ((0 : Int32) + x15) v5).bind fun h16 =>
if y0 = 0 then (
(some (v4 + (1 : Int32))).bind fun x18 =>
some (.inl (x18, h16))) else (
some (.inr (.inr h16)))
set_option maxRecDepth 20000 in
set_option maxHeartbeats 4000000 in
theorem sjX12_canMendMore_69 {Γ : Gm} {d : Nat} (hd : 5 ≤ d) {u0 : Nat} {u1 : Int32} {u3 : Int32} {v4 : Int32} {v5 : Int32} {y0 : Int32} {h : Hp} {r : (Int32 × Hp) ⊕ ((Hp) ⊕ (Hp))} {t : Option Value × Hp} (H : jX12_canMendMore_69 u0 u1 u3 v4 v5 y0 h = some r) (kI : ∀ s, r = .inl s → (fun s3 => V Γ d mX12_canMendMore 3 [(0, .ref u0), (1, .int u1), (3, .int u3), (4, .int s3.1)] [] s3.2 t) s) (kE : ∀ e, r = .inr e → (fun e => (match e with | .inl a0 => V Γ d mX12_canMendMore 100 [] [] a0 t | .inr b0 => V Γ d mX12_canMendMore 92 [] [] b0 t)) e) : V Γ d mX12_canMendMore 69 [(0, .ref u0), (1, .int u1), (3, .int u3), (4, .int v4), (5, .int v5)] [.int y0] h t := by
  unfold jX12_canMendMore_69 at H
  refine v_istore (L' := [(6, .int y0), (0, .ref u0), (1, .int u1), (3, .int u3), (4, .int v4), (5, .int v5)]) (q := 71) dX12_canMendMore_69 (by decide) rfl rfl ?_
  refine v_aload_n (q := 72) 1 dX12_canMendMore_71 rfl rfl rfl ?_
  obtain ⟨x13, x13e, H⟩ := bs H
  refine u_gR (q := 75) (r := (RX12, TX12, 58)) x13e dX12_canMendMore_72 w1356 rfl (by decide) rfl rfl ?_
  refine v_iconst (v := 0) (q := 76) dX12_canMendMore_75 (by decide) rfl ?_
  refine v_aload_n (q := 77) 1 dX12_canMendMore_76 rfl rfl rfl ?_
  obtain ⟨x14, x14e, H⟩ := bs H
  refine u_gR (q := 80) (r := (RX12, TX12, 58)) x14e dX12_canMendMore_77 w1390 rfl (by decide) rfl rfl ?_
  refine v_iload (q := 82) 4 dX12_canMendMore_80 rfl rfl ?_
  obtain ⟨x15, x15e, H⟩ := bs H
  refine u_lI (q := 83) x15e dX12_canMendMore_82 rfl ?_
  refine v_iadd (q := 84) dX12_canMendMore_83 rfl ?_
  refine v_iload (q := 86) 5 dX12_canMendMore_84 rfl rfl ?_
  obtain ⟨h16, h16e, H⟩ := bs H
  refine u_tI (q := 87) h16e dX12_canMendMore_86 rfl ?_
  refine v_iload (q := 89) 0 dX12_canMendMore_87 rfl rfl ?_
  refine v_if_eq (q1 := 94) (q2 := 92) dX12_canMendMore_89 (by decide) rfl (fun c17 => ?_) (fun c17 => ?_)
  · have H := ip c17 H
    obtain ⟨x18, x18e, H⟩ := bs H
    refine v_iinc (v := x18) (L' := [(4, .int x18), (6, .int y0), (0, .ref u0), (1, .int u1), (3, .int u3), (5, .int v5)]) (q := 97) 4 dX12_canMendMore_94 rfl (Option.some.inj x18e) (by decide) rfl rfl ?_
    refine v_goto (q := 3) dX12_canMendMore_97 (by decide) ?_
    exact V.sub [2, 3, 4, 0] rfl (kI (x18, h16) (Option.some.inj H).symm)
  · have H := ine c17 H
    exact V.sub [] rfl (kE (.inr h16) (Option.some.inj H).symm)
def bX12_canMendMore_3 (u0 : Nat) (u1 : Int32) (u3 : Int32) (s3 : Int32 × Hp) : Option ((Int32 × Hp) ⊕ ((Hp) ⊕ (Hp))) :=
if u3 ≤ s3.1 then (
some (.inr (.inl s3.2))) else (
(gR s3.2 12 u0 0).bind fun x2 =>
(gR s3.2 12 u0 34).bind fun x3 =>
(lI s3.2 .int x3 s3.1).bind fun x4 =>
(lI s3.2 .int x2 ((0 : Int32) + x4)).bind fun x5 =>
(gR s3.2 12 u0 0).bind fun x6 =>
(gR s3.2 12 u0 34).bind fun x7 =>
(lI s3.2 .int x7 s3.1).bind fun x8 =>
(tI s3.2 x6 ((0 : Int32) + x8) (0 : Int32)).bind fun h9 =>
if u1 = (1 : Int32) then (
(gO h9 12 u0).bind fun _ =>
(fX12_layOrder h9 u0).bind fun x20 =>
if x20.1 < 0 then (
jX12_canMendMore_69 u0 u1 u3 s3.1 x5 (0 : Int32) x20.2) else (
jX12_canMendMore_69 u0 u1 u3 s3.1 x5 (1 : Int32) x20.2)) else (
(gO h9 12 u0).bind fun _ =>
(fX12_canMendLast h9 u0 (s3.1 + (1 : Int32)) u3).bind fun x12 =>
jX12_canMendMore_69 u0 u1 u3 s3.1 x5 x12.1 x12.2))
set_option maxRecDepth 20000 in
set_option maxHeartbeats 4000000 in
theorem sbX12_canMendMore_3 {Γ : Gm} {d : Nat} (hd : 5 ≤ d) {u0 : Nat} {u1 : Int32} {u3 : Int32} {s3 : Int32 × Hp} {r : (Int32 × Hp) ⊕ ((Hp) ⊕ (Hp))} {t : Option Value × Hp} (H : bX12_canMendMore_3 u0 u1 u3 s3 = some r) (kI : ∀ s, r = .inl s → (fun s3 => V Γ d mX12_canMendMore 3 [(0, .ref u0), (1, .int u1), (3, .int u3), (4, .int s3.1)] [] s3.2 t) s) (kE : ∀ e, r = .inr e → (fun e => (match e with | .inl a0 => V Γ d mX12_canMendMore 100 [] [] a0 t | .inr b0 => V Γ d mX12_canMendMore 92 [] [] b0 t)) e) : V Γ d mX12_canMendMore 3 [(0, .ref u0), (1, .int u1), (3, .int u3), (4, .int s3.1)] [] s3.2 t := by
  unfold bX12_canMendMore_3 at H
  refine v_iload (q := 5) 3 dX12_canMendMore_3 rfl rfl ?_
  refine v_iload_n (q := 6) 2 dX12_canMendMore_5 rfl rfl rfl ?_
  refine v_icmp_ge (q1 := 100) (q2 := 9) dX12_canMendMore_6 (by decide) rfl (fun c1 => ?_) (fun c1 => ?_)
  · have H := ip c1 H
    exact V.sub [] rfl (kE (.inl s3.2) (Option.some.inj H).symm)
  · have H := ine c1 H
    refine v_aload_n (q := 10) 0 dX12_canMendMore_9 rfl rfl rfl ?_
    obtain ⟨x2, x2e, H⟩ := bs H
    refine u_gR (q := 13) (r := (RX12, TX12, 58)) x2e dX12_canMendMore_10 w1356 rfl (by decide) rfl rfl ?_
    refine v_iconst (v := 0) (q := 14) dX12_canMendMore_13 (by decide) rfl ?_
    refine v_aload_n (q := 15) 0 dX12_canMendMore_14 rfl rfl rfl ?_
    obtain ⟨x3, x3e, H⟩ := bs H
    refine u_gR (q := 18) (r := (RX12, TX12, 58)) x3e dX12_canMendMore_15 w1390 rfl (by decide) rfl rfl ?_
    refine v_iload (q := 20) 3 dX12_canMendMore_18 rfl rfl ?_
    obtain ⟨x4, x4e, H⟩ := bs H
    refine u_lI (q := 21) x4e dX12_canMendMore_20 rfl ?_
    refine v_iadd (q := 22) dX12_canMendMore_21 rfl ?_
    obtain ⟨x5, x5e, H⟩ := bs H
    refine u_lI (q := 23) x5e dX12_canMendMore_22 rfl ?_
    refine v_istore (L' := [(5, .int x5), (0, .ref u0), (1, .int u1), (3, .int u3), (4, .int s3.1)]) (q := 25) dX12_canMendMore_23 (by decide) rfl rfl ?_
    refine v_aload_n (q := 26) 1 dX12_canMendMore_25 rfl rfl rfl ?_
    obtain ⟨x6, x6e, H⟩ := bs H
    refine u_gR (q := 29) (r := (RX12, TX12, 58)) x6e dX12_canMendMore_26 w1356 rfl (by decide) rfl rfl ?_
    refine v_iconst (v := 0) (q := 30) dX12_canMendMore_29 (by decide) rfl ?_
    refine v_aload_n (q := 31) 1 dX12_canMendMore_30 rfl rfl rfl ?_
    obtain ⟨x7, x7e, H⟩ := bs H
    refine u_gR (q := 34) (r := (RX12, TX12, 58)) x7e dX12_canMendMore_31 w1390 rfl (by decide) rfl rfl ?_
    refine v_iload (q := 36) 4 dX12_canMendMore_34 rfl rfl ?_
    obtain ⟨x8, x8e, H⟩ := bs H
    refine u_lI (q := 37) x8e dX12_canMendMore_36 rfl ?_
    refine v_iadd (q := 38) dX12_canMendMore_37 rfl ?_
    refine v_iconst (v := 0) (q := 39) dX12_canMendMore_38 (by decide) rfl ?_
    obtain ⟨h9, h9e, H⟩ := bs H
    refine u_tI (q := 40) h9e dX12_canMendMore_39 rfl ?_
    refine v_iload_n (q := 41) 2 dX12_canMendMore_40 rfl rfl rfl ?_
    refine v_iconst (v := 1) (q := 42) dX12_canMendMore_41 (by decide) rfl ?_
    refine v_icmp_ne (q1 := 60) (q2 := 45) dX12_canMendMore_42 (by decide) rfl (fun c10 => ?_) (fun c10 => ?_)
    · have H := ine c10 H
      refine v_aload_n (q := 61) 1 dX12_canMendMore_60 rfl rfl rfl ?_
      refine v_iload (q := 63) 4 dX12_canMendMore_61 rfl rfl ?_
      refine v_iconst (v := 1) (q := 64) dX12_canMendMore_63 (by decide) rfl ?_
      refine v_iadd (q := 65) dX12_canMendMore_64 rfl ?_
      refine v_iload_n (q := 66) 3 dX12_canMendMore_65 rfl rfl rfl ?_
      obtain ⟨_, o11, H⟩ := bs H
      obtain ⟨x12, x12e, H⟩ := bs H
      refine u_callV1 (M' := mX12_canMendLast) (d' := 4) (rc := (RX12, TX12, 58)) (As := [.int (s3.1 + (1 : Int32)), .int u3]) (st := []) (q := 69) oX12_canMendLast dX12_canMendMore_66 w1960 w1962 w0131 rfl rfl (gO_sp o11).1 (gO_sp o11).2 rfl (Nat.le_of_ble_eq_true rfl) (Nat.le_of_ble_eq_true rfl) (Nat.lt_of_lt_of_le (by decide) hd) rfl (sX12_canMendLast (Nat.le_refl _) x12e) rfl ?_
      exact V.sub [1, 2, 3, 4, 0] rfl (sjX12_canMendMore_69 hd H kI kE)
    · have H := ip c10 H
      refine v_aload_n (q := 46) 1 dX12_canMendMore_45 rfl rfl rfl ?_
      obtain ⟨_, o19, H⟩ := bs H
      obtain ⟨x20, x20e, H⟩ := bs H
      refine u_callV1 (M' := mX12_layOrder) (d' := 3) (rc := (RX12, TX12, 58)) (As := []) (st := []) (q := 49) oX12_layOrder dX12_canMendMore_46 w1940 w1942 w0127 rfl rfl (gO_sp o19).1 (gO_sp o19).2 rfl (Nat.le_of_ble_eq_true rfl) (Nat.le_of_ble_eq_true rfl) (Nat.lt_of_lt_of_le (by decide) hd) rfl (sX12_layOrder (Nat.le_refl _) x20e) rfl ?_
      refine v_if_lt (q1 := 56) (q2 := 52) dX12_canMendMore_49 (by decide) rfl (fun c21 => ?_) (fun c21 => ?_)
      · have H := ip c21 H
        refine v_iconst (v := 0) (q := 57) dX12_canMendMore_56 (by decide) rfl ?_
        refine v_goto (q := 69) dX12_canMendMore_57 (by decide) ?_
        exact V.sub [1, 2, 3, 4, 0] rfl (sjX12_canMendMore_69 hd H kI kE)
      · have H := ine c21 H
        refine v_iconst (v := 1) (q := 53) dX12_canMendMore_52 (by decide) rfl ?_
        refine v_goto (q := 69) dX12_canMendMore_53 (by decide) ?_
        exact V.sub [1, 2, 3, 4, 0] rfl (sjX12_canMendMore_69 hd H kI kE)
def fX12_canMendMore (h : Hp) (v0 : Nat) (v1 : Int32) (v2 : Int32) (v3 : Int32) : Option (Int32 × Hp) :=
(lp (bX12_canMendMore_3 v0 v1 v3) FU (v2, h)).bind fun e22 =>
(match e22 with
| .inl e23 => (
some (((0 : Int32), e23)))
| .inr e24 => (
some (((1 : Int32), e24))))
set_option maxRecDepth 20000 in
set_option maxHeartbeats 4000000 in
theorem sX12_canMendMore {Γ : Gm} {d : Nat} (hd : 5 ≤ d) {h : Hp} {v0 : Nat} {v1 : Int32} {v2 : Int32} {v3 : Int32} {r : Int32 × Hp} (H : fX12_canMendMore h v0 v1 v2 v3 = some r) : V Γ d mX12_canMendMore 0 [(0, .ref v0), (1, .int v1), (2, .int v2), (3, .int v3)] [] h (some (.int r.1), r.2) := by
  unfold fX12_canMendMore at H
  refine v_iload_n (q := 1) 2 dX12_canMendMore_0 rfl rfl rfl ?_
  refine v_istore (L' := [(4, .int v2), (0, .ref v0), (1, .int v1), (2, .int v2), (3, .int v3)]) (q := 3) dX12_canMendMore_1 (by decide) rfl rfl ?_
  obtain ⟨e22, e22L, H⟩ := bs H
  refine V.sub [1, 2, 4, 0] rfl ?_
  refine lp_V (P := (fun s3 => V Γ d mX12_canMendMore 3 [(0, .ref v0), (1, .int v1), (3, .int v3), (4, .int s3.1)] [] s3.2 (some (.int r.1), r.2))) (E := (fun e => (match e with | .inl a0 => V Γ d mX12_canMendMore 100 [] [] a0 (some (.int r.1), r.2) | .inr b0 => V Γ d mX12_canMendMore 92 [] [] b0 (some (.int r.1), r.2)))) (fun s r hb kI kE => sbX12_canMendMore_3 hd (s3 := s) (r := r) hb kI kE) FU (v2, h) e22 e22L ?_
  rcases e22 with e23 | e24
  · skip
    refine v_iconst (v := 0) (q := 101) dX12_canMendMore_100 (by decide) rfl ?_
    cases H
    exact v_zreturn rfl (by decide) dX12_canMendMore_101
  · skip
    refine v_iconst (v := 1) (q := 93) dX12_canMendMore_92 (by decide) rfl ?_
    cases H
    exact v_zreturn rfl (by decide) dX12_canMendMore_93
def mX12_canMend : MI := (yX12_canMend, cX12_canMend, 7, some .boolean)
theorem oX12_canMend : mOK mX12_canMend 3 := ⟨by decide +kernel, by decide +kernel, by decide +kernel, by decide, w1955, w0150⟩
def jX12_canMend_89 (u0 : Nat) (u1 : Int32) (u3 : Int32) (v4 : Int32) (v5 : Int32) (y0 : Int32) (h : Hp) : Option ((Int32 × Hp) ⊕ ((Hp) ⊕ (Int32 × Hp))) :=
(gR h 12 u0 0).bind fun x14 =>
(gR h 12 u0 34).bind fun x15 =>
(lI h .int x15 v4).bind fun x16 =>
(tI h x14 ((0 : Int32) + x16) v5).bind fun h17 =>
if y0 = 0 then (
(some (v4 + (1 : Int32))).bind fun x19 =>
some (.inl (x19, h17))) else (
some (.inr (.inr (v4, h17))))
set_option maxRecDepth 20000 in
set_option maxHeartbeats 4000000 in
theorem sjX12_canMend_89 {Γ : Gm} {d : Nat} (hd : 6 ≤ d) {u0 : Nat} {u1 : Int32} {u3 : Int32} {v4 : Int32} {v5 : Int32} {y0 : Int32} {h : Hp} {r : (Int32 × Hp) ⊕ ((Hp) ⊕ (Int32 × Hp))} {t : Option Value × Hp} (H : jX12_canMend_89 u0 u1 u3 v4 v5 y0 h = some r) (kI : ∀ s, r = .inl s → (fun s20 => V Γ d mX12_canMend 20 [(0, .ref u0), (1, .int u1), (3, .int u3), (4, .int s20.1)] [] s20.2 t) s) (kE : ∀ e, r = .inr e → (fun e => (match e with | .inl a0 => V Γ d mX12_canMend 134 [] [] a0 t | .inr b0 => V Γ d mX12_canMend 115 [(0, .ref u0), (4, .int b0.1)] [] b0.2 t)) e) : V Γ d mX12_canMend 89 [(0, .ref u0), (1, .int u1), (3, .int u3), (4, .int v4), (5, .int v5)] [.int y0] h t := by
  unfold jX12_canMend_89 at H
  refine v_istore (L' := [(6, .int y0), (0, .ref u0), (1, .int u1), (3, .int u3), (4, .int v4), (5, .int v5)]) (q := 91) dX12_canMend_89 (by decide) rfl rfl ?_
  refine v_aload_n (q := 92) 1 dX12_canMend_91 rfl rfl rfl ?_
  obtain ⟨x14, x14e, H⟩ := bs H
  refine u_gR (q := 95) (r := (RX12, TX12, 58)) x14e dX12_canMend_92 w1356 rfl (by decide) rfl rfl ?_
  refine v_iconst (v := 0) (q := 96) dX12_canMend_95 (by decide) rfl ?_
  refine v_aload_n (q := 97) 1 dX12_canMend_96 rfl rfl rfl ?_
  obtain ⟨x15, x15e, H⟩ := bs H
  refine u_gR (q := 100) (r := (RX12, TX12, 58)) x15e dX12_canMend_97 w1390 rfl (by decide) rfl rfl ?_
  refine v_iload (q := 102) 4 dX12_canMend_100 rfl rfl ?_
  obtain ⟨x16, x16e, H⟩ := bs H
  refine u_lI (q := 103) x16e dX12_canMend_102 rfl ?_
  refine v_iadd (q := 104) dX12_canMend_103 rfl ?_
  refine v_iload (q := 106) 5 dX12_canMend_104 rfl rfl ?_
  obtain ⟨h17, h17e, H⟩ := bs H
  refine u_tI (q := 107) h17e dX12_canMend_106 rfl ?_
  refine v_iload (q := 109) 0 dX12_canMend_107 rfl rfl ?_
  refine v_if_ne (q1 := 115) (q2 := 112) dX12_canMend_109 (by decide) rfl (fun c18 => ?_) (fun c18 => ?_)
  · have H := ine c18 H
    exact V.sub [1, 4] rfl (kE (.inr (v4, h17)) (Option.some.inj H).symm)
  · have H := ip c18 H
    refine v_goto (q := 128) dX12_canMend_112 (by decide) ?_
    obtain ⟨x19, x19e, H⟩ := bs H
    refine v_iinc (v := x19) (L' := [(4, .int x19), (6, .int y0), (0, .ref u0), (1, .int u1), (3, .int u3), (5, .int v5)]) (q := 131) 4 dX12_canMend_128 rfl (Option.some.inj x19e) (by decide) rfl rfl ?_
    refine v_goto (q := 20) dX12_canMend_131 (by decide) ?_
    exact V.sub [2, 3, 4, 0] rfl (kI (x19, h17) (Option.some.inj H).symm)
def bX12_canMend_20 (u0 : Nat) (u1 : Int32) (u3 : Int32) (s20 : Int32 × Hp) : Option ((Int32 × Hp) ⊕ ((Hp) ⊕ (Int32 × Hp))) :=
if u3 ≤ s20.1 then (
some (.inr (.inl s20.2))) else (
(gR s20.2 12 u0 0).bind fun x3 =>
(gR s20.2 12 u0 34).bind fun x4 =>
(lI s20.2 .int x4 s20.1).bind fun x5 =>
(lI s20.2 .int x3 ((0 : Int32) + x5)).bind fun x6 =>
(gR s20.2 12 u0 0).bind fun x7 =>
(gR s20.2 12 u0 34).bind fun x8 =>
(lI s20.2 .int x8 s20.1).bind fun x9 =>
(tI s20.2 x7 ((0 : Int32) + x9) (0 : Int32)).bind fun h10 =>
if u1 = (1 : Int32) then (
(gO h10 12 u0).bind fun _ =>
(fX12_layOrder h10 u0).bind fun x21 =>
if x21.1 < 0 then (
jX12_canMend_89 u0 u1 u3 s20.1 x6 (0 : Int32) x21.2) else (
jX12_canMend_89 u0 u1 u3 s20.1 x6 (1 : Int32) x21.2)) else (
(gO h10 12 u0).bind fun _ =>
(fX12_canMendMore h10 u0 (u1 - (1 : Int32)) (s20.1 + (1 : Int32)) u3).bind fun x13 =>
jX12_canMend_89 u0 u1 u3 s20.1 x6 x13.1 x13.2))
set_option maxRecDepth 20000 in
set_option maxHeartbeats 4000000 in
theorem sbX12_canMend_20 {Γ : Gm} {d : Nat} (hd : 6 ≤ d) {u0 : Nat} {u1 : Int32} {u3 : Int32} {s20 : Int32 × Hp} {r : (Int32 × Hp) ⊕ ((Hp) ⊕ (Int32 × Hp))} {t : Option Value × Hp} (H : bX12_canMend_20 u0 u1 u3 s20 = some r) (kI : ∀ s, r = .inl s → (fun s20 => V Γ d mX12_canMend 20 [(0, .ref u0), (1, .int u1), (3, .int u3), (4, .int s20.1)] [] s20.2 t) s) (kE : ∀ e, r = .inr e → (fun e => (match e with | .inl a0 => V Γ d mX12_canMend 134 [] [] a0 t | .inr b0 => V Γ d mX12_canMend 115 [(0, .ref u0), (4, .int b0.1)] [] b0.2 t)) e) : V Γ d mX12_canMend 20 [(0, .ref u0), (1, .int u1), (3, .int u3), (4, .int s20.1)] [] s20.2 t := by
  unfold bX12_canMend_20 at H
  refine v_iload (q := 22) 3 dX12_canMend_20 rfl rfl ?_
  refine v_iload_n (q := 23) 2 dX12_canMend_22 rfl rfl rfl ?_
  refine v_icmp_ge (q1 := 134) (q2 := 26) dX12_canMend_23 (by decide) rfl (fun c2 => ?_) (fun c2 => ?_)
  · have H := ip c2 H
    exact V.sub [] rfl (kE (.inl s20.2) (Option.some.inj H).symm)
  · have H := ine c2 H
    refine v_aload_n (q := 27) 0 dX12_canMend_26 rfl rfl rfl ?_
    obtain ⟨x3, x3e, H⟩ := bs H
    refine u_gR (q := 30) (r := (RX12, TX12, 58)) x3e dX12_canMend_27 w1356 rfl (by decide) rfl rfl ?_
    refine v_iconst (v := 0) (q := 31) dX12_canMend_30 (by decide) rfl ?_
    refine v_aload_n (q := 32) 0 dX12_canMend_31 rfl rfl rfl ?_
    obtain ⟨x4, x4e, H⟩ := bs H
    refine u_gR (q := 35) (r := (RX12, TX12, 58)) x4e dX12_canMend_32 w1390 rfl (by decide) rfl rfl ?_
    refine v_iload (q := 37) 3 dX12_canMend_35 rfl rfl ?_
    obtain ⟨x5, x5e, H⟩ := bs H
    refine u_lI (q := 38) x5e dX12_canMend_37 rfl ?_
    refine v_iadd (q := 39) dX12_canMend_38 rfl ?_
    obtain ⟨x6, x6e, H⟩ := bs H
    refine u_lI (q := 40) x6e dX12_canMend_39 rfl ?_
    refine v_istore (L' := [(5, .int x6), (0, .ref u0), (1, .int u1), (3, .int u3), (4, .int s20.1)]) (q := 42) dX12_canMend_40 (by decide) rfl rfl ?_
    refine v_aload_n (q := 43) 1 dX12_canMend_42 rfl rfl rfl ?_
    obtain ⟨x7, x7e, H⟩ := bs H
    refine u_gR (q := 46) (r := (RX12, TX12, 58)) x7e dX12_canMend_43 w1356 rfl (by decide) rfl rfl ?_
    refine v_iconst (v := 0) (q := 47) dX12_canMend_46 (by decide) rfl ?_
    refine v_aload_n (q := 48) 1 dX12_canMend_47 rfl rfl rfl ?_
    obtain ⟨x8, x8e, H⟩ := bs H
    refine u_gR (q := 51) (r := (RX12, TX12, 58)) x8e dX12_canMend_48 w1390 rfl (by decide) rfl rfl ?_
    refine v_iload (q := 53) 4 dX12_canMend_51 rfl rfl ?_
    obtain ⟨x9, x9e, H⟩ := bs H
    refine u_lI (q := 54) x9e dX12_canMend_53 rfl ?_
    refine v_iadd (q := 55) dX12_canMend_54 rfl ?_
    refine v_iconst (v := 0) (q := 56) dX12_canMend_55 (by decide) rfl ?_
    obtain ⟨h10, h10e, H⟩ := bs H
    refine u_tI (q := 57) h10e dX12_canMend_56 rfl ?_
    refine v_iload_n (q := 58) 2 dX12_canMend_57 rfl rfl rfl ?_
    refine v_iconst (v := 1) (q := 59) dX12_canMend_58 (by decide) rfl ?_
    refine v_icmp_ne (q1 := 77) (q2 := 62) dX12_canMend_59 (by decide) rfl (fun c11 => ?_) (fun c11 => ?_)
    · have H := ine c11 H
      refine v_aload_n (q := 78) 1 dX12_canMend_77 rfl rfl rfl ?_
      refine v_iload_n (q := 79) 2 dX12_canMend_78 rfl rfl rfl ?_
      refine v_iconst (v := 1) (q := 80) dX12_canMend_79 (by decide) rfl ?_
      refine v_isub (q := 81) dX12_canMend_80 rfl ?_
      refine v_iload (q := 83) 4 dX12_canMend_81 rfl rfl ?_
      refine v_iconst (v := 1) (q := 84) dX12_canMend_83 (by decide) rfl ?_
      refine v_iadd (q := 85) dX12_canMend_84 rfl ?_
      refine v_iload_n (q := 86) 3 dX12_canMend_85 rfl rfl rfl ?_
      obtain ⟨_, o12, H⟩ := bs H
      obtain ⟨x13, x13e, H⟩ := bs H
      refine u_callV1 (M' := mX12_canMendMore) (d' := 5) (rc := (RX12, TX12, 58)) (As := [.int (u1 - (1 : Int32)), .int (s20.1 + (1 : Int32)), .int u3]) (st := []) (q := 89) oX12_canMendMore dX12_canMend_86 w1956 w1958 w0130 rfl rfl (gO_sp o12).1 (gO_sp o12).2 rfl (Nat.le_of_ble_eq_true rfl) (Nat.le_of_ble_eq_true rfl) (Nat.lt_of_lt_of_le (by decide) hd) rfl (sX12_canMendMore (Nat.le_refl _) x13e) rfl ?_
      exact V.sub [1, 2, 3, 4, 0] rfl (sjX12_canMend_89 hd H kI kE)
    · have H := ip c11 H
      refine v_aload_n (q := 63) 1 dX12_canMend_62 rfl rfl rfl ?_
      obtain ⟨_, o20, H⟩ := bs H
      obtain ⟨x21, x21e, H⟩ := bs H
      refine u_callV1 (M' := mX12_layOrder) (d' := 3) (rc := (RX12, TX12, 58)) (As := []) (st := []) (q := 66) oX12_layOrder dX12_canMend_63 w1940 w1942 w0127 rfl rfl (gO_sp o20).1 (gO_sp o20).2 rfl (Nat.le_of_ble_eq_true rfl) (Nat.le_of_ble_eq_true rfl) (Nat.lt_of_lt_of_le (by decide) hd) rfl (sX12_layOrder (Nat.le_refl _) x21e) rfl ?_
      refine v_if_lt (q1 := 73) (q2 := 69) dX12_canMend_66 (by decide) rfl (fun c22 => ?_) (fun c22 => ?_)
      · have H := ip c22 H
        refine v_iconst (v := 0) (q := 74) dX12_canMend_73 (by decide) rfl ?_
        refine v_goto (q := 89) dX12_canMend_74 (by decide) ?_
        exact V.sub [1, 2, 3, 4, 0] rfl (sjX12_canMend_89 hd H kI kE)
      · have H := ine c22 H
        refine v_iconst (v := 1) (q := 70) dX12_canMend_69 (by decide) rfl ?_
        refine v_goto (q := 89) dX12_canMend_70 (by decide) ?_
        exact V.sub [1, 2, 3, 4, 0] rfl (sjX12_canMend_89 hd H kI kE)
def jX12_canMend_16 (y0 : Int32) (h : Hp) : Option (Int32 × Hp) :=
(bz y0).bind fun x32 =>
some (x32, h)
set_option maxRecDepth 20000 in
set_option maxHeartbeats 4000000 in
theorem sjX12_canMend_16 {Γ : Gm} {d : Nat} (hd : 6 ≤ d) {y0 : Int32} {h : Hp} {r : Int32 × Hp} (H : jX12_canMend_16 y0 h = some r) : V Γ d mX12_canMend 16 [] [.int y0] h (some (.int r.1), r.2) := by
  unfold jX12_canMend_16 at H
  obtain ⟨x32, x32e, H⟩ := bs H
  obtain ⟨x32q, x32z⟩ := bz_sp x32e
  refine v_topi x32q.symm ?_
  cases H
  exact v_zreturn rfl (by rw [x32q]; exact x32z) dX12_canMend_16
def fX12_canMend (h : Hp) (v0 : Nat) (v1 : Int32) (v2 : Int32) (v3 : Int32) : Option (Int32 × Hp) :=
if v1 = 0 then (
(gO h 12 v0).bind fun _ =>
(fX12_layOrder h v0).bind fun x30 =>
if x30.1 < 0 then (
jX12_canMend_16 (0 : Int32) x30.2) else (
jX12_canMend_16 (1 : Int32) x30.2)) else (
(lp (bX12_canMend_20 v0 v1 v3) FU (v2, h)).bind fun e23 =>
(match e23 with
| .inl e24 => (
some (((0 : Int32), e24)))
| .inr e25 => (
(gR e25.2 12 v0 34).bind fun x26 =>
(lI e25.2 .int x26 e25.1).bind fun x27 =>
(pI e25.2 12 v0 35 x27).bind fun h28 =>
some (((1 : Int32), h28)))))
set_option maxRecDepth 20000 in
set_option maxHeartbeats 4000000 in
theorem sX12_canMend {Γ : Gm} {d : Nat} (hd : 6 ≤ d) {h : Hp} {v0 : Nat} {v1 : Int32} {v2 : Int32} {v3 : Int32} {r : Int32 × Hp} (H : fX12_canMend h v0 v1 v2 v3 = some r) : V Γ d mX12_canMend 0 [(0, .ref v0), (1, .int v1), (2, .int v2), (3, .int v3)] [] h (some (.int r.1), r.2) := by
  unfold fX12_canMend at H
  refine v_iload_n (q := 1) 1 dX12_canMend_0 rfl rfl rfl ?_
  refine v_if_ne (q1 := 17) (q2 := 4) dX12_canMend_1 (by decide) rfl (fun c1 => ?_) (fun c1 => ?_)
  · have H := ine c1 H
    refine v_iload_n (q := 18) 2 dX12_canMend_17 rfl rfl rfl ?_
    refine v_istore (L' := [(4, .int v2), (0, .ref v0), (1, .int v1), (2, .int v2), (3, .int v3)]) (q := 20) dX12_canMend_18 (by decide) rfl rfl ?_
    obtain ⟨e23, e23L, H⟩ := bs H
    refine V.sub [1, 2, 4, 0] rfl ?_
    refine lp_V (P := (fun s20 => V Γ d mX12_canMend 20 [(0, .ref v0), (1, .int v1), (3, .int v3), (4, .int s20.1)] [] s20.2 (some (.int r.1), r.2))) (E := (fun e => (match e with | .inl a0 => V Γ d mX12_canMend 134 [] [] a0 (some (.int r.1), r.2) | .inr b0 => V Γ d mX12_canMend 115 [(0, .ref v0), (4, .int b0.1)] [] b0.2 (some (.int r.1), r.2)))) (fun s r hb kI kE => sbX12_canMend_20 hd (s20 := s) (r := r) hb kI kE) FU (v2, h) e23 e23L ?_
    rcases e23 with e24 | e25
    · skip
      refine v_iconst (v := 0) (q := 135) dX12_canMend_134 (by decide) rfl ?_
      cases H
      exact v_zreturn rfl (by decide) dX12_canMend_135
    · skip
      refine v_aload_n (q := 116) 0 dX12_canMend_115 rfl rfl rfl ?_
      refine v_aload_n (q := 117) 0 dX12_canMend_116 rfl rfl rfl ?_
      obtain ⟨x26, x26e, H⟩ := bs H
      refine u_gR (q := 120) (r := (RX12, TX12, 58)) x26e dX12_canMend_117 w1390 rfl (by decide) rfl rfl ?_
      refine v_iload (q := 122) 1 dX12_canMend_120 rfl rfl ?_
      obtain ⟨x27, x27e, H⟩ := bs H
      refine u_lI (q := 123) x27e dX12_canMend_122 rfl ?_
      obtain ⟨h28, h28e, H⟩ := bs H
      refine u_pI (q := 126) (r := (RX12, TX12, 58)) h28e dX12_canMend_123 w1391 rfl (by decide) (Or.inl rfl) rfl rfl ?_
      refine v_iconst (v := 1) (q := 127) dX12_canMend_126 (by decide) rfl ?_
      cases H
      exact v_zreturn rfl (by decide) dX12_canMend_127
  · have H := ip c1 H
    refine v_aload_n (q := 5) 0 dX12_canMend_4 rfl rfl rfl ?_
    obtain ⟨_, o29, H⟩ := bs H
    obtain ⟨x30, x30e, H⟩ := bs H
    refine u_callV1 (M' := mX12_layOrder) (d' := 3) (rc := (RX12, TX12, 58)) (As := []) (st := []) (q := 8) oX12_layOrder dX12_canMend_5 w1940 w1942 w0127 rfl rfl (gO_sp o29).1 (gO_sp o29).2 rfl (Nat.le_of_ble_eq_true rfl) (Nat.le_of_ble_eq_true rfl) (Nat.lt_of_lt_of_le (by decide) hd) rfl (sX12_layOrder (Nat.le_refl _) x30e) rfl ?_
    refine v_if_lt (q1 := 15) (q2 := 11) dX12_canMend_8 (by decide) rfl (fun c31 => ?_) (fun c31 => ?_)
    · have H := ip c31 H
      refine v_iconst (v := 0) (q := 16) dX12_canMend_15 (by decide) rfl ?_
      exact V.sub [] rfl (sjX12_canMend_16 hd H)
    · have H := ine c31 H
      refine v_iconst (v := 1) (q := 12) dX12_canMend_11 (by decide) rfl ?_
      refine v_goto (q := 16) dX12_canMend_12 (by decide) ?_
      exact V.sub [] rfl (sjX12_canMend_16 hd H)
def mX12_isReport : MI := (yX12_isReport, cX12_isReport, 2, some .boolean)
theorem oX12_isReport : mOK mX12_isReport 1 := ⟨by decide +kernel, by decide +kernel, by decide +kernel, by decide, w1800, w0150⟩
def fX12_isReport (h : Hp) (v0 : Nat) (v1 : Int32) : Option (Int32) :=
(gR h 12 v0 0).bind fun x1 =>
(lI h .int x1 (272 : Int32)).bind fun x2 =>
(fX12_isIn h v1 (0 : Int32) (x2 - (1 : Int32))).bind fun x3 =>
(bz x3).bind fun x4 =>
some x4
set_option maxRecDepth 20000 in
set_option maxHeartbeats 4000000 in
theorem sX12_isReport {Γ : Gm} {d : Nat} (hd : 2 ≤ d) {h : Hp} {v0 : Nat} {v1 : Int32} {r : Int32} (H : fX12_isReport h v0 v1 = some r) : V Γ d mX12_isReport 0 [(0, .ref v0), (1, .int v1)] [] h (some (.int r), h) := by
  unfold fX12_isReport at H
  refine v_iload_n (q := 1) 1 dX12_isReport_0 rfl rfl rfl ?_
  refine v_iconst (v := 0) (q := 2) dX12_isReport_1 (by decide) rfl ?_
  refine v_aload_n (q := 3) 0 dX12_isReport_2 rfl rfl rfl ?_
  obtain ⟨x1, x1e, H⟩ := bs H
  refine u_gR (q := 6) (r := (RX12, TX12, 58)) x1e dX12_isReport_3 w1356 rfl (by decide) rfl rfl ?_
  refine v_sipush (v := 272) (q := 9) dX12_isReport_6 (by decide) rfl ?_
  obtain ⟨x2, x2e, H⟩ := bs H
  refine u_lI (q := 10) x2e dX12_isReport_9 rfl ?_
  refine v_iconst (v := 1) (q := 11) dX12_isReport_10 (by decide) rfl ?_
  refine v_isub (q := 12) dX12_isReport_11 rfl ?_
  obtain ⟨x3, x3e, H⟩ := bs H
  refine u_callS1 (M' := mX12_isIn) (d' := 1) (As := [.int v1, .int (0 : Int32), .int (x2 - (1 : Int32))]) (st := []) (q := 15) oX12_isIn dX12_isReport_12 w1618 w1619 rfl (Nat.le_of_ble_eq_true rfl) (Nat.le_of_ble_eq_true rfl) (Nat.lt_of_lt_of_le (by decide) hd) rfl (sX12_isIn (Nat.le_refl _) x3e) rfl ?_
  obtain ⟨x4, x4e, H⟩ := bs H
  obtain ⟨x4q, x4z⟩ := bz_sp x4e
  refine v_topi x4q.symm ?_
  cases H
  exact v_zreturn rfl (by rw [x4q]; exact x4z) dX12_isReport_15
def mX12_chain : MI := (yX12_chain, cX12_chain, 3, some .int)
theorem oX12_chain : mOK mX12_chain 2 := ⟨by decide +kernel, by decide +kernel, by decide +kernel, by decide, w1804, w0150⟩
def jX12_chain_44 (y0 : Int32) (h : Hp) : Option (Int32) :=
some y0
set_option maxRecDepth 20000 in
set_option maxHeartbeats 4000000 in
theorem sjX12_chain_44 {Γ : Gm} {d : Nat} (hd : 3 ≤ d) {y0 : Int32} {h : Hp} {r : Int32} (H : jX12_chain_44 y0 h = some r) : V Γ d mX12_chain 44 [] [.int y0] h (some (.int r), h) := by
  unfold jX12_chain_44 at H
  cases H
  exact v_ireturn rfl dX12_chain_44
def jX12_chain_43 (h : Hp) : Option (Int32) :=
jX12_chain_44 (-1 : Int32) h
set_option maxRecDepth 20000 in
set_option maxHeartbeats 4000000 in
theorem sjX12_chain_43 {Γ : Gm} {d : Nat} (hd : 3 ≤ d) {h : Hp} {r : Int32} (H : jX12_chain_43 h = some r) : V Γ d mX12_chain 43 [] [] h (some (.int r), h) := by
  unfold jX12_chain_43 at H
  refine v_iconst (v := -1) (q := 44) dX12_chain_43 (by decide) rfl ?_
  exact V.sub [] rfl (sjX12_chain_44 hd H)
def fX12_chain (h : Hp) (v0 : Nat) (v1 : Int32) (v2 : Int32) : Option (Int32) :=
(gO h 12 v0).bind fun _ =>
(fX12_isReport h v0 v1).bind fun x2 =>
if x2 = 0 then (
jX12_chain_43 h) else (
(gR h 12 v0 0).bind fun x4 =>
(fX12_atReport h v1 (3 : Int32)).bind fun x5 =>
(lI h .int x4 x5).bind fun x6 =>
(fX12_isIn h v2 (0 : Int32) (x6 - (1 : Int32))).bind fun x7 =>
if x7 = 0 then (
jX12_chain_43 h) else (
(gR h 12 v0 0).bind fun x9 =>
(fX12_atReport h v1 ((4 : Int32) + v2)).bind fun x10 =>
(lI h .int x9 x10).bind fun x11 =>
jX12_chain_44 x11 h))
set_option maxRecDepth 20000 in
set_option maxHeartbeats 4000000 in
theorem sX12_chain {Γ : Gm} {d : Nat} (hd : 3 ≤ d) {h : Hp} {v0 : Nat} {v1 : Int32} {v2 : Int32} {r : Int32} (H : fX12_chain h v0 v1 v2 = some r) : V Γ d mX12_chain 0 [(0, .ref v0), (1, .int v1), (2, .int v2)] [] h (some (.int r), h) := by
  unfold fX12_chain at H
  refine v_aload_n (q := 1) 0 dX12_chain_0 rfl rfl rfl ?_
  refine v_iload_n (q := 2) 1 dX12_chain_1 rfl rfl rfl ?_
  obtain ⟨_, o1, H⟩ := bs H
  obtain ⟨x2, x2e, H⟩ := bs H
  refine u_callV1 (M' := mX12_isReport) (d' := 2) (rc := (RX12, TX12, 58)) (As := [.int v1]) (st := []) (q := 5) oX12_isReport dX12_chain_2 w1797 w1799 w0101 rfl rfl (gO_sp o1).1 (gO_sp o1).2 rfl (Nat.le_of_ble_eq_true rfl) (Nat.le_of_ble_eq_true rfl) (Nat.lt_of_lt_of_le (by decide) hd) rfl (sX12_isReport (Nat.le_refl _) x2e) rfl ?_
  refine v_if_eq (q1 := 43) (q2 := 8) dX12_chain_5 (by decide) rfl (fun c3 => ?_) (fun c3 => ?_)
  · have H := ip c3 H
    exact V.sub [] rfl (sjX12_chain_43 hd H)
  · have H := ine c3 H
    refine v_iload_n (q := 9) 2 dX12_chain_8 rfl rfl rfl ?_
    refine v_iconst (v := 0) (q := 10) dX12_chain_9 (by decide) rfl ?_
    refine v_aload_n (q := 11) 0 dX12_chain_10 rfl rfl rfl ?_
    obtain ⟨x4, x4e, H⟩ := bs H
    refine u_gR (q := 14) (r := (RX12, TX12, 58)) x4e dX12_chain_11 w1356 rfl (by decide) rfl rfl ?_
    refine v_iload_n (q := 15) 1 dX12_chain_14 rfl rfl rfl ?_
    refine v_iconst (v := 3) (q := 16) dX12_chain_15 (by decide) rfl ?_
    obtain ⟨x5, x5e, H⟩ := bs H
    refine u_callS1 (M' := mX12_atReport) (d' := 1) (As := [.int v1, .int (3 : Int32)]) (st := [.ref x4, .int (0 : Int32), .int v2]) (q := 19) oX12_atReport dX12_chain_16 w1670 w1671 rfl (Nat.le_of_ble_eq_true rfl) (Nat.le_of_ble_eq_true rfl) (Nat.lt_of_lt_of_le (by decide) hd) rfl (sX12_atReport (Nat.le_refl _) x5e) rfl ?_
    obtain ⟨x6, x6e, H⟩ := bs H
    refine u_lI (q := 20) x6e dX12_chain_19 rfl ?_
    refine v_iconst (v := 1) (q := 21) dX12_chain_20 (by decide) rfl ?_
    refine v_isub (q := 22) dX12_chain_21 rfl ?_
    obtain ⟨x7, x7e, H⟩ := bs H
    refine u_callS1 (M' := mX12_isIn) (d' := 1) (As := [.int v2, .int (0 : Int32), .int (x6 - (1 : Int32))]) (st := []) (q := 25) oX12_isIn dX12_chain_22 w1618 w1619 rfl (Nat.le_of_ble_eq_true rfl) (Nat.le_of_ble_eq_true rfl) (Nat.lt_of_lt_of_le (by decide) hd) rfl (sX12_isIn (Nat.le_refl _) x7e) rfl ?_
    refine v_if_eq (q1 := 43) (q2 := 28) dX12_chain_25 (by decide) rfl (fun c8 => ?_) (fun c8 => ?_)
    · have H := ip c8 H
      exact V.sub [] rfl (sjX12_chain_43 hd H)
    · have H := ine c8 H
      refine v_aload_n (q := 29) 0 dX12_chain_28 rfl rfl rfl ?_
      obtain ⟨x9, x9e, H⟩ := bs H
      refine u_gR (q := 32) (r := (RX12, TX12, 58)) x9e dX12_chain_29 w1356 rfl (by decide) rfl rfl ?_
      refine v_iload_n (q := 33) 1 dX12_chain_32 rfl rfl rfl ?_
      refine v_iconst (v := 4) (q := 34) dX12_chain_33 (by decide) rfl ?_
      refine v_iload_n (q := 35) 2 dX12_chain_34 rfl rfl rfl ?_
      refine v_iadd (q := 36) dX12_chain_35 rfl ?_
      obtain ⟨x10, x10e, H⟩ := bs H
      refine u_callS1 (M' := mX12_atReport) (d' := 1) (As := [.int v1, .int ((4 : Int32) + v2)]) (st := [.ref x9]) (q := 39) oX12_atReport dX12_chain_36 w1670 w1671 rfl (Nat.le_of_ble_eq_true rfl) (Nat.le_of_ble_eq_true rfl) (Nat.lt_of_lt_of_le (by decide) hd) rfl (sX12_atReport (Nat.le_refl _) x10e) rfl ?_
      obtain ⟨x11, x11e, H⟩ := bs H
      refine u_lI (q := 40) x11e dX12_chain_39 rfl ?_
      refine v_goto (q := 44) dX12_chain_40 (by decide) ?_
      exact V.sub [] rfl (sjX12_chain_44 hd H)
def mX12_isProgram : MI := (yX12_isProgram, cX12_isProgram, 2, some .boolean)
theorem oX12_isProgram : mOK mX12_isProgram 1 := ⟨by decide +kernel, by decide +kernel, by decide +kernel, by decide, w1632, w0150⟩
def fX12_isProgram (h : Hp) (v0 : Nat) (v1 : Int32) : Option (Int32) :=
(gR h 12 v0 3).bind fun x1 =>
(gI h 12 v0 9).bind fun x2 =>
(lI h .int x1 x2).bind fun x3 =>
(fX12_isIn h v1 (0 : Int32) (x3 - (1 : Int32))).bind fun x4 =>
(bz x4).bind fun x5 =>
some x5
set_option maxRecDepth 20000 in
set_option maxHeartbeats 4000000 in
theorem sX12_isProgram {Γ : Gm} {d : Nat} (hd : 2 ≤ d) {h : Hp} {v0 : Nat} {v1 : Int32} {r : Int32} (H : fX12_isProgram h v0 v1 = some r) : V Γ d mX12_isProgram 0 [(0, .ref v0), (1, .int v1)] [] h (some (.int r), h) := by
  unfold fX12_isProgram at H
  refine v_iload_n (q := 1) 1 dX12_isProgram_0 rfl rfl rfl ?_
  refine v_iconst (v := 0) (q := 2) dX12_isProgram_1 (by decide) rfl ?_
  refine v_aload_n (q := 3) 0 dX12_isProgram_2 rfl rfl rfl ?_
  obtain ⟨x1, x1e, H⟩ := bs H
  refine u_gR (q := 6) (r := (RX12, TX12, 58)) x1e dX12_isProgram_3 w1359 rfl (by decide) rfl rfl ?_
  refine v_aload_n (q := 7) 0 dX12_isProgram_6 rfl rfl rfl ?_
  obtain ⟨x2, x2e, H⟩ := bs H
  refine u_gI (q := 10) (r := (RX12, TX12, 58)) x2e dX12_isProgram_7 w1365 rfl (by decide) rfl rfl ?_
  obtain ⟨x3, x3e, H⟩ := bs H
  refine u_lI (q := 11) x3e dX12_isProgram_10 rfl ?_
  refine v_iconst (v := 1) (q := 12) dX12_isProgram_11 (by decide) rfl ?_
  refine v_isub (q := 13) dX12_isProgram_12 rfl ?_
  obtain ⟨x4, x4e, H⟩ := bs H
  refine u_callS1 (M' := mX12_isIn) (d' := 1) (As := [.int v1, .int (0 : Int32), .int (x3 - (1 : Int32))]) (st := []) (q := 16) oX12_isIn dX12_isProgram_13 w1618 w1619 rfl (Nat.le_of_ble_eq_true rfl) (Nat.le_of_ble_eq_true rfl) (Nat.lt_of_lt_of_le (by decide) hd) rfl (sX12_isIn (Nat.le_refl _) x4e) rfl ?_
  obtain ⟨x5, x5e, H⟩ := bs H
  obtain ⟨x5q, x5z⟩ := bz_sp x5e
  refine v_topi x5q.symm ?_
  cases H
  exact v_zreturn rfl (by rw [x5q]; exact x5z) dX12_isProgram_16
def mX12_isSet : MI := (yX12_isSet, cX12_isSet, 4, some .boolean)
theorem oX12_isSet : mOK mX12_isSet 1 := ⟨by decide +kernel, by decide +kernel, by decide +kernel, by decide, w1845, w0150⟩
def jX12_isSet_43 (u0 : Nat) (u1 : Int32) (v3 : Int32) (y0 : Int32) (h : Hp) : Option ((Int32 × Int32) ⊕ (Int32)) :=
(some (v3 + (1 : Int32))).bind fun x3 =>
some (.inl (y0, x3))
set_option maxRecDepth 20000 in
set_option maxHeartbeats 4000000 in
theorem sjX12_isSet_43 {Γ : Gm} {d : Nat} (hd : 3 ≤ d) {u0 : Nat} {u1 : Int32} {v3 : Int32} {y0 : Int32} {h : Hp} {r : (Int32 × Int32) ⊕ (Int32)} {t : Option Value × Hp} (H : jX12_isSet_43 u0 u1 v3 y0 h = some r) (kI : ∀ s, r = .inl s → (fun s4 => V Γ d mX12_isSet 4 [(0, .ref u0), (1, .int u1), (2, .int s4.1), (3, .int s4.2)] [] h t) s) (kE : ∀ e, r = .inr e → (fun e => V Γ d mX12_isSet 50 [(0, .ref u0), (1, .int u1), (2, .int e)] [] h t) e) : V Γ d mX12_isSet 43 [(0, .ref u0), (1, .int u1), (3, .int v3)] [.int y0] h t := by
  unfold jX12_isSet_43 at H
  refine v_istore_n (L' := [(2, .int y0), (0, .ref u0), (1, .int u1), (3, .int v3)]) (q := 44) dX12_isSet_43 rfl (by decide) rfl rfl ?_
  obtain ⟨x3, x3e, H⟩ := bs H
  refine v_iinc (v := x3) (L' := [(3, .int x3), (2, .int y0), (0, .ref u0), (1, .int u1)]) (q := 47) 3 dX12_isSet_44 rfl (Option.some.inj x3e) (by decide) rfl rfl ?_
  refine v_goto (q := 4) dX12_isSet_47 (by decide) ?_
  exact V.sub [2, 3, 1, 0] rfl (kI (y0, x3) (Option.some.inj H).symm)
def jX12_isSet_38 (u0 : Nat) (u1 : Int32) (v3 : Int32) (h : Hp) : Option ((Int32 × Int32) ⊕ (Int32)) :=
jX12_isSet_43 u0 u1 v3 (1 : Int32) h
set_option maxRecDepth 20000 in
set_option maxHeartbeats 4000000 in
theorem sjX12_isSet_38 {Γ : Gm} {d : Nat} (hd : 3 ≤ d) {u0 : Nat} {u1 : Int32} {v3 : Int32} {h : Hp} {r : (Int32 × Int32) ⊕ (Int32)} {t : Option Value × Hp} (H : jX12_isSet_38 u0 u1 v3 h = some r) (kI : ∀ s, r = .inl s → (fun s4 => V Γ d mX12_isSet 4 [(0, .ref u0), (1, .int u1), (2, .int s4.1), (3, .int s4.2)] [] h t) s) (kE : ∀ e, r = .inr e → (fun e => V Γ d mX12_isSet 50 [(0, .ref u0), (1, .int u1), (2, .int e)] [] h t) e) : V Γ d mX12_isSet 38 [(0, .ref u0), (1, .int u1), (3, .int v3)] [] h t := by
  unfold jX12_isSet_38 at H
  refine v_iconst (v := 1) (q := 39) dX12_isSet_38 (by decide) rfl ?_
  refine v_goto (q := 43) dX12_isSet_39 (by decide) ?_
  exact V.sub [0, 1, 2] rfl (sjX12_isSet_43 hd H kI kE)
def jX12_isSet_42 (u0 : Nat) (u1 : Int32) (v3 : Int32) (h : Hp) : Option ((Int32 × Int32) ⊕ (Int32)) :=
jX12_isSet_43 u0 u1 v3 (0 : Int32) h
set_option maxRecDepth 20000 in
set_option maxHeartbeats 4000000 in
theorem sjX12_isSet_42 {Γ : Gm} {d : Nat} (hd : 3 ≤ d) {u0 : Nat} {u1 : Int32} {v3 : Int32} {h : Hp} {r : (Int32 × Int32) ⊕ (Int32)} {t : Option Value × Hp} (H : jX12_isSet_42 u0 u1 v3 h = some r) (kI : ∀ s, r = .inl s → (fun s4 => V Γ d mX12_isSet 4 [(0, .ref u0), (1, .int u1), (2, .int s4.1), (3, .int s4.2)] [] h t) s) (kE : ∀ e, r = .inr e → (fun e => V Γ d mX12_isSet 50 [(0, .ref u0), (1, .int u1), (2, .int e)] [] h t) e) : V Γ d mX12_isSet 42 [(0, .ref u0), (1, .int u1), (3, .int v3)] [] h t := by
  unfold jX12_isSet_42 at H
  refine v_iconst (v := 0) (q := 43) dX12_isSet_42 (by decide) rfl ?_
  exact V.sub [0, 1, 2] rfl (sjX12_isSet_43 hd H kI kE)
def bX12_isSet_4 (u0 : Nat) (u1 : Int32) (h : Hp) (s4 : Int32 × Int32) : Option ((Int32 × Int32) ⊕ (Int32)) :=
if (6 : Int32) ≤ s4.2 then (
some (.inr s4.1)) else (
if s4.1 = 0 then (
(fX12_has h u1 s4.2).bind fun x4 =>
if x4 = 0 then (
jX12_isSet_42 u0 u1 s4.2 h) else (
(gO h 12 u0).bind fun _ =>
(fX12_isProgram h u0 s4.2).bind fun x7 =>
if x7 = 0 then (
jX12_isSet_42 u0 u1 s4.2 h) else (
(gO h 12 u0).bind fun _ =>
(fX12_sortOf h u0 s4.2).bind fun x10 =>
if x10 = 0 then (
jX12_isSet_38 u0 u1 s4.2 h) else (
jX12_isSet_42 u0 u1 s4.2 h)))) else (
jX12_isSet_38 u0 u1 s4.2 h))
set_option maxRecDepth 20000 in
set_option maxHeartbeats 4000000 in
theorem sbX12_isSet_4 {Γ : Gm} {d : Nat} (hd : 3 ≤ d) {u0 : Nat} {u1 : Int32} {h : Hp} {s4 : Int32 × Int32} {r : (Int32 × Int32) ⊕ (Int32)} {t : Option Value × Hp} (H : bX12_isSet_4 u0 u1 h s4 = some r) (kI : ∀ s, r = .inl s → (fun s4 => V Γ d mX12_isSet 4 [(0, .ref u0), (1, .int u1), (2, .int s4.1), (3, .int s4.2)] [] h t) s) (kE : ∀ e, r = .inr e → (fun e => V Γ d mX12_isSet 50 [(0, .ref u0), (1, .int u1), (2, .int e)] [] h t) e) : V Γ d mX12_isSet 4 [(0, .ref u0), (1, .int u1), (2, .int s4.1), (3, .int s4.2)] [] h t := by
  unfold bX12_isSet_4 at H
  refine v_iload_n (q := 5) 3 dX12_isSet_4 rfl rfl rfl ?_
  refine v_bipush (v := 6) (q := 7) dX12_isSet_5 (by decide) rfl ?_
  refine v_icmp_ge (q1 := 50) (q2 := 10) dX12_isSet_7 (by decide) rfl (fun c1 => ?_) (fun c1 => ?_)
  · have H := ip c1 H
    exact V.sub [0, 1, 2] rfl (kE s4.1 (Option.some.inj H).symm)
  · have H := ine c1 H
    refine v_iload_n (q := 11) 2 dX12_isSet_10 rfl rfl rfl ?_
    refine v_if_ne (q1 := 38) (q2 := 14) dX12_isSet_11 (by decide) rfl (fun c2 => ?_) (fun c2 => ?_)
    · have H := ine c2 H
      exact V.sub [0, 1, 3] rfl (sjX12_isSet_38 hd H kI kE)
    · have H := ip c2 H
      refine v_iload_n (q := 15) 1 dX12_isSet_14 rfl rfl rfl ?_
      refine v_iload_n (q := 16) 3 dX12_isSet_15 rfl rfl rfl ?_
      obtain ⟨x4, x4e, H⟩ := bs H
      refine u_callS1 (M' := mX12_has) (d' := 1) (As := [.int u1, .int s4.2]) (st := []) (q := 19) oX12_has dX12_isSet_16 w1846 w1847 rfl (Nat.le_of_ble_eq_true rfl) (Nat.le_of_ble_eq_true rfl) (Nat.lt_of_lt_of_le (by decide) hd) rfl (sX12_has (Nat.le_refl _) x4e) rfl ?_
      refine v_if_eq (q1 := 42) (q2 := 22) dX12_isSet_19 (by decide) rfl (fun c5 => ?_) (fun c5 => ?_)
      · have H := ip c5 H
        exact V.sub [0, 1, 3] rfl (sjX12_isSet_42 hd H kI kE)
      · have H := ine c5 H
        refine v_aload_n (q := 23) 0 dX12_isSet_22 rfl rfl rfl ?_
        refine v_iload_n (q := 24) 3 dX12_isSet_23 rfl rfl rfl ?_
        obtain ⟨_, o6, H⟩ := bs H
        obtain ⟨x7, x7e, H⟩ := bs H
        refine u_callV1 (M' := mX12_isProgram) (d' := 2) (rc := (RX12, TX12, 58)) (As := [.int s4.2]) (st := []) (q := 27) oX12_isProgram dX12_isSet_24 w1629 w1631 w0071 rfl rfl (gO_sp o6).1 (gO_sp o6).2 rfl (Nat.le_of_ble_eq_true rfl) (Nat.le_of_ble_eq_true rfl) (Nat.lt_of_lt_of_le (by decide) hd) rfl (sX12_isProgram (Nat.le_refl _) x7e) rfl ?_
        refine v_if_eq (q1 := 42) (q2 := 30) dX12_isSet_27 (by decide) rfl (fun c8 => ?_) (fun c8 => ?_)
        · have H := ip c8 H
          exact V.sub [0, 1, 3] rfl (sjX12_isSet_42 hd H kI kE)
        · have H := ine c8 H
          refine v_aload_n (q := 31) 0 dX12_isSet_30 rfl rfl rfl ?_
          refine v_iload_n (q := 32) 3 dX12_isSet_31 rfl rfl rfl ?_
          obtain ⟨_, o9, H⟩ := bs H
          obtain ⟨x10, x10e, H⟩ := bs H
          refine u_callV1 (M' := mX12_sortOf) (d' := 1) (rc := (RX12, TX12, 58)) (As := [.int s4.2]) (st := []) (q := 35) oX12_sortOf dX12_isSet_32 w1718 w1720 w0092 rfl rfl (gO_sp o9).1 (gO_sp o9).2 rfl (Nat.le_of_ble_eq_true rfl) (Nat.le_of_ble_eq_true rfl) (Nat.lt_of_lt_of_le (by decide) hd) rfl (sX12_sortOf (Nat.le_refl _) x10e) rfl ?_
          refine v_if_ne (q1 := 42) (q2 := 38) dX12_isSet_35 (by decide) rfl (fun c11 => ?_) (fun c11 => ?_)
          · have H := ine c11 H
            exact V.sub [0, 1, 3] rfl (sjX12_isSet_42 hd H kI kE)
          · have H := ip c11 H
            exact V.sub [0, 1, 3] rfl (sjX12_isSet_38 hd H kI kE)
def jX12_isSet_77 (y0 : Int32) (h : Hp) : Option (Int32) :=
(bz y0).bind fun x14 =>
some x14
set_option maxRecDepth 20000 in
set_option maxHeartbeats 4000000 in
theorem sjX12_isSet_77 {Γ : Gm} {d : Nat} (hd : 3 ≤ d) {y0 : Int32} {h : Hp} {r : Int32} (H : jX12_isSet_77 y0 h = some r) : V Γ d mX12_isSet 77 [] [.int y0] h (some (.int r), h) := by
  unfold jX12_isSet_77 at H
  obtain ⟨x14, x14e, H⟩ := bs H
  obtain ⟨x14q, x14z⟩ := bz_sp x14e
  refine v_topi x14q.symm ?_
  cases H
  exact v_zreturn rfl (by rw [x14q]; exact x14z) dX12_isSet_77
def jX12_isSet_76 (h : Hp) : Option (Int32) :=
jX12_isSet_77 (0 : Int32) h
set_option maxRecDepth 20000 in
set_option maxHeartbeats 4000000 in
theorem sjX12_isSet_76 {Γ : Gm} {d : Nat} (hd : 3 ≤ d) {h : Hp} {r : Int32} (H : jX12_isSet_76 h = some r) : V Γ d mX12_isSet 76 [] [] h (some (.int r), h) := by
  unfold jX12_isSet_76 at H
  refine v_iconst (v := 0) (q := 77) dX12_isSet_76 (by decide) rfl ?_
  exact V.sub [] rfl (sjX12_isSet_77 hd H)
def fX12_isSet (h : Hp) (v0 : Nat) (v1 : Int32) : Option (Int32) :=
(lp (bX12_isSet_4 v0 v1 h) FU ((0 : Int32), (0 : Int32))).bind fun e12 =>
if e12 = 0 then (
jX12_isSet_76 h) else (
if v1 < 0 then (
jX12_isSet_76 h) else (
(gR h 12 v0 3).bind fun x16 =>
(gI h 12 v0 9).bind fun x17 =>
(lI h .int x16 x17).bind fun x18 =>
if (v1 >>> (x18 &&& 31)) = 0 then (
jX12_isSet_77 (1 : Int32) h) else (
jX12_isSet_76 h)))
set_option maxRecDepth 20000 in
set_option maxHeartbeats 4000000 in
theorem sX12_isSet {Γ : Gm} {d : Nat} (hd : 3 ≤ d) {h : Hp} {v0 : Nat} {v1 : Int32} {r : Int32} (H : fX12_isSet h v0 v1 = some r) : V Γ d mX12_isSet 0 [(0, .ref v0), (1, .int v1)] [] h (some (.int r), h) := by
  unfold fX12_isSet at H
  refine v_iconst (v := 0) (q := 1) dX12_isSet_0 (by decide) rfl ?_
  refine v_istore_n (L' := [(2, .int (0 : Int32)), (0, .ref v0), (1, .int v1)]) (q := 2) dX12_isSet_1 rfl (by decide) rfl rfl ?_
  refine v_iconst (v := 0) (q := 3) dX12_isSet_2 (by decide) rfl ?_
  refine v_istore_n (L' := [(3, .int (0 : Int32)), (2, .int (0 : Int32)), (0, .ref v0), (1, .int v1)]) (q := 4) dX12_isSet_3 rfl (by decide) rfl rfl ?_
  obtain ⟨e12, e12L, H⟩ := bs H
  refine V.sub [2, 3, 1, 0] rfl ?_
  refine lp_V (P := (fun s4 => V Γ d mX12_isSet 4 [(0, .ref v0), (1, .int v1), (2, .int s4.1), (3, .int s4.2)] [] h (some (.int r), h))) (E := (fun e => V Γ d mX12_isSet 50 [(0, .ref v0), (1, .int v1), (2, .int e)] [] h (some (.int r), h))) (fun s r hb kI kE => sbX12_isSet_4 hd (s4 := s) (r := r) hb kI kE) FU ((0 : Int32), (0 : Int32)) e12 e12L ?_
  refine v_iload_n (q := 51) 2 dX12_isSet_50 rfl rfl rfl ?_
  refine v_if_eq (q1 := 76) (q2 := 54) dX12_isSet_51 (by decide) rfl (fun c13 => ?_) (fun c13 => ?_)
  · have H := ip c13 H
    exact V.sub [] rfl (sjX12_isSet_76 hd H)
  · have H := ine c13 H
    refine v_iload_n (q := 55) 1 dX12_isSet_54 rfl rfl rfl ?_
    refine v_if_lt (q1 := 76) (q2 := 58) dX12_isSet_55 (by decide) rfl (fun c15 => ?_) (fun c15 => ?_)
    · have H := ip c15 H
      exact V.sub [] rfl (sjX12_isSet_76 hd H)
    · have H := ine c15 H
      refine v_iload_n (q := 59) 1 dX12_isSet_58 rfl rfl rfl ?_
      refine v_aload_n (q := 60) 0 dX12_isSet_59 rfl rfl rfl ?_
      obtain ⟨x16, x16e, H⟩ := bs H
      refine u_gR (q := 63) (r := (RX12, TX12, 58)) x16e dX12_isSet_60 w1359 rfl (by decide) rfl rfl ?_
      refine v_aload_n (q := 64) 0 dX12_isSet_63 rfl rfl rfl ?_
      obtain ⟨x17, x17e, H⟩ := bs H
      refine u_gI (q := 67) (r := (RX12, TX12, 58)) x17e dX12_isSet_64 w1365 rfl (by decide) rfl rfl ?_
      obtain ⟨x18, x18e, H⟩ := bs H
      refine u_lI (q := 68) x18e dX12_isSet_67 rfl ?_
      refine v_ishr (q := 69) dX12_isSet_68 rfl ?_
      refine v_if_ne (q1 := 76) (q2 := 72) dX12_isSet_69 (by decide) rfl (fun c19 => ?_) (fun c19 => ?_)
      · have H := ine c19 H
        exact V.sub [] rfl (sjX12_isSet_76 hd H)
      · have H := ip c19 H
        refine v_iconst (v := 1) (q := 73) dX12_isSet_72 (by decide) rfl ?_
        refine v_goto (q := 77) dX12_isSet_73 (by decide) ?_
        exact V.sub [] rfl (sjX12_isSet_77 hd H)
def mX12_pack : MI := (yX12_pack, cX12_pack, 4, none)
theorem oX12_pack : mOK mX12_pack 1 := ⟨by decide +kernel, by decide +kernel, by decide +kernel, by decide, w1868, w0150⟩
def bX12_pack_6 (u0 : Nat) (u2 : Int32) (s6 : Int32 × Hp) : Option ((Int32 × Hp) ⊕ (Hp)) :=
if (5 : Int32) ≤ s6.1 then (
some (.inr s6.2)) else (
(gR s6.2 12 u0 41).bind fun x3 =>
(tI s6.2 x3 (u2 + s6.1) (0 : Int32)).bind fun h4 =>
(some (s6.1 + (1 : Int32))).bind fun x5 =>
some (.inl (x5, h4)))
set_option maxRecDepth 20000 in
set_option maxHeartbeats 4000000 in
theorem sbX12_pack_6 {Γ : Gm} {d : Nat} (hd : 1 ≤ d) {u0 : Nat} {u2 : Int32} {s6 : Int32 × Hp} {r : (Int32 × Hp) ⊕ (Hp)} {t : Option Value × Hp} (H : bX12_pack_6 u0 u2 s6 = some r) (kI : ∀ s, r = .inl s → (fun s6 => V Γ d mX12_pack 6 [(0, .ref u0), (2, .int u2), (3, .int s6.1)] [] s6.2 t) s) (kE : ∀ e, r = .inr e → (fun e => V Γ d mX12_pack 26 [(0, .ref u0), (2, .int u2)] [] e t) e) : V Γ d mX12_pack 6 [(0, .ref u0), (2, .int u2), (3, .int s6.1)] [] s6.2 t := by
  unfold bX12_pack_6 at H
  refine v_iload_n (q := 7) 2 dX12_pack_6 rfl rfl rfl ?_
  refine v_iconst (v := 5) (q := 8) dX12_pack_7 (by decide) rfl ?_
  refine v_icmp_ge (q1 := 26) (q2 := 11) dX12_pack_8 (by decide) rfl (fun c2 => ?_) (fun c2 => ?_)
  · have H := ip c2 H
    exact V.sub [0, 1] rfl (kE s6.2 (Option.some.inj H).symm)
  · have H := ine c2 H
    refine v_aload_n (q := 12) 0 dX12_pack_11 rfl rfl rfl ?_
    obtain ⟨x3, x3e, H⟩ := bs H
    refine u_gR (q := 15) (r := (RX12, TX12, 58)) x3e dX12_pack_12 w1397 rfl (by decide) rfl rfl ?_
    refine v_iload_n (q := 16) 1 dX12_pack_15 rfl rfl rfl ?_
    refine v_iload_n (q := 17) 2 dX12_pack_16 rfl rfl rfl ?_
    refine v_iadd (q := 18) dX12_pack_17 rfl ?_
    refine v_iconst (v := 0) (q := 19) dX12_pack_18 (by decide) rfl ?_
    obtain ⟨h4, h4e, H⟩ := bs H
    refine u_tI (q := 20) h4e dX12_pack_19 rfl ?_
    obtain ⟨x5, x5e, H⟩ := bs H
    refine v_iinc (v := x5) (L' := [(3, .int x5), (0, .ref u0), (2, .int u2)]) (q := 23) 2 dX12_pack_20 rfl (Option.some.inj x5e) (by decide) rfl rfl ?_
    refine v_goto (q := 6) dX12_pack_23 (by decide) ?_
    exact V.sub [1, 2, 0] rfl (kI (x5, h4) (Option.some.inj H).symm)
def bX12_pack_28 (u0 : Nat) (u2 : Int32) (s28 : Int32 × Hp) : Option ((Int32 × Hp) ⊕ (Hp)) :=
if (6 : Int32) ≤ s28.1 then (
some (.inr s28.2)) else (
(gR s28.2 12 u0 41).bind fun x8 =>
(lI s28.2 .int x8 u2).bind fun x9 =>
(gR s28.2 12 u0 36).bind fun x10 =>
(lI s28.2 .int x10 s28.1).bind fun x11 =>
(tI s28.2 x8 u2 (x9 ||| ((x11 + (1 : Int32)) <<< (((4 : Int32) * s28.1) &&& 31)))).bind fun h12 =>
(gR h12 12 u0 41).bind fun x13 =>
(lI h12 .int x13 (u2 + (1 : Int32))).bind fun x14 =>
(gR h12 12 u0 37).bind fun x15 =>
(lI h12 .int x15 s28.1).bind fun x16 =>
(tI h12 x13 (u2 + (1 : Int32)) (x14 ||| ((x16 + (1 : Int32)) <<< (((3 : Int32) * s28.1) &&& 31)))).bind fun h17 =>
(some (s28.1 + (1 : Int32))).bind fun x18 =>
some (.inl (x18, h17)))
set_option maxRecDepth 20000 in
set_option maxHeartbeats 4000000 in
theorem sbX12_pack_28 {Γ : Gm} {d : Nat} (hd : 1 ≤ d) {u0 : Nat} {u2 : Int32} {s28 : Int32 × Hp} {r : (Int32 × Hp) ⊕ (Hp)} {t : Option Value × Hp} (H : bX12_pack_28 u0 u2 s28 = some r) (kI : ∀ s, r = .inl s → (fun s28 => V Γ d mX12_pack 28 [(0, .ref u0), (2, .int u2), (3, .int s28.1)] [] s28.2 t) s) (kE : ∀ e, r = .inr e → (fun e => V Γ d mX12_pack 84 [(0, .ref u0), (2, .int u2)] [] e t) e) : V Γ d mX12_pack 28 [(0, .ref u0), (2, .int u2), (3, .int s28.1)] [] s28.2 t := by
  unfold bX12_pack_28 at H
  refine v_iload_n (q := 29) 2 dX12_pack_28 rfl rfl rfl ?_
  refine v_bipush (v := 6) (q := 31) dX12_pack_29 (by decide) rfl ?_
  refine v_icmp_ge (q1 := 84) (q2 := 34) dX12_pack_31 (by decide) rfl (fun c7 => ?_) (fun c7 => ?_)
  · have H := ip c7 H
    exact V.sub [0, 1] rfl (kE s28.2 (Option.some.inj H).symm)
  · have H := ine c7 H
    refine v_aload_n (q := 35) 0 dX12_pack_34 rfl rfl rfl ?_
    obtain ⟨x8, x8e, H⟩ := bs H
    refine u_gR (q := 38) (r := (RX12, TX12, 58)) x8e dX12_pack_35 w1397 rfl (by decide) rfl rfl ?_
    refine v_iload_n (q := 39) 1 dX12_pack_38 rfl rfl rfl ?_
    refine v_dup2 (q := 40) dX12_pack_39 rfl rfl rfl ?_
    obtain ⟨x9, x9e, H⟩ := bs H
    refine u_lI (q := 41) x9e dX12_pack_40 rfl ?_
    refine v_aload_n (q := 42) 0 dX12_pack_41 rfl rfl rfl ?_
    obtain ⟨x10, x10e, H⟩ := bs H
    refine u_gR (q := 45) (r := (RX12, TX12, 58)) x10e dX12_pack_42 w1392 rfl (by decide) rfl rfl ?_
    refine v_iload_n (q := 46) 2 dX12_pack_45 rfl rfl rfl ?_
    obtain ⟨x11, x11e, H⟩ := bs H
    refine u_lI (q := 47) x11e dX12_pack_46 rfl ?_
    refine v_iconst (v := 1) (q := 48) dX12_pack_47 (by decide) rfl ?_
    refine v_iadd (q := 49) dX12_pack_48 rfl ?_
    refine v_iconst (v := 4) (q := 50) dX12_pack_49 (by decide) rfl ?_
    refine v_iload_n (q := 51) 2 dX12_pack_50 rfl rfl rfl ?_
    refine v_imul (q := 52) dX12_pack_51 rfl ?_
    refine v_ishl (q := 53) dX12_pack_52 rfl ?_
    refine v_ior (q := 54) dX12_pack_53 rfl ?_
    obtain ⟨h12, h12e, H⟩ := bs H
    refine u_tI (q := 55) h12e dX12_pack_54 rfl ?_
    refine v_aload_n (q := 56) 0 dX12_pack_55 rfl rfl rfl ?_
    obtain ⟨x13, x13e, H⟩ := bs H
    refine u_gR (q := 59) (r := (RX12, TX12, 58)) x13e dX12_pack_56 w1397 rfl (by decide) rfl rfl ?_
    refine v_iload_n (q := 60) 1 dX12_pack_59 rfl rfl rfl ?_
    refine v_iconst (v := 1) (q := 61) dX12_pack_60 (by decide) rfl ?_
    refine v_iadd (q := 62) dX12_pack_61 rfl ?_
    refine v_dup2 (q := 63) dX12_pack_62 rfl rfl rfl ?_
    obtain ⟨x14, x14e, H⟩ := bs H
    refine u_lI (q := 64) x14e dX12_pack_63 rfl ?_
    refine v_aload_n (q := 65) 0 dX12_pack_64 rfl rfl rfl ?_
    obtain ⟨x15, x15e, H⟩ := bs H
    refine u_gR (q := 68) (r := (RX12, TX12, 58)) x15e dX12_pack_65 w1393 rfl (by decide) rfl rfl ?_
    refine v_iload_n (q := 69) 2 dX12_pack_68 rfl rfl rfl ?_
    obtain ⟨x16, x16e, H⟩ := bs H
    refine u_lI (q := 70) x16e dX12_pack_69 rfl ?_
    refine v_iconst (v := 1) (q := 71) dX12_pack_70 (by decide) rfl ?_
    refine v_iadd (q := 72) dX12_pack_71 rfl ?_
    refine v_iconst (v := 3) (q := 73) dX12_pack_72 (by decide) rfl ?_
    refine v_iload_n (q := 74) 2 dX12_pack_73 rfl rfl rfl ?_
    refine v_imul (q := 75) dX12_pack_74 rfl ?_
    refine v_ishl (q := 76) dX12_pack_75 rfl ?_
    refine v_ior (q := 77) dX12_pack_76 rfl ?_
    obtain ⟨h17, h17e, H⟩ := bs H
    refine u_tI (q := 78) h17e dX12_pack_77 rfl ?_
    obtain ⟨x18, x18e, H⟩ := bs H
    refine v_iinc (v := x18) (L' := [(3, .int x18), (0, .ref u0), (2, .int u2)]) (q := 81) 2 dX12_pack_78 rfl (Option.some.inj x18e) (by decide) rfl rfl ?_
    refine v_goto (q := 28) dX12_pack_81 (by decide) ?_
    exact V.sub [1, 2, 0] rfl (kI (x18, h17) (Option.some.inj H).symm)
def jX12_pack_130 (u0 : Nat) (u2 : Int32) (v3 : Int32) (y0 : Int32) (y1 : Int32) (y2 : Nat) (h : Hp) : Option ((Int32 × Hp) ⊕ (Hp)) :=
(lI h .int y2 (y1 + y0)).bind fun x28 =>
(gR h 12 u0 39).bind fun x29 =>
(lI h .int x29 v3).bind fun x30 =>
(tI h y2 (y1 + y0) (x28 ||| (x30 <<< (((6 : Int32) * (v3 - v3 / (5 : Int32) * (5 : Int32))) &&& 31)))).bind fun h31 =>
(some (v3 + (1 : Int32))).bind fun x32 =>
some (.inl (x32, h31))
set_option maxRecDepth 20000 in
set_option maxHeartbeats 4000000 in
theorem sjX12_pack_130 {Γ : Gm} {d : Nat} (hd : 1 ≤ d) {u0 : Nat} {u2 : Int32} {v3 : Int32} {y0 : Int32} {y1 : Int32} {y2 : Nat} {h : Hp} {r : (Int32 × Hp) ⊕ (Hp)} {t : Option Value × Hp} (H : jX12_pack_130 u0 u2 v3 y0 y1 y2 h = some r) (kI : ∀ s, r = .inl s → (fun s86 => V Γ d mX12_pack 86 [(0, .ref u0), (2, .int u2), (3, .int s86.1)] [] s86.2 t) s) (kE : ∀ e, r = .inr e → (fun e => V Γ d mX12_pack 154 [] [] e t) e) : V Γ d mX12_pack 130 [(0, .ref u0), (2, .int u2), (3, .int v3)] [.int y0, .int y1, .ref y2] h t := by
  unfold jX12_pack_130 at H
  refine v_iadd (q := 131) dX12_pack_130 rfl ?_
  refine v_dup2 (q := 132) dX12_pack_131 rfl rfl rfl ?_
  obtain ⟨x28, x28e, H⟩ := bs H
  refine u_lI (q := 133) x28e dX12_pack_132 rfl ?_
  refine v_aload_n (q := 134) 0 dX12_pack_133 rfl rfl rfl ?_
  obtain ⟨x29, x29e, H⟩ := bs H
  refine u_gR (q := 137) (r := (RX12, TX12, 58)) x29e dX12_pack_134 w1395 rfl (by decide) rfl rfl ?_
  refine v_iload_n (q := 138) 2 dX12_pack_137 rfl rfl rfl ?_
  obtain ⟨x30, x30e, H⟩ := bs H
  refine u_lI (q := 139) x30e dX12_pack_138 rfl ?_
  refine v_bipush (v := 6) (q := 141) dX12_pack_139 (by decide) rfl ?_
  refine v_iload_n (q := 142) 2 dX12_pack_141 rfl rfl rfl ?_
  refine v_iconst (v := 5) (q := 143) dX12_pack_142 (by decide) rfl ?_
  refine v_irem (q := 144) dX12_pack_143 (by decide) rfl ?_
  refine v_imul (q := 145) dX12_pack_144 rfl ?_
  refine v_ishl (q := 146) dX12_pack_145 rfl ?_
  refine v_ior (q := 147) dX12_pack_146 rfl ?_
  obtain ⟨h31, h31e, H⟩ := bs H
  refine u_tI (q := 148) h31e dX12_pack_147 rfl ?_
  obtain ⟨x32, x32e, H⟩ := bs H
  refine v_iinc (v := x32) (L' := [(3, .int x32), (0, .ref u0), (2, .int u2)]) (q := 151) 2 dX12_pack_148 rfl (Option.some.inj x32e) (by decide) rfl rfl ?_
  refine v_goto (q := 86) dX12_pack_151 (by decide) ?_
  exact V.sub [1, 2, 0] rfl (kI (x32, h31) (Option.some.inj H).symm)
def bX12_pack_86 (u0 : Nat) (u2 : Int32) (s86 : Int32 × Hp) : Option ((Int32 × Hp) ⊕ (Hp)) :=
if (10 : Int32) ≤ s86.1 then (
some (.inr s86.2)) else (
(gR s86.2 12 u0 41).bind fun x21 =>
(lI s86.2 .int x21 (u2 + (2 : Int32))).bind fun x22 =>
(gR s86.2 12 u0 38).bind fun x23 =>
(lI s86.2 .int x23 s86.1).bind fun x24 =>
(tI s86.2 x21 (u2 + (2 : Int32)) (x22 ||| ((x24 + (1 : Int32)) <<< (((3 : Int32) * s86.1) &&& 31)))).bind fun h25 =>
(gR h25 12 u0 41).bind fun x26 =>
if (5 : Int32) ≤ s86.1 then (
jX12_pack_130 u0 u2 s86.1 (4 : Int32) u2 x26 h25) else (
jX12_pack_130 u0 u2 s86.1 (3 : Int32) u2 x26 h25))
set_option maxRecDepth 20000 in
set_option maxHeartbeats 4000000 in
theorem sbX12_pack_86 {Γ : Gm} {d : Nat} (hd : 1 ≤ d) {u0 : Nat} {u2 : Int32} {s86 : Int32 × Hp} {r : (Int32 × Hp) ⊕ (Hp)} {t : Option Value × Hp} (H : bX12_pack_86 u0 u2 s86 = some r) (kI : ∀ s, r = .inl s → (fun s86 => V Γ d mX12_pack 86 [(0, .ref u0), (2, .int u2), (3, .int s86.1)] [] s86.2 t) s) (kE : ∀ e, r = .inr e → (fun e => V Γ d mX12_pack 154 [] [] e t) e) : V Γ d mX12_pack 86 [(0, .ref u0), (2, .int u2), (3, .int s86.1)] [] s86.2 t := by
  unfold bX12_pack_86 at H
  refine v_iload_n (q := 87) 2 dX12_pack_86 rfl rfl rfl ?_
  refine v_bipush (v := 10) (q := 89) dX12_pack_87 (by decide) rfl ?_
  refine v_icmp_ge (q1 := 154) (q2 := 92) dX12_pack_89 (by decide) rfl (fun c20 => ?_) (fun c20 => ?_)
  · have H := ip c20 H
    exact V.sub [] rfl (kE s86.2 (Option.some.inj H).symm)
  · have H := ine c20 H
    refine v_aload_n (q := 93) 0 dX12_pack_92 rfl rfl rfl ?_
    obtain ⟨x21, x21e, H⟩ := bs H
    refine u_gR (q := 96) (r := (RX12, TX12, 58)) x21e dX12_pack_93 w1397 rfl (by decide) rfl rfl ?_
    refine v_iload_n (q := 97) 1 dX12_pack_96 rfl rfl rfl ?_
    refine v_iconst (v := 2) (q := 98) dX12_pack_97 (by decide) rfl ?_
    refine v_iadd (q := 99) dX12_pack_98 rfl ?_
    refine v_dup2 (q := 100) dX12_pack_99 rfl rfl rfl ?_
    obtain ⟨x22, x22e, H⟩ := bs H
    refine u_lI (q := 101) x22e dX12_pack_100 rfl ?_
    refine v_aload_n (q := 102) 0 dX12_pack_101 rfl rfl rfl ?_
    obtain ⟨x23, x23e, H⟩ := bs H
    refine u_gR (q := 105) (r := (RX12, TX12, 58)) x23e dX12_pack_102 w1394 rfl (by decide) rfl rfl ?_
    refine v_iload_n (q := 106) 2 dX12_pack_105 rfl rfl rfl ?_
    obtain ⟨x24, x24e, H⟩ := bs H
    refine u_lI (q := 107) x24e dX12_pack_106 rfl ?_
    refine v_iconst (v := 1) (q := 108) dX12_pack_107 (by decide) rfl ?_
    refine v_iadd (q := 109) dX12_pack_108 rfl ?_
    refine v_iconst (v := 3) (q := 110) dX12_pack_109 (by decide) rfl ?_
    refine v_iload_n (q := 111) 2 dX12_pack_110 rfl rfl rfl ?_
    refine v_imul (q := 112) dX12_pack_111 rfl ?_
    refine v_ishl (q := 113) dX12_pack_112 rfl ?_
    refine v_ior (q := 114) dX12_pack_113 rfl ?_
    obtain ⟨h25, h25e, H⟩ := bs H
    refine u_tI (q := 115) h25e dX12_pack_114 rfl ?_
    refine v_aload_n (q := 116) 0 dX12_pack_115 rfl rfl rfl ?_
    obtain ⟨x26, x26e, H⟩ := bs H
    refine u_gR (q := 119) (r := (RX12, TX12, 58)) x26e dX12_pack_116 w1397 rfl (by decide) rfl rfl ?_
    refine v_iload_n (q := 120) 1 dX12_pack_119 rfl rfl rfl ?_
    refine v_iload_n (q := 121) 2 dX12_pack_120 rfl rfl rfl ?_
    refine v_iconst (v := 5) (q := 122) dX12_pack_121 (by decide) rfl ?_
    refine v_icmp_ge (q1 := 129) (q2 := 125) dX12_pack_122 (by decide) rfl (fun c27 => ?_) (fun c27 => ?_)
    · have H := ip c27 H
      refine v_iconst (v := 4) (q := 130) dX12_pack_129 (by decide) rfl ?_
      exact V.sub [0, 1, 2] rfl (sjX12_pack_130 hd H kI kE)
    · have H := ine c27 H
      refine v_iconst (v := 3) (q := 126) dX12_pack_125 (by decide) rfl ?_
      refine v_goto (q := 130) dX12_pack_126 (by decide) ?_
      exact V.sub [0, 1, 2] rfl (sjX12_pack_130 hd H kI kE)
def fX12_pack (h : Hp) (v0 : Nat) (v1 : Int32) : Option (Hp) :=
(some ((5 : Int32) * v1)).bind fun x1 =>
(lp (bX12_pack_6 v0 x1) FU ((0 : Int32), h)).bind fun e6 =>
(lp (bX12_pack_28 v0 x1) FU ((0 : Int32), e6)).bind fun e19 =>
(lp (bX12_pack_86 v0 x1) FU ((0 : Int32), e19)).bind fun e33 =>
some e33
set_option maxRecDepth 20000 in
set_option maxHeartbeats 4000000 in
theorem sX12_pack {Γ : Gm} {d : Nat} (hd : 1 ≤ d) {h : Hp} {v0 : Nat} {v1 : Int32} {r : Hp} (H : fX12_pack h v0 v1 = some r) : V Γ d mX12_pack 0 [(0, .ref v0), (1, .int v1)] [] h (none, r) := by
  unfold fX12_pack at H
  refine v_iconst (v := 5) (q := 1) dX12_pack_0 (by decide) rfl ?_
  refine v_iload_n (q := 2) 1 dX12_pack_1 rfl rfl rfl ?_
  refine v_imul (q := 3) dX12_pack_2 rfl ?_
  obtain ⟨x1, x1e, H⟩ := bs H
  refine v_topi (Option.some.inj x1e) ?_
  refine v_istore_n (L' := [(2, .int x1), (0, .ref v0), (1, .int v1)]) (q := 4) dX12_pack_3 rfl (by decide) rfl rfl ?_
  refine v_iconst (v := 0) (q := 5) dX12_pack_4 (by decide) rfl ?_
  refine v_istore_n (L' := [(3, .int (0 : Int32)), (2, .int x1), (0, .ref v0), (1, .int v1)]) (q := 6) dX12_pack_5 rfl (by decide) rfl rfl ?_
  obtain ⟨e6, e6L, H⟩ := bs H
  refine V.sub [2, 1, 0] rfl ?_
  refine lp_V (P := (fun s6 => V Γ d mX12_pack 6 [(0, .ref v0), (2, .int x1), (3, .int s6.1)] [] s6.2 (none, r))) (E := (fun e => V Γ d mX12_pack 26 [(0, .ref v0), (2, .int x1)] [] e (none, r))) (fun s r hb kI kE => sbX12_pack_6 hd (s6 := s) (r := r) hb kI kE) FU ((0 : Int32), h) e6 e6L ?_
  refine v_iconst (v := 0) (q := 27) dX12_pack_26 (by decide) rfl ?_
  refine v_istore_n (L' := [(3, .int (0 : Int32)), (0, .ref v0), (2, .int x1)]) (q := 28) dX12_pack_27 rfl (by decide) rfl rfl ?_
  obtain ⟨e19, e19L, H⟩ := bs H
  refine V.sub [1, 2, 0] rfl ?_
  refine lp_V (P := (fun s28 => V Γ d mX12_pack 28 [(0, .ref v0), (2, .int x1), (3, .int s28.1)] [] s28.2 (none, r))) (E := (fun e => V Γ d mX12_pack 84 [(0, .ref v0), (2, .int x1)] [] e (none, r))) (fun s r hb kI kE => sbX12_pack_28 hd (s28 := s) (r := r) hb kI kE) FU ((0 : Int32), e6) e19 e19L ?_
  refine v_iconst (v := 0) (q := 85) dX12_pack_84 (by decide) rfl ?_
  refine v_istore_n (L' := [(3, .int (0 : Int32)), (0, .ref v0), (2, .int x1)]) (q := 86) dX12_pack_85 rfl (by decide) rfl rfl ?_
  obtain ⟨e33, e33L, H⟩ := bs H
  refine V.sub [1, 2, 0] rfl ?_
  refine lp_V (P := (fun s86 => V Γ d mX12_pack 86 [(0, .ref v0), (2, .int x1), (3, .int s86.1)] [] s86.2 (none, r))) (E := (fun e => V Γ d mX12_pack 154 [] [] e (none, r))) (fun s r hb kI kE => sbX12_pack_86 hd (s86 := s) (r := r) hb kI kE) FU ((0 : Int32), e19) e33 e33L ?_
  cases H
  exact v_return rfl dX12_pack_154
def mX12_isLike : MI := (yX12_isLike, cX12_isLike, 4, some .boolean)
theorem oX12_isLike : mOK mX12_isLike 2 := ⟨by decide +kernel, by decide +kernel, by decide +kernel, by decide, w1872, w0150⟩
def bX12_isLike_2 (u0 : Nat) (u1 : Int32) (u2 : Int32) (h : Hp) (s2 : Int32) : Option ((Int32) ⊕ ((Unit) ⊕ (Unit))) :=
if (5 : Int32) ≤ s2 then (
some (.inr (.inl ()))) else (
(gR h 12 u0 41).bind fun x2 =>
(lI h .int x2 (((5 : Int32) * u1) + s2)).bind fun x3 =>
(gR h 12 u0 41).bind fun x4 =>
(lI h .int x4 (((5 : Int32) * u2) + s2)).bind fun x5 =>
if x3 = x5 then (
(some (s2 + (1 : Int32))).bind fun x7 =>
some (.inl x7)) else (
some (.inr (.inr ()))))
set_option maxRecDepth 20000 in
set_option maxHeartbeats 4000000 in
theorem sbX12_isLike_2 {Γ : Gm} {d : Nat} (hd : 1 ≤ d) {u0 : Nat} {u1 : Int32} {u2 : Int32} {h : Hp} {s2 : Int32} {r : (Int32) ⊕ ((Unit) ⊕ (Unit))} {t : Option Value × Hp} (H : bX12_isLike_2 u0 u1 u2 h s2 = some r) (kI : ∀ s, r = .inl s → (fun s2 => V Γ d mX12_isLike 2 [(0, .ref u0), (1, .int u1), (2, .int u2), (3, .int s2)] [] h t) s) (kE : ∀ e, r = .inr e → (fun e => (match e with | .inl a0 => V Γ d mX12_isLike 38 [] [] h t | .inr b0 => V Γ d mX12_isLike 30 [] [] h t)) e) : V Γ d mX12_isLike 2 [(0, .ref u0), (1, .int u1), (2, .int u2), (3, .int s2)] [] h t := by
  unfold bX12_isLike_2 at H
  refine v_iload_n (q := 3) 3 dX12_isLike_2 rfl rfl rfl ?_
  refine v_iconst (v := 5) (q := 4) dX12_isLike_3 (by decide) rfl ?_
  refine v_icmp_ge (q1 := 38) (q2 := 7) dX12_isLike_4 (by decide) rfl (fun c1 => ?_) (fun c1 => ?_)
  · have H := ip c1 H
    exact V.sub [] rfl (kE (.inl ()) (Option.some.inj H).symm)
  · have H := ine c1 H
    refine v_aload_n (q := 8) 0 dX12_isLike_7 rfl rfl rfl ?_
    obtain ⟨x2, x2e, H⟩ := bs H
    refine u_gR (q := 11) (r := (RX12, TX12, 58)) x2e dX12_isLike_8 w1397 rfl (by decide) rfl rfl ?_
    refine v_iconst (v := 5) (q := 12) dX12_isLike_11 (by decide) rfl ?_
    refine v_iload_n (q := 13) 1 dX12_isLike_12 rfl rfl rfl ?_
    refine v_imul (q := 14) dX12_isLike_13 rfl ?_
    refine v_iload_n (q := 15) 3 dX12_isLike_14 rfl rfl rfl ?_
    refine v_iadd (q := 16) dX12_isLike_15 rfl ?_
    obtain ⟨x3, x3e, H⟩ := bs H
    refine u_lI (q := 17) x3e dX12_isLike_16 rfl ?_
    refine v_aload_n (q := 18) 0 dX12_isLike_17 rfl rfl rfl ?_
    obtain ⟨x4, x4e, H⟩ := bs H
    refine u_gR (q := 21) (r := (RX12, TX12, 58)) x4e dX12_isLike_18 w1397 rfl (by decide) rfl rfl ?_
    refine v_iconst (v := 5) (q := 22) dX12_isLike_21 (by decide) rfl ?_
    refine v_iload_n (q := 23) 2 dX12_isLike_22 rfl rfl rfl ?_
    refine v_imul (q := 24) dX12_isLike_23 rfl ?_
    refine v_iload_n (q := 25) 3 dX12_isLike_24 rfl rfl rfl ?_
    refine v_iadd (q := 26) dX12_isLike_25 rfl ?_
    obtain ⟨x5, x5e, H⟩ := bs H
    refine u_lI (q := 27) x5e dX12_isLike_26 rfl ?_
    refine v_icmp_eq (q1 := 32) (q2 := 30) dX12_isLike_27 (by decide) rfl (fun c6 => ?_) (fun c6 => ?_)
    · have H := ip c6 H
      obtain ⟨x7, x7e, H⟩ := bs H
      refine v_iinc (v := x7) (L' := [(3, .int x7), (0, .ref u0), (1, .int u1), (2, .int u2)]) (q := 35) 3 dX12_isLike_32 rfl (Option.some.inj x7e) (by decide) rfl rfl ?_
      refine v_goto (q := 2) dX12_isLike_35 (by decide) ?_
      exact V.sub [1, 2, 3, 0] rfl (kI x7 (Option.some.inj H).symm)
    · have H := ine c6 H
      exact V.sub [] rfl (kE (.inr ()) (Option.some.inj H).symm)
def fX12_isLike (h : Hp) (v0 : Nat) (v1 : Int32) (v2 : Int32) : Option (Int32) :=
(lp (bX12_isLike_2 v0 v1 v2 h) FU (0 : Int32)).bind fun e8 =>
(match e8 with
| .inl e9 => (
some (1 : Int32))
| .inr e10 => (
some (0 : Int32)))
set_option maxRecDepth 20000 in
set_option maxHeartbeats 4000000 in
theorem sX12_isLike {Γ : Gm} {d : Nat} (hd : 1 ≤ d) {h : Hp} {v0 : Nat} {v1 : Int32} {v2 : Int32} {r : Int32} (H : fX12_isLike h v0 v1 v2 = some r) : V Γ d mX12_isLike 0 [(0, .ref v0), (1, .int v1), (2, .int v2)] [] h (some (.int r), h) := by
  unfold fX12_isLike at H
  refine v_iconst (v := 0) (q := 1) dX12_isLike_0 (by decide) rfl ?_
  refine v_istore_n (L' := [(3, .int (0 : Int32)), (0, .ref v0), (1, .int v1), (2, .int v2)]) (q := 2) dX12_isLike_1 rfl (by decide) rfl rfl ?_
  obtain ⟨e8, e8L, H⟩ := bs H
  refine V.sub [1, 2, 3, 0] rfl ?_
  refine lp_V (P := (fun s2 => V Γ d mX12_isLike 2 [(0, .ref v0), (1, .int v1), (2, .int v2), (3, .int s2)] [] h (some (.int r), h))) (E := (fun e => (match e with | .inl a0 => V Γ d mX12_isLike 38 [] [] h (some (.int r), h) | .inr b0 => V Γ d mX12_isLike 30 [] [] h (some (.int r), h)))) (fun s r hb kI kE => sbX12_isLike_2 hd (s2 := s) (r := r) hb kI kE) FU (0 : Int32) e8 e8L ?_
  rcases e8 with e9 | e10
  · skip
    refine v_iconst (v := 1) (q := 39) dX12_isLike_38 (by decide) rfl ?_
    cases H
    exact v_zreturn rfl (by decide) dX12_isLike_39
  · skip
    refine v_iconst (v := 0) (q := 31) dX12_isLike_30 (by decide) rfl ?_
    cases H
    exact v_zreturn rfl (by decide) dX12_isLike_31
def mX12_isTask : MI := (yX12_isTask, cX12_isTask, 2, some .boolean)
theorem oX12_isTask : mOK mX12_isTask 1 := ⟨by decide +kernel, by decide +kernel, by decide +kernel, by decide, w1884, w0150⟩
def jX12_isTask_21 (y0 : Int32) (h : Hp) : Option (Int32) :=
(bz y0).bind fun x4 =>
some x4
set_option maxRecDepth 20000 in
set_option maxHeartbeats 4000000 in
theorem sjX12_isTask_21 {Γ : Gm} {d : Nat} (hd : 3 ≤ d) {y0 : Int32} {h : Hp} {r : Int32} (H : jX12_isTask_21 y0 h = some r) : V Γ d mX12_isTask 21 [] [.int y0] h (some (.int r), h) := by
  unfold jX12_isTask_21 at H
  obtain ⟨x4, x4e, H⟩ := bs H
  obtain ⟨x4q, x4z⟩ := bz_sp x4e
  refine v_topi x4q.symm ?_
  cases H
  exact v_zreturn rfl (by rw [x4q]; exact x4z) dX12_isTask_21
def jX12_isTask_20 (h : Hp) : Option (Int32) :=
jX12_isTask_21 (0 : Int32) h
set_option maxRecDepth 20000 in
set_option maxHeartbeats 4000000 in
theorem sjX12_isTask_20 {Γ : Gm} {d : Nat} (hd : 3 ≤ d) {h : Hp} {r : Int32} (H : jX12_isTask_20 h = some r) : V Γ d mX12_isTask 20 [] [] h (some (.int r), h) := by
  unfold jX12_isTask_20 at H
  refine v_iconst (v := 0) (q := 21) dX12_isTask_20 (by decide) rfl ?_
  exact V.sub [] rfl (sjX12_isTask_21 hd H)
def fX12_isTask (h : Hp) (v0 : Nat) (v1 : Int32) : Option (Int32) :=
(gO h 12 v0).bind fun _ =>
(fX12_isIn0 h v0 v1).bind fun x2 =>
if x2 = 0 then (
jX12_isTask_20 h) else (
(gO h 12 v0).bind fun _ =>
(fX12_sortOf h v0 v1).bind fun x6 =>
if x6 = 0 then (
jX12_isTask_21 (1 : Int32) h) else (
jX12_isTask_20 h))
set_option maxRecDepth 20000 in
set_option maxHeartbeats 4000000 in
theorem sX12_isTask {Γ : Gm} {d : Nat} (hd : 3 ≤ d) {h : Hp} {v0 : Nat} {v1 : Int32} {r : Int32} (H : fX12_isTask h v0 v1 = some r) : V Γ d mX12_isTask 0 [(0, .ref v0), (1, .int v1)] [] h (some (.int r), h) := by
  unfold fX12_isTask at H
  refine v_aload_n (q := 1) 0 dX12_isTask_0 rfl rfl rfl ?_
  refine v_iload_n (q := 2) 1 dX12_isTask_1 rfl rfl rfl ?_
  obtain ⟨_, o1, H⟩ := bs H
  obtain ⟨x2, x2e, H⟩ := bs H
  refine u_callV1 (M' := mX12_isIn0) (d' := 2) (rc := (RX12, TX12, 58)) (As := [.int v1]) (st := []) (q := 5) oX12_isIn0 dX12_isTask_2 w1857 w1859 w0109 rfl rfl (gO_sp o1).1 (gO_sp o1).2 rfl (Nat.le_of_ble_eq_true rfl) (Nat.le_of_ble_eq_true rfl) (Nat.lt_of_lt_of_le (by decide) hd) rfl (sX12_isIn0 (Nat.le_refl _) x2e) rfl ?_
  refine v_if_eq (q1 := 20) (q2 := 8) dX12_isTask_5 (by decide) rfl (fun c3 => ?_) (fun c3 => ?_)
  · have H := ip c3 H
    exact V.sub [] rfl (sjX12_isTask_20 hd H)
  · have H := ine c3 H
    refine v_aload_n (q := 9) 0 dX12_isTask_8 rfl rfl rfl ?_
    refine v_iload_n (q := 10) 1 dX12_isTask_9 rfl rfl rfl ?_
    obtain ⟨_, o5, H⟩ := bs H
    obtain ⟨x6, x6e, H⟩ := bs H
    refine u_callV1 (M' := mX12_sortOf) (d' := 1) (rc := (RX12, TX12, 58)) (As := [.int v1]) (st := []) (q := 13) oX12_sortOf dX12_isTask_10 w1718 w1720 w0092 rfl rfl (gO_sp o5).1 (gO_sp o5).2 rfl (Nat.le_of_ble_eq_true rfl) (Nat.le_of_ble_eq_true rfl) (Nat.lt_of_lt_of_le (by decide) hd) rfl (sX12_sortOf (Nat.le_refl _) x6e) rfl ?_
    refine v_if_ne (q1 := 20) (q2 := 16) dX12_isTask_13 (by decide) rfl (fun c7 => ?_) (fun c7 => ?_)
    · have H := ine c7 H
      exact V.sub [] rfl (sjX12_isTask_20 hd H)
    · have H := ip c7 H
      refine v_iconst (v := 1) (q := 17) dX12_isTask_16 (by decide) rfl ?_
      refine v_goto (q := 21) dX12_isTask_17 (by decide) ?_
      exact V.sub [] rfl (sjX12_isTask_21 hd H)
def mX12_isThrough : MI := (yX12_isThrough, cX12_isThrough, 2, some .boolean)
theorem oX12_isThrough : mOK mX12_isThrough 1 := ⟨by decide +kernel, by decide +kernel, by decide +kernel, by decide, w1892, w0150⟩
def jX12_isThrough_19 (y0 : Int32) (h : Hp) : Option (Int32) :=
(bz y0).bind fun x6 =>
some x6
set_option maxRecDepth 20000 in
set_option maxHeartbeats 4000000 in
theorem sjX12_isThrough_19 {Γ : Gm} {d : Nat} (hd : 2 ≤ d) {y0 : Int32} {h : Hp} {r : Int32} (H : jX12_isThrough_19 y0 h = some r) : V Γ d mX12_isThrough 19 [] [.int y0] h (some (.int r), h) := by
  unfold jX12_isThrough_19 at H
  obtain ⟨x6, x6e, H⟩ := bs H
  obtain ⟨x6q, x6z⟩ := bz_sp x6e
  refine v_topi x6q.symm ?_
  cases H
  exact v_zreturn rfl (by rw [x6q]; exact x6z) dX12_isThrough_19
def fX12_isThrough (h : Hp) (v0 : Nat) (v1 : Int32) : Option (Int32) :=
(gR h 12 v0 36).bind fun x1 =>
(lI h .int x1 v1).bind fun x2 =>
(gO h 12 v0).bind fun _ =>
(fX12_stepsOf h v0 v1).bind fun x4 =>
if x2 = x4 then (
jX12_isThrough_19 (1 : Int32) h) else (
jX12_isThrough_19 (0 : Int32) h)
set_option maxRecDepth 20000 in
set_option maxHeartbeats 4000000 in
theorem sX12_isThrough {Γ : Gm} {d : Nat} (hd : 2 ≤ d) {h : Hp} {v0 : Nat} {v1 : Int32} {r : Int32} (H : fX12_isThrough h v0 v1 = some r) : V Γ d mX12_isThrough 0 [(0, .ref v0), (1, .int v1)] [] h (some (.int r), h) := by
  unfold fX12_isThrough at H
  refine v_aload_n (q := 1) 0 dX12_isThrough_0 rfl rfl rfl ?_
  obtain ⟨x1, x1e, H⟩ := bs H
  refine u_gR (q := 4) (r := (RX12, TX12, 58)) x1e dX12_isThrough_1 w1392 rfl (by decide) rfl rfl ?_
  refine v_iload_n (q := 5) 1 dX12_isThrough_4 rfl rfl rfl ?_
  obtain ⟨x2, x2e, H⟩ := bs H
  refine u_lI (q := 6) x2e dX12_isThrough_5 rfl ?_
  refine v_aload_n (q := 7) 0 dX12_isThrough_6 rfl rfl rfl ?_
  refine v_iload_n (q := 8) 1 dX12_isThrough_7 rfl rfl rfl ?_
  obtain ⟨_, o3, H⟩ := bs H
  obtain ⟨x4, x4e, H⟩ := bs H
  refine u_callV1 (M' := mX12_stepsOf) (d' := 1) (rc := (RX12, TX12, 58)) (As := [.int v1]) (st := [.int x2]) (q := 11) oX12_stepsOf dX12_isThrough_8 w1642 w1644 w0074 rfl rfl (gO_sp o3).1 (gO_sp o3).2 rfl (Nat.le_of_ble_eq_true rfl) (Nat.le_of_ble_eq_true rfl) (Nat.lt_of_lt_of_le (by decide) hd) rfl (sX12_stepsOf (Nat.le_refl _) x4e) rfl ?_
  refine v_icmp_ne (q1 := 18) (q2 := 14) dX12_isThrough_11 (by decide) rfl (fun c5 => ?_) (fun c5 => ?_)
  · have H := ine c5 H
    refine v_iconst (v := 0) (q := 19) dX12_isThrough_18 (by decide) rfl ?_
    exact V.sub [] rfl (sjX12_isThrough_19 hd H)
  · have H := ip c5 H
    refine v_iconst (v := 1) (q := 15) dX12_isThrough_14 (by decide) rfl ?_
    refine v_goto (q := 19) dX12_isThrough_15 (by decide) ?_
    exact V.sub [] rfl (sjX12_isThrough_19 hd H)
def mX12_goesOn : MI := (yX12_goesOn, cX12_goesOn, 5, some .int)
theorem oX12_goesOn : mOK mX12_goesOn 1 := ⟨by decide +kernel, by decide +kernel, by decide +kernel, by decide, w1888, w0150⟩
def jX12_goesOn_83 (u0 : Nat) (u1 : Int32) (v2 : Int32) (u3 : Int32) (v4 : Int32) (h : Hp) : Option ((Int32 × Int32) ⊕ (Int32)) :=
(some (v4 + (1 : Int32))).bind fun x9 =>
some (.inl (v2, x9))
set_option maxRecDepth 20000 in
set_option maxHeartbeats 4000000 in
theorem sjX12_goesOn_83 {Γ : Gm} {d : Nat} (hd : 3 ≤ d) {u0 : Nat} {u1 : Int32} {v2 : Int32} {u3 : Int32} {v4 : Int32} {h : Hp} {r : (Int32 × Int32) ⊕ (Int32)} {t : Option Value × Hp} (H : jX12_goesOn_83 u0 u1 v2 u3 v4 h = some r) (kI : ∀ s, r = .inl s → (fun s24 => V Γ d mX12_goesOn 24 [(0, .ref u0), (1, .int u1), (2, .int s24.1), (3, .int u3), (4, .int s24.2)] [] h t) s) (kE : ∀ e, r = .inr e → (fun e => V Γ d mX12_goesOn 89 [(0, .ref u0), (1, .int u1), (2, .int e), (3, .int u3)] [] h t) e) : V Γ d mX12_goesOn 83 [(0, .ref u0), (1, .int u1), (2, .int v2), (3, .int u3), (4, .int v4)] [] h t := by
  unfold jX12_goesOn_83 at H
  obtain ⟨x9, x9e, H⟩ := bs H
  refine v_iinc (v := x9) (L' := [(4, .int x9), (0, .ref u0), (1, .int u1), (2, .int v2), (3, .int u3)]) (q := 86) 4 dX12_goesOn_83 rfl (Option.some.inj x9e) (by decide) rfl rfl ?_
  refine v_goto (q := 24) dX12_goesOn_86 (by decide) ?_
  exact V.sub [1, 2, 3, 4, 0] rfl (kI (v2, x9) (Option.some.inj H).symm)
def bX12_goesOn_24 (u0 : Nat) (u1 : Int32) (u3 : Int32) (h : Hp) (s24 : Int32 × Int32) : Option ((Int32 × Int32) ⊕ (Int32)) :=
if (6 : Int32) ≤ s24.2 then (
some (.inr s24.1)) else (
(gO h 12 u0).bind fun _ =>
(fX12_isIn0 h u0 s24.2).bind fun x7 =>
if x7 = 0 then (
jX12_goesOn_83 u0 u1 s24.1 u3 s24.2 h) else (
(gO h 12 u0).bind fun _ =>
(fX12_sortOf h u0 s24.2).bind fun x11 =>
if x11 = u3 then (
(gR h 12 u0 37).bind fun x13 =>
(lI h .int x13 s24.2).bind fun x14 =>
if x14 = u1 then (
(gR h 12 u0 36).bind fun x16 =>
(lI h .int x16 s24.2).bind fun x17 =>
if x17 < 0 then (
jX12_goesOn_83 u0 u1 s24.1 u3 s24.2 h) else (
(gO h 12 u0).bind fun _ =>
(fX12_isThrough h u0 s24.2).bind fun x20 =>
if x20 = 0 then (
jX12_goesOn_83 u0 u1 s24.2 u3 s24.2 h) else (
jX12_goesOn_83 u0 u1 s24.1 u3 s24.2 h))) else (
jX12_goesOn_83 u0 u1 s24.1 u3 s24.2 h)) else (
jX12_goesOn_83 u0 u1 s24.1 u3 s24.2 h)))
set_option maxRecDepth 20000 in
set_option maxHeartbeats 4000000 in
theorem sbX12_goesOn_24 {Γ : Gm} {d : Nat} (hd : 3 ≤ d) {u0 : Nat} {u1 : Int32} {u3 : Int32} {h : Hp} {s24 : Int32 × Int32} {r : (Int32 × Int32) ⊕ (Int32)} {t : Option Value × Hp} (H : bX12_goesOn_24 u0 u1 u3 h s24 = some r) (kI : ∀ s, r = .inl s → (fun s24 => V Γ d mX12_goesOn 24 [(0, .ref u0), (1, .int u1), (2, .int s24.1), (3, .int u3), (4, .int s24.2)] [] h t) s) (kE : ∀ e, r = .inr e → (fun e => V Γ d mX12_goesOn 89 [(0, .ref u0), (1, .int u1), (2, .int e), (3, .int u3)] [] h t) e) : V Γ d mX12_goesOn 24 [(0, .ref u0), (1, .int u1), (2, .int s24.1), (3, .int u3), (4, .int s24.2)] [] h t := by
  unfold bX12_goesOn_24 at H
  refine v_iload (q := 26) 4 dX12_goesOn_24 rfl rfl ?_
  refine v_bipush (v := 6) (q := 28) dX12_goesOn_26 (by decide) rfl ?_
  refine v_icmp_ge (q1 := 89) (q2 := 31) dX12_goesOn_28 (by decide) rfl (fun c5 => ?_) (fun c5 => ?_)
  · have H := ip c5 H
    exact V.sub [0, 1, 2, 3] rfl (kE s24.1 (Option.some.inj H).symm)
  · have H := ine c5 H
    refine v_aload_n (q := 32) 0 dX12_goesOn_31 rfl rfl rfl ?_
    refine v_iload (q := 34) 4 dX12_goesOn_32 rfl rfl ?_
    obtain ⟨_, o6, H⟩ := bs H
    obtain ⟨x7, x7e, H⟩ := bs H
    refine u_callV1 (M' := mX12_isIn0) (d' := 2) (rc := (RX12, TX12, 58)) (As := [.int s24.2]) (st := []) (q := 37) oX12_isIn0 dX12_goesOn_34 w1857 w1859 w0109 rfl rfl (gO_sp o6).1 (gO_sp o6).2 rfl (Nat.le_of_ble_eq_true rfl) (Nat.le_of_ble_eq_true rfl) (Nat.lt_of_lt_of_le (by decide) hd) rfl (sX12_isIn0 (Nat.le_refl _) x7e) rfl ?_
    refine v_if_eq (q1 := 83) (q2 := 40) dX12_goesOn_37 (by decide) rfl (fun c8 => ?_) (fun c8 => ?_)
    · have H := ip c8 H
      exact V.sub [0, 1, 2, 3, 4] rfl (sjX12_goesOn_83 hd H kI kE)
    · have H := ine c8 H
      refine v_aload_n (q := 41) 0 dX12_goesOn_40 rfl rfl rfl ?_
      refine v_iload (q := 43) 4 dX12_goesOn_41 rfl rfl ?_
      obtain ⟨_, o10, H⟩ := bs H
      obtain ⟨x11, x11e, H⟩ := bs H
      refine u_callV1 (M' := mX12_sortOf) (d' := 1) (rc := (RX12, TX12, 58)) (As := [.int s24.2]) (st := []) (q := 46) oX12_sortOf dX12_goesOn_43 w1718 w1720 w0092 rfl rfl (gO_sp o10).1 (gO_sp o10).2 rfl (Nat.le_of_ble_eq_true rfl) (Nat.le_of_ble_eq_true rfl) (Nat.lt_of_lt_of_le (by decide) hd) rfl (sX12_sortOf (Nat.le_refl _) x11e) rfl ?_
      refine v_iload_n (q := 47) 3 dX12_goesOn_46 rfl rfl rfl ?_
      refine v_icmp_ne (q1 := 83) (q2 := 50) dX12_goesOn_47 (by decide) rfl (fun c12 => ?_) (fun c12 => ?_)
      · have H := ine c12 H
        exact V.sub [0, 1, 2, 3, 4] rfl (sjX12_goesOn_83 hd H kI kE)
      · have H := ip c12 H
        refine v_aload_n (q := 51) 0 dX12_goesOn_50 rfl rfl rfl ?_
        obtain ⟨x13, x13e, H⟩ := bs H
        refine u_gR (q := 54) (r := (RX12, TX12, 58)) x13e dX12_goesOn_51 w1393 rfl (by decide) rfl rfl ?_
        refine v_iload (q := 56) 4 dX12_goesOn_54 rfl rfl ?_
        obtain ⟨x14, x14e, H⟩ := bs H
        refine u_lI (q := 57) x14e dX12_goesOn_56 rfl ?_
        refine v_iload_n (q := 58) 1 dX12_goesOn_57 rfl rfl rfl ?_
        refine v_icmp_ne (q1 := 83) (q2 := 61) dX12_goesOn_58 (by decide) rfl (fun c15 => ?_) (fun c15 => ?_)
        · have H := ine c15 H
          exact V.sub [0, 1, 2, 3, 4] rfl (sjX12_goesOn_83 hd H kI kE)
        · have H := ip c15 H
          refine v_aload_n (q := 62) 0 dX12_goesOn_61 rfl rfl rfl ?_
          obtain ⟨x16, x16e, H⟩ := bs H
          refine u_gR (q := 65) (r := (RX12, TX12, 58)) x16e dX12_goesOn_62 w1392 rfl (by decide) rfl rfl ?_
          refine v_iload (q := 67) 4 dX12_goesOn_65 rfl rfl ?_
          obtain ⟨x17, x17e, H⟩ := bs H
          refine u_lI (q := 68) x17e dX12_goesOn_67 rfl ?_
          refine v_if_lt (q1 := 83) (q2 := 71) dX12_goesOn_68 (by decide) rfl (fun c18 => ?_) (fun c18 => ?_)
          · have H := ip c18 H
            exact V.sub [0, 1, 2, 3, 4] rfl (sjX12_goesOn_83 hd H kI kE)
          · have H := ine c18 H
            refine v_aload_n (q := 72) 0 dX12_goesOn_71 rfl rfl rfl ?_
            refine v_iload (q := 74) 4 dX12_goesOn_72 rfl rfl ?_
            obtain ⟨_, o19, H⟩ := bs H
            obtain ⟨x20, x20e, H⟩ := bs H
            refine u_callV1 (M' := mX12_isThrough) (d' := 2) (rc := (RX12, TX12, 58)) (As := [.int s24.2]) (st := []) (q := 77) oX12_isThrough dX12_goesOn_74 w1889 w1891 w0117 rfl rfl (gO_sp o19).1 (gO_sp o19).2 rfl (Nat.le_of_ble_eq_true rfl) (Nat.le_of_ble_eq_true rfl) (Nat.lt_of_lt_of_le (by decide) hd) rfl (sX12_isThrough (Nat.le_refl _) x20e) rfl ?_
            refine v_if_ne (q1 := 83) (q2 := 80) dX12_goesOn_77 (by decide) rfl (fun c21 => ?_) (fun c21 => ?_)
            · have H := ine c21 H
              exact V.sub [0, 1, 2, 3, 4] rfl (sjX12_goesOn_83 hd H kI kE)
            · have H := ip c21 H
              refine v_iload (q := 82) 4 dX12_goesOn_80 rfl rfl ?_
              refine v_istore_n (L' := [(2, .int s24.2), (0, .ref u0), (1, .int u1), (3, .int u3), (4, .int s24.2)]) (q := 83) dX12_goesOn_82 rfl (by decide) rfl rfl ?_
              exact V.sub [1, 2, 0, 3, 4] rfl (sjX12_goesOn_83 hd H kI kE)
def bX12_goesOn_16 (u0 : Nat) (u1 : Int32) (h : Hp) (s16 : Int32 × Int32) : Option ((Int32 × Int32) ⊕ (Int32)) :=
if (2 : Int32) < s16.2 then (
some (.inr s16.1)) else (
(lp (bX12_goesOn_24 u0 u1 s16.2 h) FU (s16.1, (0 : Int32))).bind fun e22 =>
(some (s16.2 + (1 : Int32))).bind fun x23 =>
some (.inl (e22, x23)))
set_option maxRecDepth 20000 in
set_option maxHeartbeats 4000000 in
theorem sbX12_goesOn_16 {Γ : Gm} {d : Nat} (hd : 3 ≤ d) {u0 : Nat} {u1 : Int32} {h : Hp} {s16 : Int32 × Int32} {r : (Int32 × Int32) ⊕ (Int32)} {t : Option Value × Hp} (H : bX12_goesOn_16 u0 u1 h s16 = some r) (kI : ∀ s, r = .inl s → (fun s16 => V Γ d mX12_goesOn 16 [(0, .ref u0), (1, .int u1), (2, .int s16.1), (3, .int s16.2)] [] h t) s) (kE : ∀ e, r = .inr e → (fun e => V Γ d mX12_goesOn 95 [(2, .int e)] [] h t) e) : V Γ d mX12_goesOn 16 [(0, .ref u0), (1, .int u1), (2, .int s16.1), (3, .int s16.2)] [] h t := by
  unfold bX12_goesOn_16 at H
  refine v_iload_n (q := 17) 3 dX12_goesOn_16 rfl rfl rfl ?_
  refine v_iconst (v := 2) (q := 18) dX12_goesOn_17 (by decide) rfl ?_
  refine v_icmp_gt (q1 := 95) (q2 := 21) dX12_goesOn_18 (by decide) rfl (fun c4 => ?_) (fun c4 => ?_)
  · have H := ip c4 H
    exact V.sub [2] rfl (kE s16.1 (Option.some.inj H).symm)
  · have H := ine c4 H
    refine v_iconst (v := 0) (q := 22) dX12_goesOn_21 (by decide) rfl ?_
    refine v_istore (L' := [(4, .int (0 : Int32)), (0, .ref u0), (1, .int u1), (2, .int s16.1), (3, .int s16.2)]) (q := 24) dX12_goesOn_22 (by decide) rfl rfl ?_
    obtain ⟨e22, e22L, H⟩ := bs H
    refine V.sub [1, 2, 3, 4, 0] rfl ?_
    refine lp_V (P := (fun s24 => V Γ d mX12_goesOn 24 [(0, .ref u0), (1, .int u1), (2, .int s24.1), (3, .int s16.2), (4, .int s24.2)] [] h t)) (E := (fun e => V Γ d mX12_goesOn 89 [(0, .ref u0), (1, .int u1), (2, .int e), (3, .int s16.2)] [] h t)) (fun s r hb kI kE => sbX12_goesOn_24 hd (s24 := s) (r := r) hb kI kE) FU (s16.1, (0 : Int32)) e22 e22L ?_
    obtain ⟨x23, x23e, H⟩ := bs H
    refine v_iinc (v := x23) (L' := [(3, .int x23), (0, .ref u0), (1, .int u1), (2, .int e22)]) (q := 92) 3 dX12_goesOn_89 rfl (Option.some.inj x23e) (by decide) rfl rfl ?_
    refine v_goto (q := 16) dX12_goesOn_92 (by decide) ?_
    exact V.sub [1, 2, 3, 0] rfl (kI (e22, x23) (Option.some.inj H).symm)
def jX12_goesOn_13 (v0 : Nat) (v1 : Int32) (y0 : Int32) (h : Hp) : Option (Int32) :=
(lp (bX12_goesOn_16 v0 v1 h) FU (y0, (1 : Int32))).bind fun e24 =>
some e24
set_option maxRecDepth 20000 in
set_option maxHeartbeats 4000000 in
theorem sjX12_goesOn_13 {Γ : Gm} {d : Nat} (hd : 3 ≤ d) {v0 : Nat} {v1 : Int32} {y0 : Int32} {h : Hp} {r : Int32} (H : jX12_goesOn_13 v0 v1 y0 h = some r) : V Γ d mX12_goesOn 13 [(0, .ref v0), (1, .int v1)] [.int y0] h (some (.int r), h) := by
  unfold jX12_goesOn_13 at H
  refine v_istore_n (L' := [(2, .int y0), (0, .ref v0), (1, .int v1)]) (q := 14) dX12_goesOn_13 rfl (by decide) rfl rfl ?_
  refine v_iconst (v := 1) (q := 15) dX12_goesOn_14 (by decide) rfl ?_
  refine v_istore_n (L' := [(3, .int (1 : Int32)), (2, .int y0), (0, .ref v0), (1, .int v1)]) (q := 16) dX12_goesOn_15 rfl (by decide) rfl rfl ?_
  obtain ⟨e24, e24L, H⟩ := bs H
  refine V.sub [2, 3, 1, 0] rfl ?_
  refine lp_V (P := (fun s16 => V Γ d mX12_goesOn 16 [(0, .ref v0), (1, .int v1), (2, .int s16.1), (3, .int s16.2)] [] h (some (.int r), h))) (E := (fun e => V Γ d mX12_goesOn 95 [(2, .int e)] [] h (some (.int r), h))) (fun s r hb kI kE => sbX12_goesOn_16 hd (s16 := s) (r := r) hb kI kE) FU (y0, (1 : Int32)) e24 e24L ?_
  refine v_iload_n (q := 96) 0 dX12_goesOn_95 rfl rfl rfl ?_
  cases H
  exact v_ireturn rfl dX12_goesOn_96
def fX12_goesOn (h : Hp) (v0 : Nat) (v1 : Int32) : Option (Int32) :=
(gO h 12 v0).bind fun _ =>
(fX12_isThrough h v0 v1).bind fun x2 =>
if x2 = 0 then (
jX12_goesOn_13 v0 v1 v1 h) else (
jX12_goesOn_13 v0 v1 (-1 : Int32) h)
set_option maxRecDepth 20000 in
set_option maxHeartbeats 4000000 in
theorem sX12_goesOn {Γ : Gm} {d : Nat} (hd : 3 ≤ d) {h : Hp} {v0 : Nat} {v1 : Int32} {r : Int32} (H : fX12_goesOn h v0 v1 = some r) : V Γ d mX12_goesOn 0 [(0, .ref v0), (1, .int v1)] [] h (some (.int r), h) := by
  unfold fX12_goesOn at H
  refine v_aload_n (q := 1) 0 dX12_goesOn_0 rfl rfl rfl ?_
  refine v_iload_n (q := 2) 1 dX12_goesOn_1 rfl rfl rfl ?_
  obtain ⟨_, o1, H⟩ := bs H
  obtain ⟨x2, x2e, H⟩ := bs H
  refine u_callV1 (M' := mX12_isThrough) (d' := 2) (rc := (RX12, TX12, 58)) (As := [.int v1]) (st := []) (q := 5) oX12_isThrough dX12_goesOn_2 w1889 w1891 w0117 rfl rfl (gO_sp o1).1 (gO_sp o1).2 rfl (Nat.le_of_ble_eq_true rfl) (Nat.le_of_ble_eq_true rfl) (Nat.lt_of_lt_of_le (by decide) hd) rfl (sX12_isThrough (Nat.le_refl _) x2e) rfl ?_
  refine v_if_eq (q1 := 12) (q2 := 8) dX12_goesOn_5 (by decide) rfl (fun c3 => ?_) (fun c3 => ?_)
  · have H := ip c3 H
    refine v_iload_n (q := 13) 1 dX12_goesOn_12 rfl rfl rfl ?_
    exact V.sub [0, 1] rfl (sjX12_goesOn_13 hd H)
  · have H := ine c3 H
    refine v_iconst (v := -1) (q := 9) dX12_goesOn_8 (by decide) rfl ?_
    refine v_goto (q := 13) dX12_goesOn_9 (by decide) ?_
    exact V.sub [0, 1] rfl (sjX12_goesOn_13 hd H)
def mX12_isWaiting : MI := (yX12_isWaiting, cX12_isWaiting, 4, some .boolean)
theorem oX12_isWaiting : mOK mX12_isWaiting 1 := ⟨by decide +kernel, by decide +kernel, by decide +kernel, by decide, w1896, w0150⟩
def jX12_isWaiting_56 (y0 : Int32) (h : Hp) : Option (Int32) :=
(bz y0).bind fun x11 =>
some x11
set_option maxRecDepth 20000 in
set_option maxHeartbeats 4000000 in
theorem sjX12_isWaiting_56 {Γ : Gm} {d : Nat} (hd : 2 ≤ d) {y0 : Int32} {h : Hp} {r : Int32} (H : jX12_isWaiting_56 y0 h = some r) : V Γ d mX12_isWaiting 56 [] [.int y0] h (some (.int r), h) := by
  unfold jX12_isWaiting_56 at H
  obtain ⟨x11, x11e, H⟩ := bs H
  obtain ⟨x11q, x11z⟩ := bz_sp x11e
  refine v_topi x11q.symm ?_
  cases H
  exact v_zreturn rfl (by rw [x11q]; exact x11z) dX12_isWaiting_56
def jX12_isWaiting_51 (h : Hp) : Option (Int32) :=
jX12_isWaiting_56 (1 : Int32) h
set_option maxRecDepth 20000 in
set_option maxHeartbeats 4000000 in
theorem sjX12_isWaiting_51 {Γ : Gm} {d : Nat} (hd : 2 ≤ d) {h : Hp} {r : Int32} (H : jX12_isWaiting_51 h = some r) : V Γ d mX12_isWaiting 51 [] [] h (some (.int r), h) := by
  unfold jX12_isWaiting_51 at H
  refine v_iconst (v := 1) (q := 52) dX12_isWaiting_51 (by decide) rfl ?_
  refine v_goto (q := 56) dX12_isWaiting_52 (by decide) ?_
  exact V.sub [] rfl (sjX12_isWaiting_56 hd H)
def jX12_isWaiting_23 (v0 : Nat) (v1 : Int32) (v2 : Int32) (h : Hp) : Option (Int32) :=
(gR h 12 v0 38).bind fun x6 =>
(gO h 12 v0).bind fun _ =>
(fX12_lockOf h v0 v1 v2).bind fun x8 =>
(lI h .int x6 x8).bind fun x9 =>
if 0 ≤ x9 then (
jX12_isWaiting_51 h) else (
(gR h 12 v0 39).bind fun x12 =>
(gO h 12 v0).bind fun _ =>
(fX12_lockOf h v0 v1 v2).bind fun x14 =>
(lI h .int x12 x14).bind fun x15 =>
if x15 = 0 then (
jX12_isWaiting_56 (0 : Int32) h) else (
jX12_isWaiting_51 h))
set_option maxRecDepth 20000 in
set_option maxHeartbeats 4000000 in
theorem sjX12_isWaiting_23 {Γ : Gm} {d : Nat} (hd : 2 ≤ d) {v0 : Nat} {v1 : Int32} {v2 : Int32} {h : Hp} {r : Int32} (H : jX12_isWaiting_23 v0 v1 v2 h = some r) : V Γ d mX12_isWaiting 23 [(0, .ref v0), (1, .int v1), (2, .int v2)] [] h (some (.int r), h) := by
  unfold jX12_isWaiting_23 at H
  refine v_aload_n (q := 24) 0 dX12_isWaiting_23 rfl rfl rfl ?_
  obtain ⟨x6, x6e, H⟩ := bs H
  refine u_gR (q := 27) (r := (RX12, TX12, 58)) x6e dX12_isWaiting_24 w1394 rfl (by decide) rfl rfl ?_
  refine v_aload_n (q := 28) 0 dX12_isWaiting_27 rfl rfl rfl ?_
  refine v_iload_n (q := 29) 1 dX12_isWaiting_28 rfl rfl rfl ?_
  refine v_iload_n (q := 30) 2 dX12_isWaiting_29 rfl rfl rfl ?_
  obtain ⟨_, o7, H⟩ := bs H
  obtain ⟨x8, x8e, H⟩ := bs H
  refine u_callV1 (M' := mX12_lockOf) (d' := 1) (rc := (RX12, TX12, 58)) (As := [.int v1, .int v2]) (st := [.ref x6]) (q := 33) oX12_lockOf dX12_isWaiting_30 w1654 w1656 w0077 rfl rfl (gO_sp o7).1 (gO_sp o7).2 rfl (Nat.le_of_ble_eq_true rfl) (Nat.le_of_ble_eq_true rfl) (Nat.lt_of_lt_of_le (by decide) hd) rfl (sX12_lockOf (Nat.le_refl _) x8e) rfl ?_
  obtain ⟨x9, x9e, H⟩ := bs H
  refine u_lI (q := 34) x9e dX12_isWaiting_33 rfl ?_
  refine v_if_ge (q1 := 51) (q2 := 37) dX12_isWaiting_34 (by decide) rfl (fun c10 => ?_) (fun c10 => ?_)
  · have H := ip c10 H
    exact V.sub [] rfl (sjX12_isWaiting_51 hd H)
  · have H := ine c10 H
    refine v_aload_n (q := 38) 0 dX12_isWaiting_37 rfl rfl rfl ?_
    obtain ⟨x12, x12e, H⟩ := bs H
    refine u_gR (q := 41) (r := (RX12, TX12, 58)) x12e dX12_isWaiting_38 w1395 rfl (by decide) rfl rfl ?_
    refine v_aload_n (q := 42) 0 dX12_isWaiting_41 rfl rfl rfl ?_
    refine v_iload_n (q := 43) 1 dX12_isWaiting_42 rfl rfl rfl ?_
    refine v_iload_n (q := 44) 2 dX12_isWaiting_43 rfl rfl rfl ?_
    obtain ⟨_, o13, H⟩ := bs H
    obtain ⟨x14, x14e, H⟩ := bs H
    refine u_callV1 (M' := mX12_lockOf) (d' := 1) (rc := (RX12, TX12, 58)) (As := [.int v1, .int v2]) (st := [.ref x12]) (q := 47) oX12_lockOf dX12_isWaiting_44 w1654 w1656 w0077 rfl rfl (gO_sp o13).1 (gO_sp o13).2 rfl (Nat.le_of_ble_eq_true rfl) (Nat.le_of_ble_eq_true rfl) (Nat.lt_of_lt_of_le (by decide) hd) rfl (sX12_lockOf (Nat.le_refl _) x14e) rfl ?_
    obtain ⟨x15, x15e, H⟩ := bs H
    refine u_lI (q := 48) x15e dX12_isWaiting_47 rfl ?_
    refine v_if_eq (q1 := 55) (q2 := 51) dX12_isWaiting_48 (by decide) rfl (fun c16 => ?_) (fun c16 => ?_)
    · have H := ip c16 H
      refine v_iconst (v := 0) (q := 56) dX12_isWaiting_55 (by decide) rfl ?_
      exact V.sub [] rfl (sjX12_isWaiting_56 hd H)
    · have H := ine c16 H
      exact V.sub [] rfl (sjX12_isWaiting_51 hd H)
def jX12_isWaiting_81 (y0 : Int32) (h : Hp) : Option (Int32) :=
(bz y0).bind fun x19 =>
some x19
set_option maxRecDepth 20000 in
set_option maxHeartbeats 4000000 in
theorem sjX12_isWaiting_81 {Γ : Gm} {d : Nat} (hd : 2 ≤ d) {y0 : Int32} {h : Hp} {r : Int32} (H : jX12_isWaiting_81 y0 h = some r) : V Γ d mX12_isWaiting 81 [] [.int y0] h (some (.int r), h) := by
  unfold jX12_isWaiting_81 at H
  obtain ⟨x19, x19e, H⟩ := bs H
  obtain ⟨x19q, x19z⟩ := bz_sp x19e
  refine v_topi x19q.symm ?_
  cases H
  exact v_zreturn rfl (by rw [x19q]; exact x19z) dX12_isWaiting_81
def jX12_isWaiting_80 (h : Hp) : Option (Int32) :=
jX12_isWaiting_81 (0 : Int32) h
set_option maxRecDepth 20000 in
set_option maxHeartbeats 4000000 in
theorem sjX12_isWaiting_80 {Γ : Gm} {d : Nat} (hd : 2 ≤ d) {h : Hp} {r : Int32} (H : jX12_isWaiting_80 h = some r) : V Γ d mX12_isWaiting 80 [] [] h (some (.int r), h) := by
  unfold jX12_isWaiting_80 at H
  refine v_iconst (v := 0) (q := 81) dX12_isWaiting_80 (by decide) rfl ?_
  exact V.sub [] rfl (sjX12_isWaiting_81 hd H)
def fX12_isWaiting (h : Hp) (v0 : Nat) (v1 : Int32) : Option (Int32) :=
(gR h 12 v0 36).bind fun x1 =>
(lI h .int x1 v1).bind fun x2 =>
(gO h 12 v0).bind fun _ =>
(fX12_opOf h v0 v1 x2).bind fun x4 =>
if x4 = 0 then (
jX12_isWaiting_23 v0 v1 x2 h) else (
if x4 = (1 : Int32) then (
jX12_isWaiting_23 v0 v1 x2 h) else (
if x4 = (2 : Int32) then (
(gR h 12 v0 38).bind fun x20 =>
(gO h 12 v0).bind fun _ =>
(fX12_lockOf h v0 v1 x2).bind fun x22 =>
(lI h .int x20 x22).bind fun x23 =>
if x23 < 0 then (
jX12_isWaiting_80 h) else (
jX12_isWaiting_81 (1 : Int32) h)) else (
jX12_isWaiting_80 h)))
set_option maxRecDepth 20000 in
set_option maxHeartbeats 4000000 in
theorem sX12_isWaiting {Γ : Gm} {d : Nat} (hd : 2 ≤ d) {h : Hp} {v0 : Nat} {v1 : Int32} {r : Int32} (H : fX12_isWaiting h v0 v1 = some r) : V Γ d mX12_isWaiting 0 [(0, .ref v0), (1, .int v1)] [] h (some (.int r), h) := by
  unfold fX12_isWaiting at H
  refine v_aload_n (q := 1) 0 dX12_isWaiting_0 rfl rfl rfl ?_
  obtain ⟨x1, x1e, H⟩ := bs H
  refine u_gR (q := 4) (r := (RX12, TX12, 58)) x1e dX12_isWaiting_1 w1392 rfl (by decide) rfl rfl ?_
  refine v_iload_n (q := 5) 1 dX12_isWaiting_4 rfl rfl rfl ?_
  obtain ⟨x2, x2e, H⟩ := bs H
  refine u_lI (q := 6) x2e dX12_isWaiting_5 rfl ?_
  refine v_istore_n (L' := [(2, .int x2), (0, .ref v0), (1, .int v1)]) (q := 7) dX12_isWaiting_6 rfl (by decide) rfl rfl ?_
  refine v_aload_n (q := 8) 1 dX12_isWaiting_7 rfl rfl rfl ?_
  refine v_iload_n (q := 9) 2 dX12_isWaiting_8 rfl rfl rfl ?_
  refine v_iload_n (q := 10) 0 dX12_isWaiting_9 rfl rfl rfl ?_
  obtain ⟨_, o3, H⟩ := bs H
  obtain ⟨x4, x4e, H⟩ := bs H
  refine u_callV1 (M' := mX12_opOf) (d' := 1) (rc := (RX12, TX12, 58)) (As := [.int v1, .int x2]) (st := []) (q := 13) oX12_opOf dX12_isWaiting_10 w1646 w1648 w0075 rfl rfl (gO_sp o3).1 (gO_sp o3).2 rfl (Nat.le_of_ble_eq_true rfl) (Nat.le_of_ble_eq_true rfl) (Nat.lt_of_lt_of_le (by decide) hd) rfl (sX12_opOf (Nat.le_refl _) x4e) rfl ?_
  refine v_istore_n (L' := [(3, .int x4), (2, .int x2), (0, .ref v0), (1, .int v1)]) (q := 14) dX12_isWaiting_13 rfl (by decide) rfl rfl ?_
  refine v_iload_n (q := 15) 0 dX12_isWaiting_14 rfl rfl rfl ?_
  refine v_if_eq (q1 := 23) (q2 := 18) dX12_isWaiting_15 (by decide) rfl (fun c5 => ?_) (fun c5 => ?_)
  · have H := ip c5 H
    exact V.sub [2, 3, 1] rfl (sjX12_isWaiting_23 hd H)
  · have H := ine c5 H
    refine v_iload_n (q := 19) 0 dX12_isWaiting_18 rfl rfl rfl ?_
    refine v_iconst (v := 1) (q := 20) dX12_isWaiting_19 (by decide) rfl ?_
    refine v_icmp_ne (q1 := 57) (q2 := 23) dX12_isWaiting_20 (by decide) rfl (fun c17 => ?_) (fun c17 => ?_)
    · have H := ine c17 H
      refine v_iload_n (q := 58) 0 dX12_isWaiting_57 rfl rfl rfl ?_
      refine v_iconst (v := 2) (q := 59) dX12_isWaiting_58 (by decide) rfl ?_
      refine v_icmp_ne (q1 := 80) (q2 := 62) dX12_isWaiting_59 (by decide) rfl (fun c18 => ?_) (fun c18 => ?_)
      · have H := ine c18 H
        exact V.sub [] rfl (sjX12_isWaiting_80 hd H)
      · have H := ip c18 H
        refine v_aload_n (q := 63) 2 dX12_isWaiting_62 rfl rfl rfl ?_
        obtain ⟨x20, x20e, H⟩ := bs H
        refine u_gR (q := 66) (r := (RX12, TX12, 58)) x20e dX12_isWaiting_63 w1394 rfl (by decide) rfl rfl ?_
        refine v_aload_n (q := 67) 2 dX12_isWaiting_66 rfl rfl rfl ?_
        refine v_iload_n (q := 68) 3 dX12_isWaiting_67 rfl rfl rfl ?_
        refine v_iload_n (q := 69) 1 dX12_isWaiting_68 rfl rfl rfl ?_
        obtain ⟨_, o21, H⟩ := bs H
        obtain ⟨x22, x22e, H⟩ := bs H
        refine u_callV1 (M' := mX12_lockOf) (d' := 1) (rc := (RX12, TX12, 58)) (As := [.int v1, .int x2]) (st := [.ref x20]) (q := 72) oX12_lockOf dX12_isWaiting_69 w1654 w1656 w0077 rfl rfl (gO_sp o21).1 (gO_sp o21).2 rfl (Nat.le_of_ble_eq_true rfl) (Nat.le_of_ble_eq_true rfl) (Nat.lt_of_lt_of_le (by decide) hd) rfl (sX12_lockOf (Nat.le_refl _) x22e) rfl ?_
        obtain ⟨x23, x23e, H⟩ := bs H
        refine u_lI (q := 73) x23e dX12_isWaiting_72 rfl ?_
        refine v_if_lt (q1 := 80) (q2 := 76) dX12_isWaiting_73 (by decide) rfl (fun c24 => ?_) (fun c24 => ?_)
        · have H := ip c24 H
          exact V.sub [] rfl (sjX12_isWaiting_80 hd H)
        · have H := ine c24 H
          refine v_iconst (v := 1) (q := 77) dX12_isWaiting_76 (by decide) rfl ?_
          refine v_goto (q := 81) dX12_isWaiting_77 (by decide) ?_
          exact V.sub [] rfl (sjX12_isWaiting_81 hd H)
    · have H := ip c17 H
      exact V.sub [2, 3, 1] rfl (sjX12_isWaiting_23 hd H)
def mX12_layWaits : MI := (yX12_layWaits, cX12_layWaits, 5, none)
theorem oX12_layWaits : mOK mX12_layWaits 0 := ⟨by decide +kernel, by decide +kernel, by decide +kernel, by decide, w1880, w0150⟩
def jX12_layWaits_133 (u0 : Nat) (v1 : Int32) (h : Hp) : Option ((Int32 × Hp) ⊕ (Hp)) :=
(some (v1 + (1 : Int32))).bind fun x10 =>
some (.inl (x10, h))
set_option maxRecDepth 20000 in
set_option maxHeartbeats 4000000 in
theorem sjX12_layWaits_133 {Γ : Gm} {d : Nat} (hd : 4 ≤ d) {u0 : Nat} {v1 : Int32} {h : Hp} {r : (Int32 × Hp) ⊕ (Hp)} {t : Option Value × Hp} (H : jX12_layWaits_133 u0 v1 h = some r) (kI : ∀ s, r = .inl s → (fun s2 => V Γ d mX12_layWaits 2 [(0, .ref u0), (1, .int s2.1)] [] s2.2 t) s) (kE : ∀ e, r = .inr e → (fun e => V Γ d mX12_layWaits 139 [] [] e t) e) : V Γ d mX12_layWaits 133 [(0, .ref u0), (1, .int v1)] [] h t := by
  unfold jX12_layWaits_133 at H
  obtain ⟨x10, x10e, H⟩ := bs H
  refine v_iinc (v := x10) (L' := [(1, .int x10), (0, .ref u0)]) (q := 136) 1 dX12_layWaits_133 rfl (Option.some.inj x10e) (by decide) rfl rfl ?_
  refine v_goto (q := 2) dX12_layWaits_136 (by decide) ?_
  exact V.sub [1, 0] rfl (kI (x10, h) (Option.some.inj H).symm)
def jX12_layWaits_127 (u0 : Nat) (u1 : Int32) (u3 : Int32) (v4 : Int32) (h : Hp) : Option ((Int32 × Hp) ⊕ (Hp)) :=
(some (v4 + (1 : Int32))).bind fun x29 =>
some (.inl (x29, h))
set_option maxRecDepth 20000 in
set_option maxHeartbeats 4000000 in
theorem sjX12_layWaits_127 {Γ : Gm} {d : Nat} (hd : 4 ≤ d) {u0 : Nat} {u1 : Int32} {u3 : Int32} {v4 : Int32} {h : Hp} {r : (Int32 × Hp) ⊕ (Hp)} {t : Option Value × Hp} (H : jX12_layWaits_127 u0 u1 u3 v4 h = some r) (kI : ∀ s, r = .inl s → (fun s77 => V Γ d mX12_layWaits 77 [(0, .ref u0), (1, .int u1), (3, .int u3), (4, .int s77.1)] [] s77.2 t) s) (kE : ∀ e, r = .inr e → (fun e => V Γ d mX12_layWaits 133 [(0, .ref u0), (1, .int u1)] [] e t) e) : V Γ d mX12_layWaits 127 [(0, .ref u0), (1, .int u1), (3, .int u3), (4, .int v4)] [] h t := by
  unfold jX12_layWaits_127 at H
  obtain ⟨x29, x29e, H⟩ := bs H
  refine v_iinc (v := x29) (L' := [(4, .int x29), (0, .ref u0), (1, .int u1), (3, .int u3)]) (q := 130) 3 dX12_layWaits_127 rfl (Option.some.inj x29e) (by decide) rfl rfl ?_
  refine v_goto (q := 77) dX12_layWaits_130 (by decide) ?_
  exact V.sub [1, 2, 3, 0] rfl (kI (x29, h) (Option.some.inj H).symm)
def jX12_layWaits_109 (u0 : Nat) (u1 : Int32) (u3 : Int32) (v4 : Int32) (h : Hp) : Option ((Int32 × Hp) ⊕ (Hp)) :=
(gR h 12 u0 49).bind fun x24 =>
(lI h .int x24 u1).bind fun x25 =>
(gR h 12 u0 37).bind fun x26 =>
(lI h .int x26 v4).bind fun x27 =>
(tI h x24 u1 (x25 ||| ((1 : Int32) <<< (x27 &&& 31)))).bind fun h28 =>
jX12_layWaits_127 u0 u1 u3 v4 h28
set_option maxRecDepth 20000 in
set_option maxHeartbeats 4000000 in
theorem sjX12_layWaits_109 {Γ : Gm} {d : Nat} (hd : 4 ≤ d) {u0 : Nat} {u1 : Int32} {u3 : Int32} {v4 : Int32} {h : Hp} {r : (Int32 × Hp) ⊕ (Hp)} {t : Option Value × Hp} (H : jX12_layWaits_109 u0 u1 u3 v4 h = some r) (kI : ∀ s, r = .inl s → (fun s77 => V Γ d mX12_layWaits 77 [(0, .ref u0), (1, .int u1), (3, .int u3), (4, .int s77.1)] [] s77.2 t) s) (kE : ∀ e, r = .inr e → (fun e => V Γ d mX12_layWaits 133 [(0, .ref u0), (1, .int u1)] [] e t) e) : V Γ d mX12_layWaits 109 [(0, .ref u0), (1, .int u1), (3, .int u3), (4, .int v4)] [] h t := by
  unfold jX12_layWaits_109 at H
  refine v_aload_n (q := 110) 0 dX12_layWaits_109 rfl rfl rfl ?_
  obtain ⟨x24, x24e, H⟩ := bs H
  refine u_gR (q := 113) (r := (RX12, TX12, 58)) x24e dX12_layWaits_110 w1405 rfl (by decide) rfl rfl ?_
  refine v_iload_n (q := 114) 1 dX12_layWaits_113 rfl rfl rfl ?_
  refine v_dup2 (q := 115) dX12_layWaits_114 rfl rfl rfl ?_
  obtain ⟨x25, x25e, H⟩ := bs H
  refine u_lI (q := 116) x25e dX12_layWaits_115 rfl ?_
  refine v_iconst (v := 1) (q := 117) dX12_layWaits_116 (by decide) rfl ?_
  refine v_aload_n (q := 118) 0 dX12_layWaits_117 rfl rfl rfl ?_
  obtain ⟨x26, x26e, H⟩ := bs H
  refine u_gR (q := 121) (r := (RX12, TX12, 58)) x26e dX12_layWaits_118 w1393 rfl (by decide) rfl rfl ?_
  refine v_iload (q := 123) 3 dX12_layWaits_121 rfl rfl ?_
  obtain ⟨x27, x27e, H⟩ := bs H
  refine u_lI (q := 124) x27e dX12_layWaits_123 rfl ?_
  refine v_ishl (q := 125) dX12_layWaits_124 rfl ?_
  refine v_ior (q := 126) dX12_layWaits_125 rfl ?_
  obtain ⟨h28, h28e, H⟩ := bs H
  refine u_tI (q := 127) h28e dX12_layWaits_126 rfl ?_
  exact V.sub [0, 1, 2, 3] rfl (sjX12_layWaits_127 hd H kI kE)
def bX12_layWaits_77 (u0 : Nat) (u1 : Int32) (u3 : Int32) (s77 : Int32 × Hp) : Option ((Int32 × Hp) ⊕ (Hp)) :=
if (6 : Int32) ≤ s77.1 then (
some (.inr s77.2)) else (
(gR s77.2 12 u0 38).bind fun x21 =>
(lI s77.2 .int x21 u3).bind fun x22 =>
if x22 = s77.1 then (
jX12_layWaits_109 u0 u1 u3 s77.1 s77.2) else (
(gR s77.2 12 u0 39).bind fun x30 =>
(lI s77.2 .int x30 u3).bind fun x31 =>
(fX12_has s77.2 x31 s77.1).bind fun x32 =>
if x32 = 0 then (
jX12_layWaits_127 u0 u1 u3 s77.1 s77.2) else (
jX12_layWaits_109 u0 u1 u3 s77.1 s77.2)))
set_option maxRecDepth 20000 in
set_option maxHeartbeats 4000000 in
theorem sbX12_layWaits_77 {Γ : Gm} {d : Nat} (hd : 4 ≤ d) {u0 : Nat} {u1 : Int32} {u3 : Int32} {s77 : Int32 × Hp} {r : (Int32 × Hp) ⊕ (Hp)} {t : Option Value × Hp} (H : bX12_layWaits_77 u0 u1 u3 s77 = some r) (kI : ∀ s, r = .inl s → (fun s77 => V Γ d mX12_layWaits 77 [(0, .ref u0), (1, .int u1), (3, .int u3), (4, .int s77.1)] [] s77.2 t) s) (kE : ∀ e, r = .inr e → (fun e => V Γ d mX12_layWaits 133 [(0, .ref u0), (1, .int u1)] [] e t) e) : V Γ d mX12_layWaits 77 [(0, .ref u0), (1, .int u1), (3, .int u3), (4, .int s77.1)] [] s77.2 t := by
  unfold bX12_layWaits_77 at H
  refine v_iload (q := 79) 3 dX12_layWaits_77 rfl rfl ?_
  refine v_bipush (v := 6) (q := 81) dX12_layWaits_79 (by decide) rfl ?_
  refine v_icmp_ge (q1 := 133) (q2 := 84) dX12_layWaits_81 (by decide) rfl (fun c20 => ?_) (fun c20 => ?_)
  · have H := ip c20 H
    exact V.sub [0, 1] rfl (kE s77.2 (Option.some.inj H).symm)
  · have H := ine c20 H
    refine v_aload_n (q := 85) 0 dX12_layWaits_84 rfl rfl rfl ?_
    obtain ⟨x21, x21e, H⟩ := bs H
    refine u_gR (q := 88) (r := (RX12, TX12, 58)) x21e dX12_layWaits_85 w1394 rfl (by decide) rfl rfl ?_
    refine v_iload_n (q := 89) 2 dX12_layWaits_88 rfl rfl rfl ?_
    obtain ⟨x22, x22e, H⟩ := bs H
    refine u_lI (q := 90) x22e dX12_layWaits_89 rfl ?_
    refine v_iload (q := 92) 3 dX12_layWaits_90 rfl rfl ?_
    refine v_icmp_eq (q1 := 109) (q2 := 95) dX12_layWaits_92 (by decide) rfl (fun c23 => ?_) (fun c23 => ?_)
    · have H := ip c23 H
      exact V.sub [0, 1, 2, 3] rfl (sjX12_layWaits_109 hd H kI kE)
    · have H := ine c23 H
      refine v_aload_n (q := 96) 0 dX12_layWaits_95 rfl rfl rfl ?_
      obtain ⟨x30, x30e, H⟩ := bs H
      refine u_gR (q := 99) (r := (RX12, TX12, 58)) x30e dX12_layWaits_96 w1395 rfl (by decide) rfl rfl ?_
      refine v_iload_n (q := 100) 2 dX12_layWaits_99 rfl rfl rfl ?_
      obtain ⟨x31, x31e, H⟩ := bs H
      refine u_lI (q := 101) x31e dX12_layWaits_100 rfl ?_
      refine v_iload (q := 103) 3 dX12_layWaits_101 rfl rfl ?_
      obtain ⟨x32, x32e, H⟩ := bs H
      refine u_callS1 (M' := mX12_has) (d' := 1) (As := [.int x31, .int s77.1]) (st := []) (q := 106) oX12_has dX12_layWaits_103 w1846 w1847 rfl (Nat.le_of_ble_eq_true rfl) (Nat.le_of_ble_eq_true rfl) (Nat.lt_of_lt_of_le (by decide) hd) rfl (sX12_has (Nat.le_refl _) x32e) rfl ?_
      refine v_if_eq (q1 := 127) (q2 := 109) dX12_layWaits_106 (by decide) rfl (fun c33 => ?_) (fun c33 => ?_)
      · have H := ip c33 H
        exact V.sub [0, 1, 2, 3] rfl (sjX12_layWaits_127 hd H kI kE)
      · have H := ine c33 H
        exact V.sub [0, 1, 2, 3] rfl (sjX12_layWaits_109 hd H kI kE)
def jX12_layWaits_39 (u0 : Nat) (v1 : Int32) (y0 : Int32) (h : Hp) : Option ((Int32 × Hp) ⊕ (Hp)) :=
if y0 < 0 then (
jX12_layWaits_133 u0 v1 h) else (
(gO h 12 u0).bind fun _ =>
(fX12_isWaiting h u0 y0).bind fun x12 =>
if x12 = 0 then (
jX12_layWaits_133 u0 v1 h) else (
(gR h 12 u0 36).bind fun x14 =>
(lI h .int x14 y0).bind fun x15 =>
(gO h 12 u0).bind fun _ =>
(fX12_lockOf h u0 y0 x15).bind fun x17 =>
(gR h 12 u0 48).bind fun x18 =>
(tI h x18 v1 x17).bind fun h19 =>
(lp (bX12_layWaits_77 u0 v1 x17) FU ((0 : Int32), h19)).bind fun e34 =>
jX12_layWaits_133 u0 v1 e34))
set_option maxRecDepth 20000 in
set_option maxHeartbeats 4000000 in
theorem sjX12_layWaits_39 {Γ : Gm} {d : Nat} (hd : 4 ≤ d) {u0 : Nat} {v1 : Int32} {y0 : Int32} {h : Hp} {r : (Int32 × Hp) ⊕ (Hp)} {t : Option Value × Hp} (H : jX12_layWaits_39 u0 v1 y0 h = some r) (kI : ∀ s, r = .inl s → (fun s2 => V Γ d mX12_layWaits 2 [(0, .ref u0), (1, .int s2.1)] [] s2.2 t) s) (kE : ∀ e, r = .inr e → (fun e => V Γ d mX12_layWaits 139 [] [] e t) e) : V Γ d mX12_layWaits 39 [(0, .ref u0), (1, .int v1)] [.int y0] h t := by
  unfold jX12_layWaits_39 at H
  refine v_istore_n (L' := [(2, .int y0), (0, .ref u0), (1, .int v1)]) (q := 40) dX12_layWaits_39 rfl (by decide) rfl rfl ?_
  refine v_iload_n (q := 41) 0 dX12_layWaits_40 rfl rfl rfl ?_
  refine v_if_lt (q1 := 133) (q2 := 44) dX12_layWaits_41 (by decide) rfl (fun c9 => ?_) (fun c9 => ?_)
  · have H := ip c9 H
    exact V.sub [1, 2] rfl (sjX12_layWaits_133 hd H kI kE)
  · have H := ine c9 H
    refine v_aload_n (q := 45) 1 dX12_layWaits_44 rfl rfl rfl ?_
    refine v_iload_n (q := 46) 0 dX12_layWaits_45 rfl rfl rfl ?_
    obtain ⟨_, o11, H⟩ := bs H
    obtain ⟨x12, x12e, H⟩ := bs H
    refine u_callV1 (M' := mX12_isWaiting) (d' := 2) (rc := (RX12, TX12, 58)) (As := [.int y0]) (st := []) (q := 49) oX12_isWaiting dX12_layWaits_46 w1893 w1895 w0118 rfl rfl (gO_sp o11).1 (gO_sp o11).2 rfl (Nat.le_of_ble_eq_true rfl) (Nat.le_of_ble_eq_true rfl) (Nat.lt_of_lt_of_le (by decide) hd) rfl (sX12_isWaiting (Nat.le_refl _) x12e) rfl ?_
    refine v_if_ne (q1 := 55) (q2 := 52) dX12_layWaits_49 (by decide) rfl (fun c13 => ?_) (fun c13 => ?_)
    · have H := ine c13 H
      refine v_aload_n (q := 56) 1 dX12_layWaits_55 rfl rfl rfl ?_
      refine v_iload_n (q := 57) 0 dX12_layWaits_56 rfl rfl rfl ?_
      refine v_aload_n (q := 58) 1 dX12_layWaits_57 rfl rfl rfl ?_
      obtain ⟨x14, x14e, H⟩ := bs H
      refine u_gR (q := 61) (r := (RX12, TX12, 58)) x14e dX12_layWaits_58 w1392 rfl (by decide) rfl rfl ?_
      refine v_iload_n (q := 62) 0 dX12_layWaits_61 rfl rfl rfl ?_
      obtain ⟨x15, x15e, H⟩ := bs H
      refine u_lI (q := 63) x15e dX12_layWaits_62 rfl ?_
      obtain ⟨_, o16, H⟩ := bs H
      obtain ⟨x17, x17e, H⟩ := bs H
      refine u_callV1 (M' := mX12_lockOf) (d' := 1) (rc := (RX12, TX12, 58)) (As := [.int y0, .int x15]) (st := []) (q := 66) oX12_lockOf dX12_layWaits_63 w1654 w1656 w0077 rfl rfl (gO_sp o16).1 (gO_sp o16).2 rfl (Nat.le_of_ble_eq_true rfl) (Nat.le_of_ble_eq_true rfl) (Nat.lt_of_lt_of_le (by decide) hd) rfl (sX12_lockOf (Nat.le_refl _) x17e) rfl ?_
      refine v_istore_n (L' := [(3, .int x17), (2, .int y0), (0, .ref u0), (1, .int v1)]) (q := 67) dX12_layWaits_66 rfl (by decide) rfl rfl ?_
      refine v_aload_n (q := 68) 2 dX12_layWaits_67 rfl rfl rfl ?_
      obtain ⟨x18, x18e, H⟩ := bs H
      refine u_gR (q := 71) (r := (RX12, TX12, 58)) x18e dX12_layWaits_68 w1404 rfl (by decide) rfl rfl ?_
      refine v_iload_n (q := 72) 3 dX12_layWaits_71 rfl rfl rfl ?_
      refine v_iload_n (q := 73) 0 dX12_layWaits_72 rfl rfl rfl ?_
      obtain ⟨h19, h19e, H⟩ := bs H
      refine u_tI (q := 74) h19e dX12_layWaits_73 rfl ?_
      refine v_iconst (v := 0) (q := 75) dX12_layWaits_74 (by decide) rfl ?_
      refine v_istore (L' := [(4, .int (0 : Int32)), (3, .int x17), (2, .int y0), (0, .ref u0), (1, .int v1)]) (q := 77) dX12_layWaits_75 (by decide) rfl rfl ?_
      obtain ⟨e34, e34L, H⟩ := bs H
      refine V.sub [3, 4, 1, 0] rfl ?_
      refine lp_V (P := (fun s77 => V Γ d mX12_layWaits 77 [(0, .ref u0), (1, .int v1), (3, .int x17), (4, .int s77.1)] [] s77.2 t)) (E := (fun e => V Γ d mX12_layWaits 133 [(0, .ref u0), (1, .int v1)] [] e t)) (fun s r hb kI kE => sbX12_layWaits_77 hd (s77 := s) (r := r) hb kI kE) FU ((0 : Int32), h19) e34 e34L ?_
      exact V.sub [0, 1] rfl (sjX12_layWaits_133 hd H kI kE)
    · have H := ip c13 H
      refine v_goto (q := 133) dX12_layWaits_52 (by decide) ?_
      exact V.sub [1, 2] rfl (sjX12_layWaits_133 hd H kI kE)
def bX12_layWaits_2 (u0 : Nat) (s2 : Int32 × Hp) : Option ((Int32 × Hp) ⊕ (Hp)) :=
if (6 : Int32) ≤ s2.1 then (
some (.inr s2.2)) else (
(gR s2.2 12 u0 48).bind fun x2 =>
(tI s2.2 x2 s2.1 (-1 : Int32)).bind fun h3 =>
(gR h3 12 u0 49).bind fun x4 =>
(tI h3 x4 s2.1 (0 : Int32)).bind fun h5 =>
(gO h5 12 u0).bind fun _ =>
(fX12_isTask h5 u0 s2.1).bind fun x7 =>
if x7 = 0 then (
jX12_layWaits_39 u0 s2.1 (-1 : Int32) h5) else (
(gO h5 12 u0).bind fun _ =>
(fX12_goesOn h5 u0 s2.1).bind fun x36 =>
jX12_layWaits_39 u0 s2.1 x36 h5))
set_option maxRecDepth 20000 in
set_option maxHeartbeats 4000000 in
theorem sbX12_layWaits_2 {Γ : Gm} {d : Nat} (hd : 4 ≤ d) {u0 : Nat} {s2 : Int32 × Hp} {r : (Int32 × Hp) ⊕ (Hp)} {t : Option Value × Hp} (H : bX12_layWaits_2 u0 s2 = some r) (kI : ∀ s, r = .inl s → (fun s2 => V Γ d mX12_layWaits 2 [(0, .ref u0), (1, .int s2.1)] [] s2.2 t) s) (kE : ∀ e, r = .inr e → (fun e => V Γ d mX12_layWaits 139 [] [] e t) e) : V Γ d mX12_layWaits 2 [(0, .ref u0), (1, .int s2.1)] [] s2.2 t := by
  unfold bX12_layWaits_2 at H
  refine v_iload_n (q := 3) 1 dX12_layWaits_2 rfl rfl rfl ?_
  refine v_bipush (v := 6) (q := 5) dX12_layWaits_3 (by decide) rfl ?_
  refine v_icmp_ge (q1 := 139) (q2 := 8) dX12_layWaits_5 (by decide) rfl (fun c1 => ?_) (fun c1 => ?_)
  · have H := ip c1 H
    exact V.sub [] rfl (kE s2.2 (Option.some.inj H).symm)
  · have H := ine c1 H
    refine v_aload_n (q := 9) 0 dX12_layWaits_8 rfl rfl rfl ?_
    obtain ⟨x2, x2e, H⟩ := bs H
    refine u_gR (q := 12) (r := (RX12, TX12, 58)) x2e dX12_layWaits_9 w1404 rfl (by decide) rfl rfl ?_
    refine v_iload_n (q := 13) 1 dX12_layWaits_12 rfl rfl rfl ?_
    refine v_iconst (v := -1) (q := 14) dX12_layWaits_13 (by decide) rfl ?_
    obtain ⟨h3, h3e, H⟩ := bs H
    refine u_tI (q := 15) h3e dX12_layWaits_14 rfl ?_
    refine v_aload_n (q := 16) 0 dX12_layWaits_15 rfl rfl rfl ?_
    obtain ⟨x4, x4e, H⟩ := bs H
    refine u_gR (q := 19) (r := (RX12, TX12, 58)) x4e dX12_layWaits_16 w1405 rfl (by decide) rfl rfl ?_
    refine v_iload_n (q := 20) 1 dX12_layWaits_19 rfl rfl rfl ?_
    refine v_iconst (v := 0) (q := 21) dX12_layWaits_20 (by decide) rfl ?_
    obtain ⟨h5, h5e, H⟩ := bs H
    refine u_tI (q := 22) h5e dX12_layWaits_21 rfl ?_
    refine v_aload_n (q := 23) 0 dX12_layWaits_22 rfl rfl rfl ?_
    refine v_iload_n (q := 24) 1 dX12_layWaits_23 rfl rfl rfl ?_
    obtain ⟨_, o6, H⟩ := bs H
    obtain ⟨x7, x7e, H⟩ := bs H
    refine u_callV1 (M' := mX12_isTask) (d' := 3) (rc := (RX12, TX12, 58)) (As := [.int s2.1]) (st := []) (q := 27) oX12_isTask dX12_layWaits_24 w1881 w1883 w0115 rfl rfl (gO_sp o6).1 (gO_sp o6).2 rfl (Nat.le_of_ble_eq_true rfl) (Nat.le_of_ble_eq_true rfl) (Nat.lt_of_lt_of_le (by decide) hd) rfl (sX12_isTask (Nat.le_refl _) x7e) rfl ?_
    refine v_if_eq (q1 := 38) (q2 := 30) dX12_layWaits_27 (by decide) rfl (fun c8 => ?_) (fun c8 => ?_)
    · have H := ip c8 H
      refine v_iconst (v := -1) (q := 39) dX12_layWaits_38 (by decide) rfl ?_
      exact V.sub [0, 1] rfl (sjX12_layWaits_39 hd H kI kE)
    · have H := ine c8 H
      refine v_aload_n (q := 31) 0 dX12_layWaits_30 rfl rfl rfl ?_
      refine v_iload_n (q := 32) 1 dX12_layWaits_31 rfl rfl rfl ?_
      obtain ⟨_, o35, H⟩ := bs H
      obtain ⟨x36, x36e, H⟩ := bs H
      refine u_callV1 (M' := mX12_goesOn) (d' := 3) (rc := (RX12, TX12, 58)) (As := [.int s2.1]) (st := []) (q := 35) oX12_goesOn dX12_layWaits_32 w1885 w1887 w0116 rfl rfl (gO_sp o35).1 (gO_sp o35).2 rfl (Nat.le_of_ble_eq_true rfl) (Nat.le_of_ble_eq_true rfl) (Nat.lt_of_lt_of_le (by decide) hd) rfl (sX12_goesOn (Nat.le_refl _) x36e) rfl ?_
      refine v_goto (q := 39) dX12_layWaits_35 (by decide) ?_
      exact V.sub [0, 1] rfl (sjX12_layWaits_39 hd H kI kE)
def fX12_layWaits (h : Hp) (v0 : Nat) : Option (Hp) :=
(lp (bX12_layWaits_2 v0) FU ((0 : Int32), h)).bind fun e37 =>
some e37
set_option maxRecDepth 20000 in
set_option maxHeartbeats 4000000 in
theorem sX12_layWaits {Γ : Gm} {d : Nat} (hd : 4 ≤ d) {h : Hp} {v0 : Nat} {r : Hp} (H : fX12_layWaits h v0 = some r) : V Γ d mX12_layWaits 0 [(0, .ref v0)] [] h (none, r) := by
  unfold fX12_layWaits at H
  refine v_iconst (v := 0) (q := 1) dX12_layWaits_0 (by decide) rfl ?_
  refine v_istore_n (L' := [(1, .int (0 : Int32)), (0, .ref v0)]) (q := 2) dX12_layWaits_1 rfl (by decide) rfl rfl ?_
  obtain ⟨e37, e37L, H⟩ := bs H
  refine V.sub [1, 0] rfl ?_
  refine lp_V (P := (fun s2 => V Γ d mX12_layWaits 2 [(0, .ref v0), (1, .int s2.1)] [] s2.2 (none, r))) (E := (fun e => V Γ d mX12_layWaits 139 [] [] e (none, r))) (fun s r hb kI kE => sbX12_layWaits_2 hd (s2 := s) (r := r) hb kI kE) FU ((0 : Int32), h) e37 e37L ?_
  cases H
  exact v_return rfl dX12_layWaits_139
def mX12_layApart : MI := (yX12_layApart, cX12_layApart, 5, none)
theorem oX12_layApart : mOK mX12_layApart 1 := ⟨by decide +kernel, by decide +kernel, by decide +kernel, by decide, w1900, w0150⟩
def jX12_layApart_25 (u0 : Nat) (u1 : Int32) (v2 : Int32) (y0 : Int32) (y1 : Int32) (y2 : Nat) (h : Hp) : Option ((Int32 × Hp) ⊕ (Hp)) :=
(tI h y2 y1 y0).bind fun h4 =>
(some (v2 + (1 : Int32))).bind fun x5 =>
some (.inl (x5, h4))
set_option maxRecDepth 20000 in
set_option maxHeartbeats 4000000 in
theorem sjX12_layApart_25 {Γ : Gm} {d : Nat} (hd : 2 ≤ d) {u0 : Nat} {u1 : Int32} {v2 : Int32} {y0 : Int32} {y1 : Int32} {y2 : Nat} {h : Hp} {r : (Int32 × Hp) ⊕ (Hp)} {t : Option Value × Hp} (H : jX12_layApart_25 u0 u1 v2 y0 y1 y2 h = some r) (kI : ∀ s, r = .inl s → (fun s2 => V Γ d mX12_layApart 2 [(0, .ref u0), (1, .int u1), (2, .int s2.1)] [] s2.2 t) s) (kE : ∀ e, r = .inr e → (fun e => V Γ d mX12_layApart 32 [(0, .ref u0), (1, .int u1)] [] e t) e) : V Γ d mX12_layApart 25 [(0, .ref u0), (1, .int u1), (2, .int v2)] [.int y0, .int y1, .ref y2] h t := by
  unfold jX12_layApart_25 at H
  obtain ⟨h4, h4e, H⟩ := bs H
  refine u_tI (q := 26) h4e dX12_layApart_25 rfl ?_
  obtain ⟨x5, x5e, H⟩ := bs H
  refine v_iinc (v := x5) (L' := [(2, .int x5), (0, .ref u0), (1, .int u1)]) (q := 29) 2 dX12_layApart_26 rfl (Option.some.inj x5e) (by decide) rfl rfl ?_
  refine v_goto (q := 2) dX12_layApart_29 (by decide) ?_
  exact V.sub [1, 2, 0] rfl (kI (x5, h4) (Option.some.inj H).symm)
def bX12_layApart_2 (u0 : Nat) (u1 : Int32) (s2 : Int32 × Hp) : Option ((Int32 × Hp) ⊕ (Hp)) :=
if (6 : Int32) ≤ s2.1 then (
some (.inr s2.2)) else (
(gR s2.2 12 u0 51).bind fun x2 =>
if s2.1 = u1 then (
jX12_layApart_25 u0 u1 s2.1 (0 : Int32) s2.1 x2 s2.2) else (
jX12_layApart_25 u0 u1 s2.1 (268435456 : Int32) s2.1 x2 s2.2))
set_option maxRecDepth 20000 in
set_option maxHeartbeats 4000000 in
theorem sbX12_layApart_2 {Γ : Gm} {d : Nat} (hd : 2 ≤ d) {u0 : Nat} {u1 : Int32} {s2 : Int32 × Hp} {r : (Int32 × Hp) ⊕ (Hp)} {t : Option Value × Hp} (H : bX12_layApart_2 u0 u1 s2 = some r) (kI : ∀ s, r = .inl s → (fun s2 => V Γ d mX12_layApart 2 [(0, .ref u0), (1, .int u1), (2, .int s2.1)] [] s2.2 t) s) (kE : ∀ e, r = .inr e → (fun e => V Γ d mX12_layApart 32 [(0, .ref u0), (1, .int u1)] [] e t) e) : V Γ d mX12_layApart 2 [(0, .ref u0), (1, .int u1), (2, .int s2.1)] [] s2.2 t := by
  unfold bX12_layApart_2 at H
  refine v_iload_n (q := 3) 2 dX12_layApart_2 rfl rfl rfl ?_
  refine v_bipush (v := 6) (q := 5) dX12_layApart_3 (by decide) rfl ?_
  refine v_icmp_ge (q1 := 32) (q2 := 8) dX12_layApart_5 (by decide) rfl (fun c1 => ?_) (fun c1 => ?_)
  · have H := ip c1 H
    exact V.sub [0, 1] rfl (kE s2.2 (Option.some.inj H).symm)
  · have H := ine c1 H
    refine v_aload_n (q := 9) 0 dX12_layApart_8 rfl rfl rfl ?_
    obtain ⟨x2, x2e, H⟩ := bs H
    refine u_gR (q := 12) (r := (RX12, TX12, 58)) x2e dX12_layApart_9 w1407 rfl (by decide) rfl rfl ?_
    refine v_iload_n (q := 13) 2 dX12_layApart_12 rfl rfl rfl ?_
    refine v_iload_n (q := 14) 2 dX12_layApart_13 rfl rfl rfl ?_
    refine v_iload_n (q := 15) 1 dX12_layApart_14 rfl rfl rfl ?_
    refine v_icmp_ne (q1 := 22) (q2 := 18) dX12_layApart_15 (by decide) rfl (fun c3 => ?_) (fun c3 => ?_)
    · have H := ine c3 H
      refine v_ldcw (v := 268435456) (q := 25) dX12_layApart_22 w1713 rfl ?_
      exact V.sub [0, 1, 2] rfl (sjX12_layApart_25 hd H kI kE)
    · have H := ip c3 H
      refine v_iconst (v := 0) (q := 19) dX12_layApart_18 (by decide) rfl ?_
      refine v_goto (q := 25) dX12_layApart_19 (by decide) ?_
      exact V.sub [0, 1, 2] rfl (sjX12_layApart_25 hd H kI kE)
def jX12_layApart_110 (u0 : Nat) (u1 : Int32) (u2 : Int32) (u3 : Int32) (v4 : Int32) (h : Hp) : Option ((Int32 × Hp) ⊕ (Hp)) :=
(some (v4 + (1 : Int32))).bind fun x11 =>
some (.inl (x11, h))
set_option maxRecDepth 20000 in
set_option maxHeartbeats 4000000 in
theorem sjX12_layApart_110 {Γ : Gm} {d : Nat} (hd : 2 ≤ d) {u0 : Nat} {u1 : Int32} {u2 : Int32} {u3 : Int32} {v4 : Int32} {h : Hp} {r : (Int32 × Hp) ⊕ (Hp)} {t : Option Value × Hp} (H : jX12_layApart_110 u0 u1 u2 u3 v4 h = some r) (kI : ∀ s, r = .inl s → (fun s51 => V Γ d mX12_layApart 51 [(0, .ref u0), (1, .int u1), (2, .int u2), (3, .int u3), (4, .int s51.1)] [] s51.2 t) s) (kE : ∀ e, r = .inr e → (fun e => V Γ d mX12_layApart 116 [(0, .ref u0), (1, .int u1), (2, .int u2), (3, .int u3)] [] e t) e) : V Γ d mX12_layApart 110 [(0, .ref u0), (1, .int u1), (2, .int u2), (3, .int u3), (4, .int v4)] [] h t := by
  unfold jX12_layApart_110 at H
  obtain ⟨x11, x11e, H⟩ := bs H
  refine v_iinc (v := x11) (L' := [(4, .int x11), (0, .ref u0), (1, .int u1), (2, .int u2), (3, .int u3)]) (q := 113) 4 dX12_layApart_110 rfl (Option.some.inj x11e) (by decide) rfl rfl ?_
  refine v_goto (q := 51) dX12_layApart_113 (by decide) ?_
  exact V.sub [1, 2, 3, 4, 0] rfl (kI (x11, h) (Option.some.inj H).symm)
def bX12_layApart_51 (u0 : Nat) (u1 : Int32) (u2 : Int32) (u3 : Int32) (s51 : Int32 × Hp) : Option ((Int32 × Hp) ⊕ (Hp)) :=
if (6 : Int32) ≤ s51.1 then (
some (.inr s51.2)) else (
if u3 = u1 then (
jX12_layApart_110 u0 u1 u2 u3 s51.1 s51.2) else (
(gR s51.2 12 u0 49).bind fun x12 =>
(lI s51.2 .int x12 u3).bind fun x13 =>
(fX12_has s51.2 x13 s51.1).bind fun x14 =>
if x14 = 0 then (
jX12_layApart_110 u0 u1 u2 u3 s51.1 s51.2) else (
(gR s51.2 12 u0 51).bind fun x16 =>
(lI s51.2 .int x16 s51.1).bind fun x17 =>
(gR s51.2 12 u0 51).bind fun x18 =>
(lI s51.2 .int x18 u3).bind fun x19 =>
if x19 ≤ (x17 + (1 : Int32)) then (
jX12_layApart_110 u0 u1 u2 u3 s51.1 s51.2) else (
(gR s51.2 12 u0 51).bind fun x21 =>
(gR s51.2 12 u0 51).bind fun x22 =>
(lI s51.2 .int x22 s51.1).bind fun x23 =>
(tI s51.2 x21 u3 (x23 + (1 : Int32))).bind fun h24 =>
jX12_layApart_110 u0 u1 u2 u3 s51.1 h24))))
set_option maxRecDepth 20000 in
set_option maxHeartbeats 4000000 in
theorem sbX12_layApart_51 {Γ : Gm} {d : Nat} (hd : 2 ≤ d) {u0 : Nat} {u1 : Int32} {u2 : Int32} {u3 : Int32} {s51 : Int32 × Hp} {r : (Int32 × Hp) ⊕ (Hp)} {t : Option Value × Hp} (H : bX12_layApart_51 u0 u1 u2 u3 s51 = some r) (kI : ∀ s, r = .inl s → (fun s51 => V Γ d mX12_layApart 51 [(0, .ref u0), (1, .int u1), (2, .int u2), (3, .int u3), (4, .int s51.1)] [] s51.2 t) s) (kE : ∀ e, r = .inr e → (fun e => V Γ d mX12_layApart 116 [(0, .ref u0), (1, .int u1), (2, .int u2), (3, .int u3)] [] e t) e) : V Γ d mX12_layApart 51 [(0, .ref u0), (1, .int u1), (2, .int u2), (3, .int u3), (4, .int s51.1)] [] s51.2 t := by
  unfold bX12_layApart_51 at H
  refine v_iload (q := 53) 4 dX12_layApart_51 rfl rfl ?_
  refine v_bipush (v := 6) (q := 55) dX12_layApart_53 (by decide) rfl ?_
  refine v_icmp_ge (q1 := 116) (q2 := 58) dX12_layApart_55 (by decide) rfl (fun c9 => ?_) (fun c9 => ?_)
  · have H := ip c9 H
    exact V.sub [0, 1, 2, 3] rfl (kE s51.2 (Option.some.inj H).symm)
  · have H := ine c9 H
    refine v_iload_n (q := 59) 3 dX12_layApart_58 rfl rfl rfl ?_
    refine v_iload_n (q := 60) 1 dX12_layApart_59 rfl rfl rfl ?_
    refine v_icmp_eq (q1 := 110) (q2 := 63) dX12_layApart_60 (by decide) rfl (fun c10 => ?_) (fun c10 => ?_)
    · have H := ip c10 H
      exact V.sub [0, 1, 2, 3, 4] rfl (sjX12_layApart_110 hd H kI kE)
    · have H := ine c10 H
      refine v_aload_n (q := 64) 0 dX12_layApart_63 rfl rfl rfl ?_
      obtain ⟨x12, x12e, H⟩ := bs H
      refine u_gR (q := 67) (r := (RX12, TX12, 58)) x12e dX12_layApart_64 w1405 rfl (by decide) rfl rfl ?_
      refine v_iload_n (q := 68) 3 dX12_layApart_67 rfl rfl rfl ?_
      obtain ⟨x13, x13e, H⟩ := bs H
      refine u_lI (q := 69) x13e dX12_layApart_68 rfl ?_
      refine v_iload (q := 71) 4 dX12_layApart_69 rfl rfl ?_
      obtain ⟨x14, x14e, H⟩ := bs H
      refine u_callS1 (M' := mX12_has) (d' := 1) (As := [.int x13, .int s51.1]) (st := []) (q := 74) oX12_has dX12_layApart_71 w1846 w1847 rfl (Nat.le_of_ble_eq_true rfl) (Nat.le_of_ble_eq_true rfl) (Nat.lt_of_lt_of_le (by decide) hd) rfl (sX12_has (Nat.le_refl _) x14e) rfl ?_
      refine v_if_eq (q1 := 110) (q2 := 77) dX12_layApart_74 (by decide) rfl (fun c15 => ?_) (fun c15 => ?_)
      · have H := ip c15 H
        exact V.sub [0, 1, 2, 3, 4] rfl (sjX12_layApart_110 hd H kI kE)
      · have H := ine c15 H
        refine v_aload_n (q := 78) 0 dX12_layApart_77 rfl rfl rfl ?_
        obtain ⟨x16, x16e, H⟩ := bs H
        refine u_gR (q := 81) (r := (RX12, TX12, 58)) x16e dX12_layApart_78 w1407 rfl (by decide) rfl rfl ?_
        refine v_iload (q := 83) 4 dX12_layApart_81 rfl rfl ?_
        obtain ⟨x17, x17e, H⟩ := bs H
        refine u_lI (q := 84) x17e dX12_layApart_83 rfl ?_
        refine v_iconst (v := 1) (q := 85) dX12_layApart_84 (by decide) rfl ?_
        refine v_iadd (q := 86) dX12_layApart_85 rfl ?_
        refine v_aload_n (q := 87) 0 dX12_layApart_86 rfl rfl rfl ?_
        obtain ⟨x18, x18e, H⟩ := bs H
        refine u_gR (q := 90) (r := (RX12, TX12, 58)) x18e dX12_layApart_87 w1407 rfl (by decide) rfl rfl ?_
        refine v_iload_n (q := 91) 3 dX12_layApart_90 rfl rfl rfl ?_
        obtain ⟨x19, x19e, H⟩ := bs H
        refine u_lI (q := 92) x19e dX12_layApart_91 rfl ?_
        refine v_icmp_ge (q1 := 110) (q2 := 95) dX12_layApart_92 (by decide) rfl (fun c20 => ?_) (fun c20 => ?_)
        · have H := ip c20 H
          exact V.sub [0, 1, 2, 3, 4] rfl (sjX12_layApart_110 hd H kI kE)
        · have H := ine c20 H
          refine v_aload_n (q := 96) 0 dX12_layApart_95 rfl rfl rfl ?_
          obtain ⟨x21, x21e, H⟩ := bs H
          refine u_gR (q := 99) (r := (RX12, TX12, 58)) x21e dX12_layApart_96 w1407 rfl (by decide) rfl rfl ?_
          refine v_iload_n (q := 100) 3 dX12_layApart_99 rfl rfl rfl ?_
          refine v_aload_n (q := 101) 0 dX12_layApart_100 rfl rfl rfl ?_
          obtain ⟨x22, x22e, H⟩ := bs H
          refine u_gR (q := 104) (r := (RX12, TX12, 58)) x22e dX12_layApart_101 w1407 rfl (by decide) rfl rfl ?_
          refine v_iload (q := 106) 4 dX12_layApart_104 rfl rfl ?_
          obtain ⟨x23, x23e, H⟩ := bs H
          refine u_lI (q := 107) x23e dX12_layApart_106 rfl ?_
          refine v_iconst (v := 1) (q := 108) dX12_layApart_107 (by decide) rfl ?_
          refine v_iadd (q := 109) dX12_layApart_108 rfl ?_
          obtain ⟨h24, h24e, H⟩ := bs H
          refine u_tI (q := 110) h24e dX12_layApart_109 rfl ?_
          exact V.sub [0, 1, 2, 3, 4] rfl (sjX12_layApart_110 hd H kI kE)
def bX12_layApart_42 (u0 : Nat) (u1 : Int32) (u2 : Int32) (s42 : Int32 × Hp) : Option ((Int32 × Hp) ⊕ (Hp)) :=
if (6 : Int32) ≤ s42.1 then (
some (.inr s42.2)) else (
(lp (bX12_layApart_51 u0 u1 u2 s42.1) FU ((0 : Int32), s42.2)).bind fun e25 =>
(some (s42.1 + (1 : Int32))).bind fun x26 =>
some (.inl (x26, e25)))
set_option maxRecDepth 20000 in
set_option maxHeartbeats 4000000 in
theorem sbX12_layApart_42 {Γ : Gm} {d : Nat} (hd : 2 ≤ d) {u0 : Nat} {u1 : Int32} {u2 : Int32} {s42 : Int32 × Hp} {r : (Int32 × Hp) ⊕ (Hp)} {t : Option Value × Hp} (H : bX12_layApart_42 u0 u1 u2 s42 = some r) (kI : ∀ s, r = .inl s → (fun s42 => V Γ d mX12_layApart 42 [(0, .ref u0), (1, .int u1), (2, .int u2), (3, .int s42.1)] [] s42.2 t) s) (kE : ∀ e, r = .inr e → (fun e => V Γ d mX12_layApart 122 [(0, .ref u0), (1, .int u1), (2, .int u2)] [] e t) e) : V Γ d mX12_layApart 42 [(0, .ref u0), (1, .int u1), (2, .int u2), (3, .int s42.1)] [] s42.2 t := by
  unfold bX12_layApart_42 at H
  refine v_iload_n (q := 43) 3 dX12_layApart_42 rfl rfl rfl ?_
  refine v_bipush (v := 6) (q := 45) dX12_layApart_43 (by decide) rfl ?_
  refine v_icmp_ge (q1 := 122) (q2 := 48) dX12_layApart_45 (by decide) rfl (fun c8 => ?_) (fun c8 => ?_)
  · have H := ip c8 H
    exact V.sub [0, 1, 2] rfl (kE s42.2 (Option.some.inj H).symm)
  · have H := ine c8 H
    refine v_iconst (v := 0) (q := 49) dX12_layApart_48 (by decide) rfl ?_
    refine v_istore (L' := [(4, .int (0 : Int32)), (0, .ref u0), (1, .int u1), (2, .int u2), (3, .int s42.1)]) (q := 51) dX12_layApart_49 (by decide) rfl rfl ?_
    obtain ⟨e25, e25L, H⟩ := bs H
    refine V.sub [1, 2, 3, 4, 0] rfl ?_
    refine lp_V (P := (fun s51 => V Γ d mX12_layApart 51 [(0, .ref u0), (1, .int u1), (2, .int u2), (3, .int s42.1), (4, .int s51.1)] [] s51.2 t)) (E := (fun e => V Γ d mX12_layApart 116 [(0, .ref u0), (1, .int u1), (2, .int u2), (3, .int s42.1)] [] e t)) (fun s r hb kI kE => sbX12_layApart_51 hd (s51 := s) (r := r) hb kI kE) FU ((0 : Int32), s42.2) e25 e25L ?_
    obtain ⟨x26, x26e, H⟩ := bs H
    refine v_iinc (v := x26) (L' := [(3, .int x26), (0, .ref u0), (1, .int u1), (2, .int u2)]) (q := 119) 3 dX12_layApart_116 rfl (Option.some.inj x26e) (by decide) rfl rfl ?_
    refine v_goto (q := 42) dX12_layApart_119 (by decide) ?_
    exact V.sub [1, 2, 3, 0] rfl (kI (x26, e25) (Option.some.inj H).symm)
def bX12_layApart_34 (u0 : Nat) (u1 : Int32) (s34 : Int32 × Hp) : Option ((Int32 × Hp) ⊕ (Hp)) :=
if (6 : Int32) ≤ s34.1 then (
some (.inr s34.2)) else (
(lp (bX12_layApart_42 u0 u1 s34.1) FU ((0 : Int32), s34.2)).bind fun e27 =>
(some (s34.1 + (1 : Int32))).bind fun x28 =>
some (.inl (x28, e27)))
set_option maxRecDepth 20000 in
set_option maxHeartbeats 4000000 in
theorem sbX12_layApart_34 {Γ : Gm} {d : Nat} (hd : 2 ≤ d) {u0 : Nat} {u1 : Int32} {s34 : Int32 × Hp} {r : (Int32 × Hp) ⊕ (Hp)} {t : Option Value × Hp} (H : bX12_layApart_34 u0 u1 s34 = some r) (kI : ∀ s, r = .inl s → (fun s34 => V Γ d mX12_layApart 34 [(0, .ref u0), (1, .int u1), (2, .int s34.1)] [] s34.2 t) s) (kE : ∀ e, r = .inr e → (fun e => V Γ d mX12_layApart 128 [] [] e t) e) : V Γ d mX12_layApart 34 [(0, .ref u0), (1, .int u1), (2, .int s34.1)] [] s34.2 t := by
  unfold bX12_layApart_34 at H
  refine v_iload_n (q := 35) 2 dX12_layApart_34 rfl rfl rfl ?_
  refine v_bipush (v := 6) (q := 37) dX12_layApart_35 (by decide) rfl ?_
  refine v_icmp_ge (q1 := 128) (q2 := 40) dX12_layApart_37 (by decide) rfl (fun c7 => ?_) (fun c7 => ?_)
  · have H := ip c7 H
    exact V.sub [] rfl (kE s34.2 (Option.some.inj H).symm)
  · have H := ine c7 H
    refine v_iconst (v := 0) (q := 41) dX12_layApart_40 (by decide) rfl ?_
    refine v_istore_n (L' := [(3, .int (0 : Int32)), (0, .ref u0), (1, .int u1), (2, .int s34.1)]) (q := 42) dX12_layApart_41 rfl (by decide) rfl rfl ?_
    obtain ⟨e27, e27L, H⟩ := bs H
    refine V.sub [1, 2, 3, 0] rfl ?_
    refine lp_V (P := (fun s42 => V Γ d mX12_layApart 42 [(0, .ref u0), (1, .int u1), (2, .int s34.1), (3, .int s42.1)] [] s42.2 t)) (E := (fun e => V Γ d mX12_layApart 122 [(0, .ref u0), (1, .int u1), (2, .int s34.1)] [] e t)) (fun s r hb kI kE => sbX12_layApart_42 hd (s42 := s) (r := r) hb kI kE) FU ((0 : Int32), s34.2) e27 e27L ?_
    obtain ⟨x28, x28e, H⟩ := bs H
    refine v_iinc (v := x28) (L' := [(2, .int x28), (0, .ref u0), (1, .int u1)]) (q := 125) 2 dX12_layApart_122 rfl (Option.some.inj x28e) (by decide) rfl rfl ?_
    refine v_goto (q := 34) dX12_layApart_125 (by decide) ?_
    exact V.sub [1, 2, 0] rfl (kI (x28, e27) (Option.some.inj H).symm)
def fX12_layApart (h : Hp) (v0 : Nat) (v1 : Int32) : Option (Hp) :=
(lp (bX12_layApart_2 v0 v1) FU ((0 : Int32), h)).bind fun e6 =>
(lp (bX12_layApart_34 v0 v1) FU ((0 : Int32), e6)).bind fun e29 =>
some e29
set_option maxRecDepth 20000 in
set_option maxHeartbeats 4000000 in
theorem sX12_layApart {Γ : Gm} {d : Nat} (hd : 2 ≤ d) {h : Hp} {v0 : Nat} {v1 : Int32} {r : Hp} (H : fX12_layApart h v0 v1 = some r) : V Γ d mX12_layApart 0 [(0, .ref v0), (1, .int v1)] [] h (none, r) := by
  unfold fX12_layApart at H
  refine v_iconst (v := 0) (q := 1) dX12_layApart_0 (by decide) rfl ?_
  refine v_istore_n (L' := [(2, .int (0 : Int32)), (0, .ref v0), (1, .int v1)]) (q := 2) dX12_layApart_1 rfl (by decide) rfl rfl ?_
  obtain ⟨e6, e6L, H⟩ := bs H
  refine V.sub [1, 2, 0] rfl ?_
  refine lp_V (P := (fun s2 => V Γ d mX12_layApart 2 [(0, .ref v0), (1, .int v1), (2, .int s2.1)] [] s2.2 (none, r))) (E := (fun e => V Γ d mX12_layApart 32 [(0, .ref v0), (1, .int v1)] [] e (none, r))) (fun s r hb kI kE => sbX12_layApart_2 hd (s2 := s) (r := r) hb kI kE) FU ((0 : Int32), h) e6 e6L ?_
  refine v_iconst (v := 0) (q := 33) dX12_layApart_32 (by decide) rfl ?_
  refine v_istore_n (L' := [(2, .int (0 : Int32)), (0, .ref v0), (1, .int v1)]) (q := 34) dX12_layApart_33 rfl (by decide) rfl rfl ?_
  obtain ⟨e29, e29L, H⟩ := bs H
  refine V.sub [1, 2, 0] rfl ?_
  refine lp_V (P := (fun s34 => V Γ d mX12_layApart 34 [(0, .ref v0), (1, .int v1), (2, .int s34.1)] [] s34.2 (none, r))) (E := (fun e => V Γ d mX12_layApart 128 [] [] e (none, r))) (fun s r hb kI kE => sbX12_layApart_34 hd (s34 := s) (r := r) hb kI kE) FU ((0 : Int32), e6) e29 e29L ?_
  cases H
  exact v_return rfl dX12_layApart_128
def mX12_layRing : MI := (yX12_layRing, cX12_layRing, 5, some .boolean)
theorem oX12_layRing : mOK mX12_layRing 0 := ⟨by decide +kernel, by decide +kernel, by decide +kernel, by decide, w1876, w0150⟩
def jX12_layRing_62 (u0 : Nat) (u1 : Int32) (v3 : Int32) (y0 : Int32) (h : Hp) : Option ((Int32 × Int32) ⊕ (Int32)) :=
(some (v3 + (1 : Int32))).bind fun x11 =>
some (.inl (y0, x11))
set_option maxRecDepth 20000 in
set_option maxHeartbeats 4000000 in
theorem sjX12_layRing_62 {Γ : Gm} {d : Nat} (hd : 5 ≤ d) {u0 : Nat} {u1 : Int32} {v3 : Int32} {y0 : Int32} {h : Hp} {r : (Int32 × Int32) ⊕ (Int32)} {t : Option Value × Hp} (H : jX12_layRing_62 u0 u1 v3 y0 h = some r) (kI : ∀ s, r = .inl s → (fun s23 => V Γ d mX12_layRing 23 [(0, .ref u0), (1, .int u1), (2, .int s23.1), (3, .int s23.2)] [] h t) s) (kE : ∀ e, r = .inr e → (fun e => V Γ d mX12_layRing 69 [(0, .ref u0), (1, .int u1), (2, .int e)] [] h t) e) : V Γ d mX12_layRing 62 [(0, .ref u0), (1, .int u1), (3, .int v3)] [.int y0] h t := by
  unfold jX12_layRing_62 at H
  refine v_istore_n (L' := [(2, .int y0), (0, .ref u0), (1, .int u1), (3, .int v3)]) (q := 63) dX12_layRing_62 rfl (by decide) rfl rfl ?_
  obtain ⟨x11, x11e, H⟩ := bs H
  refine v_iinc (v := x11) (L' := [(3, .int x11), (2, .int y0), (0, .ref u0), (1, .int u1)]) (q := 66) 3 dX12_layRing_63 rfl (Option.some.inj x11e) (by decide) rfl rfl ?_
  refine v_goto (q := 23) dX12_layRing_66 (by decide) ?_
  exact V.sub [2, 3, 1, 0] rfl (kI (y0, x11) (Option.some.inj H).symm)
def jX12_layRing_61 (u0 : Nat) (u1 : Int32) (v2 : Int32) (v3 : Int32) (h : Hp) : Option ((Int32 × Int32) ⊕ (Int32)) :=
jX12_layRing_62 u0 u1 v3 v2 h
set_option maxRecDepth 20000 in
set_option maxHeartbeats 4000000 in
theorem sjX12_layRing_61 {Γ : Gm} {d : Nat} (hd : 5 ≤ d) {u0 : Nat} {u1 : Int32} {v2 : Int32} {v3 : Int32} {h : Hp} {r : (Int32 × Int32) ⊕ (Int32)} {t : Option Value × Hp} (H : jX12_layRing_61 u0 u1 v2 v3 h = some r) (kI : ∀ s, r = .inl s → (fun s23 => V Γ d mX12_layRing 23 [(0, .ref u0), (1, .int u1), (2, .int s23.1), (3, .int s23.2)] [] h t) s) (kE : ∀ e, r = .inr e → (fun e => V Γ d mX12_layRing 69 [(0, .ref u0), (1, .int u1), (2, .int e)] [] h t) e) : V Γ d mX12_layRing 61 [(0, .ref u0), (1, .int u1), (2, .int v2), (3, .int v3)] [] h t := by
  unfold jX12_layRing_61 at H
  refine v_iload_n (q := 62) 2 dX12_layRing_61 rfl rfl rfl ?_
  exact V.sub [0, 1, 3] rfl (sjX12_layRing_62 hd H kI kE)
def bX12_layRing_23 (u0 : Nat) (u1 : Int32) (h : Hp) (s23 : Int32 × Int32) : Option ((Int32 × Int32) ⊕ (Int32)) :=
if (6 : Int32) ≤ s23.2 then (
some (.inr s23.1)) else (
(gR h 12 u0 49).bind fun x7 =>
(lI h .int x7 u1).bind fun x8 =>
(fX12_has h x8 s23.2).bind fun x9 =>
if x9 = 0 then (
jX12_layRing_61 u0 u1 s23.1 s23.2 h) else (
(gR h 12 u0 51).bind fun x12 =>
(lI h .int x12 s23.2).bind fun x13 =>
if s23.1 ≤ x13 then (
jX12_layRing_61 u0 u1 s23.1 s23.2 h) else (
(gR h 12 u0 51).bind fun x15 =>
(lI h .int x15 s23.2).bind fun x16 =>
jX12_layRing_62 u0 u1 s23.2 x16 h)))
set_option maxRecDepth 20000 in
set_option maxHeartbeats 4000000 in
theorem sbX12_layRing_23 {Γ : Gm} {d : Nat} (hd : 5 ≤ d) {u0 : Nat} {u1 : Int32} {h : Hp} {s23 : Int32 × Int32} {r : (Int32 × Int32) ⊕ (Int32)} {t : Option Value × Hp} (H : bX12_layRing_23 u0 u1 h s23 = some r) (kI : ∀ s, r = .inl s → (fun s23 => V Γ d mX12_layRing 23 [(0, .ref u0), (1, .int u1), (2, .int s23.1), (3, .int s23.2)] [] h t) s) (kE : ∀ e, r = .inr e → (fun e => V Γ d mX12_layRing 69 [(0, .ref u0), (1, .int u1), (2, .int e)] [] h t) e) : V Γ d mX12_layRing 23 [(0, .ref u0), (1, .int u1), (2, .int s23.1), (3, .int s23.2)] [] h t := by
  unfold bX12_layRing_23 at H
  refine v_iload_n (q := 24) 3 dX12_layRing_23 rfl rfl rfl ?_
  refine v_bipush (v := 6) (q := 26) dX12_layRing_24 (by decide) rfl ?_
  refine v_icmp_ge (q1 := 69) (q2 := 29) dX12_layRing_26 (by decide) rfl (fun c6 => ?_) (fun c6 => ?_)
  · have H := ip c6 H
    exact V.sub [0, 1, 2] rfl (kE s23.1 (Option.some.inj H).symm)
  · have H := ine c6 H
    refine v_aload_n (q := 30) 0 dX12_layRing_29 rfl rfl rfl ?_
    obtain ⟨x7, x7e, H⟩ := bs H
    refine u_gR (q := 33) (r := (RX12, TX12, 58)) x7e dX12_layRing_30 w1405 rfl (by decide) rfl rfl ?_
    refine v_iload_n (q := 34) 1 dX12_layRing_33 rfl rfl rfl ?_
    obtain ⟨x8, x8e, H⟩ := bs H
    refine u_lI (q := 35) x8e dX12_layRing_34 rfl ?_
    refine v_iload_n (q := 36) 3 dX12_layRing_35 rfl rfl rfl ?_
    obtain ⟨x9, x9e, H⟩ := bs H
    refine u_callS1 (M' := mX12_has) (d' := 1) (As := [.int x8, .int s23.2]) (st := []) (q := 39) oX12_has dX12_layRing_36 w1846 w1847 rfl (Nat.le_of_ble_eq_true rfl) (Nat.le_of_ble_eq_true rfl) (Nat.lt_of_lt_of_le (by decide) hd) rfl (sX12_has (Nat.le_refl _) x9e) rfl ?_
    refine v_if_eq (q1 := 61) (q2 := 42) dX12_layRing_39 (by decide) rfl (fun c10 => ?_) (fun c10 => ?_)
    · have H := ip c10 H
      exact V.sub [0, 1, 2, 3] rfl (sjX12_layRing_61 hd H kI kE)
    · have H := ine c10 H
      refine v_aload_n (q := 43) 0 dX12_layRing_42 rfl rfl rfl ?_
      obtain ⟨x12, x12e, H⟩ := bs H
      refine u_gR (q := 46) (r := (RX12, TX12, 58)) x12e dX12_layRing_43 w1407 rfl (by decide) rfl rfl ?_
      refine v_iload_n (q := 47) 3 dX12_layRing_46 rfl rfl rfl ?_
      obtain ⟨x13, x13e, H⟩ := bs H
      refine u_lI (q := 48) x13e dX12_layRing_47 rfl ?_
      refine v_iload_n (q := 49) 2 dX12_layRing_48 rfl rfl rfl ?_
      refine v_icmp_ge (q1 := 61) (q2 := 52) dX12_layRing_49 (by decide) rfl (fun c14 => ?_) (fun c14 => ?_)
      · have H := ip c14 H
        exact V.sub [0, 1, 2, 3] rfl (sjX12_layRing_61 hd H kI kE)
      · have H := ine c14 H
        refine v_aload_n (q := 53) 0 dX12_layRing_52 rfl rfl rfl ?_
        obtain ⟨x15, x15e, H⟩ := bs H
        refine u_gR (q := 56) (r := (RX12, TX12, 58)) x15e dX12_layRing_53 w1407 rfl (by decide) rfl rfl ?_
        refine v_iload_n (q := 57) 3 dX12_layRing_56 rfl rfl rfl ?_
        obtain ⟨x16, x16e, H⟩ := bs H
        refine u_lI (q := 58) x16e dX12_layRing_57 rfl ?_
        refine v_goto (q := 62) dX12_layRing_58 (by decide) ?_
        exact V.sub [0, 1, 3] rfl (sjX12_layRing_62 hd H kI kE)
def bX12_layRing_6 (u0 : Nat) (s6 : Int32 × Hp) : Option ((Int32 × Hp) ⊕ ((Hp) ⊕ (Int32 × Int32 × Hp))) :=
if (6 : Int32) ≤ s6.1 then (
some (.inr (.inl s6.2))) else (
(gO s6.2 12 u0).bind fun _ =>
(fX12_layApart s6.2 u0 s6.1).bind fun x5 =>
(lp (bX12_layRing_23 u0 s6.1 x5) FU ((268435456 : Int32), (0 : Int32))).bind fun e17 =>
if e17 < (268435456 : Int32) then (
some (.inr (.inr (s6.1, e17, x5)))) else (
(some (s6.1 + (1 : Int32))).bind fun x19 =>
some (.inl (x19, x5))))
set_option maxRecDepth 20000 in
set_option maxHeartbeats 4000000 in
theorem sbX12_layRing_6 {Γ : Gm} {d : Nat} (hd : 5 ≤ d) {u0 : Nat} {s6 : Int32 × Hp} {r : (Int32 × Hp) ⊕ ((Hp) ⊕ (Int32 × Int32 × Hp))} {t : Option Value × Hp} (H : bX12_layRing_6 u0 s6 = some r) (kI : ∀ s, r = .inl s → (fun s6 => V Γ d mX12_layRing 6 [(0, .ref u0), (1, .int s6.1)] [] s6.2 t) s) (kE : ∀ e, r = .inr e → (fun e => (match e with | .inl a0 => V Γ d mX12_layRing 176 [] [] a0 t | .inr b0 => V Γ d mX12_layRing 79 [(0, .ref u0), (1, .int b0.1), (2, .int b0.2.1)] [] b0.2.2 t)) e) : V Γ d mX12_layRing 6 [(0, .ref u0), (1, .int s6.1)] [] s6.2 t := by
  unfold bX12_layRing_6 at H
  refine v_iload_n (q := 7) 1 dX12_layRing_6 rfl rfl rfl ?_
  refine v_bipush (v := 6) (q := 9) dX12_layRing_7 (by decide) rfl ?_
  refine v_icmp_ge (q1 := 176) (q2 := 12) dX12_layRing_9 (by decide) rfl (fun c3 => ?_) (fun c3 => ?_)
  · have H := ip c3 H
    exact V.sub [] rfl (kE (.inl s6.2) (Option.some.inj H).symm)
  · have H := ine c3 H
    refine v_aload_n (q := 13) 0 dX12_layRing_12 rfl rfl rfl ?_
    refine v_iload_n (q := 14) 1 dX12_layRing_13 rfl rfl rfl ?_
    obtain ⟨_, o4, H⟩ := bs H
    obtain ⟨x5, x5e, H⟩ := bs H
    refine u_callV0 (M' := mX12_layApart) (d' := 2) (rc := (RX12, TX12, 58)) (As := [.int s6.1]) (st := []) (q := 17) oX12_layApart dX12_layRing_14 w1897 w1899 w0119 rfl rfl (gO_sp o4).1 (gO_sp o4).2 rfl (Nat.le_of_ble_eq_true rfl) (Nat.le_of_ble_eq_true rfl) (Nat.lt_of_lt_of_le (by decide) hd) rfl (sX12_layApart (Nat.le_refl _) x5e) rfl ?_
    refine v_ldcw (v := 268435456) (q := 20) dX12_layRing_17 w1713 rfl ?_
    refine v_istore_n (L' := [(2, .int (268435456 : Int32)), (0, .ref u0), (1, .int s6.1)]) (q := 21) dX12_layRing_20 rfl (by decide) rfl rfl ?_
    refine v_iconst (v := 0) (q := 22) dX12_layRing_21 (by decide) rfl ?_
    refine v_istore_n (L' := [(3, .int (0 : Int32)), (2, .int (268435456 : Int32)), (0, .ref u0), (1, .int s6.1)]) (q := 23) dX12_layRing_22 rfl (by decide) rfl rfl ?_
    obtain ⟨e17, e17L, H⟩ := bs H
    refine V.sub [2, 3, 1, 0] rfl ?_
    refine lp_V (P := (fun s23 => V Γ d mX12_layRing 23 [(0, .ref u0), (1, .int s6.1), (2, .int s23.1), (3, .int s23.2)] [] x5 t)) (E := (fun e => V Γ d mX12_layRing 69 [(0, .ref u0), (1, .int s6.1), (2, .int e)] [] x5 t)) (fun s r hb kI kE => sbX12_layRing_23 hd (s23 := s) (r := r) hb kI kE) FU ((268435456 : Int32), (0 : Int32)) e17 e17L ?_
    refine v_iload_n (q := 70) 2 dX12_layRing_69 rfl rfl rfl ?_
    refine v_ldcw (v := 268435456) (q := 73) dX12_layRing_70 w1713 rfl ?_
    refine v_icmp_lt (q1 := 79) (q2 := 76) dX12_layRing_73 (by decide) rfl (fun c18 => ?_) (fun c18 => ?_)
    · have H := ip c18 H
      exact V.sub [0, 1, 2] rfl (kE (.inr (s6.1, e17, x5)) (Option.some.inj H).symm)
    · have H := ine c18 H
      refine v_goto (q := 170) dX12_layRing_76 (by decide) ?_
      obtain ⟨x19, x19e, H⟩ := bs H
      refine v_iinc (v := x19) (L' := [(1, .int x19), (0, .ref u0), (2, .int e17)]) (q := 173) 1 dX12_layRing_170 rfl (Option.some.inj x19e) (by decide) rfl rfl ?_
      refine v_goto (q := 6) dX12_layRing_173 (by decide) ?_
      exact V.sub [1, 0] rfl (kI (x19, x5) (Option.some.inj H).symm)
def jX12_layRing_135 (u0 : Nat) (u3 : Int32) (v4 : Int32) (h : Hp) : Option ((Int32) ⊕ (Int32)) :=
(some (v4 + (1 : Int32))).bind fun x34 =>
some (.inl x34)
set_option maxRecDepth 20000 in
set_option maxHeartbeats 4000000 in
theorem sjX12_layRing_135 {Γ : Gm} {d : Nat} (hd : 5 ≤ d) {u0 : Nat} {u3 : Int32} {v4 : Int32} {h : Hp} {r : (Int32) ⊕ (Int32)} {t : Option Value × Hp} (H : jX12_layRing_135 u0 u3 v4 h = some r) (kI : ∀ s, r = .inl s → (fun s100 => V Γ d mX12_layRing 100 [(0, .ref u0), (3, .int u3), (4, .int s100)] [] h t) s) (kE : ∀ e, r = .inr e → (fun e => V Γ d mX12_layRing 141 [(0, .ref u0), (3, .int u3), (4, .int e)] [] h t) e) : V Γ d mX12_layRing 135 [(0, .ref u0), (3, .int u3), (4, .int v4)] [] h t := by
  unfold jX12_layRing_135 at H
  obtain ⟨x34, x34e, H⟩ := bs H
  refine v_iinc (v := x34) (L' := [(4, .int x34), (0, .ref u0), (3, .int u3)]) (q := 138) 2 dX12_layRing_135 rfl (Option.some.inj x34e) (by decide) rfl rfl ?_
  refine v_goto (q := 100) dX12_layRing_138 (by decide) ?_
  exact V.sub [1, 2, 0] rfl (kI x34 (Option.some.inj H).symm)
def bX12_layRing_100 (u0 : Nat) (u3 : Int32) (h : Hp) (s100 : Int32) : Option ((Int32) ⊕ (Int32)) :=
(gR h 12 u0 49).bind fun x27 =>
(gR h 12 u0 50).bind fun x28 =>
(gI h 12 u0 52).bind fun x29 =>
(lI h .int x28 (x29 - (1 : Int32))).bind fun x30 =>
(lI h .int x27 x30).bind fun x31 =>
(fX12_has h x31 s100).bind fun x32 =>
if x32 = 0 then (
jX12_layRing_135 u0 u3 s100 h) else (
(gR h 12 u0 51).bind fun x35 =>
(lI h .int x35 s100).bind fun x36 =>
if x36 = u3 then (
some (.inr s100)) else (
jX12_layRing_135 u0 u3 s100 h))
set_option maxRecDepth 20000 in
set_option maxHeartbeats 4000000 in
theorem sbX12_layRing_100 {Γ : Gm} {d : Nat} (hd : 5 ≤ d) {u0 : Nat} {u3 : Int32} {h : Hp} {s100 : Int32} {r : (Int32) ⊕ (Int32)} {t : Option Value × Hp} (H : bX12_layRing_100 u0 u3 h s100 = some r) (kI : ∀ s, r = .inl s → (fun s100 => V Γ d mX12_layRing 100 [(0, .ref u0), (3, .int u3), (4, .int s100)] [] h t) s) (kE : ∀ e, r = .inr e → (fun e => V Γ d mX12_layRing 141 [(0, .ref u0), (3, .int u3), (4, .int e)] [] h t) e) : V Γ d mX12_layRing 100 [(0, .ref u0), (3, .int u3), (4, .int s100)] [] h t := by
  unfold bX12_layRing_100 at H
  refine v_aload_n (q := 101) 0 dX12_layRing_100 rfl rfl rfl ?_
  obtain ⟨x27, x27e, H⟩ := bs H
  refine u_gR (q := 104) (r := (RX12, TX12, 58)) x27e dX12_layRing_101 w1405 rfl (by decide) rfl rfl ?_
  refine v_aload_n (q := 105) 0 dX12_layRing_104 rfl rfl rfl ?_
  obtain ⟨x28, x28e, H⟩ := bs H
  refine u_gR (q := 108) (r := (RX12, TX12, 58)) x28e dX12_layRing_105 w1406 rfl (by decide) rfl rfl ?_
  refine v_aload_n (q := 109) 0 dX12_layRing_108 rfl rfl rfl ?_
  obtain ⟨x29, x29e, H⟩ := bs H
  refine u_gI (q := 112) (r := (RX12, TX12, 58)) x29e dX12_layRing_109 w1408 rfl (by decide) rfl rfl ?_
  refine v_iconst (v := 1) (q := 113) dX12_layRing_112 (by decide) rfl ?_
  refine v_isub (q := 114) dX12_layRing_113 rfl ?_
  obtain ⟨x30, x30e, H⟩ := bs H
  refine u_lI (q := 115) x30e dX12_layRing_114 rfl ?_
  obtain ⟨x31, x31e, H⟩ := bs H
  refine u_lI (q := 116) x31e dX12_layRing_115 rfl ?_
  refine v_iload (q := 118) 2 dX12_layRing_116 rfl rfl ?_
  obtain ⟨x32, x32e, H⟩ := bs H
  refine u_callS1 (M' := mX12_has) (d' := 1) (As := [.int x31, .int s100]) (st := []) (q := 121) oX12_has dX12_layRing_118 w1846 w1847 rfl (Nat.le_of_ble_eq_true rfl) (Nat.le_of_ble_eq_true rfl) (Nat.lt_of_lt_of_le (by decide) hd) rfl (sX12_has (Nat.le_refl _) x32e) rfl ?_
  refine v_if_eq (q1 := 135) (q2 := 124) dX12_layRing_121 (by decide) rfl (fun c33 => ?_) (fun c33 => ?_)
  · have H := ip c33 H
    exact V.sub [0, 1, 2] rfl (sjX12_layRing_135 hd H kI kE)
  · have H := ine c33 H
    refine v_aload_n (q := 125) 0 dX12_layRing_124 rfl rfl rfl ?_
    obtain ⟨x35, x35e, H⟩ := bs H
    refine u_gR (q := 128) (r := (RX12, TX12, 58)) x35e dX12_layRing_125 w1407 rfl (by decide) rfl rfl ?_
    refine v_iload (q := 130) 2 dX12_layRing_128 rfl rfl ?_
    obtain ⟨x36, x36e, H⟩ := bs H
    refine u_lI (q := 131) x36e dX12_layRing_130 rfl ?_
    refine v_iload_n (q := 132) 1 dX12_layRing_131 rfl rfl rfl ?_
    refine v_icmp_eq (q1 := 141) (q2 := 135) dX12_layRing_132 (by decide) rfl (fun c37 => ?_) (fun c37 => ?_)
    · have H := ip c37 H
      exact V.sub [0, 1, 2] rfl (kE s100 (Option.some.inj H).symm)
    · have H := ine c37 H
      exact V.sub [0, 1, 2] rfl (sjX12_layRing_135 hd H kI kE)
def bX12_layRing_93 (u0 : Nat) (s93 : Int32 × Hp) : Option ((Int32 × Hp) ⊕ (Hp)) :=
if s93.1 ≤ 0 then (
some (.inr s93.2)) else (
(lp (bX12_layRing_100 u0 s93.1 s93.2) FU (0 : Int32)).bind fun e38 =>
(gR s93.2 12 u0 50).bind fun x39 =>
(gI s93.2 12 u0 52).bind fun x40 =>
(tI s93.2 x39 x40 e38).bind fun h41 =>
(gI h41 12 u0 52).bind fun x42 =>
(pI h41 12 u0 52 (x42 + (1 : Int32))).bind fun h43 =>
(some (s93.1 + (-1 : Int32))).bind fun x44 =>
some (.inl (x44, h43)))
set_option maxRecDepth 20000 in
set_option maxHeartbeats 4000000 in
theorem sbX12_layRing_93 {Γ : Gm} {d : Nat} (hd : 5 ≤ d) {u0 : Nat} {s93 : Int32 × Hp} {r : (Int32 × Hp) ⊕ (Hp)} {t : Option Value × Hp} (H : bX12_layRing_93 u0 s93 = some r) (kI : ∀ s, r = .inl s → (fun s93 => V Γ d mX12_layRing 93 [(0, .ref u0), (3, .int s93.1)] [] s93.2 t) s) (kE : ∀ e, r = .inr e → (fun e => V Γ d mX12_layRing 168 [] [] e t) e) : V Γ d mX12_layRing 93 [(0, .ref u0), (3, .int s93.1)] [] s93.2 t := by
  unfold bX12_layRing_93 at H
  refine v_iload_n (q := 94) 1 dX12_layRing_93 rfl rfl rfl ?_
  refine v_if_le (q1 := 168) (q2 := 97) dX12_layRing_94 (by decide) rfl (fun c26 => ?_) (fun c26 => ?_)
  · have H := ip c26 H
    exact V.sub [] rfl (kE s93.2 (Option.some.inj H).symm)
  · have H := ine c26 H
    refine v_iconst (v := 0) (q := 98) dX12_layRing_97 (by decide) rfl ?_
    refine v_istore (L' := [(4, .int (0 : Int32)), (0, .ref u0), (3, .int s93.1)]) (q := 100) dX12_layRing_98 (by decide) rfl rfl ?_
    obtain ⟨e38, e38L, H⟩ := bs H
    refine V.sub [1, 2, 0] rfl ?_
    refine lp_V (P := (fun s100 => V Γ d mX12_layRing 100 [(0, .ref u0), (3, .int s93.1), (4, .int s100)] [] s93.2 t)) (E := (fun e => V Γ d mX12_layRing 141 [(0, .ref u0), (3, .int s93.1), (4, .int e)] [] s93.2 t)) (fun s r hb kI kE => sbX12_layRing_100 hd (s100 := s) (r := r) hb kI kE) FU (0 : Int32) e38 e38L ?_
    refine v_aload_n (q := 142) 0 dX12_layRing_141 rfl rfl rfl ?_
    obtain ⟨x39, x39e, H⟩ := bs H
    refine u_gR (q := 145) (r := (RX12, TX12, 58)) x39e dX12_layRing_142 w1406 rfl (by decide) rfl rfl ?_
    refine v_aload_n (q := 146) 0 dX12_layRing_145 rfl rfl rfl ?_
    obtain ⟨x40, x40e, H⟩ := bs H
    refine u_gI (q := 149) (r := (RX12, TX12, 58)) x40e dX12_layRing_146 w1408 rfl (by decide) rfl rfl ?_
    refine v_iload (q := 151) 2 dX12_layRing_149 rfl rfl ?_
    obtain ⟨h41, h41e, H⟩ := bs H
    refine u_tI (q := 152) h41e dX12_layRing_151 rfl ?_
    refine v_aload_n (q := 153) 0 dX12_layRing_152 rfl rfl rfl ?_
    refine v_dup (q := 154) dX12_layRing_153 rfl rfl ?_
    obtain ⟨x42, x42e, H⟩ := bs H
    refine u_gI (q := 157) (r := (RX12, TX12, 58)) x42e dX12_layRing_154 w1408 rfl (by decide) rfl rfl ?_
    refine v_iconst (v := 1) (q := 158) dX12_layRing_157 (by decide) rfl ?_
    refine v_iadd (q := 159) dX12_layRing_158 rfl ?_
    obtain ⟨h43, h43e, H⟩ := bs H
    refine u_pI (q := 162) (r := (RX12, TX12, 58)) h43e dX12_layRing_159 w1408 rfl (by decide) (Or.inl rfl) rfl rfl ?_
    obtain ⟨x44, x44e, H⟩ := bs H
    refine v_iinc (v := x44) (L' := [(3, .int x44), (0, .ref u0), (4, .int e38)]) (q := 165) 1 dX12_layRing_162 rfl (Option.some.inj x44e) (by decide) rfl rfl ?_
    refine v_goto (q := 93) dX12_layRing_165 (by decide) ?_
    exact V.sub [1, 0] rfl (kI (x44, h43) (Option.some.inj H).symm)
def fX12_layRing (h : Hp) (v0 : Nat) : Option (Int32 × Hp) :=
(gO h 12 v0).bind fun _ =>
(fX12_layWaits h v0).bind fun x2 =>
(lp (bX12_layRing_6 v0) FU ((0 : Int32), x2)).bind fun e20 =>
(match e20 with
| .inl e21 => (
some (((0 : Int32), e21)))
| .inr e22 => (
(gR e22.2.2 12 v0 50).bind fun x23 =>
(tI e22.2.2 x23 (0 : Int32) e22.1).bind fun h24 =>
(pI h24 12 v0 52 (1 : Int32)).bind fun h25 =>
(lp (bX12_layRing_93 v0) FU (e22.2.1, h25)).bind fun e45 =>
some (((1 : Int32), e45))))
set_option maxRecDepth 20000 in
set_option maxHeartbeats 4000000 in
theorem sX12_layRing {Γ : Gm} {d : Nat} (hd : 5 ≤ d) {h : Hp} {v0 : Nat} {r : Int32 × Hp} (H : fX12_layRing h v0 = some r) : V Γ d mX12_layRing 0 [(0, .ref v0)] [] h (some (.int r.1), r.2) := by
  unfold fX12_layRing at H
  refine v_aload_n (q := 1) 0 dX12_layRing_0 rfl rfl rfl ?_
  obtain ⟨_, o1, H⟩ := bs H
  obtain ⟨x2, x2e, H⟩ := bs H
  refine u_callV0 (M' := mX12_layWaits) (d' := 4) (rc := (RX12, TX12, 58)) (As := []) (st := []) (q := 4) oX12_layWaits dX12_layRing_1 w1877 w1879 w0114 rfl rfl (gO_sp o1).1 (gO_sp o1).2 rfl (Nat.le_of_ble_eq_true rfl) (Nat.le_of_ble_eq_true rfl) (Nat.lt_of_lt_of_le (by decide) hd) rfl (sX12_layWaits (Nat.le_refl _) x2e) rfl ?_
  refine v_iconst (v := 0) (q := 5) dX12_layRing_4 (by decide) rfl ?_
  refine v_istore_n (L' := [(1, .int (0 : Int32)), (0, .ref v0)]) (q := 6) dX12_layRing_5 rfl (by decide) rfl rfl ?_
  obtain ⟨e20, e20L, H⟩ := bs H
  refine V.sub [1, 0] rfl ?_
  refine lp_V (P := (fun s6 => V Γ d mX12_layRing 6 [(0, .ref v0), (1, .int s6.1)] [] s6.2 (some (.int r.1), r.2))) (E := (fun e => (match e with | .inl a0 => V Γ d mX12_layRing 176 [] [] a0 (some (.int r.1), r.2) | .inr b0 => V Γ d mX12_layRing 79 [(0, .ref v0), (1, .int b0.1), (2, .int b0.2.1)] [] b0.2.2 (some (.int r.1), r.2)))) (fun s r hb kI kE => sbX12_layRing_6 hd (s6 := s) (r := r) hb kI kE) FU ((0 : Int32), x2) e20 e20L ?_
  rcases e20 with e21 | e22
  · skip
    refine v_iconst (v := 0) (q := 177) dX12_layRing_176 (by decide) rfl ?_
    cases H
    exact v_zreturn rfl (by decide) dX12_layRing_177
  · skip
    refine v_aload_n (q := 80) 0 dX12_layRing_79 rfl rfl rfl ?_
    obtain ⟨x23, x23e, H⟩ := bs H
    refine u_gR (q := 83) (r := (RX12, TX12, 58)) x23e dX12_layRing_80 w1406 rfl (by decide) rfl rfl ?_
    refine v_iconst (v := 0) (q := 84) dX12_layRing_83 (by decide) rfl ?_
    refine v_iload_n (q := 85) 1 dX12_layRing_84 rfl rfl rfl ?_
    obtain ⟨h24, h24e, H⟩ := bs H
    refine u_tI (q := 86) h24e dX12_layRing_85 rfl ?_
    refine v_aload_n (q := 87) 0 dX12_layRing_86 rfl rfl rfl ?_
    refine v_iconst (v := 1) (q := 88) dX12_layRing_87 (by decide) rfl ?_
    obtain ⟨h25, h25e, H⟩ := bs H
    refine u_pI (q := 91) (r := (RX12, TX12, 58)) h25e dX12_layRing_88 w1408 rfl (by decide) (Or.inl rfl) rfl rfl ?_
    refine v_iload_n (q := 92) 2 dX12_layRing_91 rfl rfl rfl ?_
    refine v_istore_n (L' := [(3, .int e22.2.1), (0, .ref v0), (1, .int e22.1), (2, .int e22.2.1)]) (q := 93) dX12_layRing_92 rfl (by decide) rfl rfl ?_
    obtain ⟨e45, e45L, H⟩ := bs H
    refine V.sub [1, 0] rfl ?_
    refine lp_V (P := (fun s93 => V Γ d mX12_layRing 93 [(0, .ref v0), (3, .int s93.1)] [] s93.2 (some (.int r.1), r.2))) (E := (fun e => V Γ d mX12_layRing 168 [] [] e (some (.int r.1), r.2))) (fun s r hb kI kE => sbX12_layRing_93 hd (s93 := s) (r := r) hb kI kE) FU (e22.2.1, h25) e45 e45L ?_
    refine v_iconst (v := 1) (q := 169) dX12_layRing_168 (by decide) rfl ?_
    cases H
    exact v_zreturn rfl (by decide) dX12_layRing_169

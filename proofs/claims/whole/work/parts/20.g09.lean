def mX12_lookUnsafe : MI := (yX12_lookUnsafe, cX12_lookUnsafe, 9, none)
theorem oX12_lookUnsafe : mOK mX12_lookUnsafe 5 := ⟨by decide +kernel, by decide +kernel, by decide +kernel, by decide, w1733, w0150⟩
def jX12_lookUnsafe_100 (u0 : Nat) (u1 : Int32) (u2 : Int32) (u3 : Int32) (u4 : Int32) (u5 : Int32) (u6 : Int32) (v7 : Int32) (h : Hp) : Option ((Int32 × Hp) ⊕ (Hp)) :=
(some (v7 + (1 : Int32))).bind fun x4 =>
some (.inl (x4, h))
set_option maxRecDepth 20000 in
set_option maxHeartbeats 4000000 in
theorem sjX12_lookUnsafe_100 {Γ : Gm} {d : Nat} (hd : 4 ≤ d) {u0 : Nat} {u1 : Int32} {u2 : Int32} {u3 : Int32} {u4 : Int32} {u5 : Int32} {u6 : Int32} {v7 : Int32} {h : Hp} {r : (Int32 × Hp) ⊕ (Hp)} {t : Option Value × Hp} (H : jX12_lookUnsafe_100 u0 u1 u2 u3 u4 u5 u6 v7 h = some r) (kI : ∀ s, r = .inl s → (fun s13 => V Γ d mX12_lookUnsafe 13 [(0, .ref u0), (1, .int u1), (2, .int u2), (3, .int u3), (4, .int u4), (5, .int u5), (6, .int u6), (7, .int s13.1)] [] s13.2 t) s) (kE : ∀ e, r = .inr e → (fun e => V Γ d mX12_lookUnsafe 106 [(0, .ref u0), (1, .int u1), (2, .int u2), (3, .int u3), (4, .int u4), (5, .int u5), (6, .int u6)] [] e t) e) : V Γ d mX12_lookUnsafe 100 [(0, .ref u0), (1, .int u1), (2, .int u2), (3, .int u3), (4, .int u4), (5, .int u5), (6, .int u6), (7, .int v7)] [] h t := by
  unfold jX12_lookUnsafe_100 at H
  obtain ⟨x4, x4e, H⟩ := bs H
  refine v_iinc (v := x4) (L' := [(7, .int x4), (0, .ref u0), (1, .int u1), (2, .int u2), (3, .int u3), (4, .int u4), (5, .int u5), (6, .int u6)]) (q := 103) 7 dX12_lookUnsafe_100 rfl (Option.some.inj x4e) (by decide) rfl rfl ?_
  refine v_goto (q := 13) dX12_lookUnsafe_103 (by decide) ?_
  exact V.sub [1, 2, 3, 4, 5, 6, 7, 0] rfl (kI (x4, h) (Option.some.inj H).symm)
def bX12_lookUnsafe_13 (u0 : Nat) (u1 : Int32) (u2 : Int32) (u3 : Int32) (u4 : Int32) (u5 : Int32) (u6 : Int32) (s13 : Int32 × Hp) : Option ((Int32 × Hp) ⊕ (Hp)) :=
if (16 : Int32) ≤ s13.1 then (
some (.inr s13.2)) else (
if u6 = s13.1 then (
jX12_lookUnsafe_100 u0 u1 u2 u3 u4 u5 u6 s13.1 s13.2) else (
(gR s13.2 12 u0 0).bind fun x5 =>
(lI s13.2 .int x5 ((256 : Int32) + u6)).bind fun x6 =>
if (x6 &&& u4) = 0 then (
jX12_lookUnsafe_100 u0 u1 u2 u3 u4 u5 u6 s13.1 s13.2) else (
(gR s13.2 12 u0 0).bind fun x8 =>
(lI s13.2 .int x8 ((256 : Int32) + s13.1)).bind fun x9 =>
if (x9 &&& u5) = 0 then (
jX12_lookUnsafe_100 u0 u1 u2 u3 u4 u5 u6 s13.1 s13.2) else (
(gO s13.2 12 u0).bind fun _ =>
(fX12_isReported s13.2 u0 u3 u6 s13.1).bind fun x12 =>
if x12 = 0 then (
(gO s13.2 12 u0).bind fun _ =>
(fX12_layWay s13.2 u0 u6 s13.1).bind fun x15 =>
if x15.1 ≤ 0 then (
jX12_lookUnsafe_100 u0 u1 u2 u3 u4 u5 u6 s13.1 x15.2) else (
(gO x15.2 12 u0).bind fun _ =>
(fX12_report x15.2 u0 u3 u1 u2 x15.1).bind fun x18 =>
jX12_lookUnsafe_100 u0 u1 u2 u3 u4 u5 u6 s13.1 x18)) else (
jX12_lookUnsafe_100 u0 u1 u2 u3 u4 u5 u6 s13.1 s13.2)))))
set_option maxRecDepth 20000 in
set_option maxHeartbeats 4000000 in
theorem sbX12_lookUnsafe_13 {Γ : Gm} {d : Nat} (hd : 4 ≤ d) {u0 : Nat} {u1 : Int32} {u2 : Int32} {u3 : Int32} {u4 : Int32} {u5 : Int32} {u6 : Int32} {s13 : Int32 × Hp} {r : (Int32 × Hp) ⊕ (Hp)} {t : Option Value × Hp} (H : bX12_lookUnsafe_13 u0 u1 u2 u3 u4 u5 u6 s13 = some r) (kI : ∀ s, r = .inl s → (fun s13 => V Γ d mX12_lookUnsafe 13 [(0, .ref u0), (1, .int u1), (2, .int u2), (3, .int u3), (4, .int u4), (5, .int u5), (6, .int u6), (7, .int s13.1)] [] s13.2 t) s) (kE : ∀ e, r = .inr e → (fun e => V Γ d mX12_lookUnsafe 106 [(0, .ref u0), (1, .int u1), (2, .int u2), (3, .int u3), (4, .int u4), (5, .int u5), (6, .int u6)] [] e t) e) : V Γ d mX12_lookUnsafe 13 [(0, .ref u0), (1, .int u1), (2, .int u2), (3, .int u3), (4, .int u4), (5, .int u5), (6, .int u6), (7, .int s13.1)] [] s13.2 t := by
  unfold bX12_lookUnsafe_13 at H
  refine v_iload (q := 15) 7 dX12_lookUnsafe_13 rfl rfl ?_
  refine v_bipush (v := 16) (q := 17) dX12_lookUnsafe_15 (by decide) rfl ?_
  refine v_icmp_ge (q1 := 106) (q2 := 20) dX12_lookUnsafe_17 (by decide) rfl (fun c2 => ?_) (fun c2 => ?_)
  · have H := ip c2 H
    exact V.sub [0, 1, 2, 3, 4, 5, 6] rfl (kE s13.2 (Option.some.inj H).symm)
  · have H := ine c2 H
    refine v_iload (q := 22) 6 dX12_lookUnsafe_20 rfl rfl ?_
    refine v_iload (q := 24) 7 dX12_lookUnsafe_22 rfl rfl ?_
    refine v_icmp_eq (q1 := 100) (q2 := 27) dX12_lookUnsafe_24 (by decide) rfl (fun c3 => ?_) (fun c3 => ?_)
    · have H := ip c3 H
      exact V.sub [0, 1, 2, 3, 4, 5, 6, 7] rfl (sjX12_lookUnsafe_100 hd H kI kE)
    · have H := ine c3 H
      refine v_aload_n (q := 28) 0 dX12_lookUnsafe_27 rfl rfl rfl ?_
      obtain ⟨x5, x5e, H⟩ := bs H
      refine u_gR (q := 31) (r := (RX12, TX12, 58)) x5e dX12_lookUnsafe_28 w1356 rfl (by decide) rfl rfl ?_
      refine v_sipush (v := 256) (q := 34) dX12_lookUnsafe_31 (by decide) rfl ?_
      refine v_iload (q := 36) 6 dX12_lookUnsafe_34 rfl rfl ?_
      refine v_iadd (q := 37) dX12_lookUnsafe_36 rfl ?_
      obtain ⟨x6, x6e, H⟩ := bs H
      refine u_lI (q := 38) x6e dX12_lookUnsafe_37 rfl ?_
      refine v_iload (q := 40) 4 dX12_lookUnsafe_38 rfl rfl ?_
      refine v_iand (q := 41) dX12_lookUnsafe_40 rfl ?_
      refine v_if_eq (q1 := 100) (q2 := 44) dX12_lookUnsafe_41 (by decide) rfl (fun c7 => ?_) (fun c7 => ?_)
      · have H := ip c7 H
        exact V.sub [0, 1, 2, 3, 4, 5, 6, 7] rfl (sjX12_lookUnsafe_100 hd H kI kE)
      · have H := ine c7 H
        refine v_aload_n (q := 45) 0 dX12_lookUnsafe_44 rfl rfl rfl ?_
        obtain ⟨x8, x8e, H⟩ := bs H
        refine u_gR (q := 48) (r := (RX12, TX12, 58)) x8e dX12_lookUnsafe_45 w1356 rfl (by decide) rfl rfl ?_
        refine v_sipush (v := 256) (q := 51) dX12_lookUnsafe_48 (by decide) rfl ?_
        refine v_iload (q := 53) 7 dX12_lookUnsafe_51 rfl rfl ?_
        refine v_iadd (q := 54) dX12_lookUnsafe_53 rfl ?_
        obtain ⟨x9, x9e, H⟩ := bs H
        refine u_lI (q := 55) x9e dX12_lookUnsafe_54 rfl ?_
        refine v_iload (q := 57) 5 dX12_lookUnsafe_55 rfl rfl ?_
        refine v_iand (q := 58) dX12_lookUnsafe_57 rfl ?_
        refine v_if_eq (q1 := 100) (q2 := 61) dX12_lookUnsafe_58 (by decide) rfl (fun c10 => ?_) (fun c10 => ?_)
        · have H := ip c10 H
          exact V.sub [0, 1, 2, 3, 4, 5, 6, 7] rfl (sjX12_lookUnsafe_100 hd H kI kE)
        · have H := ine c10 H
          refine v_aload_n (q := 62) 0 dX12_lookUnsafe_61 rfl rfl rfl ?_
          refine v_iload_n (q := 63) 3 dX12_lookUnsafe_62 rfl rfl rfl ?_
          refine v_iload (q := 65) 6 dX12_lookUnsafe_63 rfl rfl ?_
          refine v_iload (q := 67) 7 dX12_lookUnsafe_65 rfl rfl ?_
          obtain ⟨_, o11, H⟩ := bs H
          obtain ⟨x12, x12e, H⟩ := bs H
          refine u_callV1 (M' := mX12_isReported) (d' := 3) (rc := (RX12, TX12, 58)) (As := [.int u3, .int u6, .int s13.1]) (st := []) (q := 70) oX12_isReported dX12_lookUnsafe_67 w1689 w1691 w0085 rfl rfl (gO_sp o11).1 (gO_sp o11).2 rfl (Nat.le_of_ble_eq_true rfl) (Nat.le_of_ble_eq_true rfl) (Nat.lt_of_lt_of_le (by decide) hd) rfl (sX12_isReported (Nat.le_refl _) x12e) rfl ?_
          refine v_if_eq (q1 := 76) (q2 := 73) dX12_lookUnsafe_70 (by decide) rfl (fun c13 => ?_) (fun c13 => ?_)
          · have H := ip c13 H
            refine v_aload_n (q := 77) 0 dX12_lookUnsafe_76 rfl rfl rfl ?_
            refine v_iload (q := 79) 6 dX12_lookUnsafe_77 rfl rfl ?_
            refine v_iload (q := 81) 7 dX12_lookUnsafe_79 rfl rfl ?_
            obtain ⟨_, o14, H⟩ := bs H
            obtain ⟨x15, x15e, H⟩ := bs H
            refine u_callV1 (M' := mX12_layWay) (d' := 2) (rc := (RX12, TX12, 58)) (As := [.int u6, .int s13.1]) (st := []) (q := 84) oX12_layWay dX12_lookUnsafe_81 w1709 w1711 w0090 rfl rfl (gO_sp o14).1 (gO_sp o14).2 rfl (Nat.le_of_ble_eq_true rfl) (Nat.le_of_ble_eq_true rfl) (Nat.lt_of_lt_of_le (by decide) hd) rfl (sX12_layWay (Nat.le_refl _) x15e) rfl ?_
            refine v_istore (L' := [(8, .int x15.1), (0, .ref u0), (1, .int u1), (2, .int u2), (3, .int u3), (4, .int u4), (5, .int u5), (6, .int u6), (7, .int s13.1)]) (q := 86) dX12_lookUnsafe_84 (by decide) rfl rfl ?_
            refine v_iload (q := 88) 0 dX12_lookUnsafe_86 rfl rfl ?_
            refine v_if_le (q1 := 100) (q2 := 91) dX12_lookUnsafe_88 (by decide) rfl (fun c16 => ?_) (fun c16 => ?_)
            · have H := ip c16 H
              exact V.sub [1, 2, 3, 4, 5, 6, 7, 8] rfl (sjX12_lookUnsafe_100 hd H kI kE)
            · have H := ine c16 H
              refine v_aload_n (q := 92) 1 dX12_lookUnsafe_91 rfl rfl rfl ?_
              refine v_iload_n (q := 93) 4 dX12_lookUnsafe_92 rfl rfl rfl ?_
              refine v_iload_n (q := 94) 2 dX12_lookUnsafe_93 rfl rfl rfl ?_
              refine v_iload_n (q := 95) 3 dX12_lookUnsafe_94 rfl rfl rfl ?_
              refine v_iload (q := 97) 0 dX12_lookUnsafe_95 rfl rfl ?_
              obtain ⟨_, o17, H⟩ := bs H
              obtain ⟨x18, x18e, H⟩ := bs H
              refine u_callV0 (M' := mX12_report) (d' := 2) (rc := (RX12, TX12, 58)) (As := [.int u3, .int u1, .int u2, .int x15.1]) (st := []) (q := 100) oX12_report dX12_lookUnsafe_97 w1666 w1668 w0080 rfl rfl (gO_sp o17).1 (gO_sp o17).2 rfl (Nat.le_of_ble_eq_true rfl) (Nat.le_of_ble_eq_true rfl) (Nat.lt_of_lt_of_le (by decide) hd) rfl (sX12_report (Nat.le_refl _) x18e) rfl ?_
              exact V.sub [1, 2, 3, 4, 5, 6, 7, 8] rfl (sjX12_lookUnsafe_100 hd H kI kE)
          · have H := ine c13 H
            refine v_goto (q := 100) dX12_lookUnsafe_73 (by decide) ?_
            exact V.sub [0, 1, 2, 3, 4, 5, 6, 7] rfl (sjX12_lookUnsafe_100 hd H kI kE)
def bX12_lookUnsafe_3 (u0 : Nat) (u1 : Int32) (u2 : Int32) (u3 : Int32) (u4 : Int32) (u5 : Int32) (s3 : Int32 × Hp) : Option ((Int32 × Hp) ⊕ (Hp)) :=
if (16 : Int32) ≤ s3.1 then (
some (.inr s3.2)) else (
(lp (bX12_lookUnsafe_13 u0 u1 u2 u3 u4 u5 s3.1) FU ((0 : Int32), s3.2)).bind fun e19 =>
(some (s3.1 + (1 : Int32))).bind fun x20 =>
some (.inl (x20, e19)))
set_option maxRecDepth 20000 in
set_option maxHeartbeats 4000000 in
theorem sbX12_lookUnsafe_3 {Γ : Gm} {d : Nat} (hd : 4 ≤ d) {u0 : Nat} {u1 : Int32} {u2 : Int32} {u3 : Int32} {u4 : Int32} {u5 : Int32} {s3 : Int32 × Hp} {r : (Int32 × Hp) ⊕ (Hp)} {t : Option Value × Hp} (H : bX12_lookUnsafe_3 u0 u1 u2 u3 u4 u5 s3 = some r) (kI : ∀ s, r = .inl s → (fun s3 => V Γ d mX12_lookUnsafe 3 [(0, .ref u0), (1, .int u1), (2, .int u2), (3, .int u3), (4, .int u4), (5, .int u5), (6, .int s3.1)] [] s3.2 t) s) (kE : ∀ e, r = .inr e → (fun e => V Γ d mX12_lookUnsafe 112 [] [] e t) e) : V Γ d mX12_lookUnsafe 3 [(0, .ref u0), (1, .int u1), (2, .int u2), (3, .int u3), (4, .int u4), (5, .int u5), (6, .int s3.1)] [] s3.2 t := by
  unfold bX12_lookUnsafe_3 at H
  refine v_iload (q := 5) 6 dX12_lookUnsafe_3 rfl rfl ?_
  refine v_bipush (v := 16) (q := 7) dX12_lookUnsafe_5 (by decide) rfl ?_
  refine v_icmp_ge (q1 := 112) (q2 := 10) dX12_lookUnsafe_7 (by decide) rfl (fun c1 => ?_) (fun c1 => ?_)
  · have H := ip c1 H
    exact V.sub [] rfl (kE s3.2 (Option.some.inj H).symm)
  · have H := ine c1 H
    refine v_iconst (v := 0) (q := 11) dX12_lookUnsafe_10 (by decide) rfl ?_
    refine v_istore (L' := [(7, .int (0 : Int32)), (0, .ref u0), (1, .int u1), (2, .int u2), (3, .int u3), (4, .int u4), (5, .int u5), (6, .int s3.1)]) (q := 13) dX12_lookUnsafe_11 (by decide) rfl rfl ?_
    obtain ⟨e19, e19L, H⟩ := bs H
    refine V.sub [1, 2, 3, 4, 5, 6, 7, 0] rfl ?_
    refine lp_V (P := (fun s13 => V Γ d mX12_lookUnsafe 13 [(0, .ref u0), (1, .int u1), (2, .int u2), (3, .int u3), (4, .int u4), (5, .int u5), (6, .int s3.1), (7, .int s13.1)] [] s13.2 t)) (E := (fun e => V Γ d mX12_lookUnsafe 106 [(0, .ref u0), (1, .int u1), (2, .int u2), (3, .int u3), (4, .int u4), (5, .int u5), (6, .int s3.1)] [] e t)) (fun s r hb kI kE => sbX12_lookUnsafe_13 hd (s13 := s) (r := r) hb kI kE) FU ((0 : Int32), s3.2) e19 e19L ?_
    obtain ⟨x20, x20e, H⟩ := bs H
    refine v_iinc (v := x20) (L' := [(6, .int x20), (0, .ref u0), (1, .int u1), (2, .int u2), (3, .int u3), (4, .int u4), (5, .int u5)]) (q := 109) 6 dX12_lookUnsafe_106 rfl (Option.some.inj x20e) (by decide) rfl rfl ?_
    refine v_goto (q := 3) dX12_lookUnsafe_109 (by decide) ?_
    exact V.sub [1, 2, 3, 4, 5, 6, 0] rfl (kI (x20, e19) (Option.some.inj H).symm)
def fX12_lookUnsafe (h : Hp) (v0 : Nat) (v1 : Int32) (v2 : Int32) (v3 : Int32) (v4 : Int32) (v5 : Int32) : Option (Hp) :=
(lp (bX12_lookUnsafe_3 v0 v1 v2 v3 v4 v5) FU ((0 : Int32), h)).bind fun e21 =>
some e21
set_option maxRecDepth 20000 in
set_option maxHeartbeats 4000000 in
theorem sX12_lookUnsafe {Γ : Gm} {d : Nat} (hd : 4 ≤ d) {h : Hp} {v0 : Nat} {v1 : Int32} {v2 : Int32} {v3 : Int32} {v4 : Int32} {v5 : Int32} {r : Hp} (H : fX12_lookUnsafe h v0 v1 v2 v3 v4 v5 = some r) : V Γ d mX12_lookUnsafe 0 [(0, .ref v0), (1, .int v1), (2, .int v2), (3, .int v3), (4, .int v4), (5, .int v5)] [] h (none, r) := by
  unfold fX12_lookUnsafe at H
  refine v_iconst (v := 0) (q := 1) dX12_lookUnsafe_0 (by decide) rfl ?_
  refine v_istore (L' := [(6, .int (0 : Int32)), (0, .ref v0), (1, .int v1), (2, .int v2), (3, .int v3), (4, .int v4), (5, .int v5)]) (q := 3) dX12_lookUnsafe_1 (by decide) rfl rfl ?_
  obtain ⟨e21, e21L, H⟩ := bs H
  refine V.sub [1, 2, 3, 4, 5, 6, 0] rfl ?_
  refine lp_V (P := (fun s3 => V Γ d mX12_lookUnsafe 3 [(0, .ref v0), (1, .int v1), (2, .int v2), (3, .int v3), (4, .int v4), (5, .int v5), (6, .int s3.1)] [] s3.2 (none, r))) (E := (fun e => V Γ d mX12_lookUnsafe 112 [] [] e (none, r))) (fun s r hb kI kE => sbX12_lookUnsafe_3 hd (s3 := s) (r := r) hb kI kE) FU ((0 : Int32), h) e21 e21L ?_
  cases H
  exact v_return rfl dX12_lookUnsafe_112
def mX12_doTake : MI := (yX12_doTake, cX12_doTake, 6, none)
theorem oX12_doTake : mOK mX12_doTake 2 := ⟨by decide +kernel, by decide +kernel, by decide +kernel, by decide, w1653, w0150⟩
def jX12_doTake_83 (v0 : Nat) (v1 : Int32) (v2 : Int32) (v3 : Int32) (v5 : Int32) (h : Hp) : Option (Hp) :=
(gO h 12 v0).bind fun _ =>
(fX12_use h v0 v1 v2 v5).bind fun x18 =>
(gO x18 12 v0).bind fun _ =>
(fX12_lookUnsafe x18 v0 v1 v2 (6 : Int32) (1 : Int32) (4 : Int32)).bind fun x20 =>
(gO x20 12 v0).bind fun _ =>
(fX12_lookUnsafe x20 v0 v1 v2 (7 : Int32) (2 : Int32) (8 : Int32)).bind fun x22 =>
(gR x22 12 v0 29).bind fun x23 =>
(gI x22 12 v0 31).bind fun x24 =>
(tI x22 x23 x24 v3).bind fun h25 =>
(gR h25 12 v0 30).bind fun x26 =>
(gI h25 12 v0 31).bind fun x27 =>
(tI h25 x26 x27 v5).bind fun h28 =>
(gI h28 12 v0 31).bind fun x29 =>
(pI h28 12 v0 31 (x29 + (1 : Int32))).bind fun h30 =>
some h30
set_option maxRecDepth 20000 in
set_option maxHeartbeats 4000000 in
theorem sjX12_doTake_83 {Γ : Gm} {d : Nat} (hd : 6 ≤ d) {v0 : Nat} {v1 : Int32} {v2 : Int32} {v3 : Int32} {v5 : Int32} {h : Hp} {r : Hp} (H : jX12_doTake_83 v0 v1 v2 v3 v5 h = some r) : V Γ d mX12_doTake 83 [(0, .ref v0), (1, .int v1), (2, .int v2), (3, .int v3), (5, .int v5)] [] h (none, r) := by
  unfold jX12_doTake_83 at H
  refine v_aload_n (q := 84) 0 dX12_doTake_83 rfl rfl rfl ?_
  refine v_iload_n (q := 85) 1 dX12_doTake_84 rfl rfl rfl ?_
  refine v_iload_n (q := 86) 2 dX12_doTake_85 rfl rfl rfl ?_
  refine v_iload (q := 88) 4 dX12_doTake_86 rfl rfl ?_
  obtain ⟨_, o17, H⟩ := bs H
  obtain ⟨x18, x18e, H⟩ := bs H
  refine u_callV0 (M' := mX12_use) (d' := 5) (rc := (RX12, TX12, 58)) (As := [.int v1, .int v2, .int v5]) (st := []) (q := 91) oX12_use dX12_doTake_88 w1714 w1716 w0091 rfl rfl (gO_sp o17).1 (gO_sp o17).2 rfl (Nat.le_of_ble_eq_true rfl) (Nat.le_of_ble_eq_true rfl) (Nat.lt_of_lt_of_le (by decide) hd) rfl (sX12_use (Nat.le_refl _) x18e) rfl ?_
  refine v_aload_n (q := 92) 0 dX12_doTake_91 rfl rfl rfl ?_
  refine v_iload_n (q := 93) 1 dX12_doTake_92 rfl rfl rfl ?_
  refine v_iload_n (q := 94) 2 dX12_doTake_93 rfl rfl rfl ?_
  refine v_bipush (v := 6) (q := 96) dX12_doTake_94 (by decide) rfl ?_
  refine v_iconst (v := 1) (q := 97) dX12_doTake_96 (by decide) rfl ?_
  refine v_iconst (v := 4) (q := 98) dX12_doTake_97 (by decide) rfl ?_
  obtain ⟨_, o19, H⟩ := bs H
  obtain ⟨x20, x20e, H⟩ := bs H
  refine u_callV0 (M' := mX12_lookUnsafe) (d' := 4) (rc := (RX12, TX12, 58)) (As := [.int v1, .int v2, .int (6 : Int32), .int (1 : Int32), .int (4 : Int32)]) (st := []) (q := 101) oX12_lookUnsafe dX12_doTake_98 w1730 w1732 w0095 rfl rfl (gO_sp o19).1 (gO_sp o19).2 rfl (Nat.le_of_ble_eq_true rfl) (Nat.le_of_ble_eq_true rfl) (Nat.lt_of_lt_of_le (by decide) hd) rfl (sX12_lookUnsafe (Nat.le_refl _) x20e) rfl ?_
  refine v_aload_n (q := 102) 0 dX12_doTake_101 rfl rfl rfl ?_
  refine v_iload_n (q := 103) 1 dX12_doTake_102 rfl rfl rfl ?_
  refine v_iload_n (q := 104) 2 dX12_doTake_103 rfl rfl rfl ?_
  refine v_bipush (v := 7) (q := 106) dX12_doTake_104 (by decide) rfl ?_
  refine v_iconst (v := 2) (q := 107) dX12_doTake_106 (by decide) rfl ?_
  refine v_bipush (v := 8) (q := 109) dX12_doTake_107 (by decide) rfl ?_
  obtain ⟨_, o21, H⟩ := bs H
  obtain ⟨x22, x22e, H⟩ := bs H
  refine u_callV0 (M' := mX12_lookUnsafe) (d' := 4) (rc := (RX12, TX12, 58)) (As := [.int v1, .int v2, .int (7 : Int32), .int (2 : Int32), .int (8 : Int32)]) (st := []) (q := 112) oX12_lookUnsafe dX12_doTake_109 w1730 w1732 w0095 rfl rfl (gO_sp o21).1 (gO_sp o21).2 rfl (Nat.le_of_ble_eq_true rfl) (Nat.le_of_ble_eq_true rfl) (Nat.lt_of_lt_of_le (by decide) hd) rfl (sX12_lookUnsafe (Nat.le_refl _) x22e) rfl ?_
  refine v_aload_n (q := 113) 0 dX12_doTake_112 rfl rfl rfl ?_
  obtain ⟨x23, x23e, H⟩ := bs H
  refine u_gR (q := 116) (r := (RX12, TX12, 58)) x23e dX12_doTake_113 w1385 rfl (by decide) rfl rfl ?_
  refine v_aload_n (q := 117) 0 dX12_doTake_116 rfl rfl rfl ?_
  obtain ⟨x24, x24e, H⟩ := bs H
  refine u_gI (q := 120) (r := (RX12, TX12, 58)) x24e dX12_doTake_117 w1387 rfl (by decide) rfl rfl ?_
  refine v_iload_n (q := 121) 3 dX12_doTake_120 rfl rfl rfl ?_
  obtain ⟨h25, h25e, H⟩ := bs H
  refine u_tI (q := 122) h25e dX12_doTake_121 rfl ?_
  refine v_aload_n (q := 123) 0 dX12_doTake_122 rfl rfl rfl ?_
  obtain ⟨x26, x26e, H⟩ := bs H
  refine u_gR (q := 126) (r := (RX12, TX12, 58)) x26e dX12_doTake_123 w1386 rfl (by decide) rfl rfl ?_
  refine v_aload_n (q := 127) 0 dX12_doTake_126 rfl rfl rfl ?_
  obtain ⟨x27, x27e, H⟩ := bs H
  refine u_gI (q := 130) (r := (RX12, TX12, 58)) x27e dX12_doTake_127 w1387 rfl (by decide) rfl rfl ?_
  refine v_iload (q := 132) 4 dX12_doTake_130 rfl rfl ?_
  obtain ⟨h28, h28e, H⟩ := bs H
  refine u_tI (q := 133) h28e dX12_doTake_132 rfl ?_
  refine v_aload_n (q := 134) 0 dX12_doTake_133 rfl rfl rfl ?_
  refine v_dup (q := 135) dX12_doTake_134 rfl rfl ?_
  obtain ⟨x29, x29e, H⟩ := bs H
  refine u_gI (q := 138) (r := (RX12, TX12, 58)) x29e dX12_doTake_135 w1387 rfl (by decide) rfl rfl ?_
  refine v_iconst (v := 1) (q := 139) dX12_doTake_138 (by decide) rfl ?_
  refine v_iadd (q := 140) dX12_doTake_139 rfl ?_
  obtain ⟨h30, h30e, H⟩ := bs H
  refine u_pI (q := 143) (r := (RX12, TX12, 58)) h30e dX12_doTake_140 w1387 rfl (by decide) (Or.inl rfl) rfl rfl ?_
  cases H
  exact v_return rfl dX12_doTake_143
def jX12_doTake_56 (v0 : Nat) (v1 : Int32) (v2 : Int32) (v3 : Int32) (y0 : Int32) (y1 : Int32) (h : Hp) : Option (Hp) :=
(some (y1 + y0)).bind fun x11 =>
(gO h 12 v0).bind fun _ =>
(fX12_keepChain h v0 x11).bind fun x13 =>
(gO x13 12 v0).bind fun _ =>
(fX12_opOf x13 v0 v1 v2).bind fun x15 =>
if x15 = (3 : Int32) then (
jX12_doTake_83 v0 v1 v2 v3 x11 x13) else (
(gO x13 12 v0).bind fun _ =>
(fX12_learn x13 v0 v1 v2 x11).bind fun x32 =>
jX12_doTake_83 v0 v1 v2 v3 x11 x32)
set_option maxRecDepth 20000 in
set_option maxHeartbeats 4000000 in
theorem sjX12_doTake_56 {Γ : Gm} {d : Nat} (hd : 6 ≤ d) {v0 : Nat} {v1 : Int32} {v2 : Int32} {v3 : Int32} {y0 : Int32} {y1 : Int32} {h : Hp} {r : Hp} (H : jX12_doTake_56 v0 v1 v2 v3 y0 y1 h = some r) : V Γ d mX12_doTake 56 [(0, .ref v0), (1, .int v1), (2, .int v2), (3, .int v3)] [.int y0, .int y1] h (none, r) := by
  unfold jX12_doTake_56 at H
  refine v_iadd (q := 57) dX12_doTake_56 rfl ?_
  obtain ⟨x11, x11e, H⟩ := bs H
  refine v_topi (Option.some.inj x11e) ?_
  refine v_istore (L' := [(5, .int x11), (0, .ref v0), (1, .int v1), (2, .int v2), (3, .int v3)]) (q := 59) dX12_doTake_57 (by decide) rfl rfl ?_
  refine v_aload_n (q := 60) 1 dX12_doTake_59 rfl rfl rfl ?_
  refine v_iload (q := 62) 0 dX12_doTake_60 rfl rfl ?_
  obtain ⟨_, o12, H⟩ := bs H
  obtain ⟨x13, x13e, H⟩ := bs H
  refine u_callV0 (M' := mX12_keepChain) (d' := 1) (rc := (RX12, TX12, 58)) (As := [.int x11]) (st := []) (q := 65) oX12_keepChain dX12_doTake_62 w1677 w1679 w0082 rfl rfl (gO_sp o12).1 (gO_sp o12).2 rfl (Nat.le_of_ble_eq_true rfl) (Nat.le_of_ble_eq_true rfl) (Nat.lt_of_lt_of_le (by decide) hd) rfl (sX12_keepChain (Nat.le_refl _) x13e) rfl ?_
  refine v_aload_n (q := 66) 1 dX12_doTake_65 rfl rfl rfl ?_
  refine v_iload_n (q := 67) 2 dX12_doTake_66 rfl rfl rfl ?_
  refine v_iload_n (q := 68) 3 dX12_doTake_67 rfl rfl rfl ?_
  obtain ⟨_, o14, H⟩ := bs H
  obtain ⟨x15, x15e, H⟩ := bs H
  refine u_callV1 (M' := mX12_opOf) (d' := 1) (rc := (RX12, TX12, 58)) (As := [.int v1, .int v2]) (st := []) (q := 71) oX12_opOf dX12_doTake_68 w1646 w1648 w0075 rfl rfl (gO_sp o14).1 (gO_sp o14).2 rfl (Nat.le_of_ble_eq_true rfl) (Nat.le_of_ble_eq_true rfl) (Nat.lt_of_lt_of_le (by decide) hd) rfl (sX12_opOf (Nat.le_refl _) x15e) rfl ?_
  refine v_iconst (v := 3) (q := 72) dX12_doTake_71 (by decide) rfl ?_
  refine v_icmp_eq (q1 := 83) (q2 := 75) dX12_doTake_72 (by decide) rfl (fun c16 => ?_) (fun c16 => ?_)
  · have H := ip c16 H
    exact V.sub [1, 2, 3, 4, 0] rfl (sjX12_doTake_83 hd H)
  · have H := ine c16 H
    refine v_aload_n (q := 76) 1 dX12_doTake_75 rfl rfl rfl ?_
    refine v_iload_n (q := 77) 2 dX12_doTake_76 rfl rfl rfl ?_
    refine v_iload_n (q := 78) 3 dX12_doTake_77 rfl rfl rfl ?_
    refine v_iload (q := 80) 0 dX12_doTake_78 rfl rfl ?_
    obtain ⟨_, o31, H⟩ := bs H
    obtain ⟨x32, x32e, H⟩ := bs H
    refine u_callV0 (M' := mX12_learn) (d' := 5) (rc := (RX12, TX12, 58)) (As := [.int v1, .int v2, .int x11]) (st := []) (q := 83) oX12_learn dX12_doTake_80 w1681 w1683 w0083 rfl rfl (gO_sp o31).1 (gO_sp o31).2 rfl (Nat.le_of_ble_eq_true rfl) (Nat.le_of_ble_eq_true rfl) (Nat.lt_of_lt_of_le (by decide) hd) rfl (sX12_learn (Nat.le_refl _) x32e) rfl ?_
    exact V.sub [1, 2, 3, 4, 0] rfl (sjX12_doTake_83 hd H)
def fX12_doTake (h : Hp) (v0 : Nat) (v1 : Int32) (v2 : Int32) : Option (Hp) :=
(gO h 12 v0).bind fun _ =>
(fX12_lockOf h v0 v1 v2).bind fun x2 =>
(gO h 12 v0).bind fun _ =>
(fX12_placeHeld h v0 x2).bind fun x4 =>
if x4 < 0 then (
(gO h 12 v0).bind fun _ =>
(fX12_kind h v0 x2).bind fun x7 =>
(gO h 12 v0).bind fun _ =>
(fX12_opOf h v0 v1 v2).bind fun x9 =>
if x9 = (1 : Int32) then (
jX12_doTake_56 v0 v1 v2 x2 (1 : Int32) ((2 : Int32) * x7) h) else (
jX12_doTake_56 v0 v1 v2 x2 (0 : Int32) ((2 : Int32) * x7) h)) else (
(gR h 12 v0 30).bind fun x33 =>
(lI h .int x33 x4).bind fun x34 =>
(gO h 12 v0).bind fun _ =>
(fX12_reportOne h v0 (1 : Int32) v1 v2 x34).bind fun x36 =>
some x36)
set_option maxRecDepth 20000 in
set_option maxHeartbeats 4000000 in
theorem sX12_doTake {Γ : Gm} {d : Nat} (hd : 6 ≤ d) {h : Hp} {v0 : Nat} {v1 : Int32} {v2 : Int32} {r : Hp} (H : fX12_doTake h v0 v1 v2 = some r) : V Γ d mX12_doTake 0 [(0, .ref v0), (1, .int v1), (2, .int v2)] [] h (none, r) := by
  unfold fX12_doTake at H
  refine v_aload_n (q := 1) 0 dX12_doTake_0 rfl rfl rfl ?_
  refine v_iload_n (q := 2) 1 dX12_doTake_1 rfl rfl rfl ?_
  refine v_iload_n (q := 3) 2 dX12_doTake_2 rfl rfl rfl ?_
  obtain ⟨_, o1, H⟩ := bs H
  obtain ⟨x2, x2e, H⟩ := bs H
  refine u_callV1 (M' := mX12_lockOf) (d' := 1) (rc := (RX12, TX12, 58)) (As := [.int v1, .int v2]) (st := []) (q := 6) oX12_lockOf dX12_doTake_3 w1654 w1656 w0077 rfl rfl (gO_sp o1).1 (gO_sp o1).2 rfl (Nat.le_of_ble_eq_true rfl) (Nat.le_of_ble_eq_true rfl) (Nat.lt_of_lt_of_le (by decide) hd) rfl (sX12_lockOf (Nat.le_refl _) x2e) rfl ?_
  refine v_istore_n (L' := [(3, .int x2), (0, .ref v0), (1, .int v1), (2, .int v2)]) (q := 7) dX12_doTake_6 rfl (by decide) rfl rfl ?_
  refine v_aload_n (q := 8) 1 dX12_doTake_7 rfl rfl rfl ?_
  refine v_iload_n (q := 9) 0 dX12_doTake_8 rfl rfl rfl ?_
  obtain ⟨_, o3, H⟩ := bs H
  obtain ⟨x4, x4e, H⟩ := bs H
  refine u_callV1 (M' := mX12_placeHeld) (d' := 1) (rc := (RX12, TX12, 58)) (As := [.int x2]) (st := []) (q := 12) oX12_placeHeld dX12_doTake_9 w1658 w1660 w0078 rfl rfl (gO_sp o3).1 (gO_sp o3).2 rfl (Nat.le_of_ble_eq_true rfl) (Nat.le_of_ble_eq_true rfl) (Nat.lt_of_lt_of_le (by decide) hd) rfl (sX12_placeHeld (Nat.le_refl _) x4e) rfl ?_
  refine v_istore (L' := [(4, .int x4), (3, .int x2), (0, .ref v0), (1, .int v1), (2, .int v2)]) (q := 14) dX12_doTake_12 (by decide) rfl rfl ?_
  refine v_iload (q := 16) 0 dX12_doTake_14 rfl rfl ?_
  refine v_if_lt (q1 := 34) (q2 := 19) dX12_doTake_16 (by decide) rfl (fun c5 => ?_) (fun c5 => ?_)
  · have H := ip c5 H
    refine v_iconst (v := 2) (q := 35) dX12_doTake_34 (by decide) rfl ?_
    refine v_aload_n (q := 36) 2 dX12_doTake_35 rfl rfl rfl ?_
    refine v_iload_n (q := 37) 1 dX12_doTake_36 rfl rfl rfl ?_
    obtain ⟨_, o6, H⟩ := bs H
    obtain ⟨x7, x7e, H⟩ := bs H
    refine u_callV1 (M' := mX12_kind) (d' := 1) (rc := (RX12, TX12, 58)) (As := [.int x2]) (st := [.int (2 : Int32)]) (q := 40) oX12_kind dX12_doTake_37 w1673 w1675 w0081 rfl rfl (gO_sp o6).1 (gO_sp o6).2 rfl (Nat.le_of_ble_eq_true rfl) (Nat.le_of_ble_eq_true rfl) (Nat.lt_of_lt_of_le (by decide) hd) rfl (sX12_kind (Nat.le_refl _) x7e) rfl ?_
    refine v_imul (q := 41) dX12_doTake_40 rfl ?_
    refine v_aload_n (q := 42) 2 dX12_doTake_41 rfl rfl rfl ?_
    refine v_iload_n (q := 43) 3 dX12_doTake_42 rfl rfl rfl ?_
    refine v_iload_n (q := 44) 4 dX12_doTake_43 rfl rfl rfl ?_
    obtain ⟨_, o8, H⟩ := bs H
    obtain ⟨x9, x9e, H⟩ := bs H
    refine u_callV1 (M' := mX12_opOf) (d' := 1) (rc := (RX12, TX12, 58)) (As := [.int v1, .int v2]) (st := [.int ((2 : Int32) * x7)]) (q := 47) oX12_opOf dX12_doTake_44 w1646 w1648 w0075 rfl rfl (gO_sp o8).1 (gO_sp o8).2 rfl (Nat.le_of_ble_eq_true rfl) (Nat.le_of_ble_eq_true rfl) (Nat.lt_of_lt_of_le (by decide) hd) rfl (sX12_opOf (Nat.le_refl _) x9e) rfl ?_
    refine v_iconst (v := 1) (q := 48) dX12_doTake_47 (by decide) rfl ?_
    refine v_icmp_ne (q1 := 55) (q2 := 51) dX12_doTake_48 (by decide) rfl (fun c10 => ?_) (fun c10 => ?_)
    · have H := ine c10 H
      refine v_iconst (v := 0) (q := 56) dX12_doTake_55 (by decide) rfl ?_
      exact V.sub [2, 3, 4, 1] rfl (sjX12_doTake_56 hd H)
    · have H := ip c10 H
      refine v_iconst (v := 1) (q := 52) dX12_doTake_51 (by decide) rfl ?_
      refine v_goto (q := 56) dX12_doTake_52 (by decide) ?_
      exact V.sub [2, 3, 4, 1] rfl (sjX12_doTake_56 hd H)
  · have H := ine c5 H
    refine v_aload_n (q := 20) 2 dX12_doTake_19 rfl rfl rfl ?_
    refine v_iconst (v := 1) (q := 21) dX12_doTake_20 (by decide) rfl ?_
    refine v_iload_n (q := 22) 3 dX12_doTake_21 rfl rfl rfl ?_
    refine v_iload_n (q := 23) 4 dX12_doTake_22 rfl rfl rfl ?_
    refine v_aload_n (q := 24) 2 dX12_doTake_23 rfl rfl rfl ?_
    obtain ⟨x33, x33e, H⟩ := bs H
    refine u_gR (q := 27) (r := (RX12, TX12, 58)) x33e dX12_doTake_24 w1386 rfl (by decide) rfl rfl ?_
    refine v_iload (q := 29) 0 dX12_doTake_27 rfl rfl ?_
    obtain ⟨x34, x34e, H⟩ := bs H
    refine u_lI (q := 30) x34e dX12_doTake_29 rfl ?_
    obtain ⟨_, o35, H⟩ := bs H
    obtain ⟨x36, x36e, H⟩ := bs H
    refine u_callV0 (M' := mX12_reportOne) (d' := 3) (rc := (RX12, TX12, 58)) (As := [.int (1 : Int32), .int v1, .int v2, .int x34]) (st := []) (q := 33) oX12_reportOne dX12_doTake_30 w1662 w1664 w0079 rfl rfl (gO_sp o35).1 (gO_sp o35).2 rfl (Nat.le_of_ble_eq_true rfl) (Nat.le_of_ble_eq_true rfl) (Nat.lt_of_lt_of_le (by decide) hd) rfl (sX12_reportOne (Nat.le_refl _) x36e) rfl ?_
    cases H
    exact v_return rfl dX12_doTake_33
def mX12_doDrop : MI := (yX12_doDrop, cX12_doDrop, 5, none)
theorem oX12_doDrop : mOK mX12_doDrop 2 := ⟨by decide +kernel, by decide +kernel, by decide +kernel, by decide, w1737, w0150⟩
def bX12_doDrop_49 (u0 : Nat) (s49 : Int32 × Hp) : Option ((Int32 × Hp) ⊕ (Hp)) :=
(gI s49.2 12 u0 31).bind fun x8 =>
if x8 ≤ s49.1 then (
some (.inr s49.2)) else (
(gR s49.2 12 u0 29).bind fun x10 =>
(gR s49.2 12 u0 29).bind fun x11 =>
(lI s49.2 .int x11 (s49.1 + (1 : Int32))).bind fun x12 =>
(tI s49.2 x10 s49.1 x12).bind fun h13 =>
(gR h13 12 u0 30).bind fun x14 =>
(gR h13 12 u0 30).bind fun x15 =>
(lI h13 .int x15 (s49.1 + (1 : Int32))).bind fun x16 =>
(tI h13 x14 s49.1 x16).bind fun h17 =>
(some (s49.1 + (1 : Int32))).bind fun x18 =>
some (.inl (x18, h17)))
set_option maxRecDepth 20000 in
set_option maxHeartbeats 4000000 in
theorem sbX12_doDrop_49 {Γ : Gm} {d : Nat} (hd : 4 ≤ d) {u0 : Nat} {s49 : Int32 × Hp} {r : (Int32 × Hp) ⊕ (Hp)} {t : Option Value × Hp} (H : bX12_doDrop_49 u0 s49 = some r) (kI : ∀ s, r = .inl s → (fun s49 => V Γ d mX12_doDrop 49 [(0, .ref u0), (4, .int s49.1)] [] s49.2 t) s) (kE : ∀ e, r = .inr e → (fun e => V Γ d mX12_doDrop 96 [] [] e t) e) : V Γ d mX12_doDrop 49 [(0, .ref u0), (4, .int s49.1)] [] s49.2 t := by
  unfold bX12_doDrop_49 at H
  refine v_iload (q := 51) 1 dX12_doDrop_49 rfl rfl ?_
  refine v_aload_n (q := 52) 0 dX12_doDrop_51 rfl rfl rfl ?_
  obtain ⟨x8, x8e, H⟩ := bs H
  refine u_gI (q := 55) (r := (RX12, TX12, 58)) x8e dX12_doDrop_52 w1387 rfl (by decide) rfl rfl ?_
  refine v_icmp_ge (q1 := 96) (q2 := 58) dX12_doDrop_55 (by decide) rfl (fun c9 => ?_) (fun c9 => ?_)
  · have H := ip c9 H
    exact V.sub [] rfl (kE s49.2 (Option.some.inj H).symm)
  · have H := ine c9 H
    refine v_aload_n (q := 59) 0 dX12_doDrop_58 rfl rfl rfl ?_
    obtain ⟨x10, x10e, H⟩ := bs H
    refine u_gR (q := 62) (r := (RX12, TX12, 58)) x10e dX12_doDrop_59 w1385 rfl (by decide) rfl rfl ?_
    refine v_iload (q := 64) 1 dX12_doDrop_62 rfl rfl ?_
    refine v_aload_n (q := 65) 0 dX12_doDrop_64 rfl rfl rfl ?_
    obtain ⟨x11, x11e, H⟩ := bs H
    refine u_gR (q := 68) (r := (RX12, TX12, 58)) x11e dX12_doDrop_65 w1385 rfl (by decide) rfl rfl ?_
    refine v_iload (q := 70) 1 dX12_doDrop_68 rfl rfl ?_
    refine v_iconst (v := 1) (q := 71) dX12_doDrop_70 (by decide) rfl ?_
    refine v_iadd (q := 72) dX12_doDrop_71 rfl ?_
    obtain ⟨x12, x12e, H⟩ := bs H
    refine u_lI (q := 73) x12e dX12_doDrop_72 rfl ?_
    obtain ⟨h13, h13e, H⟩ := bs H
    refine u_tI (q := 74) h13e dX12_doDrop_73 rfl ?_
    refine v_aload_n (q := 75) 0 dX12_doDrop_74 rfl rfl rfl ?_
    obtain ⟨x14, x14e, H⟩ := bs H
    refine u_gR (q := 78) (r := (RX12, TX12, 58)) x14e dX12_doDrop_75 w1386 rfl (by decide) rfl rfl ?_
    refine v_iload (q := 80) 1 dX12_doDrop_78 rfl rfl ?_
    refine v_aload_n (q := 81) 0 dX12_doDrop_80 rfl rfl rfl ?_
    obtain ⟨x15, x15e, H⟩ := bs H
    refine u_gR (q := 84) (r := (RX12, TX12, 58)) x15e dX12_doDrop_81 w1386 rfl (by decide) rfl rfl ?_
    refine v_iload (q := 86) 1 dX12_doDrop_84 rfl rfl ?_
    refine v_iconst (v := 1) (q := 87) dX12_doDrop_86 (by decide) rfl ?_
    refine v_iadd (q := 88) dX12_doDrop_87 rfl ?_
    obtain ⟨x16, x16e, H⟩ := bs H
    refine u_lI (q := 89) x16e dX12_doDrop_88 rfl ?_
    obtain ⟨h17, h17e, H⟩ := bs H
    refine u_tI (q := 90) h17e dX12_doDrop_89 rfl ?_
    obtain ⟨x18, x18e, H⟩ := bs H
    refine v_iinc (v := x18) (L' := [(4, .int x18), (0, .ref u0)]) (q := 93) 1 dX12_doDrop_90 rfl (Option.some.inj x18e) (by decide) rfl rfl ?_
    refine v_goto (q := 49) dX12_doDrop_93 (by decide) ?_
    exact V.sub [1, 0] rfl (kI (x18, h17) (Option.some.inj H).symm)
def fX12_doDrop (h : Hp) (v0 : Nat) (v1 : Int32) (v2 : Int32) : Option (Hp) :=
(gO h 12 v0).bind fun _ =>
(fX12_lockOf h v0 v1 v2).bind fun x2 =>
(gO h 12 v0).bind fun _ =>
(fX12_placeHeld h v0 x2).bind fun x4 =>
if 0 ≤ x4 then (
(gI h 12 v0 31).bind fun x6 =>
(pI h 12 v0 31 (x6 - (1 : Int32))).bind fun h7 =>
(lp (bX12_doDrop_49 v0) FU (x4, h7)).bind fun e19 =>
some e19) else (
(gO h 12 v0).bind fun _ =>
(fX12_lockOf h v0 v1 v2).bind fun x21 =>
(gO h 12 v0).bind fun _ =>
(fX12_kind h v0 x21).bind fun x23 =>
(gO h 12 v0).bind fun _ =>
(fX12_reportOne h v0 (8 : Int32) v1 v2 ((2 : Int32) * x23)).bind fun x25 =>
some x25)
set_option maxRecDepth 20000 in
set_option maxHeartbeats 4000000 in
theorem sX12_doDrop {Γ : Gm} {d : Nat} (hd : 4 ≤ d) {h : Hp} {v0 : Nat} {v1 : Int32} {v2 : Int32} {r : Hp} (H : fX12_doDrop h v0 v1 v2 = some r) : V Γ d mX12_doDrop 0 [(0, .ref v0), (1, .int v1), (2, .int v2)] [] h (none, r) := by
  unfold fX12_doDrop at H
  refine v_aload_n (q := 1) 0 dX12_doDrop_0 rfl rfl rfl ?_
  refine v_aload_n (q := 2) 0 dX12_doDrop_1 rfl rfl rfl ?_
  refine v_iload_n (q := 3) 1 dX12_doDrop_2 rfl rfl rfl ?_
  refine v_iload_n (q := 4) 2 dX12_doDrop_3 rfl rfl rfl ?_
  obtain ⟨_, o1, H⟩ := bs H
  obtain ⟨x2, x2e, H⟩ := bs H
  refine u_callV1 (M' := mX12_lockOf) (d' := 1) (rc := (RX12, TX12, 58)) (As := [.int v1, .int v2]) (st := [.ref v0]) (q := 7) oX12_lockOf dX12_doDrop_4 w1654 w1656 w0077 rfl rfl (gO_sp o1).1 (gO_sp o1).2 rfl (Nat.le_of_ble_eq_true rfl) (Nat.le_of_ble_eq_true rfl) (Nat.lt_of_lt_of_le (by decide) hd) rfl (sX12_lockOf (Nat.le_refl _) x2e) rfl ?_
  obtain ⟨_, o3, H⟩ := bs H
  obtain ⟨x4, x4e, H⟩ := bs H
  refine u_callV1 (M' := mX12_placeHeld) (d' := 1) (rc := (RX12, TX12, 58)) (As := [.int x2]) (st := []) (q := 10) oX12_placeHeld dX12_doDrop_7 w1658 w1660 w0078 rfl rfl (gO_sp o3).1 (gO_sp o3).2 rfl (Nat.le_of_ble_eq_true rfl) (Nat.le_of_ble_eq_true rfl) (Nat.lt_of_lt_of_le (by decide) hd) rfl (sX12_placeHeld (Nat.le_refl _) x4e) rfl ?_
  refine v_istore_n (L' := [(3, .int x4), (0, .ref v0), (1, .int v1), (2, .int v2)]) (q := 11) dX12_doDrop_10 rfl (by decide) rfl rfl ?_
  refine v_iload_n (q := 12) 0 dX12_doDrop_11 rfl rfl rfl ?_
  refine v_if_ge (q1 := 36) (q2 := 15) dX12_doDrop_12 (by decide) rfl (fun c5 => ?_) (fun c5 => ?_)
  · have H := ip c5 H
    refine v_aload_n (q := 37) 1 dX12_doDrop_36 rfl rfl rfl ?_
    refine v_dup (q := 38) dX12_doDrop_37 rfl rfl ?_
    obtain ⟨x6, x6e, H⟩ := bs H
    refine u_gI (q := 41) (r := (RX12, TX12, 58)) x6e dX12_doDrop_38 w1387 rfl (by decide) rfl rfl ?_
    refine v_iconst (v := 1) (q := 42) dX12_doDrop_41 (by decide) rfl ?_
    refine v_isub (q := 43) dX12_doDrop_42 rfl ?_
    obtain ⟨h7, h7e, H⟩ := bs H
    refine u_pI (q := 46) (r := (RX12, TX12, 58)) h7e dX12_doDrop_43 w1387 rfl (by decide) (Or.inl rfl) rfl rfl ?_
    refine v_iload_n (q := 47) 0 dX12_doDrop_46 rfl rfl rfl ?_
    refine v_istore (L' := [(4, .int x4), (3, .int x4), (0, .ref v0), (1, .int v1), (2, .int v2)]) (q := 49) dX12_doDrop_47 (by decide) rfl rfl ?_
    obtain ⟨e19, e19L, H⟩ := bs H
    refine V.sub [2, 0] rfl ?_
    refine lp_V (P := (fun s49 => V Γ d mX12_doDrop 49 [(0, .ref v0), (4, .int s49.1)] [] s49.2 (none, r))) (E := (fun e => V Γ d mX12_doDrop 96 [] [] e (none, r))) (fun s r hb kI kE => sbX12_doDrop_49 hd (s49 := s) (r := r) hb kI kE) FU (x4, h7) e19 e19L ?_
    cases H
    exact v_return rfl dX12_doDrop_96
  · have H := ine c5 H
    refine v_aload_n (q := 16) 1 dX12_doDrop_15 rfl rfl rfl ?_
    refine v_bipush (v := 8) (q := 18) dX12_doDrop_16 (by decide) rfl ?_
    refine v_iload_n (q := 19) 2 dX12_doDrop_18 rfl rfl rfl ?_
    refine v_iload_n (q := 20) 3 dX12_doDrop_19 rfl rfl rfl ?_
    refine v_iconst (v := 2) (q := 21) dX12_doDrop_20 (by decide) rfl ?_
    refine v_aload_n (q := 22) 1 dX12_doDrop_21 rfl rfl rfl ?_
    refine v_aload_n (q := 23) 1 dX12_doDrop_22 rfl rfl rfl ?_
    refine v_iload_n (q := 24) 2 dX12_doDrop_23 rfl rfl rfl ?_
    refine v_iload_n (q := 25) 3 dX12_doDrop_24 rfl rfl rfl ?_
    obtain ⟨_, o20, H⟩ := bs H
    obtain ⟨x21, x21e, H⟩ := bs H
    refine u_callV1 (M' := mX12_lockOf) (d' := 1) (rc := (RX12, TX12, 58)) (As := [.int v1, .int v2]) (st := [.ref v0, .int (2 : Int32), .int v2, .int v1, .int (8 : Int32), .ref v0]) (q := 28) oX12_lockOf dX12_doDrop_25 w1654 w1656 w0077 rfl rfl (gO_sp o20).1 (gO_sp o20).2 rfl (Nat.le_of_ble_eq_true rfl) (Nat.le_of_ble_eq_true rfl) (Nat.lt_of_lt_of_le (by decide) hd) rfl (sX12_lockOf (Nat.le_refl _) x21e) rfl ?_
    obtain ⟨_, o22, H⟩ := bs H
    obtain ⟨x23, x23e, H⟩ := bs H
    refine u_callV1 (M' := mX12_kind) (d' := 1) (rc := (RX12, TX12, 58)) (As := [.int x21]) (st := [.int (2 : Int32), .int v2, .int v1, .int (8 : Int32), .ref v0]) (q := 31) oX12_kind dX12_doDrop_28 w1673 w1675 w0081 rfl rfl (gO_sp o22).1 (gO_sp o22).2 rfl (Nat.le_of_ble_eq_true rfl) (Nat.le_of_ble_eq_true rfl) (Nat.lt_of_lt_of_le (by decide) hd) rfl (sX12_kind (Nat.le_refl _) x23e) rfl ?_
    refine v_imul (q := 32) dX12_doDrop_31 rfl ?_
    obtain ⟨_, o24, H⟩ := bs H
    obtain ⟨x25, x25e, H⟩ := bs H
    refine u_callV0 (M' := mX12_reportOne) (d' := 3) (rc := (RX12, TX12, 58)) (As := [.int (8 : Int32), .int v1, .int v2, .int ((2 : Int32) * x23)]) (st := []) (q := 35) oX12_reportOne dX12_doDrop_32 w1662 w1664 w0079 rfl rfl (gO_sp o24).1 (gO_sp o24).2 rfl (Nat.le_of_ble_eq_true rfl) (Nat.le_of_ble_eq_true rfl) (Nat.lt_of_lt_of_le (by decide) hd) rfl (sX12_reportOne (Nat.le_refl _) x25e) rfl ?_
    cases H
    exact v_return rfl dX12_doDrop_35
def mX12_goRun : MI := (yX12_goRun, cX12_goRun, 3, none)
theorem oX12_goRun : mOK mX12_goRun 1 := ⟨by decide +kernel, by decide +kernel, by decide +kernel, by decide, w1641, w0150⟩
def jX12_goRun_51 (u0 : Nat) (u1 : Int32) (v2 : Int32) (h : Hp) : Option ((Int32 × Hp) ⊕ (Hp)) :=
(some (v2 + (1 : Int32))).bind fun x11 =>
some (.inl (x11, h))
set_option maxRecDepth 20000 in
set_option maxHeartbeats 4000000 in
theorem sjX12_goRun_51 {Γ : Gm} {d : Nat} (hd : 7 ≤ d) {u0 : Nat} {u1 : Int32} {v2 : Int32} {h : Hp} {r : (Int32 × Hp) ⊕ (Hp)} {t : Option Value × Hp} (H : jX12_goRun_51 u0 u1 v2 h = some r) (kI : ∀ s, r = .inl s → (fun s7 => V Γ d mX12_goRun 7 [(0, .ref u0), (1, .int u1), (2, .int s7.1)] [] s7.2 t) s) (kE : ∀ e, r = .inr e → (fun e => V Γ d mX12_goRun 57 [(0, .ref u0), (1, .int u1)] [] e t) e) : V Γ d mX12_goRun 51 [(0, .ref u0), (1, .int u1), (2, .int v2)] [] h t := by
  unfold jX12_goRun_51 at H
  obtain ⟨x11, x11e, H⟩ := bs H
  refine v_iinc (v := x11) (L' := [(2, .int x11), (0, .ref u0), (1, .int u1)]) (q := 54) 2 dX12_goRun_51 rfl (Option.some.inj x11e) (by decide) rfl rfl ?_
  refine v_goto (q := 7) dX12_goRun_54 (by decide) ?_
  exact V.sub [1, 2, 0] rfl (kI (x11, h) (Option.some.inj H).symm)
def bX12_goRun_7 (u0 : Nat) (u1 : Int32) (s7 : Int32 × Hp) : Option ((Int32 × Hp) ⊕ (Hp)) :=
(gO s7.2 12 u0).bind fun _ =>
(fX12_stepsOf s7.2 u0 u1).bind fun x3 =>
if x3 ≤ s7.1 then (
some (.inr s7.2)) else (
(gO s7.2 12 u0).bind fun _ =>
(fX12_opOf s7.2 u0 u1 s7.1).bind fun x6 =>
if (4 : Int32) ≤ x6 then (
(gO s7.2 12 u0).bind fun _ =>
(fX12_opOf s7.2 u0 u1 s7.1).bind fun x9 =>
if x9 = (4 : Int32) then (
(gO s7.2 12 u0).bind fun _ =>
(fX12_doDrop s7.2 u0 u1 s7.1).bind fun x13 =>
jX12_goRun_51 u0 u1 s7.1 x13) else (
jX12_goRun_51 u0 u1 s7.1 s7.2)) else (
(gO s7.2 12 u0).bind fun _ =>
(fX12_doTake s7.2 u0 u1 s7.1).bind fun x15 =>
jX12_goRun_51 u0 u1 s7.1 x15))
set_option maxRecDepth 20000 in
set_option maxHeartbeats 4000000 in
theorem sbX12_goRun_7 {Γ : Gm} {d : Nat} (hd : 7 ≤ d) {u0 : Nat} {u1 : Int32} {s7 : Int32 × Hp} {r : (Int32 × Hp) ⊕ (Hp)} {t : Option Value × Hp} (H : bX12_goRun_7 u0 u1 s7 = some r) (kI : ∀ s, r = .inl s → (fun s7 => V Γ d mX12_goRun 7 [(0, .ref u0), (1, .int u1), (2, .int s7.1)] [] s7.2 t) s) (kE : ∀ e, r = .inr e → (fun e => V Γ d mX12_goRun 57 [(0, .ref u0), (1, .int u1)] [] e t) e) : V Γ d mX12_goRun 7 [(0, .ref u0), (1, .int u1), (2, .int s7.1)] [] s7.2 t := by
  unfold bX12_goRun_7 at H
  refine v_iload_n (q := 8) 2 dX12_goRun_7 rfl rfl rfl ?_
  refine v_aload_n (q := 9) 0 dX12_goRun_8 rfl rfl rfl ?_
  refine v_iload_n (q := 10) 1 dX12_goRun_9 rfl rfl rfl ?_
  obtain ⟨_, o2, H⟩ := bs H
  obtain ⟨x3, x3e, H⟩ := bs H
  refine u_callV1 (M' := mX12_stepsOf) (d' := 1) (rc := (RX12, TX12, 58)) (As := [.int u1]) (st := [.int s7.1]) (q := 13) oX12_stepsOf dX12_goRun_10 w1642 w1644 w0074 rfl rfl (gO_sp o2).1 (gO_sp o2).2 rfl (Nat.le_of_ble_eq_true rfl) (Nat.le_of_ble_eq_true rfl) (Nat.lt_of_lt_of_le (by decide) hd) rfl (sX12_stepsOf (Nat.le_refl _) x3e) rfl ?_
  refine v_icmp_ge (q1 := 57) (q2 := 16) dX12_goRun_13 (by decide) rfl (fun c4 => ?_) (fun c4 => ?_)
  · have H := ip c4 H
    exact V.sub [0, 1] rfl (kE s7.2 (Option.some.inj H).symm)
  · have H := ine c4 H
    refine v_aload_n (q := 17) 0 dX12_goRun_16 rfl rfl rfl ?_
    refine v_iload_n (q := 18) 1 dX12_goRun_17 rfl rfl rfl ?_
    refine v_iload_n (q := 19) 2 dX12_goRun_18 rfl rfl rfl ?_
    obtain ⟨_, o5, H⟩ := bs H
    obtain ⟨x6, x6e, H⟩ := bs H
    refine u_callV1 (M' := mX12_opOf) (d' := 1) (rc := (RX12, TX12, 58)) (As := [.int u1, .int s7.1]) (st := []) (q := 22) oX12_opOf dX12_goRun_19 w1646 w1648 w0075 rfl rfl (gO_sp o5).1 (gO_sp o5).2 rfl (Nat.le_of_ble_eq_true rfl) (Nat.le_of_ble_eq_true rfl) (Nat.lt_of_lt_of_le (by decide) hd) rfl (sX12_opOf (Nat.le_refl _) x6e) rfl ?_
    refine v_iconst (v := 4) (q := 23) dX12_goRun_22 (by decide) rfl ?_
    refine v_icmp_ge (q1 := 35) (q2 := 26) dX12_goRun_23 (by decide) rfl (fun c7 => ?_) (fun c7 => ?_)
    · have H := ip c7 H
      refine v_aload_n (q := 36) 0 dX12_goRun_35 rfl rfl rfl ?_
      refine v_iload_n (q := 37) 1 dX12_goRun_36 rfl rfl rfl ?_
      refine v_iload_n (q := 38) 2 dX12_goRun_37 rfl rfl rfl ?_
      obtain ⟨_, o8, H⟩ := bs H
      obtain ⟨x9, x9e, H⟩ := bs H
      refine u_callV1 (M' := mX12_opOf) (d' := 1) (rc := (RX12, TX12, 58)) (As := [.int u1, .int s7.1]) (st := []) (q := 41) oX12_opOf dX12_goRun_38 w1646 w1648 w0075 rfl rfl (gO_sp o8).1 (gO_sp o8).2 rfl (Nat.le_of_ble_eq_true rfl) (Nat.le_of_ble_eq_true rfl) (Nat.lt_of_lt_of_le (by decide) hd) rfl (sX12_opOf (Nat.le_refl _) x9e) rfl ?_
      refine v_iconst (v := 4) (q := 42) dX12_goRun_41 (by decide) rfl ?_
      refine v_icmp_ne (q1 := 51) (q2 := 45) dX12_goRun_42 (by decide) rfl (fun c10 => ?_) (fun c10 => ?_)
      · have H := ine c10 H
        exact V.sub [0, 1, 2] rfl (sjX12_goRun_51 hd H kI kE)
      · have H := ip c10 H
        refine v_aload_n (q := 46) 0 dX12_goRun_45 rfl rfl rfl ?_
        refine v_iload_n (q := 47) 1 dX12_goRun_46 rfl rfl rfl ?_
        refine v_iload_n (q := 48) 2 dX12_goRun_47 rfl rfl rfl ?_
        obtain ⟨_, o12, H⟩ := bs H
        obtain ⟨x13, x13e, H⟩ := bs H
        refine u_callV0 (M' := mX12_doDrop) (d' := 4) (rc := (RX12, TX12, 58)) (As := [.int u1, .int s7.1]) (st := []) (q := 51) oX12_doDrop dX12_goRun_48 w1734 w1736 w0096 rfl rfl (gO_sp o12).1 (gO_sp o12).2 rfl (Nat.le_of_ble_eq_true rfl) (Nat.le_of_ble_eq_true rfl) (Nat.lt_of_lt_of_le (by decide) hd) rfl (sX12_doDrop (Nat.le_refl _) x13e) rfl ?_
        exact V.sub [0, 1, 2] rfl (sjX12_goRun_51 hd H kI kE)
    · have H := ine c7 H
      refine v_aload_n (q := 27) 0 dX12_goRun_26 rfl rfl rfl ?_
      refine v_iload_n (q := 28) 1 dX12_goRun_27 rfl rfl rfl ?_
      refine v_iload_n (q := 29) 2 dX12_goRun_28 rfl rfl rfl ?_
      obtain ⟨_, o14, H⟩ := bs H
      obtain ⟨x15, x15e, H⟩ := bs H
      refine u_callV0 (M' := mX12_doTake) (d' := 6) (rc := (RX12, TX12, 58)) (As := [.int u1, .int s7.1]) (st := []) (q := 32) oX12_doTake dX12_goRun_29 w1650 w1652 w0076 rfl rfl (gO_sp o14).1 (gO_sp o14).2 rfl (Nat.le_of_ble_eq_true rfl) (Nat.le_of_ble_eq_true rfl) (Nat.lt_of_lt_of_le (by decide) hd) rfl (sX12_doTake (Nat.le_refl _) x15e) rfl ?_
      refine v_goto (q := 51) dX12_goRun_32 (by decide) ?_
      exact V.sub [0, 1, 2] rfl (sjX12_goRun_51 hd H kI kE)
def bX12_goRun_59 (u0 : Nat) (u1 : Int32) (s59 : Int32 × Hp) : Option ((Int32 × Hp) ⊕ (Hp)) :=
(gI s59.2 12 u0 31).bind fun x17 =>
if x17 ≤ s59.1 then (
some (.inr s59.2)) else (
(gO s59.2 12 u0).bind fun _ =>
(fX12_stepsOf s59.2 u0 u1).bind fun x20 =>
(gR s59.2 12 u0 30).bind fun x21 =>
(lI s59.2 .int x21 s59.1).bind fun x22 =>
(gO s59.2 12 u0).bind fun _ =>
(fX12_reportOne s59.2 u0 (9 : Int32) u1 x20 x22).bind fun x24 =>
(some (s59.1 + (1 : Int32))).bind fun x25 =>
some (.inl (x25, x24)))
set_option maxRecDepth 20000 in
set_option maxHeartbeats 4000000 in
theorem sbX12_goRun_59 {Γ : Gm} {d : Nat} (hd : 7 ≤ d) {u0 : Nat} {u1 : Int32} {s59 : Int32 × Hp} {r : (Int32 × Hp) ⊕ (Hp)} {t : Option Value × Hp} (H : bX12_goRun_59 u0 u1 s59 = some r) (kI : ∀ s, r = .inl s → (fun s59 => V Γ d mX12_goRun 59 [(0, .ref u0), (1, .int u1), (2, .int s59.1)] [] s59.2 t) s) (kE : ∀ e, r = .inr e → (fun e => V Γ d mX12_goRun 91 [(0, .ref u0), (1, .int u1)] [] e t) e) : V Γ d mX12_goRun 59 [(0, .ref u0), (1, .int u1), (2, .int s59.1)] [] s59.2 t := by
  unfold bX12_goRun_59 at H
  refine v_iload_n (q := 60) 2 dX12_goRun_59 rfl rfl rfl ?_
  refine v_aload_n (q := 61) 0 dX12_goRun_60 rfl rfl rfl ?_
  obtain ⟨x17, x17e, H⟩ := bs H
  refine u_gI (q := 64) (r := (RX12, TX12, 58)) x17e dX12_goRun_61 w1387 rfl (by decide) rfl rfl ?_
  refine v_icmp_ge (q1 := 91) (q2 := 67) dX12_goRun_64 (by decide) rfl (fun c18 => ?_) (fun c18 => ?_)
  · have H := ip c18 H
    exact V.sub [0, 1] rfl (kE s59.2 (Option.some.inj H).symm)
  · have H := ine c18 H
    refine v_aload_n (q := 68) 0 dX12_goRun_67 rfl rfl rfl ?_
    refine v_bipush (v := 9) (q := 70) dX12_goRun_68 (by decide) rfl ?_
    refine v_iload_n (q := 71) 1 dX12_goRun_70 rfl rfl rfl ?_
    refine v_aload_n (q := 72) 0 dX12_goRun_71 rfl rfl rfl ?_
    refine v_iload_n (q := 73) 1 dX12_goRun_72 rfl rfl rfl ?_
    obtain ⟨_, o19, H⟩ := bs H
    obtain ⟨x20, x20e, H⟩ := bs H
    refine u_callV1 (M' := mX12_stepsOf) (d' := 1) (rc := (RX12, TX12, 58)) (As := [.int u1]) (st := [.int u1, .int (9 : Int32), .ref u0]) (q := 76) oX12_stepsOf dX12_goRun_73 w1642 w1644 w0074 rfl rfl (gO_sp o19).1 (gO_sp o19).2 rfl (Nat.le_of_ble_eq_true rfl) (Nat.le_of_ble_eq_true rfl) (Nat.lt_of_lt_of_le (by decide) hd) rfl (sX12_stepsOf (Nat.le_refl _) x20e) rfl ?_
    refine v_aload_n (q := 77) 0 dX12_goRun_76 rfl rfl rfl ?_
    obtain ⟨x21, x21e, H⟩ := bs H
    refine u_gR (q := 80) (r := (RX12, TX12, 58)) x21e dX12_goRun_77 w1386 rfl (by decide) rfl rfl ?_
    refine v_iload_n (q := 81) 2 dX12_goRun_80 rfl rfl rfl ?_
    obtain ⟨x22, x22e, H⟩ := bs H
    refine u_lI (q := 82) x22e dX12_goRun_81 rfl ?_
    obtain ⟨_, o23, H⟩ := bs H
    obtain ⟨x24, x24e, H⟩ := bs H
    refine u_callV0 (M' := mX12_reportOne) (d' := 3) (rc := (RX12, TX12, 58)) (As := [.int (9 : Int32), .int u1, .int x20, .int x22]) (st := []) (q := 85) oX12_reportOne dX12_goRun_82 w1662 w1664 w0079 rfl rfl (gO_sp o23).1 (gO_sp o23).2 rfl (Nat.le_of_ble_eq_true rfl) (Nat.le_of_ble_eq_true rfl) (Nat.lt_of_lt_of_le (by decide) hd) rfl (sX12_reportOne (Nat.le_refl _) x24e) rfl ?_
    obtain ⟨x25, x25e, H⟩ := bs H
    refine v_iinc (v := x25) (L' := [(2, .int x25), (0, .ref u0), (1, .int u1)]) (q := 88) 2 dX12_goRun_85 rfl (Option.some.inj x25e) (by decide) rfl rfl ?_
    refine v_goto (q := 59) dX12_goRun_88 (by decide) ?_
    exact V.sub [1, 2, 0] rfl (kI (x25, x24) (Option.some.inj H).symm)
def fX12_goRun (h : Hp) (v0 : Nat) (v1 : Int32) : Option (Hp) :=
(pI h 12 v0 31 (0 : Int32)).bind fun h1 =>
(lp (bX12_goRun_7 v0 v1) FU ((0 : Int32), h1)).bind fun e16 =>
(lp (bX12_goRun_59 v0 v1) FU ((0 : Int32), e16)).bind fun e26 =>
(gR e26 12 v0 0).bind fun x27 =>
(lI e26 .int x27 ((1533 : Int32) + v1)).bind fun x28 =>
(tI e26 x27 ((1533 : Int32) + v1) (x28 + (1 : Int32))).bind fun h29 =>
some h29
set_option maxRecDepth 20000 in
set_option maxHeartbeats 4000000 in
theorem sX12_goRun {Γ : Gm} {d : Nat} (hd : 7 ≤ d) {h : Hp} {v0 : Nat} {v1 : Int32} {r : Hp} (H : fX12_goRun h v0 v1 = some r) : V Γ d mX12_goRun 0 [(0, .ref v0), (1, .int v1)] [] h (none, r) := by
  unfold fX12_goRun at H
  refine v_aload_n (q := 1) 0 dX12_goRun_0 rfl rfl rfl ?_
  refine v_iconst (v := 0) (q := 2) dX12_goRun_1 (by decide) rfl ?_
  obtain ⟨h1, h1e, H⟩ := bs H
  refine u_pI (q := 5) (r := (RX12, TX12, 58)) h1e dX12_goRun_2 w1387 rfl (by decide) (Or.inl rfl) rfl rfl ?_
  refine v_iconst (v := 0) (q := 6) dX12_goRun_5 (by decide) rfl ?_
  refine v_istore_n (L' := [(2, .int (0 : Int32)), (0, .ref v0), (1, .int v1)]) (q := 7) dX12_goRun_6 rfl (by decide) rfl rfl ?_
  obtain ⟨e16, e16L, H⟩ := bs H
  refine V.sub [1, 2, 0] rfl ?_
  refine lp_V (P := (fun s7 => V Γ d mX12_goRun 7 [(0, .ref v0), (1, .int v1), (2, .int s7.1)] [] s7.2 (none, r))) (E := (fun e => V Γ d mX12_goRun 57 [(0, .ref v0), (1, .int v1)] [] e (none, r))) (fun s r hb kI kE => sbX12_goRun_7 hd (s7 := s) (r := r) hb kI kE) FU ((0 : Int32), h1) e16 e16L ?_
  refine v_iconst (v := 0) (q := 58) dX12_goRun_57 (by decide) rfl ?_
  refine v_istore_n (L' := [(2, .int (0 : Int32)), (0, .ref v0), (1, .int v1)]) (q := 59) dX12_goRun_58 rfl (by decide) rfl rfl ?_
  obtain ⟨e26, e26L, H⟩ := bs H
  refine V.sub [1, 2, 0] rfl ?_
  refine lp_V (P := (fun s59 => V Γ d mX12_goRun 59 [(0, .ref v0), (1, .int v1), (2, .int s59.1)] [] s59.2 (none, r))) (E := (fun e => V Γ d mX12_goRun 91 [(0, .ref v0), (1, .int v1)] [] e (none, r))) (fun s r hb kI kE => sbX12_goRun_59 hd (s59 := s) (r := r) hb kI kE) FU ((0 : Int32), e16) e26 e26L ?_
  refine v_aload_n (q := 92) 0 dX12_goRun_91 rfl rfl rfl ?_
  obtain ⟨x27, x27e, H⟩ := bs H
  refine u_gR (q := 95) (r := (RX12, TX12, 58)) x27e dX12_goRun_92 w1356 rfl (by decide) rfl rfl ?_
  refine v_sipush (v := 1533) (q := 98) dX12_goRun_95 (by decide) rfl ?_
  refine v_iload_n (q := 99) 1 dX12_goRun_98 rfl rfl rfl ?_
  refine v_iadd (q := 100) dX12_goRun_99 rfl ?_
  refine v_dup2 (q := 101) dX12_goRun_100 rfl rfl rfl ?_
  obtain ⟨x28, x28e, H⟩ := bs H
  refine u_lI (q := 102) x28e dX12_goRun_101 rfl ?_
  refine v_iconst (v := 1) (q := 103) dX12_goRun_102 (by decide) rfl ?_
  refine v_iadd (q := 104) dX12_goRun_103 rfl ?_
  obtain ⟨h29, h29e, H⟩ := bs H
  refine u_tI (q := 105) h29e dX12_goRun_104 rfl ?_
  cases H
  exact v_return rfl dX12_goRun_105
def mX12_goAll : MI := (yX12_goAll, cX12_goAll, 2, none)
theorem oX12_goAll : mOK mX12_goAll 0 := ⟨by decide +kernel, by decide +kernel, by decide +kernel, by decide, w1828, w0150⟩
def bX12_goAll_10 (u0 : Nat) (s10 : Int32 × Hp) : Option ((Int32 × Hp) ⊕ (Hp)) :=
(gR s10.2 12 u0 3).bind fun x5 =>
(gI s10.2 12 u0 9).bind fun x6 =>
(lI s10.2 .int x5 x6).bind fun x7 =>
if x7 ≤ s10.1 then (
some (.inr s10.2)) else (
(gO s10.2 12 u0).bind fun _ =>
(fX12_goRun s10.2 u0 s10.1).bind fun x10 =>
(some (s10.1 + (1 : Int32))).bind fun x11 =>
some (.inl (x11, x10)))
set_option maxRecDepth 20000 in
set_option maxHeartbeats 4000000 in
theorem sbX12_goAll_10 {Γ : Gm} {d : Nat} (hd : 8 ≤ d) {u0 : Nat} {s10 : Int32 × Hp} {r : (Int32 × Hp) ⊕ (Hp)} {t : Option Value × Hp} (H : bX12_goAll_10 u0 s10 = some r) (kI : ∀ s, r = .inl s → (fun s10 => V Γ d mX12_goAll 10 [(0, .ref u0), (1, .int s10.1)] [] s10.2 t) s) (kE : ∀ e, r = .inr e → (fun e => V Γ d mX12_goAll 34 [] [] e t) e) : V Γ d mX12_goAll 10 [(0, .ref u0), (1, .int s10.1)] [] s10.2 t := by
  unfold bX12_goAll_10 at H
  refine v_iload_n (q := 11) 1 dX12_goAll_10 rfl rfl rfl ?_
  refine v_aload_n (q := 12) 0 dX12_goAll_11 rfl rfl rfl ?_
  obtain ⟨x5, x5e, H⟩ := bs H
  refine u_gR (q := 15) (r := (RX12, TX12, 58)) x5e dX12_goAll_12 w1359 rfl (by decide) rfl rfl ?_
  refine v_aload_n (q := 16) 0 dX12_goAll_15 rfl rfl rfl ?_
  obtain ⟨x6, x6e, H⟩ := bs H
  refine u_gI (q := 19) (r := (RX12, TX12, 58)) x6e dX12_goAll_16 w1365 rfl (by decide) rfl rfl ?_
  obtain ⟨x7, x7e, H⟩ := bs H
  refine u_lI (q := 20) x7e dX12_goAll_19 rfl ?_
  refine v_icmp_ge (q1 := 34) (q2 := 23) dX12_goAll_20 (by decide) rfl (fun c8 => ?_) (fun c8 => ?_)
  · have H := ip c8 H
    exact V.sub [] rfl (kE s10.2 (Option.some.inj H).symm)
  · have H := ine c8 H
    refine v_aload_n (q := 24) 0 dX12_goAll_23 rfl rfl rfl ?_
    refine v_iload_n (q := 25) 1 dX12_goAll_24 rfl rfl rfl ?_
    obtain ⟨_, o9, H⟩ := bs H
    obtain ⟨x10, x10e, H⟩ := bs H
    refine u_callV0 (M' := mX12_goRun) (d' := 7) (rc := (RX12, TX12, 58)) (As := [.int s10.1]) (st := []) (q := 28) oX12_goRun dX12_goAll_25 w1638 w1640 w0073 rfl rfl (gO_sp o9).1 (gO_sp o9).2 rfl (Nat.le_of_ble_eq_true rfl) (Nat.le_of_ble_eq_true rfl) (Nat.lt_of_lt_of_le (by decide) hd) rfl (sX12_goRun (Nat.le_refl _) x10e) rfl ?_
    obtain ⟨x11, x11e, H⟩ := bs H
    refine v_iinc (v := x11) (L' := [(1, .int x11), (0, .ref u0)]) (q := 31) 1 dX12_goAll_28 rfl (Option.some.inj x11e) (by decide) rfl rfl ?_
    refine v_goto (q := 10) dX12_goAll_31 (by decide) ?_
    exact V.sub [1, 0] rfl (kI (x11, x10) (Option.some.inj H).symm)
def fX12_goAll (h : Hp) (v0 : Nat) : Option (Hp) :=
(gO h 12 v0).bind fun _ =>
(fX12_putAside h v0).bind fun x2 =>
(gO x2 12 v0).bind fun _ =>
(fX12_clearAll x2 v0).bind fun x4 =>
(lp (bX12_goAll_10 v0) FU ((0 : Int32), x4)).bind fun e12 =>
some e12
set_option maxRecDepth 20000 in
set_option maxHeartbeats 4000000 in
theorem sX12_goAll {Γ : Gm} {d : Nat} (hd : 8 ≤ d) {h : Hp} {v0 : Nat} {r : Hp} (H : fX12_goAll h v0 = some r) : V Γ d mX12_goAll 0 [(0, .ref v0)] [] h (none, r) := by
  unfold fX12_goAll at H
  refine v_aload_n (q := 1) 0 dX12_goAll_0 rfl rfl rfl ?_
  obtain ⟨_, o1, H⟩ := bs H
  obtain ⟨x2, x2e, H⟩ := bs H
  refine u_callV0 (M' := mX12_putAside) (d' := 1) (rc := (RX12, TX12, 58)) (As := []) (st := []) (q := 4) oX12_putAside dX12_goAll_1 w1809 w1811 w0102 rfl rfl (gO_sp o1).1 (gO_sp o1).2 rfl (Nat.le_of_ble_eq_true rfl) (Nat.le_of_ble_eq_true rfl) (Nat.lt_of_lt_of_le (by decide) hd) rfl (sX12_putAside (Nat.le_refl _) x2e) rfl ?_
  refine v_aload_n (q := 5) 0 dX12_goAll_4 rfl rfl rfl ?_
  obtain ⟨_, o3, H⟩ := bs H
  obtain ⟨x4, x4e, H⟩ := bs H
  refine u_callV0 (M' := mX12_clearAll) (d' := 1) (rc := (RX12, TX12, 58)) (As := []) (st := []) (q := 8) oX12_clearAll dX12_goAll_5 w1352 w1354 w0052 rfl rfl (gO_sp o3).1 (gO_sp o3).2 rfl (Nat.le_of_ble_eq_true rfl) (Nat.le_of_ble_eq_true rfl) (Nat.lt_of_lt_of_le (by decide) hd) rfl (sX12_clearAll (Nat.le_refl _) x4e) rfl ?_
  refine v_iconst (v := 0) (q := 9) dX12_goAll_8 (by decide) rfl ?_
  refine v_istore_n (L' := [(1, .int (0 : Int32)), (0, .ref v0)]) (q := 10) dX12_goAll_9 rfl (by decide) rfl rfl ?_
  obtain ⟨e12, e12L, H⟩ := bs H
  refine V.sub [1, 0] rfl ?_
  refine lp_V (P := (fun s10 => V Γ d mX12_goAll 10 [(0, .ref v0), (1, .int s10.1)] [] s10.2 (none, r))) (E := (fun e => V Γ d mX12_goAll 34 [] [] e (none, r))) (fun s r hb kI kE => sbX12_goAll_10 hd (s10 := s) (r := r) hb kI kE) FU ((0 : Int32), x4) e12 e12L ?_
  cases H
  exact v_return rfl dX12_goAll_34
def mX12_bringBack : MI := (yX12_bringBack, cX12_bringBack, 2, none)
theorem oX12_bringBack : mOK mX12_bringBack 0 := ⟨by decide +kernel, by decide +kernel, by decide +kernel, by decide, w1820, w0150⟩
def bX12_bringBack_2 (u0 : Nat) (s2 : Int32 × Hp) : Option ((Int32 × Hp) ⊕ (Hp)) :=
if (9685 : Int32) ≤ s2.1 then (
some (.inr s2.2)) else (
(gR s2.2 12 u0 0).bind fun x2 =>
(gR s2.2 12 u0 32).bind fun x3 =>
(lI s2.2 .int x3 s2.1).bind fun x4 =>
(tI s2.2 x2 s2.1 x4).bind fun h5 =>
(some (s2.1 + (1 : Int32))).bind fun x6 =>
some (.inl (x6, h5)))
set_option maxRecDepth 20000 in
set_option maxHeartbeats 4000000 in
theorem sbX12_bringBack_2 {Γ : Gm} {d : Nat} (hd : 1 ≤ d) {u0 : Nat} {s2 : Int32 × Hp} {r : (Int32 × Hp) ⊕ (Hp)} {t : Option Value × Hp} (H : bX12_bringBack_2 u0 s2 = some r) (kI : ∀ s, r = .inl s → (fun s2 => V Γ d mX12_bringBack 2 [(0, .ref u0), (1, .int s2.1)] [] s2.2 t) s) (kE : ∀ e, r = .inr e → (fun e => V Γ d mX12_bringBack 27 [] [] e t) e) : V Γ d mX12_bringBack 2 [(0, .ref u0), (1, .int s2.1)] [] s2.2 t := by
  unfold bX12_bringBack_2 at H
  refine v_iload_n (q := 3) 1 dX12_bringBack_2 rfl rfl rfl ?_
  refine v_sipush (v := 9685) (q := 6) dX12_bringBack_3 (by decide) rfl ?_
  refine v_icmp_ge (q1 := 27) (q2 := 9) dX12_bringBack_6 (by decide) rfl (fun c1 => ?_) (fun c1 => ?_)
  · have H := ip c1 H
    exact V.sub [] rfl (kE s2.2 (Option.some.inj H).symm)
  · have H := ine c1 H
    refine v_aload_n (q := 10) 0 dX12_bringBack_9 rfl rfl rfl ?_
    obtain ⟨x2, x2e, H⟩ := bs H
    refine u_gR (q := 13) (r := (RX12, TX12, 58)) x2e dX12_bringBack_10 w1356 rfl (by decide) rfl rfl ?_
    refine v_iload_n (q := 14) 1 dX12_bringBack_13 rfl rfl rfl ?_
    refine v_aload_n (q := 15) 0 dX12_bringBack_14 rfl rfl rfl ?_
    obtain ⟨x3, x3e, H⟩ := bs H
    refine u_gR (q := 18) (r := (RX12, TX12, 58)) x3e dX12_bringBack_15 w1388 rfl (by decide) rfl rfl ?_
    refine v_iload_n (q := 19) 1 dX12_bringBack_18 rfl rfl rfl ?_
    obtain ⟨x4, x4e, H⟩ := bs H
    refine u_lI (q := 20) x4e dX12_bringBack_19 rfl ?_
    obtain ⟨h5, h5e, H⟩ := bs H
    refine u_tI (q := 21) h5e dX12_bringBack_20 rfl ?_
    obtain ⟨x6, x6e, H⟩ := bs H
    refine v_iinc (v := x6) (L' := [(1, .int x6), (0, .ref u0)]) (q := 24) 1 dX12_bringBack_21 rfl (Option.some.inj x6e) (by decide) rfl rfl ?_
    refine v_goto (q := 2) dX12_bringBack_24 (by decide) ?_
    exact V.sub [1, 0] rfl (kI (x6, h5) (Option.some.inj H).symm)
def fX12_bringBack (h : Hp) (v0 : Nat) : Option (Hp) :=
(lp (bX12_bringBack_2 v0) FU ((0 : Int32), h)).bind fun e7 =>
some e7
set_option maxRecDepth 20000 in
set_option maxHeartbeats 4000000 in
theorem sX12_bringBack {Γ : Gm} {d : Nat} (hd : 1 ≤ d) {h : Hp} {v0 : Nat} {r : Hp} (H : fX12_bringBack h v0 = some r) : V Γ d mX12_bringBack 0 [(0, .ref v0)] [] h (none, r) := by
  unfold fX12_bringBack at H
  refine v_iconst (v := 0) (q := 1) dX12_bringBack_0 (by decide) rfl ?_
  refine v_istore_n (L' := [(1, .int (0 : Int32)), (0, .ref v0)]) (q := 2) dX12_bringBack_1 rfl (by decide) rfl rfl ?_
  obtain ⟨e7, e7L, H⟩ := bs H
  refine V.sub [1, 0] rfl ?_
  refine lp_V (P := (fun s2 => V Γ d mX12_bringBack 2 [(0, .ref v0), (1, .int s2.1)] [] s2.2 (none, r))) (E := (fun e => V Γ d mX12_bringBack 27 [] [] e (none, r))) (fun s r hb kI kE => sbX12_bringBack_2 hd (s2 := s) (r := r) hb kI kE) FU ((0 : Int32), h) e7 e7L ?_
  cases H
  exact v_return rfl dX12_bringBack_27
def mX12_all : MI := (yX12_all, cX12_all, 4, some .int)
theorem oX12_all : mOK mX12_all 1 := ⟨by decide +kernel, by decide +kernel, by decide +kernel, by decide, w1824, w0150⟩
def jX12_all_52 (u0 : Nat) (u1 : Int32) (v3 : Int32) (y0 : Int32) (y1 : Int32) (h : Hp) : Option ((Int32 × Int32) ⊕ (Int32)) :=
(some (y1 + y0)).bind fun x12 =>
(some (v3 + (1 : Int32))).bind fun x13 =>
some (.inl (x12, x13))
set_option maxRecDepth 20000 in
set_option maxHeartbeats 4000000 in
theorem sjX12_all_52 {Γ : Gm} {d : Nat} (hd : 9 ≤ d) {u0 : Nat} {u1 : Int32} {v3 : Int32} {y0 : Int32} {y1 : Int32} {h : Hp} {r : (Int32 × Int32) ⊕ (Int32)} {t : Option Value × Hp} (H : jX12_all_52 u0 u1 v3 y0 y1 h = some r) (kI : ∀ s, r = .inl s → (fun s20 => V Γ d mX12_all 20 [(0, .ref u0), (1, .int u1), (2, .int s20.1), (3, .int s20.2)] [] h t) s) (kE : ∀ e, r = .inr e → (fun e => V Γ d mX12_all 60 [(0, .ref u0), (2, .int e)] [] h t) e) : V Γ d mX12_all 52 [(0, .ref u0), (1, .int u1), (3, .int v3)] [.int y0, .int y1] h t := by
  unfold jX12_all_52 at H
  refine v_iadd (q := 53) dX12_all_52 rfl ?_
  obtain ⟨x12, x12e, H⟩ := bs H
  refine v_topi (Option.some.inj x12e) ?_
  refine v_istore_n (L' := [(2, .int x12), (0, .ref u0), (1, .int u1), (3, .int v3)]) (q := 54) dX12_all_53 rfl (by decide) rfl rfl ?_
  obtain ⟨x13, x13e, H⟩ := bs H
  refine v_iinc (v := x13) (L' := [(3, .int x13), (2, .int x12), (0, .ref u0), (1, .int u1)]) (q := 57) 3 dX12_all_54 rfl (Option.some.inj x13e) (by decide) rfl rfl ?_
  refine v_goto (q := 20) dX12_all_57 (by decide) ?_
  exact V.sub [2, 3, 1, 0] rfl (kI (x12, x13) (Option.some.inj H).symm)
def bX12_all_20 (u0 : Nat) (u1 : Int32) (h : Hp) (s20 : Int32 × Int32) : Option ((Int32 × Int32) ⊕ (Int32)) :=
(gR h 12 u0 0).bind fun x5 =>
(lI h .int x5 (272 : Int32)).bind fun x6 =>
if x6 ≤ s20.2 then (
some (.inr s20.1)) else (
(gR h 12 u0 0).bind fun x8 =>
(fX12_atReport h s20.2 (0 : Int32)).bind fun x9 =>
(lI h .int x8 x9).bind fun x10 =>
if x10 = u1 then (
jX12_all_52 u0 u1 s20.2 (1 : Int32) s20.1 h) else (
jX12_all_52 u0 u1 s20.2 (0 : Int32) s20.1 h))
set_option maxRecDepth 20000 in
set_option maxHeartbeats 4000000 in
theorem sbX12_all_20 {Γ : Gm} {d : Nat} (hd : 9 ≤ d) {u0 : Nat} {u1 : Int32} {h : Hp} {s20 : Int32 × Int32} {r : (Int32 × Int32) ⊕ (Int32)} {t : Option Value × Hp} (H : bX12_all_20 u0 u1 h s20 = some r) (kI : ∀ s, r = .inl s → (fun s20 => V Γ d mX12_all 20 [(0, .ref u0), (1, .int u1), (2, .int s20.1), (3, .int s20.2)] [] h t) s) (kE : ∀ e, r = .inr e → (fun e => V Γ d mX12_all 60 [(0, .ref u0), (2, .int e)] [] h t) e) : V Γ d mX12_all 20 [(0, .ref u0), (1, .int u1), (2, .int s20.1), (3, .int s20.2)] [] h t := by
  unfold bX12_all_20 at H
  refine v_iload_n (q := 21) 3 dX12_all_20 rfl rfl rfl ?_
  refine v_aload_n (q := 22) 0 dX12_all_21 rfl rfl rfl ?_
  obtain ⟨x5, x5e, H⟩ := bs H
  refine u_gR (q := 25) (r := (RX12, TX12, 58)) x5e dX12_all_22 w1356 rfl (by decide) rfl rfl ?_
  refine v_sipush (v := 272) (q := 28) dX12_all_25 (by decide) rfl ?_
  obtain ⟨x6, x6e, H⟩ := bs H
  refine u_lI (q := 29) x6e dX12_all_28 rfl ?_
  refine v_icmp_ge (q1 := 60) (q2 := 32) dX12_all_29 (by decide) rfl (fun c7 => ?_) (fun c7 => ?_)
  · have H := ip c7 H
    exact V.sub [0, 2] rfl (kE s20.1 (Option.some.inj H).symm)
  · have H := ine c7 H
    refine v_iload_n (q := 33) 2 dX12_all_32 rfl rfl rfl ?_
    refine v_aload_n (q := 34) 0 dX12_all_33 rfl rfl rfl ?_
    obtain ⟨x8, x8e, H⟩ := bs H
    refine u_gR (q := 37) (r := (RX12, TX12, 58)) x8e dX12_all_34 w1356 rfl (by decide) rfl rfl ?_
    refine v_iload_n (q := 38) 3 dX12_all_37 rfl rfl rfl ?_
    refine v_iconst (v := 0) (q := 39) dX12_all_38 (by decide) rfl ?_
    obtain ⟨x9, x9e, H⟩ := bs H
    refine u_callS1 (M' := mX12_atReport) (d' := 1) (As := [.int s20.2, .int (0 : Int32)]) (st := [.ref x8, .int s20.1]) (q := 42) oX12_atReport dX12_all_39 w1670 w1671 rfl (Nat.le_of_ble_eq_true rfl) (Nat.le_of_ble_eq_true rfl) (Nat.lt_of_lt_of_le (by decide) hd) rfl (sX12_atReport (Nat.le_refl _) x9e) rfl ?_
    obtain ⟨x10, x10e, H⟩ := bs H
    refine u_lI (q := 43) x10e dX12_all_42 rfl ?_
    refine v_iload_n (q := 44) 1 dX12_all_43 rfl rfl rfl ?_
    refine v_icmp_ne (q1 := 51) (q2 := 47) dX12_all_44 (by decide) rfl (fun c11 => ?_) (fun c11 => ?_)
    · have H := ine c11 H
      refine v_iconst (v := 0) (q := 52) dX12_all_51 (by decide) rfl ?_
      exact V.sub [0, 1, 3] rfl (sjX12_all_52 hd H kI kE)
    · have H := ip c11 H
      refine v_iconst (v := 1) (q := 48) dX12_all_47 (by decide) rfl ?_
      refine v_goto (q := 52) dX12_all_48 (by decide) ?_
      exact V.sub [0, 1, 3] rfl (sjX12_all_52 hd H kI kE)
def fX12_all (h : Hp) (v0 : Nat) (v1 : Int32) : Option (Int32 × Hp) :=
(fX12_isIn h v1 (1 : Int32) (9 : Int32)).bind fun x1 =>
if x1 = 0 then (
some (((-1 : Int32), h))) else (
(gO h 12 v0).bind fun _ =>
(fX12_goAll h v0).bind fun x4 =>
(lp (bX12_all_20 v0 v1 x4) FU ((0 : Int32), (0 : Int32))).bind fun e14 =>
(gO x4 12 v0).bind fun _ =>
(fX12_bringBack x4 v0).bind fun x16 =>
some (e14, x16))
set_option maxRecDepth 20000 in
set_option maxHeartbeats 4000000 in
theorem sX12_all {Γ : Gm} {d : Nat} (hd : 9 ≤ d) {h : Hp} {v0 : Nat} {v1 : Int32} {r : Int32 × Hp} (H : fX12_all h v0 v1 = some r) : V Γ d mX12_all 0 [(0, .ref v0), (1, .int v1)] [] h (some (.int r.1), r.2) := by
  unfold fX12_all at H
  refine v_iload_n (q := 1) 1 dX12_all_0 rfl rfl rfl ?_
  refine v_iconst (v := 1) (q := 2) dX12_all_1 (by decide) rfl ?_
  refine v_bipush (v := 9) (q := 4) dX12_all_2 (by decide) rfl ?_
  obtain ⟨x1, x1e, H⟩ := bs H
  refine u_callS1 (M' := mX12_isIn) (d' := 1) (As := [.int v1, .int (1 : Int32), .int (9 : Int32)]) (st := []) (q := 7) oX12_isIn dX12_all_4 w1618 w1619 rfl (Nat.le_of_ble_eq_true rfl) (Nat.le_of_ble_eq_true rfl) (Nat.lt_of_lt_of_le (by decide) hd) rfl (sX12_isIn (Nat.le_refl _) x1e) rfl ?_
  refine v_if_ne (q1 := 12) (q2 := 10) dX12_all_7 (by decide) rfl (fun c2 => ?_) (fun c2 => ?_)
  · have H := ine c2 H
    refine v_aload_n (q := 13) 0 dX12_all_12 rfl rfl rfl ?_
    obtain ⟨_, o3, H⟩ := bs H
    obtain ⟨x4, x4e, H⟩ := bs H
    refine u_callV0 (M' := mX12_goAll) (d' := 8) (rc := (RX12, TX12, 58)) (As := []) (st := []) (q := 16) oX12_goAll dX12_all_13 w1825 w1827 w0105 rfl rfl (gO_sp o3).1 (gO_sp o3).2 rfl (Nat.le_of_ble_eq_true rfl) (Nat.le_of_ble_eq_true rfl) (Nat.lt_of_lt_of_le (by decide) hd) rfl (sX12_goAll (Nat.le_refl _) x4e) rfl ?_
    refine v_iconst (v := 0) (q := 17) dX12_all_16 (by decide) rfl ?_
    refine v_istore_n (L' := [(2, .int (0 : Int32)), (0, .ref v0), (1, .int v1)]) (q := 18) dX12_all_17 rfl (by decide) rfl rfl ?_
    refine v_iconst (v := 0) (q := 19) dX12_all_18 (by decide) rfl ?_
    refine v_istore_n (L' := [(3, .int (0 : Int32)), (2, .int (0 : Int32)), (0, .ref v0), (1, .int v1)]) (q := 20) dX12_all_19 rfl (by decide) rfl rfl ?_
    obtain ⟨e14, e14L, H⟩ := bs H
    refine V.sub [2, 3, 1, 0] rfl ?_
    refine lp_V (P := (fun s20 => V Γ d mX12_all 20 [(0, .ref v0), (1, .int v1), (2, .int s20.1), (3, .int s20.2)] [] x4 (some (.int r.1), r.2))) (E := (fun e => V Γ d mX12_all 60 [(0, .ref v0), (2, .int e)] [] x4 (some (.int r.1), r.2))) (fun s r hb kI kE => sbX12_all_20 hd (s20 := s) (r := r) hb kI kE) FU ((0 : Int32), (0 : Int32)) e14 e14L ?_
    refine v_aload_n (q := 61) 0 dX12_all_60 rfl rfl rfl ?_
    obtain ⟨_, o15, H⟩ := bs H
    obtain ⟨x16, x16e, H⟩ := bs H
    refine u_callV0 (M' := mX12_bringBack) (d' := 1) (rc := (RX12, TX12, 58)) (As := []) (st := []) (q := 64) oX12_bringBack dX12_all_61 w1817 w1819 w0104 rfl rfl (gO_sp o15).1 (gO_sp o15).2 rfl (Nat.le_of_ble_eq_true rfl) (Nat.le_of_ble_eq_true rfl) (Nat.lt_of_lt_of_le (by decide) hd) rfl (sX12_bringBack (Nat.le_refl _) x16e) rfl ?_
    refine v_iload_n (q := 65) 1 dX12_all_64 rfl rfl rfl ?_
    cases H
    exact v_ireturn rfl dX12_all_65
  · have H := ip c2 H
    refine v_iconst (v := -1) (q := 11) dX12_all_10 (by decide) rfl ?_
    cases H
    exact v_ireturn rfl dX12_all_11
def mX12_has : MI := (yX12_has, cX12_has, 2, some .boolean)
theorem oX12_has : mOK mX12_has 2 := ⟨by decide +kernel, by decide +kernel, by decide +kernel, by decide, w1848, w0150⟩
def jX12_has_14 (y0 : Int32) (h : Hp) : Option (Int32) :=
(bz y0).bind fun x2 =>
some x2
set_option maxRecDepth 20000 in
set_option maxHeartbeats 4000000 in
theorem sjX12_has_14 {Γ : Gm} {d : Nat} (hd : 1 ≤ d) {y0 : Int32} {h : Hp} {r : Int32} (H : jX12_has_14 y0 h = some r) : V Γ d mX12_has 14 [] [.int y0] h (some (.int r), h) := by
  unfold jX12_has_14 at H
  obtain ⟨x2, x2e, H⟩ := bs H
  obtain ⟨x2q, x2z⟩ := bz_sp x2e
  refine v_topi x2q.symm ?_
  cases H
  exact v_zreturn rfl (by rw [x2q]; exact x2z) dX12_has_14
def fX12_has (h : Hp) (v0 : Int32) (v1 : Int32) : Option (Int32) :=
if ((v0 >>> (v1 &&& 31)) &&& (1 : Int32)) = (1 : Int32) then (
jX12_has_14 (1 : Int32) h) else (
jX12_has_14 (0 : Int32) h)
set_option maxRecDepth 20000 in
set_option maxHeartbeats 4000000 in
theorem sX12_has {Γ : Gm} {d : Nat} (hd : 1 ≤ d) {h : Hp} {v0 : Int32} {v1 : Int32} {r : Int32} (H : fX12_has h v0 v1 = some r) : V Γ d mX12_has 0 [(0, .int v0), (1, .int v1)] [] h (some (.int r), h) := by
  unfold fX12_has at H
  refine v_iload_n (q := 1) 0 dX12_has_0 rfl rfl rfl ?_
  refine v_iload_n (q := 2) 1 dX12_has_1 rfl rfl rfl ?_
  refine v_ishr (q := 3) dX12_has_2 rfl ?_
  refine v_iconst (v := 1) (q := 4) dX12_has_3 (by decide) rfl ?_
  refine v_iand (q := 5) dX12_has_4 rfl ?_
  refine v_iconst (v := 1) (q := 6) dX12_has_5 (by decide) rfl ?_
  refine v_icmp_ne (q1 := 13) (q2 := 9) dX12_has_6 (by decide) rfl (fun c1 => ?_) (fun c1 => ?_)
  · have H := ine c1 H
    refine v_iconst (v := 0) (q := 14) dX12_has_13 (by decide) rfl ?_
    exact V.sub [] rfl (sjX12_has_14 hd H)
  · have H := ip c1 H
    refine v_iconst (v := 1) (q := 10) dX12_has_9 (by decide) rfl ?_
    refine v_goto (q := 14) dX12_has_10 (by decide) ?_
    exact V.sub [] rfl (sjX12_has_14 hd H)
def mX12_areOf : MI := (yX12_areOf, cX12_areOf, 4, some .boolean)
theorem oX12_areOf : mOK mX12_areOf 2 := ⟨by decide +kernel, by decide +kernel, by decide +kernel, by decide, w2007, w0150⟩
def jX12_areOf_30 (u0 : Nat) (u1 : Int32) (u2 : Int32) (v3 : Int32) (h : Hp) : Option ((Int32) ⊕ ((Unit) ⊕ (Unit))) :=
(some (v3 + (1 : Int32))).bind fun x4 =>
some (.inl x4)
set_option maxRecDepth 20000 in
set_option maxHeartbeats 4000000 in
theorem sjX12_areOf_30 {Γ : Gm} {d : Nat} (hd : 2 ≤ d) {u0 : Nat} {u1 : Int32} {u2 : Int32} {v3 : Int32} {h : Hp} {r : (Int32) ⊕ ((Unit) ⊕ (Unit))} {t : Option Value × Hp} (H : jX12_areOf_30 u0 u1 u2 v3 h = some r) (kI : ∀ s, r = .inl s → (fun s2 => V Γ d mX12_areOf 2 [(0, .ref u0), (1, .int u1), (2, .int u2), (3, .int s2)] [] h t) s) (kE : ∀ e, r = .inr e → (fun e => (match e with | .inl a0 => V Γ d mX12_areOf 36 [] [] h t | .inr b0 => V Γ d mX12_areOf 28 [] [] h t)) e) : V Γ d mX12_areOf 30 [(0, .ref u0), (1, .int u1), (2, .int u2), (3, .int v3)] [] h t := by
  unfold jX12_areOf_30 at H
  obtain ⟨x4, x4e, H⟩ := bs H
  refine v_iinc (v := x4) (L' := [(3, .int x4), (0, .ref u0), (1, .int u1), (2, .int u2)]) (q := 33) 3 dX12_areOf_30 rfl (Option.some.inj x4e) (by decide) rfl rfl ?_
  refine v_goto (q := 2) dX12_areOf_33 (by decide) ?_
  exact V.sub [1, 2, 3, 0] rfl (kI x4 (Option.some.inj H).symm)
def bX12_areOf_2 (u0 : Nat) (u1 : Int32) (u2 : Int32) (h : Hp) (s2 : Int32) : Option ((Int32) ⊕ ((Unit) ⊕ (Unit))) :=
if (10 : Int32) ≤ s2 then (
some (.inr (.inl ()))) else (
(fX12_has h u1 s2).bind fun x2 =>
if x2 = 0 then (
jX12_areOf_30 u0 u1 u2 s2 h) else (
(gO h 12 u0).bind fun _ =>
(fX12_kind h u0 s2).bind fun x6 =>
(fX12_has h u2 x6).bind fun x7 =>
if x7 = 0 then (
some (.inr (.inr ()))) else (
jX12_areOf_30 u0 u1 u2 s2 h)))
set_option maxRecDepth 20000 in
set_option maxHeartbeats 4000000 in
theorem sbX12_areOf_2 {Γ : Gm} {d : Nat} (hd : 2 ≤ d) {u0 : Nat} {u1 : Int32} {u2 : Int32} {h : Hp} {s2 : Int32} {r : (Int32) ⊕ ((Unit) ⊕ (Unit))} {t : Option Value × Hp} (H : bX12_areOf_2 u0 u1 u2 h s2 = some r) (kI : ∀ s, r = .inl s → (fun s2 => V Γ d mX12_areOf 2 [(0, .ref u0), (1, .int u1), (2, .int u2), (3, .int s2)] [] h t) s) (kE : ∀ e, r = .inr e → (fun e => (match e with | .inl a0 => V Γ d mX12_areOf 36 [] [] h t | .inr b0 => V Γ d mX12_areOf 28 [] [] h t)) e) : V Γ d mX12_areOf 2 [(0, .ref u0), (1, .int u1), (2, .int u2), (3, .int s2)] [] h t := by
  unfold bX12_areOf_2 at H
  refine v_iload_n (q := 3) 3 dX12_areOf_2 rfl rfl rfl ?_
  refine v_bipush (v := 10) (q := 5) dX12_areOf_3 (by decide) rfl ?_
  refine v_icmp_ge (q1 := 36) (q2 := 8) dX12_areOf_5 (by decide) rfl (fun c1 => ?_) (fun c1 => ?_)
  · have H := ip c1 H
    exact V.sub [] rfl (kE (.inl ()) (Option.some.inj H).symm)
  · have H := ine c1 H
    refine v_iload_n (q := 9) 1 dX12_areOf_8 rfl rfl rfl ?_
    refine v_iload_n (q := 10) 3 dX12_areOf_9 rfl rfl rfl ?_
    obtain ⟨x2, x2e, H⟩ := bs H
    refine u_callS1 (M' := mX12_has) (d' := 1) (As := [.int u1, .int s2]) (st := []) (q := 13) oX12_has dX12_areOf_10 w1846 w1847 rfl (Nat.le_of_ble_eq_true rfl) (Nat.le_of_ble_eq_true rfl) (Nat.lt_of_lt_of_le (by decide) hd) rfl (sX12_has (Nat.le_refl _) x2e) rfl ?_
    refine v_if_eq (q1 := 30) (q2 := 16) dX12_areOf_13 (by decide) rfl (fun c3 => ?_) (fun c3 => ?_)
    · have H := ip c3 H
      exact V.sub [0, 1, 2, 3] rfl (sjX12_areOf_30 hd H kI kE)
    · have H := ine c3 H
      refine v_iload_n (q := 17) 2 dX12_areOf_16 rfl rfl rfl ?_
      refine v_aload_n (q := 18) 0 dX12_areOf_17 rfl rfl rfl ?_
      refine v_iload_n (q := 19) 3 dX12_areOf_18 rfl rfl rfl ?_
      obtain ⟨_, o5, H⟩ := bs H
      obtain ⟨x6, x6e, H⟩ := bs H
      refine u_callV1 (M' := mX12_kind) (d' := 1) (rc := (RX12, TX12, 58)) (As := [.int s2]) (st := [.int u2]) (q := 22) oX12_kind dX12_areOf_19 w1673 w1675 w0081 rfl rfl (gO_sp o5).1 (gO_sp o5).2 rfl (Nat.le_of_ble_eq_true rfl) (Nat.le_of_ble_eq_true rfl) (Nat.lt_of_lt_of_le (by decide) hd) rfl (sX12_kind (Nat.le_refl _) x6e) rfl ?_
      obtain ⟨x7, x7e, H⟩ := bs H
      refine u_callS1 (M' := mX12_has) (d' := 1) (As := [.int u2, .int x6]) (st := []) (q := 25) oX12_has dX12_areOf_22 w1846 w1847 rfl (Nat.le_of_ble_eq_true rfl) (Nat.le_of_ble_eq_true rfl) (Nat.lt_of_lt_of_le (by decide) hd) rfl (sX12_has (Nat.le_refl _) x7e) rfl ?_
      refine v_if_ne (q1 := 30) (q2 := 28) dX12_areOf_25 (by decide) rfl (fun c8 => ?_) (fun c8 => ?_)
      · have H := ine c8 H
        exact V.sub [0, 1, 2, 3] rfl (sjX12_areOf_30 hd H kI kE)
      · have H := ip c8 H
        exact V.sub [] rfl (kE (.inr ()) (Option.some.inj H).symm)
def fX12_areOf (h : Hp) (v0 : Nat) (v1 : Int32) (v2 : Int32) : Option (Int32) :=
(lp (bX12_areOf_2 v0 v1 v2 h) FU (0 : Int32)).bind fun e9 =>
(match e9 with
| .inl e10 => (
some (1 : Int32))
| .inr e11 => (
some (0 : Int32)))
set_option maxRecDepth 20000 in
set_option maxHeartbeats 4000000 in
theorem sX12_areOf {Γ : Gm} {d : Nat} (hd : 2 ≤ d) {h : Hp} {v0 : Nat} {v1 : Int32} {v2 : Int32} {r : Int32} (H : fX12_areOf h v0 v1 v2 = some r) : V Γ d mX12_areOf 0 [(0, .ref v0), (1, .int v1), (2, .int v2)] [] h (some (.int r), h) := by
  unfold fX12_areOf at H
  refine v_iconst (v := 0) (q := 1) dX12_areOf_0 (by decide) rfl ?_
  refine v_istore_n (L' := [(3, .int (0 : Int32)), (0, .ref v0), (1, .int v1), (2, .int v2)]) (q := 2) dX12_areOf_1 rfl (by decide) rfl rfl ?_
  obtain ⟨e9, e9L, H⟩ := bs H
  refine V.sub [1, 2, 3, 0] rfl ?_
  refine lp_V (P := (fun s2 => V Γ d mX12_areOf 2 [(0, .ref v0), (1, .int v1), (2, .int v2), (3, .int s2)] [] h (some (.int r), h))) (E := (fun e => (match e with | .inl a0 => V Γ d mX12_areOf 36 [] [] h (some (.int r), h) | .inr b0 => V Γ d mX12_areOf 28 [] [] h (some (.int r), h)))) (fun s r hb kI kE => sbX12_areOf_2 hd (s2 := s) (r := r) hb kI kE) FU (0 : Int32) e9 e9L ?_
  rcases e9 with e10 | e11
  · skip
    refine v_iconst (v := 1) (q := 37) dX12_areOf_36 (by decide) rfl ?_
    cases H
    exact v_zreturn rfl (by decide) dX12_areOf_37
  · skip
    refine v_iconst (v := 0) (q := 29) dX12_areOf_28 (by decide) rfl ?_
    cases H
    exact v_zreturn rfl (by decide) dX12_areOf_29
def mX12_back : MI := (yX12_back, cX12_back, 3, some .int)
theorem oX12_back : mOK mX12_back 1 := ⟨by decide +kernel, by decide +kernel, by decide +kernel, by decide, w2027, w0150⟩
def jX12_back_18 (h : Hp) : Option (Int32 × Hp) :=
some (((-1 : Int32), h))
set_option maxRecDepth 20000 in
set_option maxHeartbeats 4000000 in
theorem sjX12_back_18 {Γ : Gm} {d : Nat} (hd : 2 ≤ d) {h : Hp} {r : Int32 × Hp} (H : jX12_back_18 h = some r) : V Γ d mX12_back 18 [] [] h (some (.int r.1), r.2) := by
  unfold jX12_back_18 at H
  refine v_iconst (v := -1) (q := 19) dX12_back_18 (by decide) rfl ?_
  cases H
  exact v_ireturn rfl dX12_back_19
def bX12_back_22 (u0 : Nat) (u1 : Int32) (s22 : Int32 × Hp) : Option ((Int32 × Hp) ⊕ (Hp)) :=
if (9685 : Int32) ≤ s22.1 then (
some (.inr s22.2)) else (
(gR s22.2 12 u0 0).bind fun x7 =>
(gR s22.2 12 u0 54).bind fun x8 =>
(lI s22.2 .int x8 (((9685 : Int32) * u1) + s22.1)).bind fun x9 =>
(tI s22.2 x7 s22.1 x9).bind fun h10 =>
(some (s22.1 + (1 : Int32))).bind fun x11 =>
some (.inl (x11, h10)))
set_option maxRecDepth 20000 in
set_option maxHeartbeats 4000000 in
theorem sbX12_back_22 {Γ : Gm} {d : Nat} (hd : 2 ≤ d) {u0 : Nat} {u1 : Int32} {s22 : Int32 × Hp} {r : (Int32 × Hp) ⊕ (Hp)} {t : Option Value × Hp} (H : bX12_back_22 u0 u1 s22 = some r) (kI : ∀ s, r = .inl s → (fun s22 => V Γ d mX12_back 22 [(0, .ref u0), (1, .int u1), (2, .int s22.1)] [] s22.2 t) s) (kE : ∀ e, r = .inr e → (fun e => V Γ d mX12_back 53 [(0, .ref u0)] [] e t) e) : V Γ d mX12_back 22 [(0, .ref u0), (1, .int u1), (2, .int s22.1)] [] s22.2 t := by
  unfold bX12_back_22 at H
  refine v_iload_n (q := 23) 2 dX12_back_22 rfl rfl rfl ?_
  refine v_sipush (v := 9685) (q := 26) dX12_back_23 (by decide) rfl ?_
  refine v_icmp_ge (q1 := 53) (q2 := 29) dX12_back_26 (by decide) rfl (fun c6 => ?_) (fun c6 => ?_)
  · have H := ip c6 H
    exact V.sub [0] rfl (kE s22.2 (Option.some.inj H).symm)
  · have H := ine c6 H
    refine v_aload_n (q := 30) 0 dX12_back_29 rfl rfl rfl ?_
    obtain ⟨x7, x7e, H⟩ := bs H
    refine u_gR (q := 33) (r := (RX12, TX12, 58)) x7e dX12_back_30 w1356 rfl (by decide) rfl rfl ?_
    refine v_iload_n (q := 34) 2 dX12_back_33 rfl rfl rfl ?_
    refine v_aload_n (q := 35) 0 dX12_back_34 rfl rfl rfl ?_
    obtain ⟨x8, x8e, H⟩ := bs H
    refine u_gR (q := 38) (r := (RX12, TX12, 58)) x8e dX12_back_35 w1410 rfl (by decide) rfl rfl ?_
    refine v_sipush (v := 9685) (q := 41) dX12_back_38 (by decide) rfl ?_
    refine v_iload_n (q := 42) 1 dX12_back_41 rfl rfl rfl ?_
    refine v_imul (q := 43) dX12_back_42 rfl ?_
    refine v_iload_n (q := 44) 2 dX12_back_43 rfl rfl rfl ?_
    refine v_iadd (q := 45) dX12_back_44 rfl ?_
    obtain ⟨x9, x9e, H⟩ := bs H
    refine u_lI (q := 46) x9e dX12_back_45 rfl ?_
    obtain ⟨h10, h10e, H⟩ := bs H
    refine u_tI (q := 47) h10e dX12_back_46 rfl ?_
    obtain ⟨x11, x11e, H⟩ := bs H
    refine v_iinc (v := x11) (L' := [(2, .int x11), (0, .ref u0), (1, .int u1)]) (q := 50) 2 dX12_back_47 rfl (Option.some.inj x11e) (by decide) rfl rfl ?_
    refine v_goto (q := 22) dX12_back_50 (by decide) ?_
    exact V.sub [1, 2, 0] rfl (kI (x11, h10) (Option.some.inj H).symm)
def fX12_back (h : Hp) (v0 : Nat) (v1 : Int32) : Option (Int32 × Hp) :=
(fX12_isIn h v1 (0 : Int32) (1 : Int32)).bind fun x1 =>
if x1 = 0 then (
jX12_back_18 h) else (
(gR h 12 v0 55).bind fun x3 =>
(lI h .boolean x3 v1).bind fun x4 =>
if x4 = 0 then (
jX12_back_18 h) else (
(lp (bX12_back_22 v0 v1) FU ((0 : Int32), h)).bind fun e12 =>
(pI e12 12 v0 56 (0 : Int32)).bind fun h13 =>
(pI h13 12 v0 57 (0 : Int32)).bind fun h14 =>
(gR h14 12 v0 0).bind fun x15 =>
(lI h14 .int x15 (272 : Int32)).bind fun x16 =>
some (x16, h14)))
set_option maxRecDepth 20000 in
set_option maxHeartbeats 4000000 in
theorem sX12_back {Γ : Gm} {d : Nat} (hd : 2 ≤ d) {h : Hp} {v0 : Nat} {v1 : Int32} {r : Int32 × Hp} (H : fX12_back h v0 v1 = some r) : V Γ d mX12_back 0 [(0, .ref v0), (1, .int v1)] [] h (some (.int r.1), r.2) := by
  unfold fX12_back at H
  refine v_iload_n (q := 1) 1 dX12_back_0 rfl rfl rfl ?_
  refine v_iconst (v := 0) (q := 2) dX12_back_1 (by decide) rfl ?_
  refine v_iconst (v := 1) (q := 3) dX12_back_2 (by decide) rfl ?_
  obtain ⟨x1, x1e, H⟩ := bs H
  refine u_callS1 (M' := mX12_isIn) (d' := 1) (As := [.int v1, .int (0 : Int32), .int (1 : Int32)]) (st := []) (q := 6) oX12_isIn dX12_back_3 w1618 w1619 rfl (Nat.le_of_ble_eq_true rfl) (Nat.le_of_ble_eq_true rfl) (Nat.lt_of_lt_of_le (by decide) hd) rfl (sX12_isIn (Nat.le_refl _) x1e) rfl ?_
  refine v_if_eq (q1 := 18) (q2 := 9) dX12_back_6 (by decide) rfl (fun c2 => ?_) (fun c2 => ?_)
  · have H := ip c2 H
    exact V.sub [] rfl (sjX12_back_18 hd H)
  · have H := ine c2 H
    refine v_aload_n (q := 10) 0 dX12_back_9 rfl rfl rfl ?_
    obtain ⟨x3, x3e, H⟩ := bs H
    refine u_gR (q := 13) (r := (RX12, TX12, 58)) x3e dX12_back_10 w1411 rfl (by decide) rfl rfl ?_
    refine v_iload_n (q := 14) 1 dX12_back_13 rfl rfl rfl ?_
    obtain ⟨x4, x4e, H⟩ := bs H
    refine u_lZ (q := 15) x4e dX12_back_14 rfl ?_
    refine v_if_ne (q1 := 20) (q2 := 18) dX12_back_15 (by decide) rfl (fun c5 => ?_) (fun c5 => ?_)
    · have H := ine c5 H
      refine v_iconst (v := 0) (q := 21) dX12_back_20 (by decide) rfl ?_
      refine v_istore_n (L' := [(2, .int (0 : Int32)), (0, .ref v0), (1, .int v1)]) (q := 22) dX12_back_21 rfl (by decide) rfl rfl ?_
      obtain ⟨e12, e12L, H⟩ := bs H
      refine V.sub [1, 2, 0] rfl ?_
      refine lp_V (P := (fun s22 => V Γ d mX12_back 22 [(0, .ref v0), (1, .int v1), (2, .int s22.1)] [] s22.2 (some (.int r.1), r.2))) (E := (fun e => V Γ d mX12_back 53 [(0, .ref v0)] [] e (some (.int r.1), r.2))) (fun s r hb kI kE => sbX12_back_22 hd (s22 := s) (r := r) hb kI kE) FU ((0 : Int32), h) e12 e12L ?_
      refine v_aload_n (q := 54) 0 dX12_back_53 rfl rfl rfl ?_
      refine v_iconst (v := 0) (q := 55) dX12_back_54 (by decide) rfl ?_
      obtain ⟨h13, h13e, H⟩ := bs H
      refine u_pI (q := 58) (r := (RX12, TX12, 58)) h13e dX12_back_55 w1412 rfl (by decide) (Or.inl rfl) rfl rfl ?_
      refine v_aload_n (q := 59) 0 dX12_back_58 rfl rfl rfl ?_
      refine v_iconst (v := 0) (q := 60) dX12_back_59 (by decide) rfl ?_
      obtain ⟨h14, h14e, H⟩ := bs H
      refine u_pI (q := 63) (r := (RX12, TX12, 58)) h14e dX12_back_60 w1413 rfl (by decide) (Or.inl rfl) rfl rfl ?_
      refine v_aload_n (q := 64) 0 dX12_back_63 rfl rfl rfl ?_
      obtain ⟨x15, x15e, H⟩ := bs H
      refine u_gR (q := 67) (r := (RX12, TX12, 58)) x15e dX12_back_64 w1356 rfl (by decide) rfl rfl ?_
      refine v_sipush (v := 272) (q := 70) dX12_back_67 (by decide) rfl ?_
      obtain ⟨x16, x16e, H⟩ := bs H
      refine u_lI (q := 71) x16e dX12_back_70 rfl ?_
      cases H
      exact v_ireturn rfl dX12_back_71
    · have H := ip c5 H
      exact V.sub [] rfl (sjX12_back_18 hd H)
def mX12_isIn0 : MI := (yX12_isIn0, cX12_isIn0, 2, some .boolean)
theorem oX12_isIn0 : mOK mX12_isIn0 1 := ⟨by decide +kernel, by decide +kernel, by decide +kernel, by decide, w1860, w0150⟩
def fX12_isIn0 (h : Hp) (v0 : Nat) (v1 : Int32) : Option (Int32) :=
(gI h 12 v0 40).bind fun x1 =>
(fX12_has h x1 v1).bind fun x2 =>
(bz x2).bind fun x3 =>
some x3
set_option maxRecDepth 20000 in
set_option maxHeartbeats 4000000 in
theorem sX12_isIn0 {Γ : Gm} {d : Nat} (hd : 2 ≤ d) {h : Hp} {v0 : Nat} {v1 : Int32} {r : Int32} (H : fX12_isIn0 h v0 v1 = some r) : V Γ d mX12_isIn0 0 [(0, .ref v0), (1, .int v1)] [] h (some (.int r), h) := by
  unfold fX12_isIn0 at H
  refine v_aload_n (q := 1) 0 dX12_isIn0_0 rfl rfl rfl ?_
  obtain ⟨x1, x1e, H⟩ := bs H
  refine u_gI (q := 4) (r := (RX12, TX12, 58)) x1e dX12_isIn0_1 w1396 rfl (by decide) rfl rfl ?_
  refine v_iload_n (q := 5) 1 dX12_isIn0_4 rfl rfl rfl ?_
  obtain ⟨x2, x2e, H⟩ := bs H
  refine u_callS1 (M' := mX12_has) (d' := 1) (As := [.int x1, .int v1]) (st := []) (q := 8) oX12_has dX12_isIn0_5 w1846 w1847 rfl (Nat.le_of_ble_eq_true rfl) (Nat.le_of_ble_eq_true rfl) (Nat.lt_of_lt_of_le (by decide) hd) rfl (sX12_has (Nat.le_refl _) x2e) rfl ?_
  obtain ⟨x3, x3e, H⟩ := bs H
  obtain ⟨x3q, x3z⟩ := bz_sp x3e
  refine v_topi x3q.symm ?_
  cases H
  exact v_zreturn rfl (by rw [x3q]; exact x3z) dX12_isIn0_8
def mX12_beginMoments : MI := (yX12_beginMoments, cX12_beginMoments, 4, none)
theorem oX12_beginMoments : mOK mX12_beginMoments 1 := ⟨by decide +kernel, by decide +kernel, by decide +kernel, by decide, w1856, w0150⟩
def bX12_beginMoments_17 (u0 : Nat) (s17 : Int32 × Hp) : Option ((Int32 × Hp) ⊕ (Hp)) :=
if (16384 : Int32) ≤ s17.1 then (
some (.inr s17.2)) else (
(gR s17.2 12 u0 45).bind fun x5 =>
(tI s17.2 x5 s17.1 (-1 : Int32)).bind fun h6 =>
(some (s17.1 + (1 : Int32))).bind fun x7 =>
some (.inl (x7, h6)))
set_option maxRecDepth 20000 in
set_option maxHeartbeats 4000000 in
theorem sbX12_beginMoments_17 {Γ : Gm} {d : Nat} (hd : 3 ≤ d) {u0 : Nat} {s17 : Int32 × Hp} {r : (Int32 × Hp) ⊕ (Hp)} {t : Option Value × Hp} (H : bX12_beginMoments_17 u0 s17 = some r) (kI : ∀ s, r = .inl s → (fun s17 => V Γ d mX12_beginMoments 17 [(0, .ref u0), (2, .int s17.1)] [] s17.2 t) s) (kE : ∀ e, r = .inr e → (fun e => V Γ d mX12_beginMoments 37 [(0, .ref u0)] [] e t) e) : V Γ d mX12_beginMoments 17 [(0, .ref u0), (2, .int s17.1)] [] s17.2 t := by
  unfold bX12_beginMoments_17 at H
  refine v_iload_n (q := 18) 1 dX12_beginMoments_17 rfl rfl rfl ?_
  refine v_sipush (v := 16384) (q := 21) dX12_beginMoments_18 (by decide) rfl ?_
  refine v_icmp_ge (q1 := 37) (q2 := 24) dX12_beginMoments_21 (by decide) rfl (fun c4 => ?_) (fun c4 => ?_)
  · have H := ip c4 H
    exact V.sub [0] rfl (kE s17.2 (Option.some.inj H).symm)
  · have H := ine c4 H
    refine v_aload_n (q := 25) 0 dX12_beginMoments_24 rfl rfl rfl ?_
    obtain ⟨x5, x5e, H⟩ := bs H
    refine u_gR (q := 28) (r := (RX12, TX12, 58)) x5e dX12_beginMoments_25 w1401 rfl (by decide) rfl rfl ?_
    refine v_iload_n (q := 29) 1 dX12_beginMoments_28 rfl rfl rfl ?_
    refine v_iconst (v := -1) (q := 30) dX12_beginMoments_29 (by decide) rfl ?_
    obtain ⟨h6, h6e, H⟩ := bs H
    refine u_tI (q := 31) h6e dX12_beginMoments_30 rfl ?_
    obtain ⟨x7, x7e, H⟩ := bs H
    refine v_iinc (v := x7) (L' := [(2, .int x7), (0, .ref u0)]) (q := 34) 1 dX12_beginMoments_31 rfl (Option.some.inj x7e) (by decide) rfl rfl ?_
    refine v_goto (q := 17) dX12_beginMoments_34 (by decide) ?_
    exact V.sub [1, 0] rfl (kI (x7, h6) (Option.some.inj H).symm)
def jX12_beginMoments_96 (u0 : Nat) (v2 : Int32) (y0 : Int32) (y1 : Int32) (y2 : Nat) (h : Hp) : Option ((Int32 × Hp) ⊕ (Hp)) :=
(tI h y2 y1 y0).bind fun h18 =>
(some (v2 + (1 : Int32))).bind fun x19 =>
some (.inl (x19, h18))
set_option maxRecDepth 20000 in
set_option maxHeartbeats 4000000 in
theorem sjX12_beginMoments_96 {Γ : Gm} {d : Nat} (hd : 3 ≤ d) {u0 : Nat} {v2 : Int32} {y0 : Int32} {y1 : Int32} {y2 : Nat} {h : Hp} {r : (Int32 × Hp) ⊕ (Hp)} {t : Option Value × Hp} (H : jX12_beginMoments_96 u0 v2 y0 y1 y2 h = some r) (kI : ∀ s, r = .inl s → (fun s39 => V Γ d mX12_beginMoments 39 [(0, .ref u0), (2, .int s39.1)] [] s39.2 t) s) (kE : ∀ e, r = .inr e → (fun e => V Γ d mX12_beginMoments 103 [(0, .ref u0)] [] e t) e) : V Γ d mX12_beginMoments 96 [(0, .ref u0), (2, .int v2)] [.int y0, .int y1, .ref y2] h t := by
  unfold jX12_beginMoments_96 at H
  obtain ⟨h18, h18e, H⟩ := bs H
  refine u_tI (q := 97) h18e dX12_beginMoments_96 rfl ?_
  obtain ⟨x19, x19e, H⟩ := bs H
  refine v_iinc (v := x19) (L' := [(2, .int x19), (0, .ref u0)]) (q := 100) 1 dX12_beginMoments_97 rfl (Option.some.inj x19e) (by decide) rfl rfl ?_
  refine v_goto (q := 39) dX12_beginMoments_100 (by decide) ?_
  exact V.sub [1, 0] rfl (kI (x19, h18) (Option.some.inj H).symm)
def jX12_beginMoments_81 (u0 : Nat) (v2 : Int32) (v3 : Int32) (y0 : Int32) (y1 : Int32) (y2 : Nat) (h : Hp) : Option ((Int32 × Hp) ⊕ (Hp)) :=
(tI h y2 y1 y0).bind fun h15 =>
(gR h15 12 u0 37).bind fun x16 =>
if v3 = 0 then (
jX12_beginMoments_96 u0 v2 (-1 : Int32) v2 x16 h15) else (
jX12_beginMoments_96 u0 v2 v2 v2 x16 h15)
set_option maxRecDepth 20000 in
set_option maxHeartbeats 4000000 in
theorem sjX12_beginMoments_81 {Γ : Gm} {d : Nat} (hd : 3 ≤ d) {u0 : Nat} {v2 : Int32} {v3 : Int32} {y0 : Int32} {y1 : Int32} {y2 : Nat} {h : Hp} {r : (Int32 × Hp) ⊕ (Hp)} {t : Option Value × Hp} (H : jX12_beginMoments_81 u0 v2 v3 y0 y1 y2 h = some r) (kI : ∀ s, r = .inl s → (fun s39 => V Γ d mX12_beginMoments 39 [(0, .ref u0), (2, .int s39.1)] [] s39.2 t) s) (kE : ∀ e, r = .inr e → (fun e => V Γ d mX12_beginMoments 103 [(0, .ref u0)] [] e t) e) : V Γ d mX12_beginMoments 81 [(0, .ref u0), (2, .int v2), (3, .int v3)] [.int y0, .int y1, .ref y2] h t := by
  unfold jX12_beginMoments_81 at H
  obtain ⟨h15, h15e, H⟩ := bs H
  refine u_tI (q := 82) h15e dX12_beginMoments_81 rfl ?_
  refine v_aload_n (q := 83) 0 dX12_beginMoments_82 rfl rfl rfl ?_
  obtain ⟨x16, x16e, H⟩ := bs H
  refine u_gR (q := 86) (r := (RX12, TX12, 58)) x16e dX12_beginMoments_83 w1393 rfl (by decide) rfl rfl ?_
  refine v_iload_n (q := 87) 1 dX12_beginMoments_86 rfl rfl rfl ?_
  refine v_iload_n (q := 88) 2 dX12_beginMoments_87 rfl rfl rfl ?_
  refine v_if_eq (q1 := 95) (q2 := 91) dX12_beginMoments_88 (by decide) rfl (fun c17 => ?_) (fun c17 => ?_)
  · have H := ip c17 H
    refine v_iconst (v := -1) (q := 96) dX12_beginMoments_95 (by decide) rfl ?_
    exact V.sub [0, 1] rfl (sjX12_beginMoments_96 hd H kI kE)
  · have H := ine c17 H
    refine v_iload_n (q := 92) 1 dX12_beginMoments_91 rfl rfl rfl ?_
    refine v_goto (q := 96) dX12_beginMoments_92 (by decide) ?_
    exact V.sub [0, 1] rfl (sjX12_beginMoments_96 hd H kI kE)
def jX12_beginMoments_66 (u0 : Nat) (v2 : Int32) (y0 : Int32) (h : Hp) : Option ((Int32 × Hp) ⊕ (Hp)) :=
(gR h 12 u0 36).bind fun x13 =>
if y0 = 0 then (
jX12_beginMoments_81 u0 v2 y0 (-1 : Int32) v2 x13 h) else (
jX12_beginMoments_81 u0 v2 y0 (0 : Int32) v2 x13 h)
set_option maxRecDepth 20000 in
set_option maxHeartbeats 4000000 in
theorem sjX12_beginMoments_66 {Γ : Gm} {d : Nat} (hd : 3 ≤ d) {u0 : Nat} {v2 : Int32} {y0 : Int32} {h : Hp} {r : (Int32 × Hp) ⊕ (Hp)} {t : Option Value × Hp} (H : jX12_beginMoments_66 u0 v2 y0 h = some r) (kI : ∀ s, r = .inl s → (fun s39 => V Γ d mX12_beginMoments 39 [(0, .ref u0), (2, .int s39.1)] [] s39.2 t) s) (kE : ∀ e, r = .inr e → (fun e => V Γ d mX12_beginMoments 103 [(0, .ref u0)] [] e t) e) : V Γ d mX12_beginMoments 66 [(0, .ref u0), (2, .int v2)] [.int y0] h t := by
  unfold jX12_beginMoments_66 at H
  refine v_istore_n (L' := [(3, .int y0), (0, .ref u0), (2, .int v2)]) (q := 67) dX12_beginMoments_66 rfl (by decide) rfl rfl ?_
  refine v_aload_n (q := 68) 1 dX12_beginMoments_67 rfl rfl rfl ?_
  obtain ⟨x13, x13e, H⟩ := bs H
  refine u_gR (q := 71) (r := (RX12, TX12, 58)) x13e dX12_beginMoments_68 w1392 rfl (by decide) rfl rfl ?_
  refine v_iload_n (q := 72) 2 dX12_beginMoments_71 rfl rfl rfl ?_
  refine v_iload_n (q := 73) 0 dX12_beginMoments_72 rfl rfl rfl ?_
  refine v_if_eq (q1 := 80) (q2 := 76) dX12_beginMoments_73 (by decide) rfl (fun c14 => ?_) (fun c14 => ?_)
  · have H := ip c14 H
    refine v_iconst (v := -1) (q := 81) dX12_beginMoments_80 (by decide) rfl ?_
    exact V.sub [1, 2, 0] rfl (sjX12_beginMoments_81 hd H kI kE)
  · have H := ine c14 H
    refine v_iconst (v := 0) (q := 77) dX12_beginMoments_76 (by decide) rfl ?_
    refine v_goto (q := 81) dX12_beginMoments_77 (by decide) ?_
    exact V.sub [1, 2, 0] rfl (sjX12_beginMoments_81 hd H kI kE)
def jX12_beginMoments_65 (u0 : Nat) (v2 : Int32) (h : Hp) : Option ((Int32 × Hp) ⊕ (Hp)) :=
jX12_beginMoments_66 u0 v2 (0 : Int32) h
set_option maxRecDepth 20000 in
set_option maxHeartbeats 4000000 in
theorem sjX12_beginMoments_65 {Γ : Gm} {d : Nat} (hd : 3 ≤ d) {u0 : Nat} {v2 : Int32} {h : Hp} {r : (Int32 × Hp) ⊕ (Hp)} {t : Option Value × Hp} (H : jX12_beginMoments_65 u0 v2 h = some r) (kI : ∀ s, r = .inl s → (fun s39 => V Γ d mX12_beginMoments 39 [(0, .ref u0), (2, .int s39.1)] [] s39.2 t) s) (kE : ∀ e, r = .inr e → (fun e => V Γ d mX12_beginMoments 103 [(0, .ref u0)] [] e t) e) : V Γ d mX12_beginMoments 65 [(0, .ref u0), (2, .int v2)] [] h t := by
  unfold jX12_beginMoments_65 at H
  refine v_iconst (v := 0) (q := 66) dX12_beginMoments_65 (by decide) rfl ?_
  exact V.sub [0, 1] rfl (sjX12_beginMoments_66 hd H kI kE)
def bX12_beginMoments_39 (u0 : Nat) (s39 : Int32 × Hp) : Option ((Int32 × Hp) ⊕ (Hp)) :=
if (6 : Int32) ≤ s39.1 then (
some (.inr s39.2)) else (
(gO s39.2 12 u0).bind fun _ =>
(fX12_isIn0 s39.2 u0 s39.1).bind fun x11 =>
if x11 = 0 then (
jX12_beginMoments_65 u0 s39.1 s39.2) else (
(gO s39.2 12 u0).bind fun _ =>
(fX12_sortOf s39.2 u0 s39.1).bind fun x21 =>
if x21 = 0 then (
jX12_beginMoments_66 u0 s39.1 (1 : Int32) s39.2) else (
jX12_beginMoments_65 u0 s39.1 s39.2)))
set_option maxRecDepth 20000 in
set_option maxHeartbeats 4000000 in
theorem sbX12_beginMoments_39 {Γ : Gm} {d : Nat} (hd : 3 ≤ d) {u0 : Nat} {s39 : Int32 × Hp} {r : (Int32 × Hp) ⊕ (Hp)} {t : Option Value × Hp} (H : bX12_beginMoments_39 u0 s39 = some r) (kI : ∀ s, r = .inl s → (fun s39 => V Γ d mX12_beginMoments 39 [(0, .ref u0), (2, .int s39.1)] [] s39.2 t) s) (kE : ∀ e, r = .inr e → (fun e => V Γ d mX12_beginMoments 103 [(0, .ref u0)] [] e t) e) : V Γ d mX12_beginMoments 39 [(0, .ref u0), (2, .int s39.1)] [] s39.2 t := by
  unfold bX12_beginMoments_39 at H
  refine v_iload_n (q := 40) 1 dX12_beginMoments_39 rfl rfl rfl ?_
  refine v_bipush (v := 6) (q := 42) dX12_beginMoments_40 (by decide) rfl ?_
  refine v_icmp_ge (q1 := 103) (q2 := 45) dX12_beginMoments_42 (by decide) rfl (fun c9 => ?_) (fun c9 => ?_)
  · have H := ip c9 H
    exact V.sub [0] rfl (kE s39.2 (Option.some.inj H).symm)
  · have H := ine c9 H
    refine v_aload_n (q := 46) 0 dX12_beginMoments_45 rfl rfl rfl ?_
    refine v_iload_n (q := 47) 1 dX12_beginMoments_46 rfl rfl rfl ?_
    obtain ⟨_, o10, H⟩ := bs H
    obtain ⟨x11, x11e, H⟩ := bs H
    refine u_callV1 (M' := mX12_isIn0) (d' := 2) (rc := (RX12, TX12, 58)) (As := [.int s39.1]) (st := []) (q := 50) oX12_isIn0 dX12_beginMoments_47 w1857 w1859 w0109 rfl rfl (gO_sp o10).1 (gO_sp o10).2 rfl (Nat.le_of_ble_eq_true rfl) (Nat.le_of_ble_eq_true rfl) (Nat.lt_of_lt_of_le (by decide) hd) rfl (sX12_isIn0 (Nat.le_refl _) x11e) rfl ?_
    refine v_if_eq (q1 := 65) (q2 := 53) dX12_beginMoments_50 (by decide) rfl (fun c12 => ?_) (fun c12 => ?_)
    · have H := ip c12 H
      exact V.sub [0, 1] rfl (sjX12_beginMoments_65 hd H kI kE)
    · have H := ine c12 H
      refine v_aload_n (q := 54) 0 dX12_beginMoments_53 rfl rfl rfl ?_
      refine v_iload_n (q := 55) 1 dX12_beginMoments_54 rfl rfl rfl ?_
      obtain ⟨_, o20, H⟩ := bs H
      obtain ⟨x21, x21e, H⟩ := bs H
      refine u_callV1 (M' := mX12_sortOf) (d' := 1) (rc := (RX12, TX12, 58)) (As := [.int s39.1]) (st := []) (q := 58) oX12_sortOf dX12_beginMoments_55 w1718 w1720 w0092 rfl rfl (gO_sp o20).1 (gO_sp o20).2 rfl (Nat.le_of_ble_eq_true rfl) (Nat.le_of_ble_eq_true rfl) (Nat.lt_of_lt_of_le (by decide) hd) rfl (sX12_sortOf (Nat.le_refl _) x21e) rfl ?_
      refine v_if_ne (q1 := 65) (q2 := 61) dX12_beginMoments_58 (by decide) rfl (fun c22 => ?_) (fun c22 => ?_)
      · have H := ine c22 H
        exact V.sub [0, 1] rfl (sjX12_beginMoments_65 hd H kI kE)
      · have H := ip c22 H
        refine v_iconst (v := 1) (q := 62) dX12_beginMoments_61 (by decide) rfl ?_
        refine v_goto (q := 66) dX12_beginMoments_62 (by decide) ?_
        exact V.sub [0, 1] rfl (sjX12_beginMoments_66 hd H kI kE)
def bX12_beginMoments_105 (u0 : Nat) (s105 : Int32 × Hp) : Option ((Int32 × Hp) ⊕ (Hp)) :=
if (10 : Int32) ≤ s105.1 then (
some (.inr s105.2)) else (
(gR s105.2 12 u0 38).bind fun x25 =>
(tI s105.2 x25 s105.1 (-1 : Int32)).bind fun h26 =>
(gR h26 12 u0 39).bind fun x27 =>
(tI h26 x27 s105.1 (0 : Int32)).bind fun h28 =>
(some (s105.1 + (1 : Int32))).bind fun x29 =>
some (.inl (x29, h28)))
set_option maxRecDepth 20000 in
set_option maxHeartbeats 4000000 in
theorem sbX12_beginMoments_105 {Γ : Gm} {d : Nat} (hd : 3 ≤ d) {u0 : Nat} {s105 : Int32 × Hp} {r : (Int32 × Hp) ⊕ (Hp)} {t : Option Value × Hp} (H : bX12_beginMoments_105 u0 s105 = some r) (kI : ∀ s, r = .inl s → (fun s105 => V Γ d mX12_beginMoments 105 [(0, .ref u0), (2, .int s105.1)] [] s105.2 t) s) (kE : ∀ e, r = .inr e → (fun e => V Γ d mX12_beginMoments 131 [] [] e t) e) : V Γ d mX12_beginMoments 105 [(0, .ref u0), (2, .int s105.1)] [] s105.2 t := by
  unfold bX12_beginMoments_105 at H
  refine v_iload_n (q := 106) 1 dX12_beginMoments_105 rfl rfl rfl ?_
  refine v_bipush (v := 10) (q := 108) dX12_beginMoments_106 (by decide) rfl ?_
  refine v_icmp_ge (q1 := 131) (q2 := 111) dX12_beginMoments_108 (by decide) rfl (fun c24 => ?_) (fun c24 => ?_)
  · have H := ip c24 H
    exact V.sub [] rfl (kE s105.2 (Option.some.inj H).symm)
  · have H := ine c24 H
    refine v_aload_n (q := 112) 0 dX12_beginMoments_111 rfl rfl rfl ?_
    obtain ⟨x25, x25e, H⟩ := bs H
    refine u_gR (q := 115) (r := (RX12, TX12, 58)) x25e dX12_beginMoments_112 w1394 rfl (by decide) rfl rfl ?_
    refine v_iload_n (q := 116) 1 dX12_beginMoments_115 rfl rfl rfl ?_
    refine v_iconst (v := -1) (q := 117) dX12_beginMoments_116 (by decide) rfl ?_
    obtain ⟨h26, h26e, H⟩ := bs H
    refine u_tI (q := 118) h26e dX12_beginMoments_117 rfl ?_
    refine v_aload_n (q := 119) 0 dX12_beginMoments_118 rfl rfl rfl ?_
    obtain ⟨x27, x27e, H⟩ := bs H
    refine u_gR (q := 122) (r := (RX12, TX12, 58)) x27e dX12_beginMoments_119 w1395 rfl (by decide) rfl rfl ?_
    refine v_iload_n (q := 123) 1 dX12_beginMoments_122 rfl rfl rfl ?_
    refine v_iconst (v := 0) (q := 124) dX12_beginMoments_123 (by decide) rfl ?_
    obtain ⟨h28, h28e, H⟩ := bs H
    refine u_tI (q := 125) h28e dX12_beginMoments_124 rfl ?_
    obtain ⟨x29, x29e, H⟩ := bs H
    refine v_iinc (v := x29) (L' := [(2, .int x29), (0, .ref u0)]) (q := 128) 1 dX12_beginMoments_125 rfl (Option.some.inj x29e) (by decide) rfl rfl ?_
    refine v_goto (q := 105) dX12_beginMoments_128 (by decide) ?_
    exact V.sub [1, 0] rfl (kI (x29, h28) (Option.some.inj H).symm)
def fX12_beginMoments (h : Hp) (v0 : Nat) (v1 : Int32) : Option (Hp) :=
(pI h 12 v0 40 v1).bind fun h1 =>
(pI h1 12 v0 46 (0 : Int32)).bind fun h2 =>
(pI h2 12 v0 47 (-1 : Int32)).bind fun h3 =>
(lp (bX12_beginMoments_17 v0) FU ((0 : Int32), h3)).bind fun e8 =>
(lp (bX12_beginMoments_39 v0) FU ((0 : Int32), e8)).bind fun e23 =>
(lp (bX12_beginMoments_105 v0) FU ((0 : Int32), e23)).bind fun e30 =>
some e30
set_option maxRecDepth 20000 in
set_option maxHeartbeats 4000000 in
theorem sX12_beginMoments {Γ : Gm} {d : Nat} (hd : 3 ≤ d) {h : Hp} {v0 : Nat} {v1 : Int32} {r : Hp} (H : fX12_beginMoments h v0 v1 = some r) : V Γ d mX12_beginMoments 0 [(0, .ref v0), (1, .int v1)] [] h (none, r) := by
  unfold fX12_beginMoments at H
  refine v_aload_n (q := 1) 0 dX12_beginMoments_0 rfl rfl rfl ?_
  refine v_iload_n (q := 2) 1 dX12_beginMoments_1 rfl rfl rfl ?_
  obtain ⟨h1, h1e, H⟩ := bs H
  refine u_pI (q := 5) (r := (RX12, TX12, 58)) h1e dX12_beginMoments_2 w1396 rfl (by decide) (Or.inl rfl) rfl rfl ?_
  refine v_aload_n (q := 6) 0 dX12_beginMoments_5 rfl rfl rfl ?_
  refine v_iconst (v := 0) (q := 7) dX12_beginMoments_6 (by decide) rfl ?_
  obtain ⟨h2, h2e, H⟩ := bs H
  refine u_pI (q := 10) (r := (RX12, TX12, 58)) h2e dX12_beginMoments_7 w1402 rfl (by decide) (Or.inl rfl) rfl rfl ?_
  refine v_aload_n (q := 11) 0 dX12_beginMoments_10 rfl rfl rfl ?_
  refine v_iconst (v := -1) (q := 12) dX12_beginMoments_11 (by decide) rfl ?_
  obtain ⟨h3, h3e, H⟩ := bs H
  refine u_pI (q := 15) (r := (RX12, TX12, 58)) h3e dX12_beginMoments_12 w1403 rfl (by decide) (Or.inl rfl) rfl rfl ?_
  refine v_iconst (v := 0) (q := 16) dX12_beginMoments_15 (by decide) rfl ?_
  refine v_istore_n (L' := [(2, .int (0 : Int32)), (0, .ref v0), (1, .int v1)]) (q := 17) dX12_beginMoments_16 rfl (by decide) rfl rfl ?_
  obtain ⟨e8, e8L, H⟩ := bs H
  refine V.sub [1, 0] rfl ?_
  refine lp_V (P := (fun s17 => V Γ d mX12_beginMoments 17 [(0, .ref v0), (2, .int s17.1)] [] s17.2 (none, r))) (E := (fun e => V Γ d mX12_beginMoments 37 [(0, .ref v0)] [] e (none, r))) (fun s r hb kI kE => sbX12_beginMoments_17 hd (s17 := s) (r := r) hb kI kE) FU ((0 : Int32), h3) e8 e8L ?_
  refine v_iconst (v := 0) (q := 38) dX12_beginMoments_37 (by decide) rfl ?_
  refine v_istore_n (L' := [(2, .int (0 : Int32)), (0, .ref v0)]) (q := 39) dX12_beginMoments_38 rfl (by decide) rfl rfl ?_
  obtain ⟨e23, e23L, H⟩ := bs H
  refine V.sub [1, 0] rfl ?_
  refine lp_V (P := (fun s39 => V Γ d mX12_beginMoments 39 [(0, .ref v0), (2, .int s39.1)] [] s39.2 (none, r))) (E := (fun e => V Γ d mX12_beginMoments 103 [(0, .ref v0)] [] e (none, r))) (fun s r hb kI kE => sbX12_beginMoments_39 hd (s39 := s) (r := r) hb kI kE) FU ((0 : Int32), e8) e23 e23L ?_
  refine v_iconst (v := 0) (q := 104) dX12_beginMoments_103 (by decide) rfl ?_
  refine v_istore_n (L' := [(2, .int (0 : Int32)), (0, .ref v0)]) (q := 105) dX12_beginMoments_104 rfl (by decide) rfl rfl ?_
  obtain ⟨e30, e30L, H⟩ := bs H
  refine V.sub [1, 0] rfl ?_
  refine lp_V (P := (fun s105 => V Γ d mX12_beginMoments 105 [(0, .ref v0), (2, .int s105.1)] [] s105.2 (none, r))) (E := (fun e => V Γ d mX12_beginMoments 131 [] [] e (none, r))) (fun s r hb kI kE => sbX12_beginMoments_105 hd (s105 := s) (r := r) hb kI kE) FU ((0 : Int32), e23) e30 e30L ?_
  cases H
  exact v_return rfl dX12_beginMoments_131
def mX12_swapAt : MI := (yX12_swapAt, cX12_swapAt, 3, none)
theorem oX12_swapAt : mOK mX12_swapAt 1 := ⟨by decide +kernel, by decide +kernel, by decide +kernel, by decide, w1757, w0150⟩
def fX12_swapAt (h : Hp) (v0 : Nat) (v1 : Int32) : Option (Hp) :=
(gR h 12 v0 0).bind fun x1 =>
(lI h .int x1 v1).bind fun x2 =>
(gR h 12 v0 0).bind fun x3 =>
(gR h 12 v0 0).bind fun x4 =>
(lI h .int x4 (v1 + (1 : Int32))).bind fun x5 =>
(tI h x3 v1 x5).bind fun h6 =>
(gR h6 12 v0 0).bind fun x7 =>
(tI h6 x7 (v1 + (1 : Int32)) x2).bind fun h8 =>
some h8
set_option maxRecDepth 20000 in
set_option maxHeartbeats 4000000 in
theorem sX12_swapAt {Γ : Gm} {d : Nat} (hd : 1 ≤ d) {h : Hp} {v0 : Nat} {v1 : Int32} {r : Hp} (H : fX12_swapAt h v0 v1 = some r) : V Γ d mX12_swapAt 0 [(0, .ref v0), (1, .int v1)] [] h (none, r) := by
  unfold fX12_swapAt at H
  refine v_aload_n (q := 1) 0 dX12_swapAt_0 rfl rfl rfl ?_
  obtain ⟨x1, x1e, H⟩ := bs H
  refine u_gR (q := 4) (r := (RX12, TX12, 58)) x1e dX12_swapAt_1 w1356 rfl (by decide) rfl rfl ?_
  refine v_iload_n (q := 5) 1 dX12_swapAt_4 rfl rfl rfl ?_
  obtain ⟨x2, x2e, H⟩ := bs H
  refine u_lI (q := 6) x2e dX12_swapAt_5 rfl ?_
  refine v_istore_n (L' := [(2, .int x2), (0, .ref v0), (1, .int v1)]) (q := 7) dX12_swapAt_6 rfl (by decide) rfl rfl ?_
  refine v_aload_n (q := 8) 1 dX12_swapAt_7 rfl rfl rfl ?_
  obtain ⟨x3, x3e, H⟩ := bs H
  refine u_gR (q := 11) (r := (RX12, TX12, 58)) x3e dX12_swapAt_8 w1356 rfl (by decide) rfl rfl ?_
  refine v_iload_n (q := 12) 2 dX12_swapAt_11 rfl rfl rfl ?_
  refine v_aload_n (q := 13) 1 dX12_swapAt_12 rfl rfl rfl ?_
  obtain ⟨x4, x4e, H⟩ := bs H
  refine u_gR (q := 16) (r := (RX12, TX12, 58)) x4e dX12_swapAt_13 w1356 rfl (by decide) rfl rfl ?_
  refine v_iload_n (q := 17) 2 dX12_swapAt_16 rfl rfl rfl ?_
  refine v_iconst (v := 1) (q := 18) dX12_swapAt_17 (by decide) rfl ?_
  refine v_iadd (q := 19) dX12_swapAt_18 rfl ?_
  obtain ⟨x5, x5e, H⟩ := bs H
  refine u_lI (q := 20) x5e dX12_swapAt_19 rfl ?_
  obtain ⟨h6, h6e, H⟩ := bs H
  refine u_tI (q := 21) h6e dX12_swapAt_20 rfl ?_
  refine v_aload_n (q := 22) 1 dX12_swapAt_21 rfl rfl rfl ?_
  obtain ⟨x7, x7e, H⟩ := bs H
  refine u_gR (q := 25) (r := (RX12, TX12, 58)) x7e dX12_swapAt_22 w1356 rfl (by decide) rfl rfl ?_
  refine v_iload_n (q := 26) 2 dX12_swapAt_25 rfl rfl rfl ?_
  refine v_iconst (v := 1) (q := 27) dX12_swapAt_26 (by decide) rfl ?_
  refine v_iadd (q := 28) dX12_swapAt_27 rfl ?_
  refine v_iload_n (q := 29) 0 dX12_swapAt_28 rfl rfl rfl ?_
  obtain ⟨h8, h8e, H⟩ := bs H
  refine u_tI (q := 30) h8e dX12_swapAt_29 rfl ?_
  cases H
  exact v_return rfl dX12_swapAt_30
def mX12_swapSteps : MI := (yX12_swapSteps, cX12_swapSteps, 3, none)
theorem oX12_swapSteps : mOK mX12_swapSteps 2 := ⟨by decide +kernel, by decide +kernel, by decide +kernel, by decide, w1753, w0150⟩
def fX12_swapSteps (h : Hp) (v0 : Nat) (v1 : Int32) (v2 : Int32) : Option (Hp) :=
(gO h 12 v0).bind fun _ =>
(fX12_swapAt h v0 (((1541 : Int32) + ((12 : Int32) * v1)) + v2)).bind fun x2 =>
(gO x2 12 v0).bind fun _ =>
(fX12_swapAt x2 v0 (((1613 : Int32) + ((12 : Int32) * v1)) + v2)).bind fun x4 =>
some x4
set_option maxRecDepth 20000 in
set_option maxHeartbeats 4000000 in
theorem sX12_swapSteps {Γ : Gm} {d : Nat} (hd : 2 ≤ d) {h : Hp} {v0 : Nat} {v1 : Int32} {v2 : Int32} {r : Hp} (H : fX12_swapSteps h v0 v1 v2 = some r) : V Γ d mX12_swapSteps 0 [(0, .ref v0), (1, .int v1), (2, .int v2)] [] h (none, r) := by
  unfold fX12_swapSteps at H
  refine v_aload_n (q := 1) 0 dX12_swapSteps_0 rfl rfl rfl ?_
  refine v_sipush (v := 1541) (q := 4) dX12_swapSteps_1 (by decide) rfl ?_
  refine v_bipush (v := 12) (q := 6) dX12_swapSteps_4 (by decide) rfl ?_
  refine v_iload_n (q := 7) 1 dX12_swapSteps_6 rfl rfl rfl ?_
  refine v_imul (q := 8) dX12_swapSteps_7 rfl ?_
  refine v_iadd (q := 9) dX12_swapSteps_8 rfl ?_
  refine v_iload_n (q := 10) 2 dX12_swapSteps_9 rfl rfl rfl ?_
  refine v_iadd (q := 11) dX12_swapSteps_10 rfl ?_
  obtain ⟨_, o1, H⟩ := bs H
  obtain ⟨x2, x2e, H⟩ := bs H
  refine u_callV0 (M' := mX12_swapAt) (d' := 1) (rc := (RX12, TX12, 58)) (As := [.int (((1541 : Int32) + ((12 : Int32) * v1)) + v2)]) (st := []) (q := 14) oX12_swapAt dX12_swapSteps_11 w1754 w1756 w0099 rfl rfl (gO_sp o1).1 (gO_sp o1).2 rfl (Nat.le_of_ble_eq_true rfl) (Nat.le_of_ble_eq_true rfl) (Nat.lt_of_lt_of_le (by decide) hd) rfl (sX12_swapAt (Nat.le_refl _) x2e) rfl ?_
  refine v_aload_n (q := 15) 0 dX12_swapSteps_14 rfl rfl rfl ?_
  refine v_sipush (v := 1613) (q := 18) dX12_swapSteps_15 (by decide) rfl ?_
  refine v_bipush (v := 12) (q := 20) dX12_swapSteps_18 (by decide) rfl ?_
  refine v_iload_n (q := 21) 1 dX12_swapSteps_20 rfl rfl rfl ?_
  refine v_imul (q := 22) dX12_swapSteps_21 rfl ?_
  refine v_iadd (q := 23) dX12_swapSteps_22 rfl ?_
  refine v_iload_n (q := 24) 2 dX12_swapSteps_23 rfl rfl rfl ?_
  refine v_iadd (q := 25) dX12_swapSteps_24 rfl ?_
  obtain ⟨_, o3, H⟩ := bs H
  obtain ⟨x4, x4e, H⟩ := bs H
  refine u_callV0 (M' := mX12_swapAt) (d' := 1) (rc := (RX12, TX12, 58)) (As := [.int (((1613 : Int32) + ((12 : Int32) * v1)) + v2)]) (st := []) (q := 28) oX12_swapAt dX12_swapSteps_25 w1754 w1756 w0099 rfl rfl (gO_sp o3).1 (gO_sp o3).2 rfl (Nat.le_of_ble_eq_true rfl) (Nat.le_of_ble_eq_true rfl) (Nat.lt_of_lt_of_le (by decide) hd) rfl (sX12_swapAt (Nat.le_refl _) x4e) rfl ?_
  cases H
  exact v_return rfl dX12_swapSteps_28
def mX12_bestSwap : MI := (yX12_bestSwap, cX12_bestSwap, 7, some .int)
theorem oX12_bestSwap : mOK mX12_bestSwap 1 := ⟨by decide +kernel, by decide +kernel, by decide +kernel, by decide, w1832, w0150⟩
def jX12_bestSwap_96 (u0 : Nat) (u1 : Int32) (v2 : Int32) (v3 : Int32) (u4 : Int32) (v5 : Int32) (h : Hp) : Option ((Int32 × Int32 × Int32 × Hp) ⊕ (Int32 × Int32 × Hp)) :=
(some (v5 + (1 : Int32))).bind fun x20 =>
some (.inl (v2, v3, x20, h))
set_option maxRecDepth 20000 in
set_option maxHeartbeats 4000000 in
theorem sjX12_bestSwap_96 {Γ : Gm} {d : Nat} (hd : 10 ≤ d) {u0 : Nat} {u1 : Int32} {v2 : Int32} {v3 : Int32} {u4 : Int32} {v5 : Int32} {h : Hp} {r : (Int32 × Int32 × Int32 × Hp) ⊕ (Int32 × Int32 × Hp)} {t : Option Value × Hp} (H : jX12_bestSwap_96 u0 u1 v2 v3 u4 v5 h = some r) (kI : ∀ s, r = .inl s → (fun s39 => V Γ d mX12_bestSwap 39 [(0, .ref u0), (1, .int u1), (2, .int s39.1), (3, .int s39.2.1), (4, .int u4), (5, .int s39.2.2.1)] [] s39.2.2.2 t) s) (kE : ∀ e, r = .inr e → (fun e => V Γ d mX12_bestSwap 102 [(0, .ref u0), (1, .int u1), (2, .int e.1), (3, .int e.2.1), (4, .int u4)] [] e.2.2 t) e) : V Γ d mX12_bestSwap 96 [(0, .ref u0), (1, .int u1), (2, .int v2), (3, .int v3), (4, .int u4), (5, .int v5)] [] h t := by
  unfold jX12_bestSwap_96 at H
  obtain ⟨x20, x20e, H⟩ := bs H
  refine v_iinc (v := x20) (L' := [(5, .int x20), (0, .ref u0), (1, .int u1), (2, .int v2), (3, .int v3), (4, .int u4)]) (q := 99) 5 dX12_bestSwap_96 rfl (Option.some.inj x20e) (by decide) rfl rfl ?_
  refine v_goto (q := 39) dX12_bestSwap_99 (by decide) ?_
  exact V.sub [1, 2, 3, 4, 5, 0] rfl (kI (v2, v3, x20, h) (Option.some.inj H).symm)
def bX12_bestSwap_39 (u0 : Nat) (u1 : Int32) (u4 : Int32) (s39 : Int32 × Int32 × Int32 × Hp) : Option ((Int32 × Int32 × Int32 × Hp) ⊕ (Int32 × Int32 × Hp)) :=
(gO s39.2.2.2 12 u0).bind fun _ =>
(fX12_stepsOf s39.2.2.2 u0 u4).bind fun x10 =>
if x10 ≤ (s39.2.2.1 + (1 : Int32)) then (
some (.inr (s39.1, s39.2.1, s39.2.2.2))) else (
(gO s39.2.2.2 12 u0).bind fun _ =>
(fX12_swapSteps s39.2.2.2 u0 u4 s39.2.2.1).bind fun x13 =>
(gO x13 12 u0).bind fun _ =>
(fX12_all x13 u0 (3 : Int32)).bind fun x15 =>
(gO x15.2 12 u0).bind fun _ =>
(fX12_swapSteps x15.2 u0 u4 s39.2.2.1).bind fun x17 =>
if x15.1 < s39.1 then (
(some (((12 : Int32) * u4) + s39.2.2.1)).bind fun x19 =>
jX12_bestSwap_96 u0 u1 x15.1 x19 u4 s39.2.2.1 x17) else (
jX12_bestSwap_96 u0 u1 s39.1 s39.2.1 u4 s39.2.2.1 x17))
set_option maxRecDepth 20000 in
set_option maxHeartbeats 4000000 in
theorem sbX12_bestSwap_39 {Γ : Gm} {d : Nat} (hd : 10 ≤ d) {u0 : Nat} {u1 : Int32} {u4 : Int32} {s39 : Int32 × Int32 × Int32 × Hp} {r : (Int32 × Int32 × Int32 × Hp) ⊕ (Int32 × Int32 × Hp)} {t : Option Value × Hp} (H : bX12_bestSwap_39 u0 u1 u4 s39 = some r) (kI : ∀ s, r = .inl s → (fun s39 => V Γ d mX12_bestSwap 39 [(0, .ref u0), (1, .int u1), (2, .int s39.1), (3, .int s39.2.1), (4, .int u4), (5, .int s39.2.2.1)] [] s39.2.2.2 t) s) (kE : ∀ e, r = .inr e → (fun e => V Γ d mX12_bestSwap 102 [(0, .ref u0), (1, .int u1), (2, .int e.1), (3, .int e.2.1), (4, .int u4)] [] e.2.2 t) e) : V Γ d mX12_bestSwap 39 [(0, .ref u0), (1, .int u1), (2, .int s39.1), (3, .int s39.2.1), (4, .int u4), (5, .int s39.2.2.1)] [] s39.2.2.2 t := by
  unfold bX12_bestSwap_39 at H
  refine v_iload (q := 41) 5 dX12_bestSwap_39 rfl rfl ?_
  refine v_iconst (v := 1) (q := 42) dX12_bestSwap_41 (by decide) rfl ?_
  refine v_iadd (q := 43) dX12_bestSwap_42 rfl ?_
  refine v_aload_n (q := 44) 0 dX12_bestSwap_43 rfl rfl rfl ?_
  refine v_iload (q := 46) 4 dX12_bestSwap_44 rfl rfl ?_
  obtain ⟨_, o9, H⟩ := bs H
  obtain ⟨x10, x10e, H⟩ := bs H
  refine u_callV1 (M' := mX12_stepsOf) (d' := 1) (rc := (RX12, TX12, 58)) (As := [.int u4]) (st := [.int (s39.2.2.1 + (1 : Int32))]) (q := 49) oX12_stepsOf dX12_bestSwap_46 w1642 w1644 w0074 rfl rfl (gO_sp o9).1 (gO_sp o9).2 rfl (Nat.le_of_ble_eq_true rfl) (Nat.le_of_ble_eq_true rfl) (Nat.lt_of_lt_of_le (by decide) hd) rfl (sX12_stepsOf (Nat.le_refl _) x10e) rfl ?_
  refine v_icmp_ge (q1 := 102) (q2 := 52) dX12_bestSwap_49 (by decide) rfl (fun c11 => ?_) (fun c11 => ?_)
  · have H := ip c11 H
    exact V.sub [0, 1, 2, 3, 4] rfl (kE (s39.1, s39.2.1, s39.2.2.2) (Option.some.inj H).symm)
  · have H := ine c11 H
    refine v_aload_n (q := 53) 0 dX12_bestSwap_52 rfl rfl rfl ?_
    refine v_iload (q := 55) 4 dX12_bestSwap_53 rfl rfl ?_
    refine v_iload (q := 57) 5 dX12_bestSwap_55 rfl rfl ?_
    obtain ⟨_, o12, H⟩ := bs H
    obtain ⟨x13, x13e, H⟩ := bs H
    refine u_callV0 (M' := mX12_swapSteps) (d' := 2) (rc := (RX12, TX12, 58)) (As := [.int u4, .int s39.2.2.1]) (st := []) (q := 60) oX12_swapSteps dX12_bestSwap_57 w1750 w1752 w0098 rfl rfl (gO_sp o12).1 (gO_sp o12).2 rfl (Nat.le_of_ble_eq_true rfl) (Nat.le_of_ble_eq_true rfl) (Nat.lt_of_lt_of_le (by decide) hd) rfl (sX12_swapSteps (Nat.le_refl _) x13e) rfl ?_
    refine v_aload_n (q := 61) 0 dX12_bestSwap_60 rfl rfl rfl ?_
    refine v_iconst (v := 3) (q := 62) dX12_bestSwap_61 (by decide) rfl ?_
    obtain ⟨_, o14, H⟩ := bs H
    obtain ⟨x15, x15e, H⟩ := bs H
    refine u_callV1 (M' := mX12_all) (d' := 9) (rc := (RX12, TX12, 58)) (As := [.int (3 : Int32)]) (st := []) (q := 65) oX12_all dX12_bestSwap_62 w1833 w1822 w1823 rfl rfl (gO_sp o14).1 (gO_sp o14).2 rfl (Nat.le_of_ble_eq_true rfl) (Nat.le_of_ble_eq_true rfl) (Nat.lt_of_lt_of_le (by decide) hd) rfl (sX12_all (Nat.le_refl _) x15e) rfl ?_
    refine v_istore (L' := [(6, .int x15.1), (0, .ref u0), (1, .int u1), (2, .int s39.1), (3, .int s39.2.1), (4, .int u4), (5, .int s39.2.2.1)]) (q := 67) dX12_bestSwap_65 (by decide) rfl rfl ?_
    refine v_aload_n (q := 68) 1 dX12_bestSwap_67 rfl rfl rfl ?_
    refine v_iload (q := 70) 5 dX12_bestSwap_68 rfl rfl ?_
    refine v_iload (q := 72) 6 dX12_bestSwap_70 rfl rfl ?_
    obtain ⟨_, o16, H⟩ := bs H
    obtain ⟨x17, x17e, H⟩ := bs H
    refine u_callV0 (M' := mX12_swapSteps) (d' := 2) (rc := (RX12, TX12, 58)) (As := [.int u4, .int s39.2.2.1]) (st := []) (q := 75) oX12_swapSteps dX12_bestSwap_72 w1750 w1752 w0098 rfl rfl (gO_sp o16).1 (gO_sp o16).2 rfl (Nat.le_of_ble_eq_true rfl) (Nat.le_of_ble_eq_true rfl) (Nat.lt_of_lt_of_le (by decide) hd) rfl (sX12_swapSteps (Nat.le_refl _) x17e) rfl ?_
    refine v_iload (q := 77) 0 dX12_bestSwap_75 rfl rfl ?_
    refine v_iload_n (q := 78) 3 dX12_bestSwap_77 rfl rfl rfl ?_
    refine v_icmp_lt (q1 := 84) (q2 := 81) dX12_bestSwap_78 (by decide) rfl (fun c18 => ?_) (fun c18 => ?_)
    · have H := ip c18 H
      refine v_iload (q := 86) 0 dX12_bestSwap_84 rfl rfl ?_
      refine v_istore_n (L' := [(2, .int x15.1), (6, .int x15.1), (0, .ref u0), (1, .int u1), (3, .int s39.2.1), (4, .int u4), (5, .int s39.2.2.1)]) (q := 87) dX12_bestSwap_86 rfl (by decide) rfl rfl ?_
      refine v_bipush (v := 12) (q := 89) dX12_bestSwap_87 (by decide) rfl ?_
      refine v_iload (q := 91) 5 dX12_bestSwap_89 rfl rfl ?_
      refine v_imul (q := 92) dX12_bestSwap_91 rfl ?_
      refine v_iload (q := 94) 6 dX12_bestSwap_92 rfl rfl ?_
      refine v_iadd (q := 95) dX12_bestSwap_94 rfl ?_
      obtain ⟨x19, x19e, H⟩ := bs H
      refine v_topi (Option.some.inj x19e) ?_
      refine v_istore_n (L' := [(3, .int x19), (2, .int x15.1), (6, .int x15.1), (0, .ref u0), (1, .int u1), (4, .int u4), (5, .int s39.2.2.1)]) (q := 96) dX12_bestSwap_95 rfl (by decide) rfl rfl ?_
      exact V.sub [3, 4, 1, 0, 5, 6] rfl (sjX12_bestSwap_96 hd H kI kE)
    · have H := ine c18 H
      refine v_goto (q := 96) dX12_bestSwap_81 (by decide) ?_
      exact V.sub [1, 2, 3, 4, 5, 6] rfl (sjX12_bestSwap_96 hd H kI kE)
def bX12_bestSwap_22 (u0 : Nat) (u1 : Int32) (s22 : Int32 × Int32 × Int32 × Hp) : Option ((Int32 × Int32 × Int32 × Hp) ⊕ (Int32 × Int32 × Hp)) :=
(gR s22.2.2.2 12 u0 3).bind fun x5 =>
(gI s22.2.2.2 12 u0 9).bind fun x6 =>
(lI s22.2.2.2 .int x5 x6).bind fun x7 =>
if x7 ≤ s22.2.2.1 then (
some (.inr (s22.1, s22.2.1, s22.2.2.2))) else (
(lp (bX12_bestSwap_39 u0 u1 s22.2.2.1) FU (s22.1, s22.2.1, (0 : Int32), s22.2.2.2)).bind fun e21 =>
(some (s22.2.2.1 + (1 : Int32))).bind fun x22 =>
some (.inl (e21.1, e21.2.1, x22, e21.2.2)))
set_option maxRecDepth 20000 in
set_option maxHeartbeats 4000000 in
theorem sbX12_bestSwap_22 {Γ : Gm} {d : Nat} (hd : 10 ≤ d) {u0 : Nat} {u1 : Int32} {s22 : Int32 × Int32 × Int32 × Hp} {r : (Int32 × Int32 × Int32 × Hp) ⊕ (Int32 × Int32 × Hp)} {t : Option Value × Hp} (H : bX12_bestSwap_22 u0 u1 s22 = some r) (kI : ∀ s, r = .inl s → (fun s22 => V Γ d mX12_bestSwap 22 [(0, .ref u0), (1, .int u1), (2, .int s22.1), (3, .int s22.2.1), (4, .int s22.2.2.1)] [] s22.2.2.2 t) s) (kE : ∀ e, r = .inr e → (fun e => V Γ d mX12_bestSwap 108 [(1, .int u1), (2, .int e.1), (3, .int e.2.1)] [] e.2.2 t) e) : V Γ d mX12_bestSwap 22 [(0, .ref u0), (1, .int u1), (2, .int s22.1), (3, .int s22.2.1), (4, .int s22.2.2.1)] [] s22.2.2.2 t := by
  unfold bX12_bestSwap_22 at H
  refine v_iload (q := 24) 4 dX12_bestSwap_22 rfl rfl ?_
  refine v_aload_n (q := 25) 0 dX12_bestSwap_24 rfl rfl rfl ?_
  obtain ⟨x5, x5e, H⟩ := bs H
  refine u_gR (q := 28) (r := (RX12, TX12, 58)) x5e dX12_bestSwap_25 w1359 rfl (by decide) rfl rfl ?_
  refine v_aload_n (q := 29) 0 dX12_bestSwap_28 rfl rfl rfl ?_
  obtain ⟨x6, x6e, H⟩ := bs H
  refine u_gI (q := 32) (r := (RX12, TX12, 58)) x6e dX12_bestSwap_29 w1365 rfl (by decide) rfl rfl ?_
  obtain ⟨x7, x7e, H⟩ := bs H
  refine u_lI (q := 33) x7e dX12_bestSwap_32 rfl ?_
  refine v_icmp_ge (q1 := 108) (q2 := 36) dX12_bestSwap_33 (by decide) rfl (fun c8 => ?_) (fun c8 => ?_)
  · have H := ip c8 H
    exact V.sub [1, 2, 3] rfl (kE (s22.1, s22.2.1, s22.2.2.2) (Option.some.inj H).symm)
  · have H := ine c8 H
    refine v_iconst (v := 0) (q := 37) dX12_bestSwap_36 (by decide) rfl ?_
    refine v_istore (L' := [(5, .int (0 : Int32)), (0, .ref u0), (1, .int u1), (2, .int s22.1), (3, .int s22.2.1), (4, .int s22.2.2.1)]) (q := 39) dX12_bestSwap_37 (by decide) rfl rfl ?_
    obtain ⟨e21, e21L, H⟩ := bs H
    refine V.sub [1, 2, 3, 4, 5, 0] rfl ?_
    refine lp_V (P := (fun s39 => V Γ d mX12_bestSwap 39 [(0, .ref u0), (1, .int u1), (2, .int s39.1), (3, .int s39.2.1), (4, .int s22.2.2.1), (5, .int s39.2.2.1)] [] s39.2.2.2 t)) (E := (fun e => V Γ d mX12_bestSwap 102 [(0, .ref u0), (1, .int u1), (2, .int e.1), (3, .int e.2.1), (4, .int s22.2.2.1)] [] e.2.2 t)) (fun s r hb kI kE => sbX12_bestSwap_39 hd (s39 := s) (r := r) hb kI kE) FU (s22.1, s22.2.1, (0 : Int32), s22.2.2.2) e21 e21L ?_
    obtain ⟨x22, x22e, H⟩ := bs H
    refine v_iinc (v := x22) (L' := [(4, .int x22), (0, .ref u0), (1, .int u1), (2, .int e21.1), (3, .int e21.2.1)]) (q := 105) 4 dX12_bestSwap_102 rfl (Option.some.inj x22e) (by decide) rfl rfl ?_
    refine v_goto (q := 22) dX12_bestSwap_105 (by decide) ?_
    exact V.sub [1, 2, 3, 4, 0] rfl (kI (e21.1, e21.2.1, x22, e21.2.2) (Option.some.inj H).symm)
def jX12_bestSwap_138 (y0 : Int32) (h : Hp) : Option (Int32 × Hp) :=
some (y0, h)
set_option maxRecDepth 20000 in
set_option maxHeartbeats 4000000 in
theorem sjX12_bestSwap_138 {Γ : Gm} {d : Nat} (hd : 10 ≤ d) {y0 : Int32} {h : Hp} {r : Int32 × Hp} (H : jX12_bestSwap_138 y0 h = some r) : V Γ d mX12_bestSwap 138 [] [.int y0] h (some (.int r.1), r.2) := by
  unfold jX12_bestSwap_138 at H
  cases H
  exact v_ireturn rfl dX12_bestSwap_138
def fX12_bestSwap (h : Hp) (v0 : Nat) (v1 : Int32) : Option (Int32 × Hp) :=
(fX12_isIn h v1 (0 : Int32) (2 : Int32)).bind fun x1 =>
if x1 = 0 then (
some (((-1 : Int32), h))) else (
(gO h 12 v0).bind fun _ =>
(fX12_all h v0 (3 : Int32)).bind fun x4 =>
(lp (bX12_bestSwap_22 v0 v1) FU (x4.1, (-1 : Int32), (0 : Int32), x4.2)).bind fun e23 =>
if 0 ≤ e23.2.1 then (
if v1 = 0 then (
jX12_bestSwap_138 e23.1 e23.2.2) else (
if v1 = (1 : Int32) then (
jX12_bestSwap_138 (e23.2.1 / (12 : Int32)) e23.2.2) else (
jX12_bestSwap_138 (e23.2.1 - e23.2.1 / (12 : Int32) * (12 : Int32)) e23.2.2))) else (
some (((-1 : Int32), e23.2.2))))
set_option maxRecDepth 20000 in
set_option maxHeartbeats 4000000 in
theorem sX12_bestSwap {Γ : Gm} {d : Nat} (hd : 10 ≤ d) {h : Hp} {v0 : Nat} {v1 : Int32} {r : Int32 × Hp} (H : fX12_bestSwap h v0 v1 = some r) : V Γ d mX12_bestSwap 0 [(0, .ref v0), (1, .int v1)] [] h (some (.int r.1), r.2) := by
  unfold fX12_bestSwap at H
  refine v_iload_n (q := 1) 1 dX12_bestSwap_0 rfl rfl rfl ?_
  refine v_iconst (v := 0) (q := 2) dX12_bestSwap_1 (by decide) rfl ?_
  refine v_iconst (v := 2) (q := 3) dX12_bestSwap_2 (by decide) rfl ?_
  obtain ⟨x1, x1e, H⟩ := bs H
  refine u_callS1 (M' := mX12_isIn) (d' := 1) (As := [.int v1, .int (0 : Int32), .int (2 : Int32)]) (st := []) (q := 6) oX12_isIn dX12_bestSwap_3 w1618 w1619 rfl (Nat.le_of_ble_eq_true rfl) (Nat.le_of_ble_eq_true rfl) (Nat.lt_of_lt_of_le (by decide) hd) rfl (sX12_isIn (Nat.le_refl _) x1e) rfl ?_
  refine v_if_ne (q1 := 11) (q2 := 9) dX12_bestSwap_6 (by decide) rfl (fun c2 => ?_) (fun c2 => ?_)
  · have H := ine c2 H
    refine v_aload_n (q := 12) 0 dX12_bestSwap_11 rfl rfl rfl ?_
    refine v_iconst (v := 3) (q := 13) dX12_bestSwap_12 (by decide) rfl ?_
    obtain ⟨_, o3, H⟩ := bs H
    obtain ⟨x4, x4e, H⟩ := bs H
    refine u_callV1 (M' := mX12_all) (d' := 9) (rc := (RX12, TX12, 58)) (As := [.int (3 : Int32)]) (st := []) (q := 16) oX12_all dX12_bestSwap_13 w1833 w1822 w1823 rfl rfl (gO_sp o3).1 (gO_sp o3).2 rfl (Nat.le_of_ble_eq_true rfl) (Nat.le_of_ble_eq_true rfl) (Nat.lt_of_lt_of_le (by decide) hd) rfl (sX12_all (Nat.le_refl _) x4e) rfl ?_
    refine v_istore_n (L' := [(2, .int x4.1), (0, .ref v0), (1, .int v1)]) (q := 17) dX12_bestSwap_16 rfl (by decide) rfl rfl ?_
    refine v_iconst (v := -1) (q := 18) dX12_bestSwap_17 (by decide) rfl ?_
    refine v_istore_n (L' := [(3, .int (-1 : Int32)), (2, .int x4.1), (0, .ref v0), (1, .int v1)]) (q := 19) dX12_bestSwap_18 rfl (by decide) rfl rfl ?_
    refine v_iconst (v := 0) (q := 20) dX12_bestSwap_19 (by decide) rfl ?_
    refine v_istore (L' := [(4, .int (0 : Int32)), (3, .int (-1 : Int32)), (2, .int x4.1), (0, .ref v0), (1, .int v1)]) (q := 22) dX12_bestSwap_20 (by decide) rfl rfl ?_
    obtain ⟨e23, e23L, H⟩ := bs H
    refine V.sub [3, 4, 2, 1, 0] rfl ?_
    refine lp_V (P := (fun s22 => V Γ d mX12_bestSwap 22 [(0, .ref v0), (1, .int v1), (2, .int s22.1), (3, .int s22.2.1), (4, .int s22.2.2.1)] [] s22.2.2.2 (some (.int r.1), r.2))) (E := (fun e => V Γ d mX12_bestSwap 108 [(1, .int v1), (2, .int e.1), (3, .int e.2.1)] [] e.2.2 (some (.int r.1), r.2))) (fun s r hb kI kE => sbX12_bestSwap_22 hd (s22 := s) (r := r) hb kI kE) FU (x4.1, (-1 : Int32), (0 : Int32), x4.2) e23 e23L ?_
    refine v_iload_n (q := 109) 2 dX12_bestSwap_108 rfl rfl rfl ?_
    refine v_if_ge (q1 := 114) (q2 := 112) dX12_bestSwap_109 (by decide) rfl (fun c24 => ?_) (fun c24 => ?_)
    · have H := ip c24 H
      refine v_iload_n (q := 115) 0 dX12_bestSwap_114 rfl rfl rfl ?_
      refine v_if_ne (q1 := 122) (q2 := 118) dX12_bestSwap_115 (by decide) rfl (fun c25 => ?_) (fun c25 => ?_)
      · have H := ine c25 H
        refine v_iload_n (q := 123) 0 dX12_bestSwap_122 rfl rfl rfl ?_
        refine v_iconst (v := 1) (q := 124) dX12_bestSwap_123 (by decide) rfl ?_
        refine v_icmp_ne (q1 := 134) (q2 := 127) dX12_bestSwap_124 (by decide) rfl (fun c26 => ?_) (fun c26 => ?_)
        · have H := ine c26 H
          refine v_iload_n (q := 135) 2 dX12_bestSwap_134 rfl rfl rfl ?_
          refine v_bipush (v := 12) (q := 137) dX12_bestSwap_135 (by decide) rfl ?_
          refine v_irem (q := 138) dX12_bestSwap_137 (by decide) rfl ?_
          exact V.sub [] rfl (sjX12_bestSwap_138 hd H)
        · have H := ip c26 H
          refine v_iload_n (q := 128) 2 dX12_bestSwap_127 rfl rfl rfl ?_
          refine v_bipush (v := 12) (q := 130) dX12_bestSwap_128 (by decide) rfl ?_
          refine v_idiv (q := 131) dX12_bestSwap_130 (by decide) rfl ?_
          refine v_goto (q := 138) dX12_bestSwap_131 (by decide) ?_
          exact V.sub [] rfl (sjX12_bestSwap_138 hd H)
      · have H := ip c25 H
        refine v_iload_n (q := 119) 1 dX12_bestSwap_118 rfl rfl rfl ?_
        refine v_goto (q := 138) dX12_bestSwap_119 (by decide) ?_
        exact V.sub [] rfl (sjX12_bestSwap_138 hd H)
    · have H := ine c24 H
      refine v_iconst (v := -1) (q := 113) dX12_bestSwap_112 (by decide) rfl ?_
      cases H
      exact v_ireturn rfl dX12_bestSwap_113
  · have H := ip c2 H
    refine v_iconst (v := -1) (q := 10) dX12_bestSwap_9 (by decide) rfl ?_
    cases H
    exact v_ireturn rfl dX12_bestSwap_10
def mX12_canCome : MI := (yX12_canCome, cX12_canCome, 3, some .boolean)
theorem oX12_canCome : mOK mX12_canCome 2 := ⟨by decide +kernel, by decide +kernel, by decide +kernel, by decide, w1916, w0150⟩
def jX12_canCome_25 (h : Hp) : Option (Int32) :=
some (0 : Int32)
set_option maxRecDepth 20000 in
set_option maxHeartbeats 4000000 in
theorem sjX12_canCome_25 {Γ : Gm} {d : Nat} (hd : 4 ≤ d) {h : Hp} {r : Int32} (H : jX12_canCome_25 h = some r) : V Γ d mX12_canCome 25 [] [] h (some (.int r), h) := by
  unfold jX12_canCome_25 at H
  refine v_iconst (v := 0) (q := 26) dX12_canCome_25 (by decide) rfl ?_
  cases H
  exact v_zreturn rfl (by decide) dX12_canCome_26
def jX12_canCome_93 (y0 : Int32) (h : Hp) : Option (Int32) :=
(bz y0).bind fun x16 =>
some x16
set_option maxRecDepth 20000 in
set_option maxHeartbeats 4000000 in
theorem sjX12_canCome_93 {Γ : Gm} {d : Nat} (hd : 4 ≤ d) {y0 : Int32} {h : Hp} {r : Int32} (H : jX12_canCome_93 y0 h = some r) : V Γ d mX12_canCome 93 [] [.int y0] h (some (.int r), h) := by
  unfold jX12_canCome_93 at H
  obtain ⟨x16, x16e, H⟩ := bs H
  obtain ⟨x16q, x16z⟩ := bz_sp x16e
  refine v_topi x16q.symm ?_
  cases H
  exact v_zreturn rfl (by rw [x16q]; exact x16z) dX12_canCome_93
def jX12_canCome_92 (h : Hp) : Option (Int32) :=
jX12_canCome_93 (0 : Int32) h
set_option maxRecDepth 20000 in
set_option maxHeartbeats 4000000 in
theorem sjX12_canCome_92 {Γ : Gm} {d : Nat} (hd : 4 ≤ d) {h : Hp} {r : Int32} (H : jX12_canCome_92 h = some r) : V Γ d mX12_canCome 92 [] [] h (some (.int r), h) := by
  unfold jX12_canCome_92 at H
  refine v_iconst (v := 0) (q := 93) dX12_canCome_92 (by decide) rfl ?_
  exact V.sub [] rfl (sjX12_canCome_93 hd H)
def jX12_canCome_63 (y0 : Int32) (h : Hp) : Option (Int32) :=
(bz y0).bind fun x25 =>
some x25
set_option maxRecDepth 20000 in
set_option maxHeartbeats 4000000 in
theorem sjX12_canCome_63 {Γ : Gm} {d : Nat} (hd : 4 ≤ d) {y0 : Int32} {h : Hp} {r : Int32} (H : jX12_canCome_63 y0 h = some r) : V Γ d mX12_canCome 63 [] [.int y0] h (some (.int r), h) := by
  unfold jX12_canCome_63 at H
  obtain ⟨x25, x25e, H⟩ := bs H
  obtain ⟨x25q, x25z⟩ := bz_sp x25e
  refine v_topi x25q.symm ?_
  cases H
  exact v_zreturn rfl (by rw [x25q]; exact x25z) dX12_canCome_63
def jX12_canCome_62 (h : Hp) : Option (Int32) :=
jX12_canCome_63 (0 : Int32) h
set_option maxRecDepth 20000 in
set_option maxHeartbeats 4000000 in
theorem sjX12_canCome_62 {Γ : Gm} {d : Nat} (hd : 4 ≤ d) {h : Hp} {r : Int32} (H : jX12_canCome_62 h = some r) : V Γ d mX12_canCome 62 [] [] h (some (.int r), h) := by
  unfold jX12_canCome_62 at H
  refine v_iconst (v := 0) (q := 63) dX12_canCome_62 (by decide) rfl ?_
  exact V.sub [] rfl (sjX12_canCome_63 hd H)
def fX12_canCome (h : Hp) (v0 : Nat) (v1 : Int32) (v2 : Int32) : Option (Int32) :=
(gO h 12 v0).bind fun _ =>
(fX12_isIn0 h v0 v1).bind fun x2 =>
if x2 = 0 then (
jX12_canCome_25 h) else (
(gO h 12 v0).bind fun _ =>
(fX12_sortOf h v0 v1).bind fun x5 =>
if x5 = 0 then (
jX12_canCome_25 h) else (
(gR h 12 v0 36).bind fun x7 =>
(lI h .int x7 v1).bind fun x8 =>
if x8 < 0 then (
(gO h 12 v0).bind fun _ =>
(fX12_sortOf h v0 v1).bind fun x11 =>
if x11 = (1 : Int32) then (
(gO h 12 v0).bind fun _ =>
(fX12_sortOf h v0 v2).bind fun x23 =>
if x23 = 0 then (
(gR h 12 v0 36).bind fun x26 =>
(lI h .int x26 v2).bind fun x27 =>
(gO h 12 v0).bind fun _ =>
(fX12_canSoft h v0 v2 x27).bind fun x29 =>
if x29 = 0 then (
jX12_canCome_62 h) else (
jX12_canCome_63 (1 : Int32) h)) else (
jX12_canCome_62 h)) else (
(gO h 12 v0).bind fun _ =>
(fX12_sortOf h v0 v2).bind fun x14 =>
if x14 = (2 : Int32) then (
jX12_canCome_92 h) else (
(gR h 12 v0 36).bind fun x17 =>
(lI h .int x17 v2).bind fun x18 =>
(gO h 12 v0).bind fun _ =>
(fX12_isOn h v0 v2 x18 (1 : Int32)).bind fun x20 =>
if x20 = 0 then (
jX12_canCome_92 h) else (
jX12_canCome_93 (1 : Int32) h)))) else (
jX12_canCome_25 h)))
set_option maxRecDepth 20000 in
set_option maxHeartbeats 4000000 in
theorem sX12_canCome {Γ : Gm} {d : Nat} (hd : 4 ≤ d) {h : Hp} {v0 : Nat} {v1 : Int32} {v2 : Int32} {r : Int32} (H : fX12_canCome h v0 v1 v2 = some r) : V Γ d mX12_canCome 0 [(0, .ref v0), (1, .int v1), (2, .int v2)] [] h (some (.int r), h) := by
  unfold fX12_canCome at H
  refine v_aload_n (q := 1) 0 dX12_canCome_0 rfl rfl rfl ?_
  refine v_iload_n (q := 2) 1 dX12_canCome_1 rfl rfl rfl ?_
  obtain ⟨_, o1, H⟩ := bs H
  obtain ⟨x2, x2e, H⟩ := bs H
  refine u_callV1 (M' := mX12_isIn0) (d' := 2) (rc := (RX12, TX12, 58)) (As := [.int v1]) (st := []) (q := 5) oX12_isIn0 dX12_canCome_2 w1857 w1859 w0109 rfl rfl (gO_sp o1).1 (gO_sp o1).2 rfl (Nat.le_of_ble_eq_true rfl) (Nat.le_of_ble_eq_true rfl) (Nat.lt_of_lt_of_le (by decide) hd) rfl (sX12_isIn0 (Nat.le_refl _) x2e) rfl ?_
  refine v_if_eq (q1 := 25) (q2 := 8) dX12_canCome_5 (by decide) rfl (fun c3 => ?_) (fun c3 => ?_)
  · have H := ip c3 H
    exact V.sub [] rfl (sjX12_canCome_25 hd H)
  · have H := ine c3 H
    refine v_aload_n (q := 9) 0 dX12_canCome_8 rfl rfl rfl ?_
    refine v_iload_n (q := 10) 1 dX12_canCome_9 rfl rfl rfl ?_
    obtain ⟨_, o4, H⟩ := bs H
    obtain ⟨x5, x5e, H⟩ := bs H
    refine u_callV1 (M' := mX12_sortOf) (d' := 1) (rc := (RX12, TX12, 58)) (As := [.int v1]) (st := []) (q := 13) oX12_sortOf dX12_canCome_10 w1718 w1720 w0092 rfl rfl (gO_sp o4).1 (gO_sp o4).2 rfl (Nat.le_of_ble_eq_true rfl) (Nat.le_of_ble_eq_true rfl) (Nat.lt_of_lt_of_le (by decide) hd) rfl (sX12_sortOf (Nat.le_refl _) x5e) rfl ?_
    refine v_if_eq (q1 := 25) (q2 := 16) dX12_canCome_13 (by decide) rfl (fun c6 => ?_) (fun c6 => ?_)
    · have H := ip c6 H
      exact V.sub [] rfl (sjX12_canCome_25 hd H)
    · have H := ine c6 H
      refine v_aload_n (q := 17) 0 dX12_canCome_16 rfl rfl rfl ?_
      obtain ⟨x7, x7e, H⟩ := bs H
      refine u_gR (q := 20) (r := (RX12, TX12, 58)) x7e dX12_canCome_17 w1392 rfl (by decide) rfl rfl ?_
      refine v_iload_n (q := 21) 1 dX12_canCome_20 rfl rfl rfl ?_
      obtain ⟨x8, x8e, H⟩ := bs H
      refine u_lI (q := 22) x8e dX12_canCome_21 rfl ?_
      refine v_if_lt (q1 := 27) (q2 := 25) dX12_canCome_22 (by decide) rfl (fun c9 => ?_) (fun c9 => ?_)
      · have H := ip c9 H
        refine v_aload_n (q := 28) 0 dX12_canCome_27 rfl rfl rfl ?_
        refine v_iload_n (q := 29) 1 dX12_canCome_28 rfl rfl rfl ?_
        obtain ⟨_, o10, H⟩ := bs H
        obtain ⟨x11, x11e, H⟩ := bs H
        refine u_callV1 (M' := mX12_sortOf) (d' := 1) (rc := (RX12, TX12, 58)) (As := [.int v1]) (st := []) (q := 32) oX12_sortOf dX12_canCome_29 w1718 w1720 w0092 rfl rfl (gO_sp o10).1 (gO_sp o10).2 rfl (Nat.le_of_ble_eq_true rfl) (Nat.le_of_ble_eq_true rfl) (Nat.lt_of_lt_of_le (by decide) hd) rfl (sX12_sortOf (Nat.le_refl _) x11e) rfl ?_
        refine v_iconst (v := 1) (q := 33) dX12_canCome_32 (by decide) rfl ?_
        refine v_icmp_ne (q1 := 64) (q2 := 36) dX12_canCome_33 (by decide) rfl (fun c12 => ?_) (fun c12 => ?_)
        · have H := ine c12 H
          refine v_aload_n (q := 65) 0 dX12_canCome_64 rfl rfl rfl ?_
          refine v_iload_n (q := 66) 2 dX12_canCome_65 rfl rfl rfl ?_
          obtain ⟨_, o13, H⟩ := bs H
          obtain ⟨x14, x14e, H⟩ := bs H
          refine u_callV1 (M' := mX12_sortOf) (d' := 1) (rc := (RX12, TX12, 58)) (As := [.int v2]) (st := []) (q := 69) oX12_sortOf dX12_canCome_66 w1718 w1720 w0092 rfl rfl (gO_sp o13).1 (gO_sp o13).2 rfl (Nat.le_of_ble_eq_true rfl) (Nat.le_of_ble_eq_true rfl) (Nat.lt_of_lt_of_le (by decide) hd) rfl (sX12_sortOf (Nat.le_refl _) x14e) rfl ?_
          refine v_iconst (v := 2) (q := 70) dX12_canCome_69 (by decide) rfl ?_
          refine v_icmp_eq (q1 := 92) (q2 := 73) dX12_canCome_70 (by decide) rfl (fun c15 => ?_) (fun c15 => ?_)
          · have H := ip c15 H
            exact V.sub [] rfl (sjX12_canCome_92 hd H)
          · have H := ine c15 H
            refine v_aload_n (q := 74) 0 dX12_canCome_73 rfl rfl rfl ?_
            refine v_iload_n (q := 75) 2 dX12_canCome_74 rfl rfl rfl ?_
            refine v_aload_n (q := 76) 0 dX12_canCome_75 rfl rfl rfl ?_
            obtain ⟨x17, x17e, H⟩ := bs H
            refine u_gR (q := 79) (r := (RX12, TX12, 58)) x17e dX12_canCome_76 w1392 rfl (by decide) rfl rfl ?_
            refine v_iload_n (q := 80) 2 dX12_canCome_79 rfl rfl rfl ?_
            obtain ⟨x18, x18e, H⟩ := bs H
            refine u_lI (q := 81) x18e dX12_canCome_80 rfl ?_
            refine v_iconst (v := 1) (q := 82) dX12_canCome_81 (by decide) rfl ?_
            obtain ⟨_, o19, H⟩ := bs H
            obtain ⟨x20, x20e, H⟩ := bs H
            refine u_callV1 (M' := mX12_isOn) (d' := 2) (rc := (RX12, TX12, 58)) (As := [.int v2, .int x18, .int (1 : Int32)]) (st := []) (q := 85) oX12_isOn dX12_canCome_82 w1722 w1724 w0093 rfl rfl (gO_sp o19).1 (gO_sp o19).2 rfl (Nat.le_of_ble_eq_true rfl) (Nat.le_of_ble_eq_true rfl) (Nat.lt_of_lt_of_le (by decide) hd) rfl (sX12_isOn (Nat.le_refl _) x20e) rfl ?_
            refine v_if_eq (q1 := 92) (q2 := 88) dX12_canCome_85 (by decide) rfl (fun c21 => ?_) (fun c21 => ?_)
            · have H := ip c21 H
              exact V.sub [] rfl (sjX12_canCome_92 hd H)
            · have H := ine c21 H
              refine v_iconst (v := 1) (q := 89) dX12_canCome_88 (by decide) rfl ?_
              refine v_goto (q := 93) dX12_canCome_89 (by decide) ?_
              exact V.sub [] rfl (sjX12_canCome_93 hd H)
        · have H := ip c12 H
          refine v_aload_n (q := 37) 0 dX12_canCome_36 rfl rfl rfl ?_
          refine v_iload_n (q := 38) 2 dX12_canCome_37 rfl rfl rfl ?_
          obtain ⟨_, o22, H⟩ := bs H
          obtain ⟨x23, x23e, H⟩ := bs H
          refine u_callV1 (M' := mX12_sortOf) (d' := 1) (rc := (RX12, TX12, 58)) (As := [.int v2]) (st := []) (q := 41) oX12_sortOf dX12_canCome_38 w1718 w1720 w0092 rfl rfl (gO_sp o22).1 (gO_sp o22).2 rfl (Nat.le_of_ble_eq_true rfl) (Nat.le_of_ble_eq_true rfl) (Nat.lt_of_lt_of_le (by decide) hd) rfl (sX12_sortOf (Nat.le_refl _) x23e) rfl ?_
          refine v_if_ne (q1 := 62) (q2 := 44) dX12_canCome_41 (by decide) rfl (fun c24 => ?_) (fun c24 => ?_)
          · have H := ine c24 H
            exact V.sub [] rfl (sjX12_canCome_62 hd H)
          · have H := ip c24 H
            refine v_aload_n (q := 45) 0 dX12_canCome_44 rfl rfl rfl ?_
            refine v_iload_n (q := 46) 2 dX12_canCome_45 rfl rfl rfl ?_
            refine v_aload_n (q := 47) 0 dX12_canCome_46 rfl rfl rfl ?_
            obtain ⟨x26, x26e, H⟩ := bs H
            refine u_gR (q := 50) (r := (RX12, TX12, 58)) x26e dX12_canCome_47 w1392 rfl (by decide) rfl rfl ?_
            refine v_iload_n (q := 51) 2 dX12_canCome_50 rfl rfl rfl ?_
            obtain ⟨x27, x27e, H⟩ := bs H
            refine u_lI (q := 52) x27e dX12_canCome_51 rfl ?_
            obtain ⟨_, o28, H⟩ := bs H
            obtain ⟨x29, x29e, H⟩ := bs H
            refine u_callV1 (M' := mX12_canSoft) (d' := 3) (rc := (RX12, TX12, 58)) (As := [.int v2, .int x27]) (st := []) (q := 55) oX12_canSoft dX12_canCome_52 w1726 w1728 w0094 rfl rfl (gO_sp o28).1 (gO_sp o28).2 rfl (Nat.le_of_ble_eq_true rfl) (Nat.le_of_ble_eq_true rfl) (Nat.lt_of_lt_of_le (by decide) hd) rfl (sX12_canSoft (Nat.le_refl _) x29e) rfl ?_
            refine v_if_eq (q1 := 62) (q2 := 58) dX12_canCome_55 (by decide) rfl (fun c30 => ?_) (fun c30 => ?_)
            · have H := ip c30 H
              exact V.sub [] rfl (sjX12_canCome_62 hd H)
            · have H := ine c30 H
              refine v_iconst (v := 1) (q := 59) dX12_canCome_58 (by decide) rfl ?_
              refine v_goto (q := 63) dX12_canCome_59 (by decide) ?_
              exact V.sub [] rfl (sjX12_canCome_63 hd H)
      · have H := ine c9 H
        exact V.sub [] rfl (sjX12_canCome_25 hd H)
def mX12_isLedTo : MI := (yX12_isLedTo, cX12_isLedTo, 4, some .boolean)
theorem oX12_isLedTo : mOK mX12_isLedTo 2 := ⟨by decide +kernel, by decide +kernel, by decide +kernel, by decide, w1947, w0150⟩
def jX12_isLedTo_27 (u0 : Nat) (u1 : Int32) (u2 : Int32) (v3 : Int32) (h : Hp) : Option ((Int32) ⊕ ((Unit) ⊕ (Unit))) :=
(some (v3 + (1 : Int32))).bind fun x4 =>
some (.inl x4)
set_option maxRecDepth 20000 in
set_option maxHeartbeats 4000000 in
theorem sjX12_isLedTo_27 {Γ : Gm} {d : Nat} (hd : 2 ≤ d) {u0 : Nat} {u1 : Int32} {u2 : Int32} {v3 : Int32} {h : Hp} {r : (Int32) ⊕ ((Unit) ⊕ (Unit))} {t : Option Value × Hp} (H : jX12_isLedTo_27 u0 u1 u2 v3 h = some r) (kI : ∀ s, r = .inl s → (fun s2 => V Γ d mX12_isLedTo 2 [(0, .ref u0), (1, .int u1), (2, .int u2), (3, .int s2)] [] h t) s) (kE : ∀ e, r = .inr e → (fun e => (match e with | .inl a0 => V Γ d mX12_isLedTo 33 [] [] h t | .inr b0 => V Γ d mX12_isLedTo 25 [] [] h t)) e) : V Γ d mX12_isLedTo 27 [(0, .ref u0), (1, .int u1), (2, .int u2), (3, .int v3)] [] h t := by
  unfold jX12_isLedTo_27 at H
  obtain ⟨x4, x4e, H⟩ := bs H
  refine v_iinc (v := x4) (L' := [(3, .int x4), (0, .ref u0), (1, .int u1), (2, .int u2)]) (q := 30) 3 dX12_isLedTo_27 rfl (Option.some.inj x4e) (by decide) rfl rfl ?_
  refine v_goto (q := 2) dX12_isLedTo_30 (by decide) ?_
  exact V.sub [1, 2, 3, 0] rfl (kI x4 (Option.some.inj H).symm)
def bX12_isLedTo_2 (u0 : Nat) (u1 : Int32) (u2 : Int32) (h : Hp) (s2 : Int32) : Option ((Int32) ⊕ ((Unit) ⊕ (Unit))) :=
if (16 : Int32) ≤ s2 then (
some (.inr (.inl ()))) else (
(fX12_has h u2 s2).bind fun x2 =>
if x2 = 0 then (
jX12_isLedTo_27 u0 u1 u2 s2 h) else (
(gO h 12 u0).bind fun _ =>
(fX12_isEdge h u0 s2 u1).bind fun x6 =>
if x6 = 0 then (
jX12_isLedTo_27 u0 u1 u2 s2 h) else (
some (.inr (.inr ())))))
set_option maxRecDepth 20000 in
set_option maxHeartbeats 4000000 in
theorem sbX12_isLedTo_2 {Γ : Gm} {d : Nat} (hd : 2 ≤ d) {u0 : Nat} {u1 : Int32} {u2 : Int32} {h : Hp} {s2 : Int32} {r : (Int32) ⊕ ((Unit) ⊕ (Unit))} {t : Option Value × Hp} (H : bX12_isLedTo_2 u0 u1 u2 h s2 = some r) (kI : ∀ s, r = .inl s → (fun s2 => V Γ d mX12_isLedTo 2 [(0, .ref u0), (1, .int u1), (2, .int u2), (3, .int s2)] [] h t) s) (kE : ∀ e, r = .inr e → (fun e => (match e with | .inl a0 => V Γ d mX12_isLedTo 33 [] [] h t | .inr b0 => V Γ d mX12_isLedTo 25 [] [] h t)) e) : V Γ d mX12_isLedTo 2 [(0, .ref u0), (1, .int u1), (2, .int u2), (3, .int s2)] [] h t := by
  unfold bX12_isLedTo_2 at H
  refine v_iload_n (q := 3) 3 dX12_isLedTo_2 rfl rfl rfl ?_
  refine v_bipush (v := 16) (q := 5) dX12_isLedTo_3 (by decide) rfl ?_
  refine v_icmp_ge (q1 := 33) (q2 := 8) dX12_isLedTo_5 (by decide) rfl (fun c1 => ?_) (fun c1 => ?_)
  · have H := ip c1 H
    exact V.sub [] rfl (kE (.inl ()) (Option.some.inj H).symm)
  · have H := ine c1 H
    refine v_iload_n (q := 9) 2 dX12_isLedTo_8 rfl rfl rfl ?_
    refine v_iload_n (q := 10) 3 dX12_isLedTo_9 rfl rfl rfl ?_
    obtain ⟨x2, x2e, H⟩ := bs H
    refine u_callS1 (M' := mX12_has) (d' := 1) (As := [.int u2, .int s2]) (st := []) (q := 13) oX12_has dX12_isLedTo_10 w1846 w1847 rfl (Nat.le_of_ble_eq_true rfl) (Nat.le_of_ble_eq_true rfl) (Nat.lt_of_lt_of_le (by decide) hd) rfl (sX12_has (Nat.le_refl _) x2e) rfl ?_
    refine v_if_eq (q1 := 27) (q2 := 16) dX12_isLedTo_13 (by decide) rfl (fun c3 => ?_) (fun c3 => ?_)
    · have H := ip c3 H
      exact V.sub [0, 1, 2, 3] rfl (sjX12_isLedTo_27 hd H kI kE)
    · have H := ine c3 H
      refine v_aload_n (q := 17) 0 dX12_isLedTo_16 rfl rfl rfl ?_
      refine v_iload_n (q := 18) 3 dX12_isLedTo_17 rfl rfl rfl ?_
      refine v_iload_n (q := 19) 1 dX12_isLedTo_18 rfl rfl rfl ?_
      obtain ⟨_, o5, H⟩ := bs H
      obtain ⟨x6, x6e, H⟩ := bs H
      refine u_callV1 (M' := mX12_isEdge) (d' := 1) (rc := (RX12, TX12, 58)) (As := [.int s2, .int u1]) (st := []) (q := 22) oX12_isEdge dX12_isLedTo_19 w1701 w1703 w0088 rfl rfl (gO_sp o5).1 (gO_sp o5).2 rfl (Nat.le_of_ble_eq_true rfl) (Nat.le_of_ble_eq_true rfl) (Nat.lt_of_lt_of_le (by decide) hd) rfl (sX12_isEdge (Nat.le_refl _) x6e) rfl ?_
      refine v_if_eq (q1 := 27) (q2 := 25) dX12_isLedTo_22 (by decide) rfl (fun c7 => ?_) (fun c7 => ?_)
      · have H := ip c7 H
        exact V.sub [0, 1, 2, 3] rfl (sjX12_isLedTo_27 hd H kI kE)
      · have H := ine c7 H
        exact V.sub [] rfl (kE (.inr ()) (Option.some.inj H).symm)
def fX12_isLedTo (h : Hp) (v0 : Nat) (v1 : Int32) (v2 : Int32) : Option (Int32) :=
(lp (bX12_isLedTo_2 v0 v1 v2 h) FU (0 : Int32)).bind fun e8 =>
(match e8 with
| .inl e9 => (
some (0 : Int32))
| .inr e10 => (
some (1 : Int32)))
set_option maxRecDepth 20000 in
set_option maxHeartbeats 4000000 in
theorem sX12_isLedTo {Γ : Gm} {d : Nat} (hd : 2 ≤ d) {h : Hp} {v0 : Nat} {v1 : Int32} {v2 : Int32} {r : Int32} (H : fX12_isLedTo h v0 v1 v2 = some r) : V Γ d mX12_isLedTo 0 [(0, .ref v0), (1, .int v1), (2, .int v2)] [] h (some (.int r), h) := by
  unfold fX12_isLedTo at H
  refine v_iconst (v := 0) (q := 1) dX12_isLedTo_0 (by decide) rfl ?_
  refine v_istore_n (L' := [(3, .int (0 : Int32)), (0, .ref v0), (1, .int v1), (2, .int v2)]) (q := 2) dX12_isLedTo_1 rfl (by decide) rfl rfl ?_
  obtain ⟨e8, e8L, H⟩ := bs H
  refine V.sub [1, 2, 3, 0] rfl ?_
  refine lp_V (P := (fun s2 => V Γ d mX12_isLedTo 2 [(0, .ref v0), (1, .int v1), (2, .int v2), (3, .int s2)] [] h (some (.int r), h))) (E := (fun e => (match e with | .inl a0 => V Γ d mX12_isLedTo 33 [] [] h (some (.int r), h) | .inr b0 => V Γ d mX12_isLedTo 25 [] [] h (some (.int r), h)))) (fun s r hb kI kE => sbX12_isLedTo_2 hd (s2 := s) (r := r) hb kI kE) FU (0 : Int32) e8 e8L ?_
  rcases e8 with e9 | e10
  · skip
    refine v_iconst (v := 0) (q := 34) dX12_isLedTo_33 (by decide) rfl ?_
    cases H
    exact v_zreturn rfl (by decide) dX12_isLedTo_34
  · skip
    refine v_iconst (v := 1) (q := 26) dX12_isLedTo_25 (by decide) rfl ?_
    cases H
    exact v_zreturn rfl (by decide) dX12_isLedTo_26
def mX12_layOrder : MI := (yX12_layOrder, cX12_layOrder, 5, some .int)
theorem oX12_layOrder : mOK mX12_layOrder 0 := ⟨by decide +kernel, by decide +kernel, by decide +kernel, by decide, w1943, w0150⟩
def jX12_layOrder_45 (u0 : Nat) (u2 : Int32) (u3 : Int32) (v4 : Int32) (y0 : Int32) (y1 : Int32) (h : Hp) : Option ((Int32 × Int32) ⊕ (Int32)) :=
(some (y1 ||| y0)).bind fun x6 =>
(some (v4 + (1 : Int32))).bind fun x7 =>
some (.inl (x6, x7))
set_option maxRecDepth 20000 in
set_option maxHeartbeats 4000000 in
theorem sjX12_layOrder_45 {Γ : Gm} {d : Nat} (hd : 3 ≤ d) {u0 : Nat} {u2 : Int32} {u3 : Int32} {v4 : Int32} {y0 : Int32} {y1 : Int32} {h : Hp} {r : (Int32 × Int32) ⊕ (Int32)} {t : Option Value × Hp} (H : jX12_layOrder_45 u0 u2 u3 v4 y0 y1 h = some r) (kI : ∀ s, r = .inl s → (fun s15 => V Γ d mX12_layOrder 15 [(0, .ref u0), (1, .int s15.1), (2, .int u2), (3, .int u3), (4, .int s15.2)] [] h t) s) (kE : ∀ e, r = .inr e → (fun e => V Γ d mX12_layOrder 53 [(0, .ref u0), (1, .int e), (2, .int u2), (3, .int u3)] [] h t) e) : V Γ d mX12_layOrder 45 [(0, .ref u0), (2, .int u2), (3, .int u3), (4, .int v4)] [.int y0, .int y1] h t := by
  unfold jX12_layOrder_45 at H
  refine v_ior (q := 46) dX12_layOrder_45 rfl ?_
  obtain ⟨x6, x6e, H⟩ := bs H
  refine v_topi (Option.some.inj x6e) ?_
  refine v_istore_n (L' := [(1, .int x6), (0, .ref u0), (2, .int u2), (3, .int u3), (4, .int v4)]) (q := 47) dX12_layOrder_46 rfl (by decide) rfl rfl ?_
  obtain ⟨x7, x7e, H⟩ := bs H
  refine v_iinc (v := x7) (L' := [(4, .int x7), (1, .int x6), (0, .ref u0), (2, .int u2), (3, .int u3)]) (q := 50) 4 dX12_layOrder_47 rfl (Option.some.inj x7e) (by decide) rfl rfl ?_
  refine v_goto (q := 15) dX12_layOrder_50 (by decide) ?_
  exact V.sub [2, 1, 3, 4, 0] rfl (kI (x6, x7) (Option.some.inj H).symm)
def bX12_layOrder_15 (u0 : Nat) (u2 : Int32) (u3 : Int32) (h : Hp) (s15 : Int32 × Int32) : Option ((Int32 × Int32) ⊕ (Int32)) :=
if (16 : Int32) ≤ s15.2 then (
some (.inr s15.1)) else (
(gO h 12 u0).bind fun _ =>
(fX12_isEdge h u0 u3 s15.2).bind fun x4 =>
if x4 = 0 then (
jX12_layOrder_45 u0 u2 u3 s15.2 (0 : Int32) s15.1 h) else (
jX12_layOrder_45 u0 u2 u3 s15.2 (((1 : Int32) <<< (u3 &&& 31)) ||| ((1 : Int32) <<< (s15.2 &&& 31))) s15.1 h))
set_option maxRecDepth 20000 in
set_option maxHeartbeats 4000000 in
theorem sbX12_layOrder_15 {Γ : Gm} {d : Nat} (hd : 3 ≤ d) {u0 : Nat} {u2 : Int32} {u3 : Int32} {h : Hp} {s15 : Int32 × Int32} {r : (Int32 × Int32) ⊕ (Int32)} {t : Option Value × Hp} (H : bX12_layOrder_15 u0 u2 u3 h s15 = some r) (kI : ∀ s, r = .inl s → (fun s15 => V Γ d mX12_layOrder 15 [(0, .ref u0), (1, .int s15.1), (2, .int u2), (3, .int u3), (4, .int s15.2)] [] h t) s) (kE : ∀ e, r = .inr e → (fun e => V Γ d mX12_layOrder 53 [(0, .ref u0), (1, .int e), (2, .int u2), (3, .int u3)] [] h t) e) : V Γ d mX12_layOrder 15 [(0, .ref u0), (1, .int s15.1), (2, .int u2), (3, .int u3), (4, .int s15.2)] [] h t := by
  unfold bX12_layOrder_15 at H
  refine v_iload (q := 17) 4 dX12_layOrder_15 rfl rfl ?_
  refine v_bipush (v := 16) (q := 19) dX12_layOrder_17 (by decide) rfl ?_
  refine v_icmp_ge (q1 := 53) (q2 := 22) dX12_layOrder_19 (by decide) rfl (fun c2 => ?_) (fun c2 => ?_)
  · have H := ip c2 H
    exact V.sub [0, 1, 2, 3] rfl (kE s15.1 (Option.some.inj H).symm)
  · have H := ine c2 H
    refine v_iload_n (q := 23) 1 dX12_layOrder_22 rfl rfl rfl ?_
    refine v_aload_n (q := 24) 0 dX12_layOrder_23 rfl rfl rfl ?_
    refine v_iload_n (q := 25) 3 dX12_layOrder_24 rfl rfl rfl ?_
    refine v_iload (q := 27) 4 dX12_layOrder_25 rfl rfl ?_
    obtain ⟨_, o3, H⟩ := bs H
    obtain ⟨x4, x4e, H⟩ := bs H
    refine u_callV1 (M' := mX12_isEdge) (d' := 1) (rc := (RX12, TX12, 58)) (As := [.int u3, .int s15.2]) (st := [.int s15.1]) (q := 30) oX12_isEdge dX12_layOrder_27 w1701 w1703 w0088 rfl rfl (gO_sp o3).1 (gO_sp o3).2 rfl (Nat.le_of_ble_eq_true rfl) (Nat.le_of_ble_eq_true rfl) (Nat.lt_of_lt_of_le (by decide) hd) rfl (sX12_isEdge (Nat.le_refl _) x4e) rfl ?_
    refine v_if_eq (q1 := 44) (q2 := 33) dX12_layOrder_30 (by decide) rfl (fun c5 => ?_) (fun c5 => ?_)
    · have H := ip c5 H
      refine v_iconst (v := 0) (q := 45) dX12_layOrder_44 (by decide) rfl ?_
      exact V.sub [0, 2, 3, 4] rfl (sjX12_layOrder_45 hd H kI kE)
    · have H := ine c5 H
      refine v_iconst (v := 1) (q := 34) dX12_layOrder_33 (by decide) rfl ?_
      refine v_iload_n (q := 35) 3 dX12_layOrder_34 rfl rfl rfl ?_
      refine v_ishl (q := 36) dX12_layOrder_35 rfl ?_
      refine v_iconst (v := 1) (q := 37) dX12_layOrder_36 (by decide) rfl ?_
      refine v_iload (q := 39) 4 dX12_layOrder_37 rfl rfl ?_
      refine v_ishl (q := 40) dX12_layOrder_39 rfl ?_
      refine v_ior (q := 41) dX12_layOrder_40 rfl ?_
      refine v_goto (q := 45) dX12_layOrder_41 (by decide) ?_
      exact V.sub [0, 2, 3, 4] rfl (sjX12_layOrder_45 hd H kI kE)
def bX12_layOrder_6 (u0 : Nat) (u2 : Int32) (h : Hp) (s6 : Int32 × Int32) : Option ((Int32 × Int32) ⊕ (Int32)) :=
if (16 : Int32) ≤ s6.2 then (
some (.inr s6.1)) else (
(lp (bX12_layOrder_15 u0 u2 s6.2 h) FU (s6.1, (0 : Int32))).bind fun e8 =>
(some (s6.2 + (1 : Int32))).bind fun x9 =>
some (.inl (e8, x9)))
set_option maxRecDepth 20000 in
set_option maxHeartbeats 4000000 in
theorem sbX12_layOrder_6 {Γ : Gm} {d : Nat} (hd : 3 ≤ d) {u0 : Nat} {u2 : Int32} {h : Hp} {s6 : Int32 × Int32} {r : (Int32 × Int32) ⊕ (Int32)} {t : Option Value × Hp} (H : bX12_layOrder_6 u0 u2 h s6 = some r) (kI : ∀ s, r = .inl s → (fun s6 => V Γ d mX12_layOrder 6 [(0, .ref u0), (1, .int s6.1), (2, .int u2), (3, .int s6.2)] [] h t) s) (kE : ∀ e, r = .inr e → (fun e => V Γ d mX12_layOrder 59 [(0, .ref u0), (1, .int e), (2, .int u2)] [] h t) e) : V Γ d mX12_layOrder 6 [(0, .ref u0), (1, .int s6.1), (2, .int u2), (3, .int s6.2)] [] h t := by
  unfold bX12_layOrder_6 at H
  refine v_iload_n (q := 7) 3 dX12_layOrder_6 rfl rfl rfl ?_
  refine v_bipush (v := 16) (q := 9) dX12_layOrder_7 (by decide) rfl ?_
  refine v_icmp_ge (q1 := 59) (q2 := 12) dX12_layOrder_9 (by decide) rfl (fun c1 => ?_) (fun c1 => ?_)
  · have H := ip c1 H
    exact V.sub [0, 1, 2] rfl (kE s6.1 (Option.some.inj H).symm)
  · have H := ine c1 H
    refine v_iconst (v := 0) (q := 13) dX12_layOrder_12 (by decide) rfl ?_
    refine v_istore (L' := [(4, .int (0 : Int32)), (0, .ref u0), (1, .int s6.1), (2, .int u2), (3, .int s6.2)]) (q := 15) dX12_layOrder_13 (by decide) rfl rfl ?_
    obtain ⟨e8, e8L, H⟩ := bs H
    refine V.sub [1, 2, 3, 4, 0] rfl ?_
    refine lp_V (P := (fun s15 => V Γ d mX12_layOrder 15 [(0, .ref u0), (1, .int s15.1), (2, .int u2), (3, .int s6.2), (4, .int s15.2)] [] h t)) (E := (fun e => V Γ d mX12_layOrder 53 [(0, .ref u0), (1, .int e), (2, .int u2), (3, .int s6.2)] [] h t)) (fun s r hb kI kE => sbX12_layOrder_15 hd (s15 := s) (r := r) hb kI kE) FU (s6.1, (0 : Int32)) e8 e8L ?_
    obtain ⟨x9, x9e, H⟩ := bs H
    refine v_iinc (v := x9) (L' := [(3, .int x9), (0, .ref u0), (1, .int e8), (2, .int u2)]) (q := 56) 3 dX12_layOrder_53 rfl (Option.some.inj x9e) (by decide) rfl rfl ?_
    refine v_goto (q := 6) dX12_layOrder_56 (by decide) ?_
    exact V.sub [1, 2, 3, 0] rfl (kI (e8, x9) (Option.some.inj H).symm)
def jX12_layOrder_88 (u0 : Nat) (u1 : Int32) (u2 : Int32) (v3 : Int32) (h : Hp) : Option ((Int32) ⊕ (Int32)) :=
(some (v3 + (1 : Int32))).bind fun x15 =>
some (.inl x15)
set_option maxRecDepth 20000 in
set_option maxHeartbeats 4000000 in
theorem sjX12_layOrder_88 {Γ : Gm} {d : Nat} (hd : 3 ≤ d) {u0 : Nat} {u1 : Int32} {u2 : Int32} {v3 : Int32} {h : Hp} {r : (Int32) ⊕ (Int32)} {t : Option Value × Hp} (H : jX12_layOrder_88 u0 u1 u2 v3 h = some r) (kI : ∀ s, r = .inl s → (fun s65 => V Γ d mX12_layOrder 65 [(0, .ref u0), (1, .int u1), (2, .int u2), (3, .int s65)] [] h t) s) (kE : ∀ e, r = .inr e → (fun e => V Γ d mX12_layOrder 94 [(0, .ref u0), (1, .int u1), (2, .int u2), (3, .int e)] [] h t) e) : V Γ d mX12_layOrder 88 [(0, .ref u0), (1, .int u1), (2, .int u2), (3, .int v3)] [] h t := by
  unfold jX12_layOrder_88 at H
  obtain ⟨x15, x15e, H⟩ := bs H
  refine v_iinc (v := x15) (L' := [(3, .int x15), (0, .ref u0), (1, .int u1), (2, .int u2)]) (q := 91) 3 dX12_layOrder_88 rfl (Option.some.inj x15e) (by decide) rfl rfl ?_
  refine v_goto (q := 65) dX12_layOrder_91 (by decide) ?_
  exact V.sub [1, 2, 3, 0] rfl (kI x15 (Option.some.inj H).symm)
def bX12_layOrder_65 (u0 : Nat) (u1 : Int32) (u2 : Int32) (h : Hp) (s65 : Int32) : Option ((Int32) ⊕ (Int32)) :=
if (16 : Int32) ≤ s65 then (
some (.inr s65)) else (
(fX12_has h u1 s65).bind fun x13 =>
if x13 = 0 then (
jX12_layOrder_88 u0 u1 u2 s65 h) else (
(gO h 12 u0).bind fun _ =>
(fX12_isLedTo h u0 s65 u1).bind fun x17 =>
if x17 = 0 then (
some (.inr s65)) else (
jX12_layOrder_88 u0 u1 u2 s65 h)))
set_option maxRecDepth 20000 in
set_option maxHeartbeats 4000000 in
theorem sbX12_layOrder_65 {Γ : Gm} {d : Nat} (hd : 3 ≤ d) {u0 : Nat} {u1 : Int32} {u2 : Int32} {h : Hp} {s65 : Int32} {r : (Int32) ⊕ (Int32)} {t : Option Value × Hp} (H : bX12_layOrder_65 u0 u1 u2 h s65 = some r) (kI : ∀ s, r = .inl s → (fun s65 => V Γ d mX12_layOrder 65 [(0, .ref u0), (1, .int u1), (2, .int u2), (3, .int s65)] [] h t) s) (kE : ∀ e, r = .inr e → (fun e => V Γ d mX12_layOrder 94 [(0, .ref u0), (1, .int u1), (2, .int u2), (3, .int e)] [] h t) e) : V Γ d mX12_layOrder 65 [(0, .ref u0), (1, .int u1), (2, .int u2), (3, .int s65)] [] h t := by
  unfold bX12_layOrder_65 at H
  refine v_iload_n (q := 66) 3 dX12_layOrder_65 rfl rfl rfl ?_
  refine v_bipush (v := 16) (q := 68) dX12_layOrder_66 (by decide) rfl ?_
  refine v_icmp_ge (q1 := 94) (q2 := 71) dX12_layOrder_68 (by decide) rfl (fun c12 => ?_) (fun c12 => ?_)
  · have H := ip c12 H
    exact V.sub [0, 1, 2, 3] rfl (kE s65 (Option.some.inj H).symm)
  · have H := ine c12 H
    refine v_iload_n (q := 72) 1 dX12_layOrder_71 rfl rfl rfl ?_
    refine v_iload_n (q := 73) 3 dX12_layOrder_72 rfl rfl rfl ?_
    obtain ⟨x13, x13e, H⟩ := bs H
    refine u_callS1 (M' := mX12_has) (d' := 1) (As := [.int u1, .int s65]) (st := []) (q := 76) oX12_has dX12_layOrder_73 w1846 w1847 rfl (Nat.le_of_ble_eq_true rfl) (Nat.le_of_ble_eq_true rfl) (Nat.lt_of_lt_of_le (by decide) hd) rfl (sX12_has (Nat.le_refl _) x13e) rfl ?_
    refine v_if_eq (q1 := 88) (q2 := 79) dX12_layOrder_76 (by decide) rfl (fun c14 => ?_) (fun c14 => ?_)
    · have H := ip c14 H
      exact V.sub [0, 1, 2, 3] rfl (sjX12_layOrder_88 hd H kI kE)
    · have H := ine c14 H
      refine v_aload_n (q := 80) 0 dX12_layOrder_79 rfl rfl rfl ?_
      refine v_iload_n (q := 81) 3 dX12_layOrder_80 rfl rfl rfl ?_
      refine v_iload_n (q := 82) 1 dX12_layOrder_81 rfl rfl rfl ?_
      obtain ⟨_, o16, H⟩ := bs H
      obtain ⟨x17, x17e, H⟩ := bs H
      refine u_callV1 (M' := mX12_isLedTo) (d' := 2) (rc := (RX12, TX12, 58)) (As := [.int s65, .int u1]) (st := []) (q := 85) oX12_isLedTo dX12_layOrder_82 w1944 w1946 w0128 rfl rfl (gO_sp o16).1 (gO_sp o16).2 rfl (Nat.le_of_ble_eq_true rfl) (Nat.le_of_ble_eq_true rfl) (Nat.lt_of_lt_of_le (by decide) hd) rfl (sX12_isLedTo (Nat.le_refl _) x17e) rfl ?_
      refine v_if_eq (q1 := 94) (q2 := 88) dX12_layOrder_85 (by decide) rfl (fun c18 => ?_) (fun c18 => ?_)
      · have H := ip c18 H
        exact V.sub [0, 1, 2, 3] rfl (kE s65 (Option.some.inj H).symm)
      · have H := ine c18 H
        exact V.sub [0, 1, 2, 3] rfl (sjX12_layOrder_88 hd H kI kE)
def bX12_layOrder_59 (u0 : Nat) (s59 : Int32 × Int32 × Hp) : Option ((Int32 × Int32 × Hp) ⊕ ((Int32 × Hp) ⊕ (Hp))) :=
if s59.1 = 0 then (
some (.inr (.inl (s59.2.1, s59.2.2)))) else (
(lp (bX12_layOrder_65 u0 s59.1 s59.2.1 s59.2.2) FU (0 : Int32)).bind fun e19 =>
if e19 = (16 : Int32) then (
some (.inr (.inr s59.2.2))) else (
(gR s59.2.2 12 u0 33).bind fun x21 =>
(tI s59.2.2 x21 s59.2.1 e19).bind fun h22 =>
(some (s59.2.1 + (1 : Int32))).bind fun x23 =>
(some (s59.1 &&& (((1 : Int32) <<< (e19 &&& 31)) ^^^ (-1 : Int32)))).bind fun x24 =>
some (.inl (x24, x23, h22))))
set_option maxRecDepth 20000 in
set_option maxHeartbeats 4000000 in
theorem sbX12_layOrder_59 {Γ : Gm} {d : Nat} (hd : 3 ≤ d) {u0 : Nat} {s59 : Int32 × Int32 × Hp} {r : (Int32 × Int32 × Hp) ⊕ ((Int32 × Hp) ⊕ (Hp))} {t : Option Value × Hp} (H : bX12_layOrder_59 u0 s59 = some r) (kI : ∀ s, r = .inl s → (fun s59 => V Γ d mX12_layOrder 59 [(0, .ref u0), (1, .int s59.1), (2, .int s59.2.1)] [] s59.2.2 t) s) (kE : ∀ e, r = .inr e → (fun e => (match e with | .inl a0 => V Γ d mX12_layOrder 123 [(2, .int a0.1)] [] a0.2 t | .inr b0 => V Γ d mX12_layOrder 100 [] [] b0 t)) e) : V Γ d mX12_layOrder 59 [(0, .ref u0), (1, .int s59.1), (2, .int s59.2.1)] [] s59.2.2 t := by
  unfold bX12_layOrder_59 at H
  refine v_iload_n (q := 60) 1 dX12_layOrder_59 rfl rfl rfl ?_
  refine v_if_eq (q1 := 123) (q2 := 63) dX12_layOrder_60 (by decide) rfl (fun c11 => ?_) (fun c11 => ?_)
  · have H := ip c11 H
    exact V.sub [2] rfl (kE (.inl (s59.2.1, s59.2.2)) (Option.some.inj H).symm)
  · have H := ine c11 H
    refine v_iconst (v := 0) (q := 64) dX12_layOrder_63 (by decide) rfl ?_
    refine v_istore_n (L' := [(3, .int (0 : Int32)), (0, .ref u0), (1, .int s59.1), (2, .int s59.2.1)]) (q := 65) dX12_layOrder_64 rfl (by decide) rfl rfl ?_
    obtain ⟨e19, e19L, H⟩ := bs H
    refine V.sub [1, 2, 3, 0] rfl ?_
    refine lp_V (P := (fun s65 => V Γ d mX12_layOrder 65 [(0, .ref u0), (1, .int s59.1), (2, .int s59.2.1), (3, .int s65)] [] s59.2.2 t)) (E := (fun e => V Γ d mX12_layOrder 94 [(0, .ref u0), (1, .int s59.1), (2, .int s59.2.1), (3, .int e)] [] s59.2.2 t)) (fun s r hb kI kE => sbX12_layOrder_65 hd (s65 := s) (r := r) hb kI kE) FU (0 : Int32) e19 e19L ?_
    refine v_iload_n (q := 95) 3 dX12_layOrder_94 rfl rfl rfl ?_
    refine v_bipush (v := 16) (q := 97) dX12_layOrder_95 (by decide) rfl ?_
    refine v_icmp_ne (q1 := 102) (q2 := 100) dX12_layOrder_97 (by decide) rfl (fun c20 => ?_) (fun c20 => ?_)
    · have H := ine c20 H
      refine v_aload_n (q := 103) 0 dX12_layOrder_102 rfl rfl rfl ?_
      obtain ⟨x21, x21e, H⟩ := bs H
      refine u_gR (q := 106) (r := (RX12, TX12, 58)) x21e dX12_layOrder_103 w1389 rfl (by decide) rfl rfl ?_
      refine v_iload_n (q := 107) 2 dX12_layOrder_106 rfl rfl rfl ?_
      refine v_iload_n (q := 108) 3 dX12_layOrder_107 rfl rfl rfl ?_
      obtain ⟨h22, h22e, H⟩ := bs H
      refine u_tI (q := 109) h22e dX12_layOrder_108 rfl ?_
      obtain ⟨x23, x23e, H⟩ := bs H
      refine v_iinc (v := x23) (L' := [(2, .int x23), (0, .ref u0), (1, .int s59.1), (3, .int e19)]) (q := 112) 2 dX12_layOrder_109 rfl (Option.some.inj x23e) (by decide) rfl rfl ?_
      refine v_iload_n (q := 113) 2 dX12_layOrder_112 rfl rfl rfl ?_
      refine v_iconst (v := 1) (q := 114) dX12_layOrder_113 (by decide) rfl ?_
      refine v_iload_n (q := 115) 3 dX12_layOrder_114 rfl rfl rfl ?_
      refine v_ishl (q := 116) dX12_layOrder_115 rfl ?_
      refine v_iconst (v := -1) (q := 117) dX12_layOrder_116 (by decide) rfl ?_
      refine v_ixor (q := 118) dX12_layOrder_117 rfl ?_
      refine v_iand (q := 119) dX12_layOrder_118 rfl ?_
      obtain ⟨x24, x24e, H⟩ := bs H
      refine v_topi (Option.some.inj x24e) ?_
      refine v_istore_n (L' := [(1, .int x24), (2, .int x23), (0, .ref u0), (3, .int e19)]) (q := 120) dX12_layOrder_119 rfl (by decide) rfl rfl ?_
      refine v_goto (q := 59) dX12_layOrder_120 (by decide) ?_
      exact V.sub [2, 0, 1] rfl (kI (x24, x23, h22) (Option.some.inj H).symm)
    · have H := ip c20 H
      exact V.sub [] rfl (kE (.inr s59.2.2) (Option.some.inj H).symm)
def fX12_layOrder (h : Hp) (v0 : Nat) : Option (Int32 × Hp) :=
(lp (bX12_layOrder_6 v0 (0 : Int32) h) FU ((0 : Int32), (0 : Int32))).bind fun e10 =>
(lp (bX12_layOrder_59 v0) FU (e10, (0 : Int32), h)).bind fun e25 =>
(match e25 with
| .inl e26 => (
some (e26.1, e26.2))
| .inr e27 => (
some (((-1 : Int32), e27))))
set_option maxRecDepth 20000 in
set_option maxHeartbeats 4000000 in
theorem sX12_layOrder {Γ : Gm} {d : Nat} (hd : 3 ≤ d) {h : Hp} {v0 : Nat} {r : Int32 × Hp} (H : fX12_layOrder h v0 = some r) : V Γ d mX12_layOrder 0 [(0, .ref v0)] [] h (some (.int r.1), r.2) := by
  unfold fX12_layOrder at H
  refine v_iconst (v := 0) (q := 1) dX12_layOrder_0 (by decide) rfl ?_
  refine v_istore_n (L' := [(1, .int (0 : Int32)), (0, .ref v0)]) (q := 2) dX12_layOrder_1 rfl (by decide) rfl rfl ?_
  refine v_iconst (v := 0) (q := 3) dX12_layOrder_2 (by decide) rfl ?_
  refine v_istore_n (L' := [(2, .int (0 : Int32)), (1, .int (0 : Int32)), (0, .ref v0)]) (q := 4) dX12_layOrder_3 rfl (by decide) rfl rfl ?_
  refine v_iconst (v := 0) (q := 5) dX12_layOrder_4 (by decide) rfl ?_
  refine v_istore_n (L' := [(3, .int (0 : Int32)), (2, .int (0 : Int32)), (1, .int (0 : Int32)), (0, .ref v0)]) (q := 6) dX12_layOrder_5 rfl (by decide) rfl rfl ?_
  obtain ⟨e10, e10L, H⟩ := bs H
  refine V.sub [3, 2, 1, 0] rfl ?_
  refine lp_V (P := (fun s6 => V Γ d mX12_layOrder 6 [(0, .ref v0), (1, .int s6.1), (2, .int (0 : Int32)), (3, .int s6.2)] [] h (some (.int r.1), r.2))) (E := (fun e => V Γ d mX12_layOrder 59 [(0, .ref v0), (1, .int e), (2, .int (0 : Int32))] [] h (some (.int r.1), r.2))) (fun s r hb kI kE => sbX12_layOrder_6 hd (s6 := s) (r := r) hb kI kE) FU ((0 : Int32), (0 : Int32)) e10 e10L ?_
  obtain ⟨e25, e25L, H⟩ := bs H
  refine V.sub [0, 1, 2] rfl ?_
  refine lp_V (P := (fun s59 => V Γ d mX12_layOrder 59 [(0, .ref v0), (1, .int s59.1), (2, .int s59.2.1)] [] s59.2.2 (some (.int r.1), r.2))) (E := (fun e => (match e with | .inl a0 => V Γ d mX12_layOrder 123 [(2, .int a0.1)] [] a0.2 (some (.int r.1), r.2) | .inr b0 => V Γ d mX12_layOrder 100 [] [] b0 (some (.int r.1), r.2)))) (fun s r hb kI kE => sbX12_layOrder_59 hd (s59 := s) (r := r) hb kI kE) FU (e10, (0 : Int32), h) e25 e25L ?_
  rcases e25 with e26 | e27
  · skip
    refine v_iload_n (q := 124) 0 dX12_layOrder_123 rfl rfl rfl ?_
    cases H
    exact v_ireturn rfl dX12_layOrder_124
  · skip
    refine v_iconst (v := -1) (q := 101) dX12_layOrder_100 (by decide) rfl ?_
    cases H
    exact v_ireturn rfl dX12_layOrder_101

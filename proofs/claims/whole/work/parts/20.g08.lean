def mX12_placeHeld : MI := (yX12_placeHeld, cX12_placeHeld, 3, some .int)
theorem oX12_placeHeld : mOK mX12_placeHeld 1 := ⟨by decide +kernel, by decide +kernel, by decide +kernel, by decide, w1661, w0150⟩
def bX12_placeHeld_2 (u0 : Nat) (u1 : Int32) (h : Hp) (s2 : Int32) : Option ((Int32) ⊕ ((Unit) ⊕ (Int32))) :=
(gI h 12 u0 31).bind fun x1 =>
if x1 ≤ s2 then (
some (.inr (.inl ()))) else (
(gR h 12 u0 29).bind fun x3 =>
(lI h .int x3 s2).bind fun x4 =>
if x4 = u1 then (
some (.inr (.inr s2))) else (
(some (s2 + (1 : Int32))).bind fun x6 =>
some (.inl x6)))
set_option maxRecDepth 20000 in
set_option maxHeartbeats 4000000 in
theorem sbX12_placeHeld_2 {Γ : Gm} {d : Nat} (hd : 1 ≤ d) {u0 : Nat} {u1 : Int32} {h : Hp} {s2 : Int32} {r : (Int32) ⊕ ((Unit) ⊕ (Int32))} {t : Option Value × Hp} (H : bX12_placeHeld_2 u0 u1 h s2 = some r) (kI : ∀ s, r = .inl s → (fun s2 => V Γ d mX12_placeHeld 2 [(0, .ref u0), (1, .int u1), (2, .int s2)] [] h t) s) (kE : ∀ e, r = .inr e → (fun e => (match e with | .inl a0 => V Γ d mX12_placeHeld 28 [] [] h t | .inr b0 => V Γ d mX12_placeHeld 20 [(2, .int b0)] [] h t)) e) : V Γ d mX12_placeHeld 2 [(0, .ref u0), (1, .int u1), (2, .int s2)] [] h t := by
  unfold bX12_placeHeld_2 at H
  refine v_iload_n (q := 3) 2 dX12_placeHeld_2 rfl rfl rfl ?_
  refine v_aload_n (q := 4) 0 dX12_placeHeld_3 rfl rfl rfl ?_
  obtain ⟨x1, x1e, H⟩ := bs H
  refine u_gI (q := 7) (r := (RX12, TX12, 58)) x1e dX12_placeHeld_4 w1387 rfl (by decide) rfl rfl ?_
  refine v_icmp_ge (q1 := 28) (q2 := 10) dX12_placeHeld_7 (by decide) rfl (fun c2 => ?_) (fun c2 => ?_)
  · have H := ip c2 H
    exact V.sub [] rfl (kE (.inl ()) (Option.some.inj H).symm)
  · have H := ine c2 H
    refine v_aload_n (q := 11) 0 dX12_placeHeld_10 rfl rfl rfl ?_
    obtain ⟨x3, x3e, H⟩ := bs H
    refine u_gR (q := 14) (r := (RX12, TX12, 58)) x3e dX12_placeHeld_11 w1385 rfl (by decide) rfl rfl ?_
    refine v_iload_n (q := 15) 2 dX12_placeHeld_14 rfl rfl rfl ?_
    obtain ⟨x4, x4e, H⟩ := bs H
    refine u_lI (q := 16) x4e dX12_placeHeld_15 rfl ?_
    refine v_iload_n (q := 17) 1 dX12_placeHeld_16 rfl rfl rfl ?_
    refine v_icmp_ne (q1 := 22) (q2 := 20) dX12_placeHeld_17 (by decide) rfl (fun c5 => ?_) (fun c5 => ?_)
    · have H := ine c5 H
      obtain ⟨x6, x6e, H⟩ := bs H
      refine v_iinc (v := x6) (L' := [(2, .int x6), (0, .ref u0), (1, .int u1)]) (q := 25) 2 dX12_placeHeld_22 rfl (Option.some.inj x6e) (by decide) rfl rfl ?_
      refine v_goto (q := 2) dX12_placeHeld_25 (by decide) ?_
      exact V.sub [1, 2, 0] rfl (kI x6 (Option.some.inj H).symm)
    · have H := ip c5 H
      exact V.sub [2] rfl (kE (.inr s2) (Option.some.inj H).symm)
def fX12_placeHeld (h : Hp) (v0 : Nat) (v1 : Int32) : Option (Int32) :=
(lp (bX12_placeHeld_2 v0 v1 h) FU (0 : Int32)).bind fun e7 =>
(match e7 with
| .inl e8 => (
some (-1 : Int32))
| .inr e9 => (
some e9))
set_option maxRecDepth 20000 in
set_option maxHeartbeats 4000000 in
theorem sX12_placeHeld {Γ : Gm} {d : Nat} (hd : 1 ≤ d) {h : Hp} {v0 : Nat} {v1 : Int32} {r : Int32} (H : fX12_placeHeld h v0 v1 = some r) : V Γ d mX12_placeHeld 0 [(0, .ref v0), (1, .int v1)] [] h (some (.int r), h) := by
  unfold fX12_placeHeld at H
  refine v_iconst (v := 0) (q := 1) dX12_placeHeld_0 (by decide) rfl ?_
  refine v_istore_n (L' := [(2, .int (0 : Int32)), (0, .ref v0), (1, .int v1)]) (q := 2) dX12_placeHeld_1 rfl (by decide) rfl rfl ?_
  obtain ⟨e7, e7L, H⟩ := bs H
  refine V.sub [1, 2, 0] rfl ?_
  refine lp_V (P := (fun s2 => V Γ d mX12_placeHeld 2 [(0, .ref v0), (1, .int v1), (2, .int s2)] [] h (some (.int r), h))) (E := (fun e => (match e with | .inl a0 => V Γ d mX12_placeHeld 28 [] [] h (some (.int r), h) | .inr b0 => V Γ d mX12_placeHeld 20 [(2, .int b0)] [] h (some (.int r), h)))) (fun s r hb kI kE => sbX12_placeHeld_2 hd (s2 := s) (r := r) hb kI kE) FU (0 : Int32) e7 e7L ?_
  rcases e7 with e8 | e9
  · skip
    refine v_iconst (v := -1) (q := 29) dX12_placeHeld_28 (by decide) rfl ?_
    cases H
    exact v_ireturn rfl dX12_placeHeld_29
  · skip
    refine v_iload_n (q := 21) 0 dX12_placeHeld_20 rfl rfl rfl ?_
    cases H
    exact v_ireturn rfl dX12_placeHeld_21
def mX12_atReport : MI := (yX12_atReport, cX12_atReport, 2, some .int)
theorem oX12_atReport : mOK mX12_atReport 2 := ⟨by decide +kernel, by decide +kernel, by decide +kernel, by decide, w1672, w0150⟩
def fX12_atReport (h : Hp) (v0 : Int32) (v1 : Int32) : Option (Int32) :=
some (((273 : Int32) + ((21 : Int32) * v0)) + v1)
set_option maxRecDepth 20000 in
set_option maxHeartbeats 4000000 in
theorem sX12_atReport {Γ : Gm} {d : Nat} (hd : 1 ≤ d) {h : Hp} {v0 : Int32} {v1 : Int32} {r : Int32} (H : fX12_atReport h v0 v1 = some r) : V Γ d mX12_atReport 0 [(0, .int v0), (1, .int v1)] [] h (some (.int r), h) := by
  unfold fX12_atReport at H
  refine v_sipush (v := 273) (q := 3) dX12_atReport_0 (by decide) rfl ?_
  refine v_bipush (v := 21) (q := 5) dX12_atReport_3 (by decide) rfl ?_
  refine v_iload_n (q := 6) 0 dX12_atReport_5 rfl rfl rfl ?_
  refine v_imul (q := 7) dX12_atReport_6 rfl ?_
  refine v_iadd (q := 8) dX12_atReport_7 rfl ?_
  refine v_iload_n (q := 9) 1 dX12_atReport_8 rfl rfl rfl ?_
  refine v_iadd (q := 10) dX12_atReport_9 rfl ?_
  cases H
  exact v_ireturn rfl dX12_atReport_10
def mX12_report : MI := (yX12_report, cX12_report, 7, none)
theorem oX12_report : mOK mX12_report 4 := ⟨by decide +kernel, by decide +kernel, by decide +kernel, by decide, w1669, w0150⟩
def bX12_report_76 (u0 : Nat) (u4 : Int32) (u5 : Int32) (s76 : Int32 × Hp) : Option ((Int32 × Hp) ⊕ (Hp)) :=
if u4 ≤ s76.1 then (
some (.inr s76.2)) else (
(gR s76.2 12 u0 0).bind fun x19 =>
(fX12_atReport s76.2 u5 ((4 : Int32) + s76.1)).bind fun x20 =>
(gR s76.2 12 u0 28).bind fun x21 =>
(lI s76.2 .int x21 s76.1).bind fun x22 =>
(tI s76.2 x19 x20 x22).bind fun h23 =>
(some (s76.1 + (1 : Int32))).bind fun x24 =>
some (.inl (x24, h23)))
set_option maxRecDepth 20000 in
set_option maxHeartbeats 4000000 in
theorem sbX12_report_76 {Γ : Gm} {d : Nat} (hd : 2 ≤ d) {u0 : Nat} {u4 : Int32} {u5 : Int32} {s76 : Int32 × Hp} {r : (Int32 × Hp) ⊕ (Hp)} {t : Option Value × Hp} (H : bX12_report_76 u0 u4 u5 s76 = some r) (kI : ∀ s, r = .inl s → (fun s76 => V Γ d mX12_report 76 [(0, .ref u0), (4, .int u4), (5, .int u5), (6, .int s76.1)] [] s76.2 t) s) (kE : ∀ e, r = .inr e → (fun e => V Γ d mX12_report 110 [(0, .ref u0)] [] e t) e) : V Γ d mX12_report 76 [(0, .ref u0), (4, .int u4), (5, .int u5), (6, .int s76.1)] [] s76.2 t := by
  unfold bX12_report_76 at H
  refine v_iload (q := 78) 3 dX12_report_76 rfl rfl ?_
  refine v_iload (q := 80) 1 dX12_report_78 rfl rfl ?_
  refine v_icmp_ge (q1 := 110) (q2 := 83) dX12_report_80 (by decide) rfl (fun c18 => ?_) (fun c18 => ?_)
  · have H := ip c18 H
    exact V.sub [0] rfl (kE s76.2 (Option.some.inj H).symm)
  · have H := ine c18 H
    refine v_aload_n (q := 84) 0 dX12_report_83 rfl rfl rfl ?_
    obtain ⟨x19, x19e, H⟩ := bs H
    refine u_gR (q := 87) (r := (RX12, TX12, 58)) x19e dX12_report_84 w1356 rfl (by decide) rfl rfl ?_
    refine v_iload (q := 89) 2 dX12_report_87 rfl rfl ?_
    refine v_iconst (v := 4) (q := 90) dX12_report_89 (by decide) rfl ?_
    refine v_iload (q := 92) 3 dX12_report_90 rfl rfl ?_
    refine v_iadd (q := 93) dX12_report_92 rfl ?_
    obtain ⟨x20, x20e, H⟩ := bs H
    refine u_callS1 (M' := mX12_atReport) (d' := 1) (As := [.int u5, .int ((4 : Int32) + s76.1)]) (st := [.ref x19]) (q := 96) oX12_atReport dX12_report_93 w1670 w1671 rfl (Nat.le_of_ble_eq_true rfl) (Nat.le_of_ble_eq_true rfl) (Nat.lt_of_lt_of_le (by decide) hd) rfl (sX12_atReport (Nat.le_refl _) x20e) rfl ?_
    refine v_aload_n (q := 97) 0 dX12_report_96 rfl rfl rfl ?_
    obtain ⟨x21, x21e, H⟩ := bs H
    refine u_gR (q := 100) (r := (RX12, TX12, 58)) x21e dX12_report_97 w1384 rfl (by decide) rfl rfl ?_
    refine v_iload (q := 102) 3 dX12_report_100 rfl rfl ?_
    obtain ⟨x22, x22e, H⟩ := bs H
    refine u_lI (q := 103) x22e dX12_report_102 rfl ?_
    obtain ⟨h23, h23e, H⟩ := bs H
    refine u_tI (q := 104) h23e dX12_report_103 rfl ?_
    obtain ⟨x24, x24e, H⟩ := bs H
    refine v_iinc (v := x24) (L' := [(6, .int x24), (0, .ref u0), (4, .int u4), (5, .int u5)]) (q := 107) 3 dX12_report_104 rfl (Option.some.inj x24e) (by decide) rfl rfl ?_
    refine v_goto (q := 76) dX12_report_107 (by decide) ?_
    exact V.sub [1, 2, 3, 0] rfl (kI (x24, h23) (Option.some.inj H).symm)
def fX12_report (h : Hp) (v0 : Nat) (v1 : Int32) (v2 : Int32) (v3 : Int32) (v4 : Int32) : Option (Hp) :=
(gR h 12 v0 0).bind fun x1 =>
(lI h .int x1 (272 : Int32)).bind fun x2 =>
if x2 = (60 : Int32) then (
some h) else (
(gR h 12 v0 0).bind fun x4 =>
(lI h .int x4 (272 : Int32)).bind fun x5 =>
(gR h 12 v0 0).bind fun x6 =>
(fX12_atReport h x5 (0 : Int32)).bind fun x7 =>
(tI h x6 x7 v1).bind fun h8 =>
(gR h8 12 v0 0).bind fun x9 =>
(fX12_atReport h8 x5 (1 : Int32)).bind fun x10 =>
(tI h8 x9 x10 v2).bind fun h11 =>
(gR h11 12 v0 0).bind fun x12 =>
(fX12_atReport h11 x5 (2 : Int32)).bind fun x13 =>
(tI h11 x12 x13 v3).bind fun h14 =>
(gR h14 12 v0 0).bind fun x15 =>
(fX12_atReport h14 x5 (3 : Int32)).bind fun x16 =>
(tI h14 x15 x16 v4).bind fun h17 =>
(lp (bX12_report_76 v0 v4 x5) FU ((0 : Int32), h17)).bind fun e25 =>
(gR e25 12 v0 0).bind fun x26 =>
(lI e25 .int x26 (272 : Int32)).bind fun x27 =>
(tI e25 x26 (272 : Int32) (x27 + (1 : Int32))).bind fun h28 =>
some h28)
set_option maxRecDepth 20000 in
set_option maxHeartbeats 4000000 in
theorem sX12_report {Γ : Gm} {d : Nat} (hd : 2 ≤ d) {h : Hp} {v0 : Nat} {v1 : Int32} {v2 : Int32} {v3 : Int32} {v4 : Int32} {r : Hp} (H : fX12_report h v0 v1 v2 v3 v4 = some r) : V Γ d mX12_report 0 [(0, .ref v0), (1, .int v1), (2, .int v2), (3, .int v3), (4, .int v4)] [] h (none, r) := by
  unfold fX12_report at H
  refine v_aload_n (q := 1) 0 dX12_report_0 rfl rfl rfl ?_
  obtain ⟨x1, x1e, H⟩ := bs H
  refine u_gR (q := 4) (r := (RX12, TX12, 58)) x1e dX12_report_1 w1356 rfl (by decide) rfl rfl ?_
  refine v_sipush (v := 272) (q := 7) dX12_report_4 (by decide) rfl ?_
  obtain ⟨x2, x2e, H⟩ := bs H
  refine u_lI (q := 8) x2e dX12_report_7 rfl ?_
  refine v_bipush (v := 60) (q := 10) dX12_report_8 (by decide) rfl ?_
  refine v_icmp_ne (q1 := 14) (q2 := 13) dX12_report_10 (by decide) rfl (fun c3 => ?_) (fun c3 => ?_)
  · have H := ine c3 H
    refine v_aload_n (q := 15) 0 dX12_report_14 rfl rfl rfl ?_
    obtain ⟨x4, x4e, H⟩ := bs H
    refine u_gR (q := 18) (r := (RX12, TX12, 58)) x4e dX12_report_15 w1356 rfl (by decide) rfl rfl ?_
    refine v_sipush (v := 272) (q := 21) dX12_report_18 (by decide) rfl ?_
    obtain ⟨x5, x5e, H⟩ := bs H
    refine u_lI (q := 22) x5e dX12_report_21 rfl ?_
    refine v_istore (L' := [(5, .int x5), (0, .ref v0), (1, .int v1), (2, .int v2), (3, .int v3), (4, .int v4)]) (q := 24) dX12_report_22 (by decide) rfl rfl ?_
    refine v_aload_n (q := 25) 1 dX12_report_24 rfl rfl rfl ?_
    obtain ⟨x6, x6e, H⟩ := bs H
    refine u_gR (q := 28) (r := (RX12, TX12, 58)) x6e dX12_report_25 w1356 rfl (by decide) rfl rfl ?_
    refine v_iload (q := 30) 0 dX12_report_28 rfl rfl ?_
    refine v_iconst (v := 0) (q := 31) dX12_report_30 (by decide) rfl ?_
    obtain ⟨x7, x7e, H⟩ := bs H
    refine u_callS1 (M' := mX12_atReport) (d' := 1) (As := [.int x5, .int (0 : Int32)]) (st := [.ref x6]) (q := 34) oX12_atReport dX12_report_31 w1670 w1671 rfl (Nat.le_of_ble_eq_true rfl) (Nat.le_of_ble_eq_true rfl) (Nat.lt_of_lt_of_le (by decide) hd) rfl (sX12_atReport (Nat.le_refl _) x7e) rfl ?_
    refine v_iload_n (q := 35) 2 dX12_report_34 rfl rfl rfl ?_
    obtain ⟨h8, h8e, H⟩ := bs H
    refine u_tI (q := 36) h8e dX12_report_35 rfl ?_
    refine v_aload_n (q := 37) 1 dX12_report_36 rfl rfl rfl ?_
    obtain ⟨x9, x9e, H⟩ := bs H
    refine u_gR (q := 40) (r := (RX12, TX12, 58)) x9e dX12_report_37 w1356 rfl (by decide) rfl rfl ?_
    refine v_iload (q := 42) 0 dX12_report_40 rfl rfl ?_
    refine v_iconst (v := 1) (q := 43) dX12_report_42 (by decide) rfl ?_
    obtain ⟨x10, x10e, H⟩ := bs H
    refine u_callS1 (M' := mX12_atReport) (d' := 1) (As := [.int x5, .int (1 : Int32)]) (st := [.ref x9]) (q := 46) oX12_atReport dX12_report_43 w1670 w1671 rfl (Nat.le_of_ble_eq_true rfl) (Nat.le_of_ble_eq_true rfl) (Nat.lt_of_lt_of_le (by decide) hd) rfl (sX12_atReport (Nat.le_refl _) x10e) rfl ?_
    refine v_iload_n (q := 47) 3 dX12_report_46 rfl rfl rfl ?_
    obtain ⟨h11, h11e, H⟩ := bs H
    refine u_tI (q := 48) h11e dX12_report_47 rfl ?_
    refine v_aload_n (q := 49) 1 dX12_report_48 rfl rfl rfl ?_
    obtain ⟨x12, x12e, H⟩ := bs H
    refine u_gR (q := 52) (r := (RX12, TX12, 58)) x12e dX12_report_49 w1356 rfl (by decide) rfl rfl ?_
    refine v_iload (q := 54) 0 dX12_report_52 rfl rfl ?_
    refine v_iconst (v := 2) (q := 55) dX12_report_54 (by decide) rfl ?_
    obtain ⟨x13, x13e, H⟩ := bs H
    refine u_callS1 (M' := mX12_atReport) (d' := 1) (As := [.int x5, .int (2 : Int32)]) (st := [.ref x12]) (q := 58) oX12_atReport dX12_report_55 w1670 w1671 rfl (Nat.le_of_ble_eq_true rfl) (Nat.le_of_ble_eq_true rfl) (Nat.lt_of_lt_of_le (by decide) hd) rfl (sX12_atReport (Nat.le_refl _) x13e) rfl ?_
    refine v_iload_n (q := 59) 4 dX12_report_58 rfl rfl rfl ?_
    obtain ⟨h14, h14e, H⟩ := bs H
    refine u_tI (q := 60) h14e dX12_report_59 rfl ?_
    refine v_aload_n (q := 61) 1 dX12_report_60 rfl rfl rfl ?_
    obtain ⟨x15, x15e, H⟩ := bs H
    refine u_gR (q := 64) (r := (RX12, TX12, 58)) x15e dX12_report_61 w1356 rfl (by decide) rfl rfl ?_
    refine v_iload (q := 66) 0 dX12_report_64 rfl rfl ?_
    refine v_iconst (v := 3) (q := 67) dX12_report_66 (by decide) rfl ?_
    obtain ⟨x16, x16e, H⟩ := bs H
    refine u_callS1 (M' := mX12_atReport) (d' := 1) (As := [.int x5, .int (3 : Int32)]) (st := [.ref x15]) (q := 70) oX12_atReport dX12_report_67 w1670 w1671 rfl (Nat.le_of_ble_eq_true rfl) (Nat.le_of_ble_eq_true rfl) (Nat.lt_of_lt_of_le (by decide) hd) rfl (sX12_atReport (Nat.le_refl _) x16e) rfl ?_
    refine v_iload (q := 72) 5 dX12_report_70 rfl rfl ?_
    obtain ⟨h17, h17e, H⟩ := bs H
    refine u_tI (q := 73) h17e dX12_report_72 rfl ?_
    refine v_iconst (v := 0) (q := 74) dX12_report_73 (by decide) rfl ?_
    refine v_istore (L' := [(6, .int (0 : Int32)), (5, .int x5), (0, .ref v0), (1, .int v1), (2, .int v2), (3, .int v3), (4, .int v4)]) (q := 76) dX12_report_74 (by decide) rfl rfl ?_
    obtain ⟨e25, e25L, H⟩ := bs H
    refine V.sub [2, 6, 1, 0] rfl ?_
    refine lp_V (P := (fun s76 => V Γ d mX12_report 76 [(0, .ref v0), (4, .int v4), (5, .int x5), (6, .int s76.1)] [] s76.2 (none, r))) (E := (fun e => V Γ d mX12_report 110 [(0, .ref v0)] [] e (none, r))) (fun s r hb kI kE => sbX12_report_76 hd (s76 := s) (r := r) hb kI kE) FU ((0 : Int32), h17) e25 e25L ?_
    refine v_aload_n (q := 111) 0 dX12_report_110 rfl rfl rfl ?_
    obtain ⟨x26, x26e, H⟩ := bs H
    refine u_gR (q := 114) (r := (RX12, TX12, 58)) x26e dX12_report_111 w1356 rfl (by decide) rfl rfl ?_
    refine v_sipush (v := 272) (q := 117) dX12_report_114 (by decide) rfl ?_
    refine v_dup2 (q := 118) dX12_report_117 rfl rfl rfl ?_
    obtain ⟨x27, x27e, H⟩ := bs H
    refine u_lI (q := 119) x27e dX12_report_118 rfl ?_
    refine v_iconst (v := 1) (q := 120) dX12_report_119 (by decide) rfl ?_
    refine v_iadd (q := 121) dX12_report_120 rfl ?_
    obtain ⟨h28, h28e, H⟩ := bs H
    refine u_tI (q := 122) h28e dX12_report_121 rfl ?_
    cases H
    exact v_return rfl dX12_report_122
  · have H := ip c3 H
    cases H
    exact v_return rfl dX12_report_13
def mX12_reportOne : MI := (yX12_reportOne, cX12_reportOne, 5, none)
theorem oX12_reportOne : mOK mX12_reportOne 4 := ⟨by decide +kernel, by decide +kernel, by decide +kernel, by decide, w1665, w0150⟩
def fX12_reportOne (h : Hp) (v0 : Nat) (v1 : Int32) (v2 : Int32) (v3 : Int32) (v4 : Int32) : Option (Hp) :=
(gR h 12 v0 28).bind fun x1 =>
(tI h x1 (0 : Int32) v4).bind fun h2 =>
(gO h2 12 v0).bind fun _ =>
(fX12_report h2 v0 v1 v2 v3 (1 : Int32)).bind fun x4 =>
some x4
set_option maxRecDepth 20000 in
set_option maxHeartbeats 4000000 in
theorem sX12_reportOne {Γ : Gm} {d : Nat} (hd : 3 ≤ d) {h : Hp} {v0 : Nat} {v1 : Int32} {v2 : Int32} {v3 : Int32} {v4 : Int32} {r : Hp} (H : fX12_reportOne h v0 v1 v2 v3 v4 = some r) : V Γ d mX12_reportOne 0 [(0, .ref v0), (1, .int v1), (2, .int v2), (3, .int v3), (4, .int v4)] [] h (none, r) := by
  unfold fX12_reportOne at H
  refine v_aload_n (q := 1) 0 dX12_reportOne_0 rfl rfl rfl ?_
  obtain ⟨x1, x1e, H⟩ := bs H
  refine u_gR (q := 4) (r := (RX12, TX12, 58)) x1e dX12_reportOne_1 w1384 rfl (by decide) rfl rfl ?_
  refine v_iconst (v := 0) (q := 5) dX12_reportOne_4 (by decide) rfl ?_
  refine v_iload (q := 7) 4 dX12_reportOne_5 rfl rfl ?_
  obtain ⟨h2, h2e, H⟩ := bs H
  refine u_tI (q := 8) h2e dX12_reportOne_7 rfl ?_
  refine v_aload_n (q := 9) 0 dX12_reportOne_8 rfl rfl rfl ?_
  refine v_iload_n (q := 10) 1 dX12_reportOne_9 rfl rfl rfl ?_
  refine v_iload_n (q := 11) 2 dX12_reportOne_10 rfl rfl rfl ?_
  refine v_iload_n (q := 12) 3 dX12_reportOne_11 rfl rfl rfl ?_
  refine v_iconst (v := 1) (q := 13) dX12_reportOne_12 (by decide) rfl ?_
  obtain ⟨_, o3, H⟩ := bs H
  obtain ⟨x4, x4e, H⟩ := bs H
  refine u_callV0 (M' := mX12_report) (d' := 2) (rc := (RX12, TX12, 58)) (As := [.int v1, .int v2, .int v3, .int (1 : Int32)]) (st := []) (q := 16) oX12_report dX12_reportOne_13 w1666 w1668 w0080 rfl rfl (gO_sp o3).1 (gO_sp o3).2 rfl (Nat.le_of_ble_eq_true rfl) (Nat.le_of_ble_eq_true rfl) (Nat.lt_of_lt_of_le (by decide) hd) rfl (sX12_report (Nat.le_refl _) x4e) rfl ?_
  cases H
  exact v_return rfl dX12_reportOne_16
def mX12_kind : MI := (yX12_kind, cX12_kind, 2, some .int)
theorem oX12_kind : mOK mX12_kind 1 := ⟨by decide +kernel, by decide +kernel, by decide +kernel, by decide, w1676, w0150⟩
def fX12_kind (h : Hp) (v0 : Nat) (v1 : Int32) : Option (Int32) :=
(gR h 12 v0 4).bind fun x1 =>
(gI h 12 v0 9).bind fun x2 =>
(lI h .int x1 (((10 : Int32) * x2) + v1)).bind fun x3 =>
some x3
set_option maxRecDepth 20000 in
set_option maxHeartbeats 4000000 in
theorem sX12_kind {Γ : Gm} {d : Nat} (hd : 1 ≤ d) {h : Hp} {v0 : Nat} {v1 : Int32} {r : Int32} (H : fX12_kind h v0 v1 = some r) : V Γ d mX12_kind 0 [(0, .ref v0), (1, .int v1)] [] h (some (.int r), h) := by
  unfold fX12_kind at H
  refine v_aload_n (q := 1) 0 dX12_kind_0 rfl rfl rfl ?_
  obtain ⟨x1, x1e, H⟩ := bs H
  refine u_gR (q := 4) (r := (RX12, TX12, 58)) x1e dX12_kind_1 w1360 rfl (by decide) rfl rfl ?_
  refine v_bipush (v := 10) (q := 6) dX12_kind_4 (by decide) rfl ?_
  refine v_aload_n (q := 7) 0 dX12_kind_6 rfl rfl rfl ?_
  obtain ⟨x2, x2e, H⟩ := bs H
  refine u_gI (q := 10) (r := (RX12, TX12, 58)) x2e dX12_kind_7 w1365 rfl (by decide) rfl rfl ?_
  refine v_imul (q := 11) dX12_kind_10 rfl ?_
  refine v_iload_n (q := 12) 1 dX12_kind_11 rfl rfl rfl ?_
  refine v_iadd (q := 13) dX12_kind_12 rfl ?_
  obtain ⟨x3, x3e, H⟩ := bs H
  refine u_lI (q := 14) x3e dX12_kind_13 rfl ?_
  cases H
  exact v_ireturn rfl dX12_kind_14
def mX12_keepChain : MI := (yX12_keepChain, cX12_keepChain, 6, none)
theorem oX12_keepChain : mOK mX12_keepChain 1 := ⟨by decide +kernel, by decide +kernel, by decide +kernel, by decide, w1680, w0150⟩
def jX12_keepChain_73 (u0 : Nat) (u1 : Int32) (v2 : Int32) (v3 : Int32) (v4 : Int32) (h : Hp) : Option ((Int32 × Int32 × Int32) ⊕ (Int32 × Int32)) :=
(some (v4 + (1 : Int32))).bind fun x7 =>
some (.inl (v2, v3, x7))
set_option maxRecDepth 20000 in
set_option maxHeartbeats 4000000 in
theorem sjX12_keepChain_73 {Γ : Gm} {d : Nat} (hd : 1 ≤ d) {u0 : Nat} {u1 : Int32} {v2 : Int32} {v3 : Int32} {v4 : Int32} {h : Hp} {r : (Int32 × Int32 × Int32) ⊕ (Int32 × Int32)} {t : Option Value × Hp} (H : jX12_keepChain_73 u0 u1 v2 v3 v4 h = some r) (kI : ∀ s, r = .inl s → (fun s7 => V Γ d mX12_keepChain 7 [(0, .ref u0), (1, .int u1), (2, .int s7.1), (3, .int s7.2.1), (4, .int s7.2.2)] [] h t) s) (kE : ∀ e, r = .inr e → (fun e => V Γ d mX12_keepChain 79 [(0, .ref u0), (2, .int e.1), (3, .int e.2)] [] h t) e) : V Γ d mX12_keepChain 73 [(0, .ref u0), (1, .int u1), (2, .int v2), (3, .int v3), (4, .int v4)] [] h t := by
  unfold jX12_keepChain_73 at H
  obtain ⟨x7, x7e, H⟩ := bs H
  refine v_iinc (v := x7) (L' := [(4, .int x7), (0, .ref u0), (1, .int u1), (2, .int v2), (3, .int v3)]) (q := 76) 4 dX12_keepChain_73 rfl (Option.some.inj x7e) (by decide) rfl rfl ?_
  refine v_goto (q := 7) dX12_keepChain_76 (by decide) ?_
  exact V.sub [1, 2, 3, 4, 0] rfl (kI (v2, v3, x7) (Option.some.inj H).symm)
def jX12_keepChain_36 (u0 : Nat) (u1 : Int32) (v2 : Int32) (v3 : Int32) (v4 : Int32) (y0 : Int32) (h : Hp) : Option ((Int32 × Int32 × Int32) ⊕ (Int32 × Int32)) :=
if (5 : Int32) ≤ v4 then (
(some (v3 ||| ((y0 + (1 : Int32)) <<< (((5 : Int32) * (v4 - (5 : Int32))) &&& 31)))).bind fun x6 =>
jX12_keepChain_73 u0 u1 v2 x6 v4 h) else (
(some (v2 ||| ((y0 + (1 : Int32)) <<< (((5 : Int32) * v4) &&& 31)))).bind fun x8 =>
jX12_keepChain_73 u0 u1 x8 v3 v4 h)
set_option maxRecDepth 20000 in
set_option maxHeartbeats 4000000 in
theorem sjX12_keepChain_36 {Γ : Gm} {d : Nat} (hd : 1 ≤ d) {u0 : Nat} {u1 : Int32} {v2 : Int32} {v3 : Int32} {v4 : Int32} {y0 : Int32} {h : Hp} {r : (Int32 × Int32 × Int32) ⊕ (Int32 × Int32)} {t : Option Value × Hp} (H : jX12_keepChain_36 u0 u1 v2 v3 v4 y0 h = some r) (kI : ∀ s, r = .inl s → (fun s7 => V Γ d mX12_keepChain 7 [(0, .ref u0), (1, .int u1), (2, .int s7.1), (3, .int s7.2.1), (4, .int s7.2.2)] [] h t) s) (kE : ∀ e, r = .inr e → (fun e => V Γ d mX12_keepChain 79 [(0, .ref u0), (2, .int e.1), (3, .int e.2)] [] h t) e) : V Γ d mX12_keepChain 36 [(0, .ref u0), (1, .int u1), (2, .int v2), (3, .int v3), (4, .int v4)] [.int y0] h t := by
  unfold jX12_keepChain_36 at H
  refine v_istore (L' := [(5, .int y0), (0, .ref u0), (1, .int u1), (2, .int v2), (3, .int v3), (4, .int v4)]) (q := 38) dX12_keepChain_36 (by decide) rfl rfl ?_
  refine v_iload (q := 40) 5 dX12_keepChain_38 rfl rfl ?_
  refine v_iconst (v := 5) (q := 41) dX12_keepChain_40 (by decide) rfl ?_
  refine v_icmp_ge (q1 := 59) (q2 := 44) dX12_keepChain_41 (by decide) rfl (fun c5 => ?_) (fun c5 => ?_)
  · have H := ip c5 H
    refine v_iload_n (q := 60) 4 dX12_keepChain_59 rfl rfl rfl ?_
    refine v_iload (q := 62) 0 dX12_keepChain_60 rfl rfl ?_
    refine v_iconst (v := 1) (q := 63) dX12_keepChain_62 (by decide) rfl ?_
    refine v_iadd (q := 64) dX12_keepChain_63 rfl ?_
    refine v_iconst (v := 5) (q := 65) dX12_keepChain_64 (by decide) rfl ?_
    refine v_iload (q := 67) 5 dX12_keepChain_65 rfl rfl ?_
    refine v_iconst (v := 5) (q := 68) dX12_keepChain_67 (by decide) rfl ?_
    refine v_isub (q := 69) dX12_keepChain_68 rfl ?_
    refine v_imul (q := 70) dX12_keepChain_69 rfl ?_
    refine v_ishl (q := 71) dX12_keepChain_70 rfl ?_
    refine v_ior (q := 72) dX12_keepChain_71 rfl ?_
    obtain ⟨x6, x6e, H⟩ := bs H
    refine v_topi (Option.some.inj x6e) ?_
    refine v_istore_n (L' := [(3, .int x6), (5, .int y0), (0, .ref u0), (1, .int u1), (2, .int v2), (4, .int v4)]) (q := 73) dX12_keepChain_72 rfl (by decide) rfl rfl ?_
    exact V.sub [2, 3, 4, 0, 5] rfl (sjX12_keepChain_73 hd H kI kE)
  · have H := ine c5 H
    refine v_iload_n (q := 45) 3 dX12_keepChain_44 rfl rfl rfl ?_
    refine v_iload (q := 47) 0 dX12_keepChain_45 rfl rfl ?_
    refine v_iconst (v := 1) (q := 48) dX12_keepChain_47 (by decide) rfl ?_
    refine v_iadd (q := 49) dX12_keepChain_48 rfl ?_
    refine v_iconst (v := 5) (q := 50) dX12_keepChain_49 (by decide) rfl ?_
    refine v_iload (q := 52) 5 dX12_keepChain_50 rfl rfl ?_
    refine v_imul (q := 53) dX12_keepChain_52 rfl ?_
    refine v_ishl (q := 54) dX12_keepChain_53 rfl ?_
    refine v_ior (q := 55) dX12_keepChain_54 rfl ?_
    obtain ⟨x8, x8e, H⟩ := bs H
    refine v_topi (Option.some.inj x8e) ?_
    refine v_istore_n (L' := [(2, .int x8), (5, .int y0), (0, .ref u0), (1, .int u1), (3, .int v3), (4, .int v4)]) (q := 56) dX12_keepChain_55 rfl (by decide) rfl rfl ?_
    refine v_goto (q := 73) dX12_keepChain_56 (by decide) ?_
    exact V.sub [2, 3, 0, 4, 5] rfl (sjX12_keepChain_73 hd H kI kE)
def bX12_keepChain_7 (u0 : Nat) (u1 : Int32) (h : Hp) (s7 : Int32 × Int32 × Int32) : Option ((Int32 × Int32 × Int32) ⊕ (Int32 × Int32)) :=
(gI h 12 u0 31).bind fun x1 =>
if x1 < s7.2.2 then (
some (.inr (s7.1, s7.2.1))) else (
(gI h 12 u0 31).bind fun x3 =>
if x3 ≤ s7.2.2 then (
jX12_keepChain_36 u0 u1 s7.1 s7.2.1 s7.2.2 u1 h) else (
(gR h 12 u0 30).bind fun x9 =>
(lI h .int x9 s7.2.2).bind fun x10 =>
jX12_keepChain_36 u0 u1 s7.1 s7.2.1 s7.2.2 x10 h))
set_option maxRecDepth 20000 in
set_option maxHeartbeats 4000000 in
theorem sbX12_keepChain_7 {Γ : Gm} {d : Nat} (hd : 1 ≤ d) {u0 : Nat} {u1 : Int32} {h : Hp} {s7 : Int32 × Int32 × Int32} {r : (Int32 × Int32 × Int32) ⊕ (Int32 × Int32)} {t : Option Value × Hp} (H : bX12_keepChain_7 u0 u1 h s7 = some r) (kI : ∀ s, r = .inl s → (fun s7 => V Γ d mX12_keepChain 7 [(0, .ref u0), (1, .int u1), (2, .int s7.1), (3, .int s7.2.1), (4, .int s7.2.2)] [] h t) s) (kE : ∀ e, r = .inr e → (fun e => V Γ d mX12_keepChain 79 [(0, .ref u0), (2, .int e.1), (3, .int e.2)] [] h t) e) : V Γ d mX12_keepChain 7 [(0, .ref u0), (1, .int u1), (2, .int s7.1), (3, .int s7.2.1), (4, .int s7.2.2)] [] h t := by
  unfold bX12_keepChain_7 at H
  refine v_iload (q := 9) 4 dX12_keepChain_7 rfl rfl ?_
  refine v_aload_n (q := 10) 0 dX12_keepChain_9 rfl rfl rfl ?_
  obtain ⟨x1, x1e, H⟩ := bs H
  refine u_gI (q := 13) (r := (RX12, TX12, 58)) x1e dX12_keepChain_10 w1387 rfl (by decide) rfl rfl ?_
  refine v_icmp_gt (q1 := 79) (q2 := 16) dX12_keepChain_13 (by decide) rfl (fun c2 => ?_) (fun c2 => ?_)
  · have H := ip c2 H
    exact V.sub [0, 2, 3] rfl (kE (s7.1, s7.2.1) (Option.some.inj H).symm)
  · have H := ine c2 H
    refine v_iload (q := 18) 4 dX12_keepChain_16 rfl rfl ?_
    refine v_aload_n (q := 19) 0 dX12_keepChain_18 rfl rfl rfl ?_
    obtain ⟨x3, x3e, H⟩ := bs H
    refine u_gI (q := 22) (r := (RX12, TX12, 58)) x3e dX12_keepChain_19 w1387 rfl (by decide) rfl rfl ?_
    refine v_icmp_ge (q1 := 35) (q2 := 25) dX12_keepChain_22 (by decide) rfl (fun c4 => ?_) (fun c4 => ?_)
    · have H := ip c4 H
      refine v_iload_n (q := 36) 1 dX12_keepChain_35 rfl rfl rfl ?_
      exact V.sub [0, 1, 2, 3, 4] rfl (sjX12_keepChain_36 hd H kI kE)
    · have H := ine c4 H
      refine v_aload_n (q := 26) 0 dX12_keepChain_25 rfl rfl rfl ?_
      obtain ⟨x9, x9e, H⟩ := bs H
      refine u_gR (q := 29) (r := (RX12, TX12, 58)) x9e dX12_keepChain_26 w1386 rfl (by decide) rfl rfl ?_
      refine v_iload (q := 31) 4 dX12_keepChain_29 rfl rfl ?_
      obtain ⟨x10, x10e, H⟩ := bs H
      refine u_lI (q := 32) x10e dX12_keepChain_31 rfl ?_
      refine v_goto (q := 36) dX12_keepChain_32 (by decide) ?_
      exact V.sub [0, 1, 2, 3, 4] rfl (sjX12_keepChain_36 hd H kI kE)
def jX12_keepChain_147 (u0 : Nat) (u2 : Int32) (u3 : Int32) (v4 : Int32) (h : Hp) : Option ((Int32) ⊕ ((Unit) ⊕ (Unit))) :=
(some (v4 + (1 : Int32))).bind fun x18 =>
some (.inl x18)
set_option maxRecDepth 20000 in
set_option maxHeartbeats 4000000 in
theorem sjX12_keepChain_147 {Γ : Gm} {d : Nat} (hd : 1 ≤ d) {u0 : Nat} {u2 : Int32} {u3 : Int32} {v4 : Int32} {h : Hp} {r : (Int32) ⊕ ((Unit) ⊕ (Unit))} {t : Option Value × Hp} (H : jX12_keepChain_147 u0 u2 u3 v4 h = some r) (kI : ∀ s, r = .inl s → (fun s82 => V Γ d mX12_keepChain 82 [(0, .ref u0), (2, .int u2), (3, .int u3), (4, .int s82)] [] h t) s) (kE : ∀ e, r = .inr e → (fun e => (match e with | .inl a0 => V Γ d mX12_keepChain 153 [(0, .ref u0), (2, .int u2), (3, .int u3)] [] h t | .inr b0 => V Γ d mX12_keepChain 134 [(0, .ref u0)] [] h t)) e) : V Γ d mX12_keepChain 147 [(0, .ref u0), (2, .int u2), (3, .int u3), (4, .int v4)] [] h t := by
  unfold jX12_keepChain_147 at H
  obtain ⟨x18, x18e, H⟩ := bs H
  refine v_iinc (v := x18) (L' := [(4, .int x18), (0, .ref u0), (2, .int u2), (3, .int u3)]) (q := 150) 3 dX12_keepChain_147 rfl (Option.some.inj x18e) (by decide) rfl rfl ?_
  refine v_goto (q := 82) dX12_keepChain_150 (by decide) ?_
  exact V.sub [1, 2, 3, 0] rfl (kI x18 (Option.some.inj H).symm)
def bX12_keepChain_82 (u0 : Nat) (u2 : Int32) (u3 : Int32) (h : Hp) (s82 : Int32) : Option ((Int32) ⊕ ((Unit) ⊕ (Unit))) :=
(gR h 12 u0 0).bind fun x12 =>
(lI h .int x12 (1539 : Int32)).bind fun x13 =>
if x13 ≤ s82 then (
some (.inr (.inl ()))) else (
(gR h 12 u0 0).bind fun x15 =>
(lI h .int x15 ((1685 : Int32) + ((2 : Int32) * s82))).bind fun x16 =>
if x16 = u2 then (
(gR h 12 u0 0).bind fun x19 =>
(lI h .int x19 (((1685 : Int32) + ((2 : Int32) * s82)) + (1 : Int32))).bind fun x20 =>
if x20 = u3 then (
some (.inr (.inr ()))) else (
jX12_keepChain_147 u0 u2 u3 s82 h)) else (
jX12_keepChain_147 u0 u2 u3 s82 h))
set_option maxRecDepth 20000 in
set_option maxHeartbeats 4000000 in
theorem sbX12_keepChain_82 {Γ : Gm} {d : Nat} (hd : 1 ≤ d) {u0 : Nat} {u2 : Int32} {u3 : Int32} {h : Hp} {s82 : Int32} {r : (Int32) ⊕ ((Unit) ⊕ (Unit))} {t : Option Value × Hp} (H : bX12_keepChain_82 u0 u2 u3 h s82 = some r) (kI : ∀ s, r = .inl s → (fun s82 => V Γ d mX12_keepChain 82 [(0, .ref u0), (2, .int u2), (3, .int u3), (4, .int s82)] [] h t) s) (kE : ∀ e, r = .inr e → (fun e => (match e with | .inl a0 => V Γ d mX12_keepChain 153 [(0, .ref u0), (2, .int u2), (3, .int u3)] [] h t | .inr b0 => V Γ d mX12_keepChain 134 [(0, .ref u0)] [] h t)) e) : V Γ d mX12_keepChain 82 [(0, .ref u0), (2, .int u2), (3, .int u3), (4, .int s82)] [] h t := by
  unfold bX12_keepChain_82 at H
  refine v_iload (q := 84) 3 dX12_keepChain_82 rfl rfl ?_
  refine v_aload_n (q := 85) 0 dX12_keepChain_84 rfl rfl rfl ?_
  obtain ⟨x12, x12e, H⟩ := bs H
  refine u_gR (q := 88) (r := (RX12, TX12, 58)) x12e dX12_keepChain_85 w1356 rfl (by decide) rfl rfl ?_
  refine v_sipush (v := 1539) (q := 91) dX12_keepChain_88 (by decide) rfl ?_
  obtain ⟨x13, x13e, H⟩ := bs H
  refine u_lI (q := 92) x13e dX12_keepChain_91 rfl ?_
  refine v_icmp_ge (q1 := 153) (q2 := 95) dX12_keepChain_92 (by decide) rfl (fun c14 => ?_) (fun c14 => ?_)
  · have H := ip c14 H
    exact V.sub [0, 1, 2] rfl (kE (.inl ()) (Option.some.inj H).symm)
  · have H := ine c14 H
    refine v_aload_n (q := 96) 0 dX12_keepChain_95 rfl rfl rfl ?_
    obtain ⟨x15, x15e, H⟩ := bs H
    refine u_gR (q := 99) (r := (RX12, TX12, 58)) x15e dX12_keepChain_96 w1356 rfl (by decide) rfl rfl ?_
    refine v_sipush (v := 1685) (q := 102) dX12_keepChain_99 (by decide) rfl ?_
    refine v_iconst (v := 2) (q := 103) dX12_keepChain_102 (by decide) rfl ?_
    refine v_iload (q := 105) 3 dX12_keepChain_103 rfl rfl ?_
    refine v_imul (q := 106) dX12_keepChain_105 rfl ?_
    refine v_iadd (q := 107) dX12_keepChain_106 rfl ?_
    obtain ⟨x16, x16e, H⟩ := bs H
    refine u_lI (q := 108) x16e dX12_keepChain_107 rfl ?_
    refine v_iload_n (q := 109) 1 dX12_keepChain_108 rfl rfl rfl ?_
    refine v_icmp_ne (q1 := 147) (q2 := 112) dX12_keepChain_109 (by decide) rfl (fun c17 => ?_) (fun c17 => ?_)
    · have H := ine c17 H
      exact V.sub [0, 1, 2, 3] rfl (sjX12_keepChain_147 hd H kI kE)
    · have H := ip c17 H
      refine v_aload_n (q := 113) 0 dX12_keepChain_112 rfl rfl rfl ?_
      obtain ⟨x19, x19e, H⟩ := bs H
      refine u_gR (q := 116) (r := (RX12, TX12, 58)) x19e dX12_keepChain_113 w1356 rfl (by decide) rfl rfl ?_
      refine v_sipush (v := 1685) (q := 119) dX12_keepChain_116 (by decide) rfl ?_
      refine v_iconst (v := 2) (q := 120) dX12_keepChain_119 (by decide) rfl ?_
      refine v_iload (q := 122) 3 dX12_keepChain_120 rfl rfl ?_
      refine v_imul (q := 123) dX12_keepChain_122 rfl ?_
      refine v_iadd (q := 124) dX12_keepChain_123 rfl ?_
      refine v_iconst (v := 1) (q := 125) dX12_keepChain_124 (by decide) rfl ?_
      refine v_iadd (q := 126) dX12_keepChain_125 rfl ?_
      obtain ⟨x20, x20e, H⟩ := bs H
      refine u_lI (q := 127) x20e dX12_keepChain_126 rfl ?_
      refine v_iload_n (q := 128) 2 dX12_keepChain_127 rfl rfl rfl ?_
      refine v_icmp_eq (q1 := 134) (q2 := 131) dX12_keepChain_128 (by decide) rfl (fun c21 => ?_) (fun c21 => ?_)
      · have H := ip c21 H
        exact V.sub [0] rfl (kE (.inr ()) (Option.some.inj H).symm)
      · have H := ine c21 H
        refine v_goto (q := 147) dX12_keepChain_131 (by decide) ?_
        exact V.sub [0, 1, 2, 3] rfl (sjX12_keepChain_147 hd H kI kE)
def fX12_keepChain (h : Hp) (v0 : Nat) (v1 : Int32) : Option (Hp) :=
(lp (bX12_keepChain_7 v0 v1 h) FU ((0 : Int32), (0 : Int32), (0 : Int32))).bind fun e11 =>
(lp (bX12_keepChain_82 v0 e11.1 e11.2 h) FU (0 : Int32)).bind fun e22 =>
(match e22 with
| .inl e23 => (
(gR h 12 v0 0).bind fun x25 =>
(gR h 12 v0 0).bind fun x26 =>
(lI h .int x26 (1539 : Int32)).bind fun x27 =>
(tI h x25 ((1685 : Int32) + ((2 : Int32) * x27)) e11.1).bind fun h28 =>
(gR h28 12 v0 0).bind fun x29 =>
(gR h28 12 v0 0).bind fun x30 =>
(lI h28 .int x30 (1539 : Int32)).bind fun x31 =>
(tI h28 x29 (((1685 : Int32) + ((2 : Int32) * x31)) + (1 : Int32)) e11.2).bind fun h32 =>
(gR h32 12 v0 0).bind fun x33 =>
(lI h32 .int x33 (1539 : Int32)).bind fun x34 =>
(tI h32 x33 (1539 : Int32) (x34 + (1 : Int32))).bind fun h35 =>
some h35)
| .inr e24 => (
(gR h 12 v0 0).bind fun x36 =>
(lI h .int x36 (1540 : Int32)).bind fun x37 =>
(tI h x36 (1540 : Int32) (x37 + (1 : Int32))).bind fun h38 =>
some h38))
set_option maxRecDepth 20000 in
set_option maxHeartbeats 4000000 in
theorem sX12_keepChain {Γ : Gm} {d : Nat} (hd : 1 ≤ d) {h : Hp} {v0 : Nat} {v1 : Int32} {r : Hp} (H : fX12_keepChain h v0 v1 = some r) : V Γ d mX12_keepChain 0 [(0, .ref v0), (1, .int v1)] [] h (none, r) := by
  unfold fX12_keepChain at H
  refine v_iconst (v := 0) (q := 1) dX12_keepChain_0 (by decide) rfl ?_
  refine v_istore_n (L' := [(2, .int (0 : Int32)), (0, .ref v0), (1, .int v1)]) (q := 2) dX12_keepChain_1 rfl (by decide) rfl rfl ?_
  refine v_iconst (v := 0) (q := 3) dX12_keepChain_2 (by decide) rfl ?_
  refine v_istore_n (L' := [(3, .int (0 : Int32)), (2, .int (0 : Int32)), (0, .ref v0), (1, .int v1)]) (q := 4) dX12_keepChain_3 rfl (by decide) rfl rfl ?_
  refine v_iconst (v := 0) (q := 5) dX12_keepChain_4 (by decide) rfl ?_
  refine v_istore (L' := [(4, .int (0 : Int32)), (3, .int (0 : Int32)), (2, .int (0 : Int32)), (0, .ref v0), (1, .int v1)]) (q := 7) dX12_keepChain_5 (by decide) rfl rfl ?_
  obtain ⟨e11, e11L, H⟩ := bs H
  refine V.sub [3, 4, 2, 1, 0] rfl ?_
  refine lp_V (P := (fun s7 => V Γ d mX12_keepChain 7 [(0, .ref v0), (1, .int v1), (2, .int s7.1), (3, .int s7.2.1), (4, .int s7.2.2)] [] h (none, r))) (E := (fun e => V Γ d mX12_keepChain 79 [(0, .ref v0), (2, .int e.1), (3, .int e.2)] [] h (none, r))) (fun s r hb kI kE => sbX12_keepChain_7 hd (s7 := s) (r := r) hb kI kE) FU ((0 : Int32), (0 : Int32), (0 : Int32)) e11 e11L ?_
  refine v_iconst (v := 0) (q := 80) dX12_keepChain_79 (by decide) rfl ?_
  refine v_istore (L' := [(4, .int (0 : Int32)), (0, .ref v0), (2, .int e11.1), (3, .int e11.2)]) (q := 82) dX12_keepChain_80 (by decide) rfl rfl ?_
  obtain ⟨e22, e22L, H⟩ := bs H
  refine V.sub [1, 2, 3, 0] rfl ?_
  refine lp_V (P := (fun s82 => V Γ d mX12_keepChain 82 [(0, .ref v0), (2, .int e11.1), (3, .int e11.2), (4, .int s82)] [] h (none, r))) (E := (fun e => (match e with | .inl a0 => V Γ d mX12_keepChain 153 [(0, .ref v0), (2, .int e11.1), (3, .int e11.2)] [] h (none, r) | .inr b0 => V Γ d mX12_keepChain 134 [(0, .ref v0)] [] h (none, r)))) (fun s r hb kI kE => sbX12_keepChain_82 hd (s82 := s) (r := r) hb kI kE) FU (0 : Int32) e22 e22L ?_
  rcases e22 with e23 | e24
  · skip
    refine v_aload_n (q := 154) 0 dX12_keepChain_153 rfl rfl rfl ?_
    obtain ⟨x25, x25e, H⟩ := bs H
    refine u_gR (q := 157) (r := (RX12, TX12, 58)) x25e dX12_keepChain_154 w1356 rfl (by decide) rfl rfl ?_
    refine v_sipush (v := 1685) (q := 160) dX12_keepChain_157 (by decide) rfl ?_
    refine v_iconst (v := 2) (q := 161) dX12_keepChain_160 (by decide) rfl ?_
    refine v_aload_n (q := 162) 0 dX12_keepChain_161 rfl rfl rfl ?_
    obtain ⟨x26, x26e, H⟩ := bs H
    refine u_gR (q := 165) (r := (RX12, TX12, 58)) x26e dX12_keepChain_162 w1356 rfl (by decide) rfl rfl ?_
    refine v_sipush (v := 1539) (q := 168) dX12_keepChain_165 (by decide) rfl ?_
    obtain ⟨x27, x27e, H⟩ := bs H
    refine u_lI (q := 169) x27e dX12_keepChain_168 rfl ?_
    refine v_imul (q := 170) dX12_keepChain_169 rfl ?_
    refine v_iadd (q := 171) dX12_keepChain_170 rfl ?_
    refine v_iload_n (q := 172) 1 dX12_keepChain_171 rfl rfl rfl ?_
    obtain ⟨h28, h28e, H⟩ := bs H
    refine u_tI (q := 173) h28e dX12_keepChain_172 rfl ?_
    refine v_aload_n (q := 174) 0 dX12_keepChain_173 rfl rfl rfl ?_
    obtain ⟨x29, x29e, H⟩ := bs H
    refine u_gR (q := 177) (r := (RX12, TX12, 58)) x29e dX12_keepChain_174 w1356 rfl (by decide) rfl rfl ?_
    refine v_sipush (v := 1685) (q := 180) dX12_keepChain_177 (by decide) rfl ?_
    refine v_iconst (v := 2) (q := 181) dX12_keepChain_180 (by decide) rfl ?_
    refine v_aload_n (q := 182) 0 dX12_keepChain_181 rfl rfl rfl ?_
    obtain ⟨x30, x30e, H⟩ := bs H
    refine u_gR (q := 185) (r := (RX12, TX12, 58)) x30e dX12_keepChain_182 w1356 rfl (by decide) rfl rfl ?_
    refine v_sipush (v := 1539) (q := 188) dX12_keepChain_185 (by decide) rfl ?_
    obtain ⟨x31, x31e, H⟩ := bs H
    refine u_lI (q := 189) x31e dX12_keepChain_188 rfl ?_
    refine v_imul (q := 190) dX12_keepChain_189 rfl ?_
    refine v_iadd (q := 191) dX12_keepChain_190 rfl ?_
    refine v_iconst (v := 1) (q := 192) dX12_keepChain_191 (by decide) rfl ?_
    refine v_iadd (q := 193) dX12_keepChain_192 rfl ?_
    refine v_iload_n (q := 194) 2 dX12_keepChain_193 rfl rfl rfl ?_
    obtain ⟨h32, h32e, H⟩ := bs H
    refine u_tI (q := 195) h32e dX12_keepChain_194 rfl ?_
    refine v_aload_n (q := 196) 0 dX12_keepChain_195 rfl rfl rfl ?_
    obtain ⟨x33, x33e, H⟩ := bs H
    refine u_gR (q := 199) (r := (RX12, TX12, 58)) x33e dX12_keepChain_196 w1356 rfl (by decide) rfl rfl ?_
    refine v_sipush (v := 1539) (q := 202) dX12_keepChain_199 (by decide) rfl ?_
    refine v_dup2 (q := 203) dX12_keepChain_202 rfl rfl rfl ?_
    obtain ⟨x34, x34e, H⟩ := bs H
    refine u_lI (q := 204) x34e dX12_keepChain_203 rfl ?_
    refine v_iconst (v := 1) (q := 205) dX12_keepChain_204 (by decide) rfl ?_
    refine v_iadd (q := 206) dX12_keepChain_205 rfl ?_
    obtain ⟨h35, h35e, H⟩ := bs H
    refine u_tI (q := 207) h35e dX12_keepChain_206 rfl ?_
    cases H
    exact v_return rfl dX12_keepChain_207
  · skip
    refine v_aload_n (q := 135) 0 dX12_keepChain_134 rfl rfl rfl ?_
    obtain ⟨x36, x36e, H⟩ := bs H
    refine u_gR (q := 138) (r := (RX12, TX12, 58)) x36e dX12_keepChain_135 w1356 rfl (by decide) rfl rfl ?_
    refine v_sipush (v := 1540) (q := 141) dX12_keepChain_138 (by decide) rfl ?_
    refine v_dup2 (q := 142) dX12_keepChain_141 rfl rfl rfl ?_
    obtain ⟨x37, x37e, H⟩ := bs H
    refine u_lI (q := 143) x37e dX12_keepChain_142 rfl ?_
    refine v_iconst (v := 1) (q := 144) dX12_keepChain_143 (by decide) rfl ?_
    refine v_iadd (q := 145) dX12_keepChain_144 rfl ?_
    obtain ⟨h38, h38e, H⟩ := bs H
    refine u_tI (q := 146) h38e dX12_keepChain_145 rfl ?_
    cases H
    exact v_return rfl dX12_keepChain_146
def mX12_firstOf : MI := (yX12_firstOf, cX12_firstOf, 2, some .int)
theorem oX12_firstOf : mOK mX12_firstOf 1 := ⟨by decide +kernel, by decide +kernel, by decide +kernel, by decide, w1696, w0150⟩
def fX12_firstOf (h : Hp) (v0 : Nat) (v1 : Int32) : Option (Int32) :=
(gR h 12 v0 0).bind fun x1 =>
(fX12_atReport h v1 (4 : Int32)).bind fun x2 =>
(lI h .int x1 x2).bind fun x3 =>
some x3
set_option maxRecDepth 20000 in
set_option maxHeartbeats 4000000 in
theorem sX12_firstOf {Γ : Gm} {d : Nat} (hd : 2 ≤ d) {h : Hp} {v0 : Nat} {v1 : Int32} {r : Int32} (H : fX12_firstOf h v0 v1 = some r) : V Γ d mX12_firstOf 0 [(0, .ref v0), (1, .int v1)] [] h (some (.int r), h) := by
  unfold fX12_firstOf at H
  refine v_aload_n (q := 1) 0 dX12_firstOf_0 rfl rfl rfl ?_
  obtain ⟨x1, x1e, H⟩ := bs H
  refine u_gR (q := 4) (r := (RX12, TX12, 58)) x1e dX12_firstOf_1 w1356 rfl (by decide) rfl rfl ?_
  refine v_iload_n (q := 5) 1 dX12_firstOf_4 rfl rfl rfl ?_
  refine v_iconst (v := 4) (q := 6) dX12_firstOf_5 (by decide) rfl ?_
  obtain ⟨x2, x2e, H⟩ := bs H
  refine u_callS1 (M' := mX12_atReport) (d' := 1) (As := [.int v1, .int (4 : Int32)]) (st := [.ref x1]) (q := 9) oX12_atReport dX12_firstOf_6 w1670 w1671 rfl (Nat.le_of_ble_eq_true rfl) (Nat.le_of_ble_eq_true rfl) (Nat.lt_of_lt_of_le (by decide) hd) rfl (sX12_atReport (Nat.le_refl _) x2e) rfl ?_
  obtain ⟨x3, x3e, H⟩ := bs H
  refine u_lI (q := 10) x3e dX12_firstOf_9 rfl ?_
  cases H
  exact v_ireturn rfl dX12_firstOf_10
def mX12_lastOf : MI := (yX12_lastOf, cX12_lastOf, 2, some .int)
theorem oX12_lastOf : mOK mX12_lastOf 1 := ⟨by decide +kernel, by decide +kernel, by decide +kernel, by decide, w1700, w0150⟩
def fX12_lastOf (h : Hp) (v0 : Nat) (v1 : Int32) : Option (Int32) :=
(gR h 12 v0 0).bind fun x1 =>
(gR h 12 v0 0).bind fun x2 =>
(fX12_atReport h v1 (3 : Int32)).bind fun x3 =>
(lI h .int x2 x3).bind fun x4 =>
(fX12_atReport h v1 (((4 : Int32) + x4) - (1 : Int32))).bind fun x5 =>
(lI h .int x1 x5).bind fun x6 =>
some x6
set_option maxRecDepth 20000 in
set_option maxHeartbeats 4000000 in
theorem sX12_lastOf {Γ : Gm} {d : Nat} (hd : 2 ≤ d) {h : Hp} {v0 : Nat} {v1 : Int32} {r : Int32} (H : fX12_lastOf h v0 v1 = some r) : V Γ d mX12_lastOf 0 [(0, .ref v0), (1, .int v1)] [] h (some (.int r), h) := by
  unfold fX12_lastOf at H
  refine v_aload_n (q := 1) 0 dX12_lastOf_0 rfl rfl rfl ?_
  obtain ⟨x1, x1e, H⟩ := bs H
  refine u_gR (q := 4) (r := (RX12, TX12, 58)) x1e dX12_lastOf_1 w1356 rfl (by decide) rfl rfl ?_
  refine v_iload_n (q := 5) 1 dX12_lastOf_4 rfl rfl rfl ?_
  refine v_iconst (v := 4) (q := 6) dX12_lastOf_5 (by decide) rfl ?_
  refine v_aload_n (q := 7) 0 dX12_lastOf_6 rfl rfl rfl ?_
  obtain ⟨x2, x2e, H⟩ := bs H
  refine u_gR (q := 10) (r := (RX12, TX12, 58)) x2e dX12_lastOf_7 w1356 rfl (by decide) rfl rfl ?_
  refine v_iload_n (q := 11) 1 dX12_lastOf_10 rfl rfl rfl ?_
  refine v_iconst (v := 3) (q := 12) dX12_lastOf_11 (by decide) rfl ?_
  obtain ⟨x3, x3e, H⟩ := bs H
  refine u_callS1 (M' := mX12_atReport) (d' := 1) (As := [.int v1, .int (3 : Int32)]) (st := [.ref x2, .int (4 : Int32), .int v1, .ref x1]) (q := 15) oX12_atReport dX12_lastOf_12 w1670 w1671 rfl (Nat.le_of_ble_eq_true rfl) (Nat.le_of_ble_eq_true rfl) (Nat.lt_of_lt_of_le (by decide) hd) rfl (sX12_atReport (Nat.le_refl _) x3e) rfl ?_
  obtain ⟨x4, x4e, H⟩ := bs H
  refine u_lI (q := 16) x4e dX12_lastOf_15 rfl ?_
  refine v_iadd (q := 17) dX12_lastOf_16 rfl ?_
  refine v_iconst (v := 1) (q := 18) dX12_lastOf_17 (by decide) rfl ?_
  refine v_isub (q := 19) dX12_lastOf_18 rfl ?_
  obtain ⟨x5, x5e, H⟩ := bs H
  refine u_callS1 (M' := mX12_atReport) (d' := 1) (As := [.int v1, .int (((4 : Int32) + x4) - (1 : Int32))]) (st := [.ref x1]) (q := 22) oX12_atReport dX12_lastOf_19 w1670 w1671 rfl (Nat.le_of_ble_eq_true rfl) (Nat.le_of_ble_eq_true rfl) (Nat.lt_of_lt_of_le (by decide) hd) rfl (sX12_atReport (Nat.le_refl _) x5e) rfl ?_
  obtain ⟨x6, x6e, H⟩ := bs H
  refine u_lI (q := 23) x6e dX12_lastOf_22 rfl ?_
  cases H
  exact v_ireturn rfl dX12_lastOf_23
def mX12_isReported : MI := (yX12_isReported, cX12_isReported, 5, some .boolean)
theorem oX12_isReported : mOK mX12_isReported 3 := ⟨by decide +kernel, by decide +kernel, by decide +kernel, by decide, w1692, w0150⟩
def jX12_isReported_53 (u0 : Nat) (u1 : Int32) (u2 : Int32) (u3 : Int32) (v4 : Int32) (h : Hp) : Option ((Int32) ⊕ ((Unit) ⊕ (Unit))) :=
(some (v4 + (1 : Int32))).bind fun x8 =>
some (.inl x8)
set_option maxRecDepth 20000 in
set_option maxHeartbeats 4000000 in
theorem sjX12_isReported_53 {Γ : Gm} {d : Nat} (hd : 3 ≤ d) {u0 : Nat} {u1 : Int32} {u2 : Int32} {u3 : Int32} {v4 : Int32} {h : Hp} {r : (Int32) ⊕ ((Unit) ⊕ (Unit))} {t : Option Value × Hp} (H : jX12_isReported_53 u0 u1 u2 u3 v4 h = some r) (kI : ∀ s, r = .inl s → (fun s3 => V Γ d mX12_isReported 3 [(0, .ref u0), (1, .int u1), (2, .int u2), (3, .int u3), (4, .int s3)] [] h t) s) (kE : ∀ e, r = .inr e → (fun e => (match e with | .inl a0 => V Γ d mX12_isReported 59 [] [] h t | .inr b0 => V Γ d mX12_isReported 51 [] [] h t)) e) : V Γ d mX12_isReported 53 [(0, .ref u0), (1, .int u1), (2, .int u2), (3, .int u3), (4, .int v4)] [] h t := by
  unfold jX12_isReported_53 at H
  obtain ⟨x8, x8e, H⟩ := bs H
  refine v_iinc (v := x8) (L' := [(4, .int x8), (0, .ref u0), (1, .int u1), (2, .int u2), (3, .int u3)]) (q := 56) 4 dX12_isReported_53 rfl (Option.some.inj x8e) (by decide) rfl rfl ?_
  refine v_goto (q := 3) dX12_isReported_56 (by decide) ?_
  exact V.sub [1, 2, 3, 4, 0] rfl (kI x8 (Option.some.inj H).symm)
def bX12_isReported_3 (u0 : Nat) (u1 : Int32) (u2 : Int32) (u3 : Int32) (h : Hp) (s3 : Int32) : Option ((Int32) ⊕ ((Unit) ⊕ (Unit))) :=
(gR h 12 u0 0).bind fun x1 =>
(lI h .int x1 (272 : Int32)).bind fun x2 =>
if x2 ≤ s3 then (
some (.inr (.inl ()))) else (
(gR h 12 u0 0).bind fun x4 =>
(fX12_atReport h s3 (0 : Int32)).bind fun x5 =>
(lI h .int x4 x5).bind fun x6 =>
if x6 = u1 then (
(gO h 12 u0).bind fun _ =>
(fX12_firstOf h u0 s3).bind fun x10 =>
if x10 = u2 then (
(gO h 12 u0).bind fun _ =>
(fX12_lastOf h u0 s3).bind fun x13 =>
if x13 = u3 then (
some (.inr (.inr ()))) else (
jX12_isReported_53 u0 u1 u2 u3 s3 h)) else (
jX12_isReported_53 u0 u1 u2 u3 s3 h)) else (
jX12_isReported_53 u0 u1 u2 u3 s3 h))
set_option maxRecDepth 20000 in
set_option maxHeartbeats 4000000 in
theorem sbX12_isReported_3 {Γ : Gm} {d : Nat} (hd : 3 ≤ d) {u0 : Nat} {u1 : Int32} {u2 : Int32} {u3 : Int32} {h : Hp} {s3 : Int32} {r : (Int32) ⊕ ((Unit) ⊕ (Unit))} {t : Option Value × Hp} (H : bX12_isReported_3 u0 u1 u2 u3 h s3 = some r) (kI : ∀ s, r = .inl s → (fun s3 => V Γ d mX12_isReported 3 [(0, .ref u0), (1, .int u1), (2, .int u2), (3, .int u3), (4, .int s3)] [] h t) s) (kE : ∀ e, r = .inr e → (fun e => (match e with | .inl a0 => V Γ d mX12_isReported 59 [] [] h t | .inr b0 => V Γ d mX12_isReported 51 [] [] h t)) e) : V Γ d mX12_isReported 3 [(0, .ref u0), (1, .int u1), (2, .int u2), (3, .int u3), (4, .int s3)] [] h t := by
  unfold bX12_isReported_3 at H
  refine v_iload (q := 5) 4 dX12_isReported_3 rfl rfl ?_
  refine v_aload_n (q := 6) 0 dX12_isReported_5 rfl rfl rfl ?_
  obtain ⟨x1, x1e, H⟩ := bs H
  refine u_gR (q := 9) (r := (RX12, TX12, 58)) x1e dX12_isReported_6 w1356 rfl (by decide) rfl rfl ?_
  refine v_sipush (v := 272) (q := 12) dX12_isReported_9 (by decide) rfl ?_
  obtain ⟨x2, x2e, H⟩ := bs H
  refine u_lI (q := 13) x2e dX12_isReported_12 rfl ?_
  refine v_icmp_ge (q1 := 59) (q2 := 16) dX12_isReported_13 (by decide) rfl (fun c3 => ?_) (fun c3 => ?_)
  · have H := ip c3 H
    exact V.sub [] rfl (kE (.inl ()) (Option.some.inj H).symm)
  · have H := ine c3 H
    refine v_aload_n (q := 17) 0 dX12_isReported_16 rfl rfl rfl ?_
    obtain ⟨x4, x4e, H⟩ := bs H
    refine u_gR (q := 20) (r := (RX12, TX12, 58)) x4e dX12_isReported_17 w1356 rfl (by decide) rfl rfl ?_
    refine v_iload (q := 22) 4 dX12_isReported_20 rfl rfl ?_
    refine v_iconst (v := 0) (q := 23) dX12_isReported_22 (by decide) rfl ?_
    obtain ⟨x5, x5e, H⟩ := bs H
    refine u_callS1 (M' := mX12_atReport) (d' := 1) (As := [.int s3, .int (0 : Int32)]) (st := [.ref x4]) (q := 26) oX12_atReport dX12_isReported_23 w1670 w1671 rfl (Nat.le_of_ble_eq_true rfl) (Nat.le_of_ble_eq_true rfl) (Nat.lt_of_lt_of_le (by decide) hd) rfl (sX12_atReport (Nat.le_refl _) x5e) rfl ?_
    obtain ⟨x6, x6e, H⟩ := bs H
    refine u_lI (q := 27) x6e dX12_isReported_26 rfl ?_
    refine v_iload_n (q := 28) 1 dX12_isReported_27 rfl rfl rfl ?_
    refine v_icmp_ne (q1 := 53) (q2 := 31) dX12_isReported_28 (by decide) rfl (fun c7 => ?_) (fun c7 => ?_)
    · have H := ine c7 H
      exact V.sub [0, 1, 2, 3, 4] rfl (sjX12_isReported_53 hd H kI kE)
    · have H := ip c7 H
      refine v_aload_n (q := 32) 0 dX12_isReported_31 rfl rfl rfl ?_
      refine v_iload (q := 34) 4 dX12_isReported_32 rfl rfl ?_
      obtain ⟨_, o9, H⟩ := bs H
      obtain ⟨x10, x10e, H⟩ := bs H
      refine u_callV1 (M' := mX12_firstOf) (d' := 2) (rc := (RX12, TX12, 58)) (As := [.int s3]) (st := []) (q := 37) oX12_firstOf dX12_isReported_34 w1693 w1695 w0086 rfl rfl (gO_sp o9).1 (gO_sp o9).2 rfl (Nat.le_of_ble_eq_true rfl) (Nat.le_of_ble_eq_true rfl) (Nat.lt_of_lt_of_le (by decide) hd) rfl (sX12_firstOf (Nat.le_refl _) x10e) rfl ?_
      refine v_iload_n (q := 38) 2 dX12_isReported_37 rfl rfl rfl ?_
      refine v_icmp_ne (q1 := 53) (q2 := 41) dX12_isReported_38 (by decide) rfl (fun c11 => ?_) (fun c11 => ?_)
      · have H := ine c11 H
        exact V.sub [0, 1, 2, 3, 4] rfl (sjX12_isReported_53 hd H kI kE)
      · have H := ip c11 H
        refine v_aload_n (q := 42) 0 dX12_isReported_41 rfl rfl rfl ?_
        refine v_iload (q := 44) 4 dX12_isReported_42 rfl rfl ?_
        obtain ⟨_, o12, H⟩ := bs H
        obtain ⟨x13, x13e, H⟩ := bs H
        refine u_callV1 (M' := mX12_lastOf) (d' := 2) (rc := (RX12, TX12, 58)) (As := [.int s3]) (st := []) (q := 47) oX12_lastOf dX12_isReported_44 w1697 w1699 w0087 rfl rfl (gO_sp o12).1 (gO_sp o12).2 rfl (Nat.le_of_ble_eq_true rfl) (Nat.le_of_ble_eq_true rfl) (Nat.lt_of_lt_of_le (by decide) hd) rfl (sX12_lastOf (Nat.le_refl _) x13e) rfl ?_
        refine v_iload_n (q := 48) 3 dX12_isReported_47 rfl rfl rfl ?_
        refine v_icmp_ne (q1 := 53) (q2 := 51) dX12_isReported_48 (by decide) rfl (fun c14 => ?_) (fun c14 => ?_)
        · have H := ine c14 H
          exact V.sub [0, 1, 2, 3, 4] rfl (sjX12_isReported_53 hd H kI kE)
        · have H := ip c14 H
          exact V.sub [] rfl (kE (.inr ()) (Option.some.inj H).symm)
def fX12_isReported (h : Hp) (v0 : Nat) (v1 : Int32) (v2 : Int32) (v3 : Int32) : Option (Int32) :=
(lp (bX12_isReported_3 v0 v1 v2 v3 h) FU (0 : Int32)).bind fun e15 =>
(match e15 with
| .inl e16 => (
some (0 : Int32))
| .inr e17 => (
some (1 : Int32)))
set_option maxRecDepth 20000 in
set_option maxHeartbeats 4000000 in
theorem sX12_isReported {Γ : Gm} {d : Nat} (hd : 3 ≤ d) {h : Hp} {v0 : Nat} {v1 : Int32} {v2 : Int32} {v3 : Int32} {r : Int32} (H : fX12_isReported h v0 v1 v2 v3 = some r) : V Γ d mX12_isReported 0 [(0, .ref v0), (1, .int v1), (2, .int v2), (3, .int v3)] [] h (some (.int r), h) := by
  unfold fX12_isReported at H
  refine v_iconst (v := 0) (q := 1) dX12_isReported_0 (by decide) rfl ?_
  refine v_istore (L' := [(4, .int (0 : Int32)), (0, .ref v0), (1, .int v1), (2, .int v2), (3, .int v3)]) (q := 3) dX12_isReported_1 (by decide) rfl rfl ?_
  obtain ⟨e15, e15L, H⟩ := bs H
  refine V.sub [1, 2, 3, 4, 0] rfl ?_
  refine lp_V (P := (fun s3 => V Γ d mX12_isReported 3 [(0, .ref v0), (1, .int v1), (2, .int v2), (3, .int v3), (4, .int s3)] [] h (some (.int r), h))) (E := (fun e => (match e with | .inl a0 => V Γ d mX12_isReported 59 [] [] h (some (.int r), h) | .inr b0 => V Γ d mX12_isReported 51 [] [] h (some (.int r), h)))) (fun s r hb kI kE => sbX12_isReported_3 hd (s3 := s) (r := r) hb kI kE) FU (0 : Int32) e15 e15L ?_
  rcases e15 with e16 | e17
  · skip
    refine v_iconst (v := 0) (q := 60) dX12_isReported_59 (by decide) rfl ?_
    cases H
    exact v_zreturn rfl (by decide) dX12_isReported_60
  · skip
    refine v_iconst (v := 1) (q := 52) dX12_isReported_51 (by decide) rfl ?_
    cases H
    exact v_zreturn rfl (by decide) dX12_isReported_52
def mX12_reportOnce : MI := (yX12_reportOnce, cX12_reportOnce, 5, none)
theorem oX12_reportOnce : mOK mX12_reportOnce 4 := ⟨by decide +kernel, by decide +kernel, by decide +kernel, by decide, w1688, w0150⟩
def jX12_reportOnce_21 (h : Hp) : Option (Hp) :=
some h
set_option maxRecDepth 20000 in
set_option maxHeartbeats 4000000 in
theorem sjX12_reportOnce_21 {Γ : Gm} {d : Nat} (hd : 4 ≤ d) {h : Hp} {r : Hp} (H : jX12_reportOnce_21 h = some r) : V Γ d mX12_reportOnce 21 [] [] h (none, r) := by
  unfold jX12_reportOnce_21 at H
  cases H
  exact v_return rfl dX12_reportOnce_21
def fX12_reportOnce (h : Hp) (v0 : Nat) (v1 : Int32) (v2 : Int32) (v3 : Int32) (v4 : Int32) : Option (Hp) :=
(gO h 12 v0).bind fun _ =>
(fX12_isReported h v0 v1 v4 v4).bind fun x2 =>
if x2 = 0 then (
(gO h 12 v0).bind fun _ =>
(fX12_reportOne h v0 v1 v2 v3 v4).bind fun x5 =>
jX12_reportOnce_21 x5) else (
jX12_reportOnce_21 h)
set_option maxRecDepth 20000 in
set_option maxHeartbeats 4000000 in
theorem sX12_reportOnce {Γ : Gm} {d : Nat} (hd : 4 ≤ d) {h : Hp} {v0 : Nat} {v1 : Int32} {v2 : Int32} {v3 : Int32} {v4 : Int32} {r : Hp} (H : fX12_reportOnce h v0 v1 v2 v3 v4 = some r) : V Γ d mX12_reportOnce 0 [(0, .ref v0), (1, .int v1), (2, .int v2), (3, .int v3), (4, .int v4)] [] h (none, r) := by
  unfold fX12_reportOnce at H
  refine v_aload_n (q := 1) 0 dX12_reportOnce_0 rfl rfl rfl ?_
  refine v_iload_n (q := 2) 1 dX12_reportOnce_1 rfl rfl rfl ?_
  refine v_iload (q := 4) 4 dX12_reportOnce_2 rfl rfl ?_
  refine v_iload (q := 6) 4 dX12_reportOnce_4 rfl rfl ?_
  obtain ⟨_, o1, H⟩ := bs H
  obtain ⟨x2, x2e, H⟩ := bs H
  refine u_callV1 (M' := mX12_isReported) (d' := 3) (rc := (RX12, TX12, 58)) (As := [.int v1, .int v4, .int v4]) (st := []) (q := 9) oX12_isReported dX12_reportOnce_6 w1689 w1691 w0085 rfl rfl (gO_sp o1).1 (gO_sp o1).2 rfl (Nat.le_of_ble_eq_true rfl) (Nat.le_of_ble_eq_true rfl) (Nat.lt_of_lt_of_le (by decide) hd) rfl (sX12_isReported (Nat.le_refl _) x2e) rfl ?_
  refine v_if_ne (q1 := 21) (q2 := 12) dX12_reportOnce_9 (by decide) rfl (fun c3 => ?_) (fun c3 => ?_)
  · have H := ine c3 H
    exact V.sub [] rfl (sjX12_reportOnce_21 hd H)
  · have H := ip c3 H
    refine v_aload_n (q := 13) 0 dX12_reportOnce_12 rfl rfl rfl ?_
    refine v_iload_n (q := 14) 1 dX12_reportOnce_13 rfl rfl rfl ?_
    refine v_iload_n (q := 15) 2 dX12_reportOnce_14 rfl rfl rfl ?_
    refine v_iload_n (q := 16) 3 dX12_reportOnce_15 rfl rfl rfl ?_
    refine v_iload (q := 18) 4 dX12_reportOnce_16 rfl rfl ?_
    obtain ⟨_, o4, H⟩ := bs H
    obtain ⟨x5, x5e, H⟩ := bs H
    refine u_callV0 (M' := mX12_reportOne) (d' := 3) (rc := (RX12, TX12, 58)) (As := [.int v1, .int v2, .int v3, .int v4]) (st := []) (q := 21) oX12_reportOne dX12_reportOnce_18 w1662 w1664 w0079 rfl rfl (gO_sp o4).1 (gO_sp o4).2 rfl (Nat.le_of_ble_eq_true rfl) (Nat.le_of_ble_eq_true rfl) (Nat.lt_of_lt_of_le (by decide) hd) rfl (sX12_reportOne (Nat.le_refl _) x5e) rfl ?_
    exact V.sub [] rfl (sjX12_reportOnce_21 hd H)
def mX12_isEdge : MI := (yX12_isEdge, cX12_isEdge, 3, some .boolean)
theorem oX12_isEdge : mOK mX12_isEdge 2 := ⟨by decide +kernel, by decide +kernel, by decide +kernel, by decide, w1704, w0150⟩
def jX12_isEdge_21 (y0 : Int32) (h : Hp) : Option (Int32) :=
(bz y0).bind fun x4 =>
some x4
set_option maxRecDepth 20000 in
set_option maxHeartbeats 4000000 in
theorem sjX12_isEdge_21 {Γ : Gm} {d : Nat} (hd : 1 ≤ d) {y0 : Int32} {h : Hp} {r : Int32} (H : jX12_isEdge_21 y0 h = some r) : V Γ d mX12_isEdge 21 [] [.int y0] h (some (.int r), h) := by
  unfold jX12_isEdge_21 at H
  obtain ⟨x4, x4e, H⟩ := bs H
  obtain ⟨x4q, x4z⟩ := bz_sp x4e
  refine v_topi x4q.symm ?_
  cases H
  exact v_zreturn rfl (by rw [x4q]; exact x4z) dX12_isEdge_21
def fX12_isEdge (h : Hp) (v0 : Nat) (v1 : Int32) (v2 : Int32) : Option (Int32) :=
(gR h 12 v0 0).bind fun x1 =>
(lI h .int x1 (((0 : Int32) + ((16 : Int32) * v1)) + v2)).bind fun x2 =>
if x2 ≤ 0 then (
jX12_isEdge_21 (0 : Int32) h) else (
jX12_isEdge_21 (1 : Int32) h)
set_option maxRecDepth 20000 in
set_option maxHeartbeats 4000000 in
theorem sX12_isEdge {Γ : Gm} {d : Nat} (hd : 1 ≤ d) {h : Hp} {v0 : Nat} {v1 : Int32} {v2 : Int32} {r : Int32} (H : fX12_isEdge h v0 v1 v2 = some r) : V Γ d mX12_isEdge 0 [(0, .ref v0), (1, .int v1), (2, .int v2)] [] h (some (.int r), h) := by
  unfold fX12_isEdge at H
  refine v_aload_n (q := 1) 0 dX12_isEdge_0 rfl rfl rfl ?_
  obtain ⟨x1, x1e, H⟩ := bs H
  refine u_gR (q := 4) (r := (RX12, TX12, 58)) x1e dX12_isEdge_1 w1356 rfl (by decide) rfl rfl ?_
  refine v_iconst (v := 0) (q := 5) dX12_isEdge_4 (by decide) rfl ?_
  refine v_bipush (v := 16) (q := 7) dX12_isEdge_5 (by decide) rfl ?_
  refine v_iload_n (q := 8) 1 dX12_isEdge_7 rfl rfl rfl ?_
  refine v_imul (q := 9) dX12_isEdge_8 rfl ?_
  refine v_iadd (q := 10) dX12_isEdge_9 rfl ?_
  refine v_iload_n (q := 11) 2 dX12_isEdge_10 rfl rfl rfl ?_
  refine v_iadd (q := 12) dX12_isEdge_11 rfl ?_
  obtain ⟨x2, x2e, H⟩ := bs H
  refine u_lI (q := 13) x2e dX12_isEdge_12 rfl ?_
  refine v_if_le (q1 := 20) (q2 := 16) dX12_isEdge_13 (by decide) rfl (fun c3 => ?_) (fun c3 => ?_)
  · have H := ip c3 H
    refine v_iconst (v := 0) (q := 21) dX12_isEdge_20 (by decide) rfl ?_
    exact V.sub [] rfl (sjX12_isEdge_21 hd H)
  · have H := ine c3 H
    refine v_iconst (v := 1) (q := 17) dX12_isEdge_16 (by decide) rfl ?_
    refine v_goto (q := 21) dX12_isEdge_17 (by decide) ?_
    exact V.sub [] rfl (sjX12_isEdge_21 hd H)
def mX12_layWay : MI := (yX12_layWay, cX12_layWay, 8, some .int)
theorem oX12_layWay : mOK mX12_layWay 2 := ⟨by decide +kernel, by decide +kernel, by decide +kernel, by decide, w1712, w0150⟩
def jX12_layWay_25 (u0 : Nat) (u1 : Int32) (u2 : Int32) (v3 : Int32) (y0 : Int32) (y1 : Int32) (y2 : Nat) (h : Hp) : Option ((Int32 × Hp) ⊕ (Hp)) :=
(tI h y2 y1 y0).bind fun h4 =>
(some (v3 + (1 : Int32))).bind fun x5 =>
some (.inl (x5, h4))
set_option maxRecDepth 20000 in
set_option maxHeartbeats 4000000 in
theorem sjX12_layWay_25 {Γ : Gm} {d : Nat} (hd : 2 ≤ d) {u0 : Nat} {u1 : Int32} {u2 : Int32} {v3 : Int32} {y0 : Int32} {y1 : Int32} {y2 : Nat} {h : Hp} {r : (Int32 × Hp) ⊕ (Hp)} {t : Option Value × Hp} (H : jX12_layWay_25 u0 u1 u2 v3 y0 y1 y2 h = some r) (kI : ∀ s, r = .inl s → (fun s2 => V Γ d mX12_layWay 2 [(0, .ref u0), (1, .int u1), (2, .int u2), (3, .int s2.1)] [] s2.2 t) s) (kE : ∀ e, r = .inr e → (fun e => V Γ d mX12_layWay 32 [(0, .ref u0), (1, .int u1)] [] e t) e) : V Γ d mX12_layWay 25 [(0, .ref u0), (1, .int u1), (2, .int u2), (3, .int v3)] [.int y0, .int y1, .ref y2] h t := by
  unfold jX12_layWay_25 at H
  obtain ⟨h4, h4e, H⟩ := bs H
  refine u_tI (q := 26) h4e dX12_layWay_25 rfl ?_
  obtain ⟨x5, x5e, H⟩ := bs H
  refine v_iinc (v := x5) (L' := [(3, .int x5), (0, .ref u0), (1, .int u1), (2, .int u2)]) (q := 29) 3 dX12_layWay_26 rfl (Option.some.inj x5e) (by decide) rfl rfl ?_
  refine v_goto (q := 2) dX12_layWay_29 (by decide) ?_
  exact V.sub [1, 2, 3, 0] rfl (kI (x5, h4) (Option.some.inj H).symm)
def bX12_layWay_2 (u0 : Nat) (u1 : Int32) (u2 : Int32) (s2 : Int32 × Hp) : Option ((Int32 × Hp) ⊕ (Hp)) :=
if (16 : Int32) ≤ s2.1 then (
some (.inr s2.2)) else (
(gR s2.2 12 u0 27).bind fun x2 =>
if s2.1 = u2 then (
jX12_layWay_25 u0 u1 u2 s2.1 (0 : Int32) s2.1 x2 s2.2) else (
jX12_layWay_25 u0 u1 u2 s2.1 (268435456 : Int32) s2.1 x2 s2.2))
set_option maxRecDepth 20000 in
set_option maxHeartbeats 4000000 in
theorem sbX12_layWay_2 {Γ : Gm} {d : Nat} (hd : 2 ≤ d) {u0 : Nat} {u1 : Int32} {u2 : Int32} {s2 : Int32 × Hp} {r : (Int32 × Hp) ⊕ (Hp)} {t : Option Value × Hp} (H : bX12_layWay_2 u0 u1 u2 s2 = some r) (kI : ∀ s, r = .inl s → (fun s2 => V Γ d mX12_layWay 2 [(0, .ref u0), (1, .int u1), (2, .int u2), (3, .int s2.1)] [] s2.2 t) s) (kE : ∀ e, r = .inr e → (fun e => V Γ d mX12_layWay 32 [(0, .ref u0), (1, .int u1)] [] e t) e) : V Γ d mX12_layWay 2 [(0, .ref u0), (1, .int u1), (2, .int u2), (3, .int s2.1)] [] s2.2 t := by
  unfold bX12_layWay_2 at H
  refine v_iload_n (q := 3) 3 dX12_layWay_2 rfl rfl rfl ?_
  refine v_bipush (v := 16) (q := 5) dX12_layWay_3 (by decide) rfl ?_
  refine v_icmp_ge (q1 := 32) (q2 := 8) dX12_layWay_5 (by decide) rfl (fun c1 => ?_) (fun c1 => ?_)
  · have H := ip c1 H
    exact V.sub [0, 1] rfl (kE s2.2 (Option.some.inj H).symm)
  · have H := ine c1 H
    refine v_aload_n (q := 9) 0 dX12_layWay_8 rfl rfl rfl ?_
    obtain ⟨x2, x2e, H⟩ := bs H
    refine u_gR (q := 12) (r := (RX12, TX12, 58)) x2e dX12_layWay_9 w1383 rfl (by decide) rfl rfl ?_
    refine v_iload_n (q := 13) 3 dX12_layWay_12 rfl rfl rfl ?_
    refine v_iload_n (q := 14) 3 dX12_layWay_13 rfl rfl rfl ?_
    refine v_iload_n (q := 15) 2 dX12_layWay_14 rfl rfl rfl ?_
    refine v_icmp_ne (q1 := 22) (q2 := 18) dX12_layWay_15 (by decide) rfl (fun c3 => ?_) (fun c3 => ?_)
    · have H := ine c3 H
      refine v_ldcw (v := 268435456) (q := 25) dX12_layWay_22 w1713 rfl ?_
      exact V.sub [0, 1, 2, 3] rfl (sjX12_layWay_25 hd H kI kE)
    · have H := ip c3 H
      refine v_iconst (v := 0) (q := 19) dX12_layWay_18 (by decide) rfl ?_
      refine v_goto (q := 25) dX12_layWay_19 (by decide) ?_
      exact V.sub [0, 1, 2, 3] rfl (sjX12_layWay_25 hd H kI kE)
def jX12_layWay_111 (u0 : Nat) (u1 : Int32) (v3 : Int32) (u4 : Int32) (v5 : Int32) (h : Hp) : Option ((Int32 × Int32 × Hp) ⊕ (Int32 × Hp)) :=
(some (v5 + (1 : Int32))).bind fun x13 =>
some (.inl (v3, x13, h))
set_option maxRecDepth 20000 in
set_option maxHeartbeats 4000000 in
theorem sjX12_layWay_111 {Γ : Gm} {d : Nat} (hd : 2 ≤ d) {u0 : Nat} {u1 : Int32} {v3 : Int32} {u4 : Int32} {v5 : Int32} {h : Hp} {r : (Int32 × Int32 × Hp) ⊕ (Int32 × Hp)} {t : Option Value × Hp} (H : jX12_layWay_111 u0 u1 v3 u4 v5 h = some r) (kI : ∀ s, r = .inl s → (fun s53 => V Γ d mX12_layWay 53 [(0, .ref u0), (1, .int u1), (3, .int s53.1), (4, .int u4), (5, .int s53.2.1)] [] s53.2.2 t) s) (kE : ∀ e, r = .inr e → (fun e => V Γ d mX12_layWay 117 [(0, .ref u0), (1, .int u1), (3, .int e.1), (4, .int u4)] [] e.2 t) e) : V Γ d mX12_layWay 111 [(0, .ref u0), (1, .int u1), (3, .int v3), (4, .int u4), (5, .int v5)] [] h t := by
  unfold jX12_layWay_111 at H
  obtain ⟨x13, x13e, H⟩ := bs H
  refine v_iinc (v := x13) (L' := [(5, .int x13), (0, .ref u0), (1, .int u1), (3, .int v3), (4, .int u4)]) (q := 114) 4 dX12_layWay_111 rfl (Option.some.inj x13e) (by decide) rfl rfl ?_
  refine v_goto (q := 53) dX12_layWay_114 (by decide) ?_
  exact V.sub [1, 2, 3, 4, 0] rfl (kI (v3, x13, h) (Option.some.inj H).symm)
def bX12_layWay_53 (u0 : Nat) (u1 : Int32) (u4 : Int32) (s53 : Int32 × Int32 × Hp) : Option ((Int32 × Int32 × Hp) ⊕ (Int32 × Hp)) :=
if (16 : Int32) ≤ s53.2.1 then (
some (.inr (s53.1, s53.2.2))) else (
(gO s53.2.2 12 u0).bind fun _ =>
(fX12_isEdge s53.2.2 u0 u4 s53.2.1).bind fun x11 =>
if x11 = 0 then (
jX12_layWay_111 u0 u1 s53.1 u4 s53.2.1 s53.2.2) else (
(gR s53.2.2 12 u0 27).bind fun x14 =>
(lI s53.2.2 .int x14 s53.2.1).bind fun x15 =>
(gR s53.2.2 12 u0 27).bind fun x16 =>
(lI s53.2.2 .int x16 u4).bind fun x17 =>
if (x15 + (1 : Int32)) < x17 then (
(gR s53.2.2 12 u0 27).bind fun x19 =>
(gR s53.2.2 12 u0 27).bind fun x20 =>
(lI s53.2.2 .int x20 s53.2.1).bind fun x21 =>
(tI s53.2.2 x19 u4 (x21 + (1 : Int32))).bind fun h22 =>
jX12_layWay_111 u0 u1 (1 : Int32) u4 s53.2.1 h22) else (
jX12_layWay_111 u0 u1 s53.1 u4 s53.2.1 s53.2.2)))
set_option maxRecDepth 20000 in
set_option maxHeartbeats 4000000 in
theorem sbX12_layWay_53 {Γ : Gm} {d : Nat} (hd : 2 ≤ d) {u0 : Nat} {u1 : Int32} {u4 : Int32} {s53 : Int32 × Int32 × Hp} {r : (Int32 × Int32 × Hp) ⊕ (Int32 × Hp)} {t : Option Value × Hp} (H : bX12_layWay_53 u0 u1 u4 s53 = some r) (kI : ∀ s, r = .inl s → (fun s53 => V Γ d mX12_layWay 53 [(0, .ref u0), (1, .int u1), (3, .int s53.1), (4, .int u4), (5, .int s53.2.1)] [] s53.2.2 t) s) (kE : ∀ e, r = .inr e → (fun e => V Γ d mX12_layWay 117 [(0, .ref u0), (1, .int u1), (3, .int e.1), (4, .int u4)] [] e.2 t) e) : V Γ d mX12_layWay 53 [(0, .ref u0), (1, .int u1), (3, .int s53.1), (4, .int u4), (5, .int s53.2.1)] [] s53.2.2 t := by
  unfold bX12_layWay_53 at H
  refine v_iload (q := 55) 4 dX12_layWay_53 rfl rfl ?_
  refine v_bipush (v := 16) (q := 57) dX12_layWay_55 (by decide) rfl ?_
  refine v_icmp_ge (q1 := 117) (q2 := 60) dX12_layWay_57 (by decide) rfl (fun c9 => ?_) (fun c9 => ?_)
  · have H := ip c9 H
    exact V.sub [0, 1, 2, 3] rfl (kE (s53.1, s53.2.2) (Option.some.inj H).symm)
  · have H := ine c9 H
    refine v_aload_n (q := 61) 0 dX12_layWay_60 rfl rfl rfl ?_
    refine v_iload (q := 63) 3 dX12_layWay_61 rfl rfl ?_
    refine v_iload (q := 65) 4 dX12_layWay_63 rfl rfl ?_
    obtain ⟨_, o10, H⟩ := bs H
    obtain ⟨x11, x11e, H⟩ := bs H
    refine u_callV1 (M' := mX12_isEdge) (d' := 1) (rc := (RX12, TX12, 58)) (As := [.int u4, .int s53.2.1]) (st := []) (q := 68) oX12_isEdge dX12_layWay_65 w1701 w1703 w0088 rfl rfl (gO_sp o10).1 (gO_sp o10).2 rfl (Nat.le_of_ble_eq_true rfl) (Nat.le_of_ble_eq_true rfl) (Nat.lt_of_lt_of_le (by decide) hd) rfl (sX12_isEdge (Nat.le_refl _) x11e) rfl ?_
    refine v_if_eq (q1 := 111) (q2 := 71) dX12_layWay_68 (by decide) rfl (fun c12 => ?_) (fun c12 => ?_)
    · have H := ip c12 H
      exact V.sub [0, 1, 2, 3, 4] rfl (sjX12_layWay_111 hd H kI kE)
    · have H := ine c12 H
      refine v_aload_n (q := 72) 0 dX12_layWay_71 rfl rfl rfl ?_
      obtain ⟨x14, x14e, H⟩ := bs H
      refine u_gR (q := 75) (r := (RX12, TX12, 58)) x14e dX12_layWay_72 w1383 rfl (by decide) rfl rfl ?_
      refine v_iload (q := 77) 4 dX12_layWay_75 rfl rfl ?_
      obtain ⟨x15, x15e, H⟩ := bs H
      refine u_lI (q := 78) x15e dX12_layWay_77 rfl ?_
      refine v_iconst (v := 1) (q := 79) dX12_layWay_78 (by decide) rfl ?_
      refine v_iadd (q := 80) dX12_layWay_79 rfl ?_
      refine v_aload_n (q := 81) 0 dX12_layWay_80 rfl rfl rfl ?_
      obtain ⟨x16, x16e, H⟩ := bs H
      refine u_gR (q := 84) (r := (RX12, TX12, 58)) x16e dX12_layWay_81 w1383 rfl (by decide) rfl rfl ?_
      refine v_iload (q := 86) 3 dX12_layWay_84 rfl rfl ?_
      obtain ⟨x17, x17e, H⟩ := bs H
      refine u_lI (q := 87) x17e dX12_layWay_86 rfl ?_
      refine v_icmp_lt (q1 := 93) (q2 := 90) dX12_layWay_87 (by decide) rfl (fun c18 => ?_) (fun c18 => ?_)
      · have H := ip c18 H
        refine v_aload_n (q := 94) 0 dX12_layWay_93 rfl rfl rfl ?_
        obtain ⟨x19, x19e, H⟩ := bs H
        refine u_gR (q := 97) (r := (RX12, TX12, 58)) x19e dX12_layWay_94 w1383 rfl (by decide) rfl rfl ?_
        refine v_iload (q := 99) 3 dX12_layWay_97 rfl rfl ?_
        refine v_aload_n (q := 100) 0 dX12_layWay_99 rfl rfl rfl ?_
        obtain ⟨x20, x20e, H⟩ := bs H
        refine u_gR (q := 103) (r := (RX12, TX12, 58)) x20e dX12_layWay_100 w1383 rfl (by decide) rfl rfl ?_
        refine v_iload (q := 105) 4 dX12_layWay_103 rfl rfl ?_
        obtain ⟨x21, x21e, H⟩ := bs H
        refine u_lI (q := 106) x21e dX12_layWay_105 rfl ?_
        refine v_iconst (v := 1) (q := 107) dX12_layWay_106 (by decide) rfl ?_
        refine v_iadd (q := 108) dX12_layWay_107 rfl ?_
        obtain ⟨h22, h22e, H⟩ := bs H
        refine u_tI (q := 109) h22e dX12_layWay_108 rfl ?_
        refine v_iconst (v := 1) (q := 110) dX12_layWay_109 (by decide) rfl ?_
        refine v_istore_n (L' := [(3, .int (1 : Int32)), (0, .ref u0), (1, .int u1), (4, .int u4), (5, .int s53.2.1)]) (q := 111) dX12_layWay_110 rfl (by decide) rfl rfl ?_
        exact V.sub [1, 2, 0, 3, 4] rfl (sjX12_layWay_111 hd H kI kE)
      · have H := ine c18 H
        refine v_goto (q := 111) dX12_layWay_90 (by decide) ?_
        exact V.sub [0, 1, 2, 3, 4] rfl (sjX12_layWay_111 hd H kI kE)
def bX12_layWay_43 (u0 : Nat) (u1 : Int32) (s43 : Int32 × Int32 × Hp) : Option ((Int32 × Int32 × Hp) ⊕ (Int32 × Hp)) :=
if (16 : Int32) ≤ s43.2.1 then (
some (.inr (s43.1, s43.2.2))) else (
(lp (bX12_layWay_53 u0 u1 s43.2.1) FU (s43.1, (0 : Int32), s43.2.2)).bind fun e23 =>
(some (s43.2.1 + (1 : Int32))).bind fun x24 =>
some (.inl (e23.1, x24, e23.2)))
set_option maxRecDepth 20000 in
set_option maxHeartbeats 4000000 in
theorem sbX12_layWay_43 {Γ : Gm} {d : Nat} (hd : 2 ≤ d) {u0 : Nat} {u1 : Int32} {s43 : Int32 × Int32 × Hp} {r : (Int32 × Int32 × Hp) ⊕ (Int32 × Hp)} {t : Option Value × Hp} (H : bX12_layWay_43 u0 u1 s43 = some r) (kI : ∀ s, r = .inl s → (fun s43 => V Γ d mX12_layWay 43 [(0, .ref u0), (1, .int u1), (3, .int s43.1), (4, .int s43.2.1)] [] s43.2.2 t) s) (kE : ∀ e, r = .inr e → (fun e => V Γ d mX12_layWay 123 [(0, .ref u0), (1, .int u1), (3, .int e.1)] [] e.2 t) e) : V Γ d mX12_layWay 43 [(0, .ref u0), (1, .int u1), (3, .int s43.1), (4, .int s43.2.1)] [] s43.2.2 t := by
  unfold bX12_layWay_43 at H
  refine v_iload (q := 45) 3 dX12_layWay_43 rfl rfl ?_
  refine v_bipush (v := 16) (q := 47) dX12_layWay_45 (by decide) rfl ?_
  refine v_icmp_ge (q1 := 123) (q2 := 50) dX12_layWay_47 (by decide) rfl (fun c8 => ?_) (fun c8 => ?_)
  · have H := ip c8 H
    exact V.sub [0, 1, 2] rfl (kE (s43.1, s43.2.2) (Option.some.inj H).symm)
  · have H := ine c8 H
    refine v_iconst (v := 0) (q := 51) dX12_layWay_50 (by decide) rfl ?_
    refine v_istore (L' := [(5, .int (0 : Int32)), (0, .ref u0), (1, .int u1), (3, .int s43.1), (4, .int s43.2.1)]) (q := 53) dX12_layWay_51 (by decide) rfl rfl ?_
    obtain ⟨e23, e23L, H⟩ := bs H
    refine V.sub [1, 2, 3, 4, 0] rfl ?_
    refine lp_V (P := (fun s53 => V Γ d mX12_layWay 53 [(0, .ref u0), (1, .int u1), (3, .int s53.1), (4, .int s43.2.1), (5, .int s53.2.1)] [] s53.2.2 t)) (E := (fun e => V Γ d mX12_layWay 117 [(0, .ref u0), (1, .int u1), (3, .int e.1), (4, .int s43.2.1)] [] e.2 t)) (fun s r hb kI kE => sbX12_layWay_53 hd (s53 := s) (r := r) hb kI kE) FU (s43.1, (0 : Int32), s43.2.2) e23 e23L ?_
    obtain ⟨x24, x24e, H⟩ := bs H
    refine v_iinc (v := x24) (L' := [(4, .int x24), (0, .ref u0), (1, .int u1), (3, .int e23.1)]) (q := 120) 3 dX12_layWay_117 rfl (Option.some.inj x24e) (by decide) rfl rfl ?_
    refine v_goto (q := 43) dX12_layWay_120 (by decide) ?_
    exact V.sub [1, 2, 3, 0] rfl (kI (e23.1, x24, e23.2) (Option.some.inj H).symm)
def bX12_layWay_34 (u0 : Nat) (u1 : Int32) (s34 : Int32 × Hp) : Option ((Int32 × Hp) ⊕ (Hp)) :=
if s34.1 = 0 then (
some (.inr s34.2)) else (
(lp (bX12_layWay_43 u0 u1) FU ((0 : Int32), (0 : Int32), s34.2)).bind fun e25 =>
some (.inl (e25.1, e25.2)))
set_option maxRecDepth 20000 in
set_option maxHeartbeats 4000000 in
theorem sbX12_layWay_34 {Γ : Gm} {d : Nat} (hd : 2 ≤ d) {u0 : Nat} {u1 : Int32} {s34 : Int32 × Hp} {r : (Int32 × Hp) ⊕ (Hp)} {t : Option Value × Hp} (H : bX12_layWay_34 u0 u1 s34 = some r) (kI : ∀ s, r = .inl s → (fun s34 => V Γ d mX12_layWay 34 [(0, .ref u0), (1, .int u1), (3, .int s34.1)] [] s34.2 t) s) (kE : ∀ e, r = .inr e → (fun e => V Γ d mX12_layWay 126 [(0, .ref u0), (1, .int u1)] [] e t) e) : V Γ d mX12_layWay 34 [(0, .ref u0), (1, .int u1), (3, .int s34.1)] [] s34.2 t := by
  unfold bX12_layWay_34 at H
  refine v_iload_n (q := 35) 2 dX12_layWay_34 rfl rfl rfl ?_
  refine v_if_eq (q1 := 126) (q2 := 38) dX12_layWay_35 (by decide) rfl (fun c7 => ?_) (fun c7 => ?_)
  · have H := ip c7 H
    exact V.sub [0, 1] rfl (kE s34.2 (Option.some.inj H).symm)
  · have H := ine c7 H
    refine v_iconst (v := 0) (q := 39) dX12_layWay_38 (by decide) rfl ?_
    refine v_istore_n (L' := [(3, .int (0 : Int32)), (0, .ref u0), (1, .int u1)]) (q := 40) dX12_layWay_39 rfl (by decide) rfl rfl ?_
    refine v_iconst (v := 0) (q := 41) dX12_layWay_40 (by decide) rfl ?_
    refine v_istore (L' := [(4, .int (0 : Int32)), (3, .int (0 : Int32)), (0, .ref u0), (1, .int u1)]) (q := 43) dX12_layWay_41 (by decide) rfl rfl ?_
    obtain ⟨e25, e25L, H⟩ := bs H
    refine V.sub [2, 3, 1, 0] rfl ?_
    refine lp_V (P := (fun s43 => V Γ d mX12_layWay 43 [(0, .ref u0), (1, .int u1), (3, .int s43.1), (4, .int s43.2.1)] [] s43.2.2 t)) (E := (fun e => V Γ d mX12_layWay 123 [(0, .ref u0), (1, .int u1), (3, .int e.1)] [] e.2 t)) (fun s r hb kI kE => sbX12_layWay_43 hd (s43 := s) (r := r) hb kI kE) FU ((0 : Int32), (0 : Int32), s34.2) e25 e25L ?_
    refine v_goto (q := 34) dX12_layWay_123 (by decide) ?_
    exact V.sub [0, 1, 2] rfl (kI (e25.1, e25.2) (Option.some.inj H).symm)
def jX12_layWay_175 (u0 : Nat) (u1 : Int32) (v5 : Int32) (y0 : Int32) (h : Hp) : Option ((Int32 × Int32) ⊕ (Int32)) :=
(some (v5 + (1 : Int32))).bind fun x31 =>
some (.inl (y0, x31))
set_option maxRecDepth 20000 in
set_option maxHeartbeats 4000000 in
theorem sjX12_layWay_175 {Γ : Gm} {d : Nat} (hd : 2 ≤ d) {u0 : Nat} {u1 : Int32} {v5 : Int32} {y0 : Int32} {h : Hp} {r : (Int32 × Int32) ⊕ (Int32)} {t : Option Value × Hp} (H : jX12_layWay_175 u0 u1 v5 y0 h = some r) (kI : ∀ s, r = .inl s → (fun s134 => V Γ d mX12_layWay 134 [(0, .ref u0), (1, .int u1), (4, .int s134.1), (5, .int s134.2)] [] h t) s) (kE : ∀ e, r = .inr e → (fun e => V Γ d mX12_layWay 183 [(0, .ref u0), (1, .int u1), (4, .int e)] [] h t) e) : V Γ d mX12_layWay 175 [(0, .ref u0), (1, .int u1), (5, .int v5)] [.int y0] h t := by
  unfold jX12_layWay_175 at H
  refine v_istore (L' := [(4, .int y0), (0, .ref u0), (1, .int u1), (5, .int v5)]) (q := 177) dX12_layWay_175 (by decide) rfl rfl ?_
  obtain ⟨x31, x31e, H⟩ := bs H
  refine v_iinc (v := x31) (L' := [(5, .int x31), (4, .int y0), (0, .ref u0), (1, .int u1)]) (q := 180) 3 dX12_layWay_177 rfl (Option.some.inj x31e) (by decide) rfl rfl ?_
  refine v_goto (q := 134) dX12_layWay_180 (by decide) ?_
  exact V.sub [2, 3, 1, 0] rfl (kI (y0, x31) (Option.some.inj H).symm)
def jX12_layWay_173 (u0 : Nat) (u1 : Int32) (v4 : Int32) (v5 : Int32) (h : Hp) : Option ((Int32 × Int32) ⊕ (Int32)) :=
jX12_layWay_175 u0 u1 v5 v4 h
set_option maxRecDepth 20000 in
set_option maxHeartbeats 4000000 in
theorem sjX12_layWay_173 {Γ : Gm} {d : Nat} (hd : 2 ≤ d) {u0 : Nat} {u1 : Int32} {v4 : Int32} {v5 : Int32} {h : Hp} {r : (Int32 × Int32) ⊕ (Int32)} {t : Option Value × Hp} (H : jX12_layWay_173 u0 u1 v4 v5 h = some r) (kI : ∀ s, r = .inl s → (fun s134 => V Γ d mX12_layWay 134 [(0, .ref u0), (1, .int u1), (4, .int s134.1), (5, .int s134.2)] [] h t) s) (kE : ∀ e, r = .inr e → (fun e => V Γ d mX12_layWay 183 [(0, .ref u0), (1, .int u1), (4, .int e)] [] h t) e) : V Γ d mX12_layWay 173 [(0, .ref u0), (1, .int u1), (4, .int v4), (5, .int v5)] [] h t := by
  unfold jX12_layWay_173 at H
  refine v_iload (q := 175) 2 dX12_layWay_173 rfl rfl ?_
  exact V.sub [0, 1, 3] rfl (sjX12_layWay_175 hd H kI kE)
def bX12_layWay_134 (u0 : Nat) (u1 : Int32) (h : Hp) (s134 : Int32 × Int32) : Option ((Int32 × Int32) ⊕ (Int32)) :=
if (16 : Int32) ≤ s134.2 then (
some (.inr s134.1)) else (
(gO h 12 u0).bind fun _ =>
(fX12_isEdge h u0 u1 s134.2).bind fun x29 =>
if x29 = 0 then (
jX12_layWay_173 u0 u1 s134.1 s134.2 h) else (
(gR h 12 u0 27).bind fun x32 =>
(lI h .int x32 s134.2).bind fun x33 =>
if s134.1 ≤ x33 then (
jX12_layWay_173 u0 u1 s134.1 s134.2 h) else (
(gR h 12 u0 27).bind fun x35 =>
(lI h .int x35 s134.2).bind fun x36 =>
jX12_layWay_175 u0 u1 s134.2 x36 h)))
set_option maxRecDepth 20000 in
set_option maxHeartbeats 4000000 in
theorem sbX12_layWay_134 {Γ : Gm} {d : Nat} (hd : 2 ≤ d) {u0 : Nat} {u1 : Int32} {h : Hp} {s134 : Int32 × Int32} {r : (Int32 × Int32) ⊕ (Int32)} {t : Option Value × Hp} (H : bX12_layWay_134 u0 u1 h s134 = some r) (kI : ∀ s, r = .inl s → (fun s134 => V Γ d mX12_layWay 134 [(0, .ref u0), (1, .int u1), (4, .int s134.1), (5, .int s134.2)] [] h t) s) (kE : ∀ e, r = .inr e → (fun e => V Γ d mX12_layWay 183 [(0, .ref u0), (1, .int u1), (4, .int e)] [] h t) e) : V Γ d mX12_layWay 134 [(0, .ref u0), (1, .int u1), (4, .int s134.1), (5, .int s134.2)] [] h t := by
  unfold bX12_layWay_134 at H
  refine v_iload (q := 136) 3 dX12_layWay_134 rfl rfl ?_
  refine v_bipush (v := 16) (q := 138) dX12_layWay_136 (by decide) rfl ?_
  refine v_icmp_ge (q1 := 183) (q2 := 141) dX12_layWay_138 (by decide) rfl (fun c27 => ?_) (fun c27 => ?_)
  · have H := ip c27 H
    exact V.sub [0, 1, 2] rfl (kE s134.1 (Option.some.inj H).symm)
  · have H := ine c27 H
    refine v_aload_n (q := 142) 0 dX12_layWay_141 rfl rfl rfl ?_
    refine v_iload_n (q := 143) 1 dX12_layWay_142 rfl rfl rfl ?_
    refine v_iload (q := 145) 3 dX12_layWay_143 rfl rfl ?_
    obtain ⟨_, o28, H⟩ := bs H
    obtain ⟨x29, x29e, H⟩ := bs H
    refine u_callV1 (M' := mX12_isEdge) (d' := 1) (rc := (RX12, TX12, 58)) (As := [.int u1, .int s134.2]) (st := []) (q := 148) oX12_isEdge dX12_layWay_145 w1701 w1703 w0088 rfl rfl (gO_sp o28).1 (gO_sp o28).2 rfl (Nat.le_of_ble_eq_true rfl) (Nat.le_of_ble_eq_true rfl) (Nat.lt_of_lt_of_le (by decide) hd) rfl (sX12_isEdge (Nat.le_refl _) x29e) rfl ?_
    refine v_if_eq (q1 := 173) (q2 := 151) dX12_layWay_148 (by decide) rfl (fun c30 => ?_) (fun c30 => ?_)
    · have H := ip c30 H
      exact V.sub [0, 1, 2, 3] rfl (sjX12_layWay_173 hd H kI kE)
    · have H := ine c30 H
      refine v_aload_n (q := 152) 0 dX12_layWay_151 rfl rfl rfl ?_
      obtain ⟨x32, x32e, H⟩ := bs H
      refine u_gR (q := 155) (r := (RX12, TX12, 58)) x32e dX12_layWay_152 w1383 rfl (by decide) rfl rfl ?_
      refine v_iload (q := 157) 3 dX12_layWay_155 rfl rfl ?_
      obtain ⟨x33, x33e, H⟩ := bs H
      refine u_lI (q := 158) x33e dX12_layWay_157 rfl ?_
      refine v_iload (q := 160) 2 dX12_layWay_158 rfl rfl ?_
      refine v_icmp_ge (q1 := 173) (q2 := 163) dX12_layWay_160 (by decide) rfl (fun c34 => ?_) (fun c34 => ?_)
      · have H := ip c34 H
        exact V.sub [0, 1, 2, 3] rfl (sjX12_layWay_173 hd H kI kE)
      · have H := ine c34 H
        refine v_aload_n (q := 164) 0 dX12_layWay_163 rfl rfl rfl ?_
        obtain ⟨x35, x35e, H⟩ := bs H
        refine u_gR (q := 167) (r := (RX12, TX12, 58)) x35e dX12_layWay_164 w1383 rfl (by decide) rfl rfl ?_
        refine v_iload (q := 169) 3 dX12_layWay_167 rfl rfl ?_
        obtain ⟨x36, x36e, H⟩ := bs H
        refine u_lI (q := 170) x36e dX12_layWay_169 rfl ?_
        refine v_goto (q := 175) dX12_layWay_170 (by decide) ?_
        exact V.sub [0, 1, 3] rfl (sjX12_layWay_175 hd H kI kE)
def jX12_layWay_245 (u0 : Nat) (u5 : Int32) (u6 : Int32) (v7 : Int32) (h : Hp) : Option ((Int32) ⊕ (Int32)) :=
(some (v7 + (1 : Int32))).bind fun x47 =>
some (.inl x47)
set_option maxRecDepth 20000 in
set_option maxHeartbeats 4000000 in
theorem sjX12_layWay_245 {Γ : Gm} {d : Nat} (hd : 2 ≤ d) {u0 : Nat} {u5 : Int32} {u6 : Int32} {v7 : Int32} {h : Hp} {r : (Int32) ⊕ (Int32)} {t : Option Value × Hp} (H : jX12_layWay_245 u0 u5 u6 v7 h = some r) (kI : ∀ s, r = .inl s → (fun s215 => V Γ d mX12_layWay 215 [(0, .ref u0), (5, .int u5), (6, .int u6), (7, .int s215)] [] h t) s) (kE : ∀ e, r = .inr e → (fun e => V Γ d mX12_layWay 251 [(0, .ref u0), (5, .int u5), (6, .int u6), (7, .int e)] [] h t) e) : V Γ d mX12_layWay 245 [(0, .ref u0), (5, .int u5), (6, .int u6), (7, .int v7)] [] h t := by
  unfold jX12_layWay_245 at H
  obtain ⟨x47, x47e, H⟩ := bs H
  refine v_iinc (v := x47) (L' := [(7, .int x47), (0, .ref u0), (5, .int u5), (6, .int u6)]) (q := 248) 3 dX12_layWay_245 rfl (Option.some.inj x47e) (by decide) rfl rfl ?_
  refine v_goto (q := 215) dX12_layWay_248 (by decide) ?_
  exact V.sub [1, 2, 3, 0] rfl (kI x47 (Option.some.inj H).symm)
def bX12_layWay_215 (u0 : Nat) (u5 : Int32) (u6 : Int32) (h : Hp) (s215 : Int32) : Option ((Int32) ⊕ (Int32)) :=
(gR h 12 u0 28).bind fun x42 =>
(lI h .int x42 (u5 - (1 : Int32))).bind fun x43 =>
(gO h 12 u0).bind fun _ =>
(fX12_isEdge h u0 x43 s215).bind fun x45 =>
if x45 = 0 then (
jX12_layWay_245 u0 u5 u6 s215 h) else (
(gR h 12 u0 27).bind fun x48 =>
(lI h .int x48 s215).bind fun x49 =>
if x49 = u6 then (
some (.inr s215)) else (
jX12_layWay_245 u0 u5 u6 s215 h))
set_option maxRecDepth 20000 in
set_option maxHeartbeats 4000000 in
theorem sbX12_layWay_215 {Γ : Gm} {d : Nat} (hd : 2 ≤ d) {u0 : Nat} {u5 : Int32} {u6 : Int32} {h : Hp} {s215 : Int32} {r : (Int32) ⊕ (Int32)} {t : Option Value × Hp} (H : bX12_layWay_215 u0 u5 u6 h s215 = some r) (kI : ∀ s, r = .inl s → (fun s215 => V Γ d mX12_layWay 215 [(0, .ref u0), (5, .int u5), (6, .int u6), (7, .int s215)] [] h t) s) (kE : ∀ e, r = .inr e → (fun e => V Γ d mX12_layWay 251 [(0, .ref u0), (5, .int u5), (6, .int u6), (7, .int e)] [] h t) e) : V Γ d mX12_layWay 215 [(0, .ref u0), (5, .int u5), (6, .int u6), (7, .int s215)] [] h t := by
  unfold bX12_layWay_215 at H
  refine v_aload_n (q := 216) 0 dX12_layWay_215 rfl rfl rfl ?_
  refine v_aload_n (q := 217) 0 dX12_layWay_216 rfl rfl rfl ?_
  obtain ⟨x42, x42e, H⟩ := bs H
  refine u_gR (q := 220) (r := (RX12, TX12, 58)) x42e dX12_layWay_217 w1384 rfl (by decide) rfl rfl ?_
  refine v_iload (q := 222) 1 dX12_layWay_220 rfl rfl ?_
  refine v_iconst (v := 1) (q := 223) dX12_layWay_222 (by decide) rfl ?_
  refine v_isub (q := 224) dX12_layWay_223 rfl ?_
  obtain ⟨x43, x43e, H⟩ := bs H
  refine u_lI (q := 225) x43e dX12_layWay_224 rfl ?_
  refine v_iload (q := 227) 3 dX12_layWay_225 rfl rfl ?_
  obtain ⟨_, o44, H⟩ := bs H
  obtain ⟨x45, x45e, H⟩ := bs H
  refine u_callV1 (M' := mX12_isEdge) (d' := 1) (rc := (RX12, TX12, 58)) (As := [.int x43, .int s215]) (st := []) (q := 230) oX12_isEdge dX12_layWay_227 w1701 w1703 w0088 rfl rfl (gO_sp o44).1 (gO_sp o44).2 rfl (Nat.le_of_ble_eq_true rfl) (Nat.le_of_ble_eq_true rfl) (Nat.lt_of_lt_of_le (by decide) hd) rfl (sX12_isEdge (Nat.le_refl _) x45e) rfl ?_
  refine v_if_eq (q1 := 245) (q2 := 233) dX12_layWay_230 (by decide) rfl (fun c46 => ?_) (fun c46 => ?_)
  · have H := ip c46 H
    exact V.sub [0, 1, 2, 3] rfl (sjX12_layWay_245 hd H kI kE)
  · have H := ine c46 H
    refine v_aload_n (q := 234) 0 dX12_layWay_233 rfl rfl rfl ?_
    obtain ⟨x48, x48e, H⟩ := bs H
    refine u_gR (q := 237) (r := (RX12, TX12, 58)) x48e dX12_layWay_234 w1383 rfl (by decide) rfl rfl ?_
    refine v_iload (q := 239) 3 dX12_layWay_237 rfl rfl ?_
    obtain ⟨x49, x49e, H⟩ := bs H
    refine u_lI (q := 240) x49e dX12_layWay_239 rfl ?_
    refine v_iload (q := 242) 2 dX12_layWay_240 rfl rfl ?_
    refine v_icmp_eq (q1 := 251) (q2 := 245) dX12_layWay_242 (by decide) rfl (fun c50 => ?_) (fun c50 => ?_)
    · have H := ip c50 H
      exact V.sub [0, 1, 2, 3] rfl (kE s215 (Option.some.inj H).symm)
    · have H := ine c50 H
      exact V.sub [0, 1, 2, 3] rfl (sjX12_layWay_245 hd H kI kE)
def bX12_layWay_207 (u0 : Nat) (s207 : Int32 × Int32 × Hp) : Option ((Int32 × Int32 × Hp) ⊕ (Int32 × Hp)) :=
if s207.2.1 < 0 then (
some (.inr (s207.1, s207.2.2))) else (
(lp (bX12_layWay_215 u0 s207.1 s207.2.1 s207.2.2) FU (0 : Int32)).bind fun e51 =>
(gR s207.2.2 12 u0 28).bind fun x52 =>
(tI s207.2.2 x52 s207.1 e51).bind fun h53 =>
(some (s207.1 + (1 : Int32))).bind fun x54 =>
(some (s207.2.1 + (-1 : Int32))).bind fun x55 =>
some (.inl (x54, x55, h53)))
set_option maxRecDepth 20000 in
set_option maxHeartbeats 4000000 in
theorem sbX12_layWay_207 {Γ : Gm} {d : Nat} (hd : 2 ≤ d) {u0 : Nat} {s207 : Int32 × Int32 × Hp} {r : (Int32 × Int32 × Hp) ⊕ (Int32 × Hp)} {t : Option Value × Hp} (H : bX12_layWay_207 u0 s207 = some r) (kI : ∀ s, r = .inl s → (fun s207 => V Γ d mX12_layWay 207 [(0, .ref u0), (5, .int s207.1), (6, .int s207.2.1)] [] s207.2.2 t) s) (kE : ∀ e, r = .inr e → (fun e => V Γ d mX12_layWay 269 [(5, .int e.1)] [] e.2 t) e) : V Γ d mX12_layWay 207 [(0, .ref u0), (5, .int s207.1), (6, .int s207.2.1)] [] s207.2.2 t := by
  unfold bX12_layWay_207 at H
  refine v_iload (q := 209) 2 dX12_layWay_207 rfl rfl ?_
  refine v_if_lt (q1 := 269) (q2 := 212) dX12_layWay_209 (by decide) rfl (fun c41 => ?_) (fun c41 => ?_)
  · have H := ip c41 H
    exact V.sub [1] rfl (kE (s207.1, s207.2.2) (Option.some.inj H).symm)
  · have H := ine c41 H
    refine v_iconst (v := 0) (q := 213) dX12_layWay_212 (by decide) rfl ?_
    refine v_istore (L' := [(7, .int (0 : Int32)), (0, .ref u0), (5, .int s207.1), (6, .int s207.2.1)]) (q := 215) dX12_layWay_213 (by decide) rfl rfl ?_
    obtain ⟨e51, e51L, H⟩ := bs H
    refine V.sub [1, 2, 3, 0] rfl ?_
    refine lp_V (P := (fun s215 => V Γ d mX12_layWay 215 [(0, .ref u0), (5, .int s207.1), (6, .int s207.2.1), (7, .int s215)] [] s207.2.2 t)) (E := (fun e => V Γ d mX12_layWay 251 [(0, .ref u0), (5, .int s207.1), (6, .int s207.2.1), (7, .int e)] [] s207.2.2 t)) (fun s r hb kI kE => sbX12_layWay_215 hd (s215 := s) (r := r) hb kI kE) FU (0 : Int32) e51 e51L ?_
    refine v_aload_n (q := 252) 0 dX12_layWay_251 rfl rfl rfl ?_
    obtain ⟨x52, x52e, H⟩ := bs H
    refine u_gR (q := 255) (r := (RX12, TX12, 58)) x52e dX12_layWay_252 w1384 rfl (by decide) rfl rfl ?_
    refine v_iload (q := 257) 1 dX12_layWay_255 rfl rfl ?_
    refine v_iload (q := 259) 3 dX12_layWay_257 rfl rfl ?_
    obtain ⟨h53, h53e, H⟩ := bs H
    refine u_tI (q := 260) h53e dX12_layWay_259 rfl ?_
    obtain ⟨x54, x54e, H⟩ := bs H
    refine v_iinc (v := x54) (L' := [(5, .int x54), (0, .ref u0), (6, .int s207.2.1), (7, .int e51)]) (q := 263) 1 dX12_layWay_260 rfl (Option.some.inj x54e) (by decide) rfl rfl ?_
    obtain ⟨x55, x55e, H⟩ := bs H
    refine v_iinc (v := x55) (L' := [(6, .int x55), (5, .int x54), (0, .ref u0), (7, .int e51)]) (q := 266) 2 dX12_layWay_263 rfl (Option.some.inj x55e) (by decide) rfl rfl ?_
    refine v_goto (q := 207) dX12_layWay_266 (by decide) ?_
    exact V.sub [2, 1, 0] rfl (kI (x54, x55, h53) (Option.some.inj H).symm)
def fX12_layWay (h : Hp) (v0 : Nat) (v1 : Int32) (v2 : Int32) : Option (Int32 × Hp) :=
(lp (bX12_layWay_2 v0 v1 v2) FU ((0 : Int32), h)).bind fun e6 =>
(lp (bX12_layWay_34 v0 v1) FU ((1 : Int32), e6)).bind fun e26 =>
(lp (bX12_layWay_134 v0 v1 e26) FU ((268435456 : Int32), (0 : Int32))).bind fun e37 =>
if e37 = (268435456 : Int32) then (
some (((0 : Int32), e26))) else (
(gR e26 12 v0 28).bind fun x39 =>
(tI e26 x39 (0 : Int32) v1).bind fun h40 =>
(lp (bX12_layWay_207 v0) FU ((1 : Int32), e37, h40)).bind fun e56 =>
some (e56.1, e56.2))
set_option maxRecDepth 20000 in
set_option maxHeartbeats 4000000 in
theorem sX12_layWay {Γ : Gm} {d : Nat} (hd : 2 ≤ d) {h : Hp} {v0 : Nat} {v1 : Int32} {v2 : Int32} {r : Int32 × Hp} (H : fX12_layWay h v0 v1 v2 = some r) : V Γ d mX12_layWay 0 [(0, .ref v0), (1, .int v1), (2, .int v2)] [] h (some (.int r.1), r.2) := by
  unfold fX12_layWay at H
  refine v_iconst (v := 0) (q := 1) dX12_layWay_0 (by decide) rfl ?_
  refine v_istore_n (L' := [(3, .int (0 : Int32)), (0, .ref v0), (1, .int v1), (2, .int v2)]) (q := 2) dX12_layWay_1 rfl (by decide) rfl rfl ?_
  obtain ⟨e6, e6L, H⟩ := bs H
  refine V.sub [1, 2, 3, 0] rfl ?_
  refine lp_V (P := (fun s2 => V Γ d mX12_layWay 2 [(0, .ref v0), (1, .int v1), (2, .int v2), (3, .int s2.1)] [] s2.2 (some (.int r.1), r.2))) (E := (fun e => V Γ d mX12_layWay 32 [(0, .ref v0), (1, .int v1)] [] e (some (.int r.1), r.2))) (fun s r hb kI kE => sbX12_layWay_2 hd (s2 := s) (r := r) hb kI kE) FU ((0 : Int32), h) e6 e6L ?_
  refine v_iconst (v := 1) (q := 33) dX12_layWay_32 (by decide) rfl ?_
  refine v_istore_n (L' := [(3, .int (1 : Int32)), (0, .ref v0), (1, .int v1)]) (q := 34) dX12_layWay_33 rfl (by decide) rfl rfl ?_
  obtain ⟨e26, e26L, H⟩ := bs H
  refine V.sub [1, 2, 0] rfl ?_
  refine lp_V (P := (fun s34 => V Γ d mX12_layWay 34 [(0, .ref v0), (1, .int v1), (3, .int s34.1)] [] s34.2 (some (.int r.1), r.2))) (E := (fun e => V Γ d mX12_layWay 126 [(0, .ref v0), (1, .int v1)] [] e (some (.int r.1), r.2))) (fun s r hb kI kE => sbX12_layWay_34 hd (s34 := s) (r := r) hb kI kE) FU ((1 : Int32), e6) e26 e26L ?_
  refine v_ldcw (v := 268435456) (q := 129) dX12_layWay_126 w1713 rfl ?_
  refine v_istore (L' := [(4, .int (268435456 : Int32)), (0, .ref v0), (1, .int v1)]) (q := 131) dX12_layWay_129 (by decide) rfl rfl ?_
  refine v_iconst (v := 0) (q := 132) dX12_layWay_131 (by decide) rfl ?_
  refine v_istore (L' := [(5, .int (0 : Int32)), (4, .int (268435456 : Int32)), (0, .ref v0), (1, .int v1)]) (q := 134) dX12_layWay_132 (by decide) rfl rfl ?_
  obtain ⟨e37, e37L, H⟩ := bs H
  refine V.sub [2, 3, 1, 0] rfl ?_
  refine lp_V (P := (fun s134 => V Γ d mX12_layWay 134 [(0, .ref v0), (1, .int v1), (4, .int s134.1), (5, .int s134.2)] [] e26 (some (.int r.1), r.2))) (E := (fun e => V Γ d mX12_layWay 183 [(0, .ref v0), (1, .int v1), (4, .int e)] [] e26 (some (.int r.1), r.2))) (fun s r hb kI kE => sbX12_layWay_134 hd (s134 := s) (r := r) hb kI kE) FU ((268435456 : Int32), (0 : Int32)) e37 e37L ?_
  refine v_iload (q := 185) 2 dX12_layWay_183 rfl rfl ?_
  refine v_ldcw (v := 268435456) (q := 188) dX12_layWay_185 w1713 rfl ?_
  refine v_icmp_ne (q1 := 193) (q2 := 191) dX12_layWay_188 (by decide) rfl (fun c38 => ?_) (fun c38 => ?_)
  · have H := ine c38 H
    refine v_aload_n (q := 194) 0 dX12_layWay_193 rfl rfl rfl ?_
    obtain ⟨x39, x39e, H⟩ := bs H
    refine u_gR (q := 197) (r := (RX12, TX12, 58)) x39e dX12_layWay_194 w1384 rfl (by decide) rfl rfl ?_
    refine v_iconst (v := 0) (q := 198) dX12_layWay_197 (by decide) rfl ?_
    refine v_iload_n (q := 199) 1 dX12_layWay_198 rfl rfl rfl ?_
    obtain ⟨h40, h40e, H⟩ := bs H
    refine u_tI (q := 200) h40e dX12_layWay_199 rfl ?_
    refine v_iconst (v := 1) (q := 201) dX12_layWay_200 (by decide) rfl ?_
    refine v_istore (L' := [(5, .int (1 : Int32)), (0, .ref v0), (1, .int v1), (4, .int e37)]) (q := 203) dX12_layWay_201 (by decide) rfl rfl ?_
    refine v_iload (q := 205) 3 dX12_layWay_203 rfl rfl ?_
    refine v_istore (L' := [(6, .int e37), (5, .int (1 : Int32)), (0, .ref v0), (1, .int v1), (4, .int e37)]) (q := 207) dX12_layWay_205 (by decide) rfl rfl ?_
    obtain ⟨e56, e56L, H⟩ := bs H
    refine V.sub [2, 1, 0] rfl ?_
    refine lp_V (P := (fun s207 => V Γ d mX12_layWay 207 [(0, .ref v0), (5, .int s207.1), (6, .int s207.2.1)] [] s207.2.2 (some (.int r.1), r.2))) (E := (fun e => V Γ d mX12_layWay 269 [(5, .int e.1)] [] e.2 (some (.int r.1), r.2))) (fun s r hb kI kE => sbX12_layWay_207 hd (s207 := s) (r := r) hb kI kE) FU ((1 : Int32), e37, h40) e56 e56L ?_
    refine v_iload (q := 271) 0 dX12_layWay_269 rfl rfl ?_
    cases H
    exact v_ireturn rfl dX12_layWay_271
  · have H := ip c38 H
    refine v_iconst (v := 0) (q := 192) dX12_layWay_191 (by decide) rfl ?_
    cases H
    exact v_ireturn rfl dX12_layWay_192
def mX12_learnEdge : MI := (yX12_learnEdge, cX12_learnEdge, 7, none)
theorem oX12_learnEdge : mOK mX12_learnEdge 4 := ⟨by decide +kernel, by decide +kernel, by decide +kernel, by decide, w1708, w0150⟩
def bX12_learnEdge_41 (u0 : Nat) (u1 : Int32) (u2 : Int32) (u3 : Int32) (u5 : Int32) (s41 : Int32 × Hp) : Option ((Int32 × Hp) ⊕ (Hp)) :=
if s41.1 ≤ 0 then (
some (.inr s41.2)) else (
(gR s41.2 12 u0 28).bind fun x7 =>
(gR s41.2 12 u0 28).bind fun x8 =>
(lI s41.2 .int x8 (s41.1 - (1 : Int32))).bind fun x9 =>
(tI s41.2 x7 s41.1 x9).bind fun h10 =>
(some (s41.1 + (-1 : Int32))).bind fun x11 =>
some (.inl (x11, h10)))
set_option maxRecDepth 20000 in
set_option maxHeartbeats 4000000 in
theorem sbX12_learnEdge_41 {Γ : Gm} {d : Nat} (hd : 3 ≤ d) {u0 : Nat} {u1 : Int32} {u2 : Int32} {u3 : Int32} {u5 : Int32} {s41 : Int32 × Hp} {r : (Int32 × Hp) ⊕ (Hp)} {t : Option Value × Hp} (H : bX12_learnEdge_41 u0 u1 u2 u3 u5 s41 = some r) (kI : ∀ s, r = .inl s → (fun s41 => V Γ d mX12_learnEdge 41 [(0, .ref u0), (1, .int u1), (2, .int u2), (3, .int u3), (5, .int u5), (6, .int s41.1)] [] s41.2 t) s) (kE : ∀ e, r = .inr e → (fun e => V Γ d mX12_learnEdge 68 [(0, .ref u0), (1, .int u1), (2, .int u2), (3, .int u3), (5, .int u5)] [] e t) e) : V Γ d mX12_learnEdge 41 [(0, .ref u0), (1, .int u1), (2, .int u2), (3, .int u3), (5, .int u5), (6, .int s41.1)] [] s41.2 t := by
  unfold bX12_learnEdge_41 at H
  refine v_iload (q := 43) 5 dX12_learnEdge_41 rfl rfl ?_
  refine v_if_le (q1 := 68) (q2 := 46) dX12_learnEdge_43 (by decide) rfl (fun c6 => ?_) (fun c6 => ?_)
  · have H := ip c6 H
    exact V.sub [0, 1, 2, 3, 4] rfl (kE s41.2 (Option.some.inj H).symm)
  · have H := ine c6 H
    refine v_aload_n (q := 47) 0 dX12_learnEdge_46 rfl rfl rfl ?_
    obtain ⟨x7, x7e, H⟩ := bs H
    refine u_gR (q := 50) (r := (RX12, TX12, 58)) x7e dX12_learnEdge_47 w1384 rfl (by decide) rfl rfl ?_
    refine v_iload (q := 52) 5 dX12_learnEdge_50 rfl rfl ?_
    refine v_aload_n (q := 53) 0 dX12_learnEdge_52 rfl rfl rfl ?_
    obtain ⟨x8, x8e, H⟩ := bs H
    refine u_gR (q := 56) (r := (RX12, TX12, 58)) x8e dX12_learnEdge_53 w1384 rfl (by decide) rfl rfl ?_
    refine v_iload (q := 58) 5 dX12_learnEdge_56 rfl rfl ?_
    refine v_iconst (v := 1) (q := 59) dX12_learnEdge_58 (by decide) rfl ?_
    refine v_isub (q := 60) dX12_learnEdge_59 rfl ?_
    obtain ⟨x9, x9e, H⟩ := bs H
    refine u_lI (q := 61) x9e dX12_learnEdge_60 rfl ?_
    obtain ⟨h10, h10e, H⟩ := bs H
    refine u_tI (q := 62) h10e dX12_learnEdge_61 rfl ?_
    obtain ⟨x11, x11e, H⟩ := bs H
    refine v_iinc (v := x11) (L' := [(6, .int x11), (0, .ref u0), (1, .int u1), (2, .int u2), (3, .int u3), (5, .int u5)]) (q := 65) 5 dX12_learnEdge_62 rfl (Option.some.inj x11e) (by decide) rfl rfl ?_
    refine v_goto (q := 41) dX12_learnEdge_65 (by decide) ?_
    exact V.sub [1, 2, 3, 4, 5, 0] rfl (kI (x11, h10) (Option.some.inj H).symm)
def fX12_learnEdge (h : Hp) (v0 : Nat) (v1 : Int32) (v2 : Int32) (v3 : Int32) (v4 : Int32) : Option (Hp) :=
(gR h 12 v0 0).bind fun x1 =>
(tI h x1 (((0 : Int32) + ((16 : Int32) * v3)) + v4) (((1 : Int32) + ((16 : Int32) * v1)) + v2)).bind fun h2 =>
(gO h2 12 v0).bind fun _ =>
(fX12_layWay h2 v0 v4 v3).bind fun x4 =>
if x4.1 = 0 then (
some x4.2) else (
(lp (bX12_learnEdge_41 v0 v1 v2 v3 x4.1) FU (x4.1, x4.2)).bind fun e12 =>
(gR e12 12 v0 28).bind fun x13 =>
(tI e12 x13 (0 : Int32) v3).bind fun h14 =>
(gO h14 12 v0).bind fun _ =>
(fX12_report h14 v0 (3 : Int32) v1 v2 (x4.1 + (1 : Int32))).bind fun x16 =>
some x16)
set_option maxRecDepth 20000 in
set_option maxHeartbeats 4000000 in
theorem sX12_learnEdge {Γ : Gm} {d : Nat} (hd : 3 ≤ d) {h : Hp} {v0 : Nat} {v1 : Int32} {v2 : Int32} {v3 : Int32} {v4 : Int32} {r : Hp} (H : fX12_learnEdge h v0 v1 v2 v3 v4 = some r) : V Γ d mX12_learnEdge 0 [(0, .ref v0), (1, .int v1), (2, .int v2), (3, .int v3), (4, .int v4)] [] h (none, r) := by
  unfold fX12_learnEdge at H
  refine v_aload_n (q := 1) 0 dX12_learnEdge_0 rfl rfl rfl ?_
  obtain ⟨x1, x1e, H⟩ := bs H
  refine u_gR (q := 4) (r := (RX12, TX12, 58)) x1e dX12_learnEdge_1 w1356 rfl (by decide) rfl rfl ?_
  refine v_iconst (v := 0) (q := 5) dX12_learnEdge_4 (by decide) rfl ?_
  refine v_bipush (v := 16) (q := 7) dX12_learnEdge_5 (by decide) rfl ?_
  refine v_iload_n (q := 8) 3 dX12_learnEdge_7 rfl rfl rfl ?_
  refine v_imul (q := 9) dX12_learnEdge_8 rfl ?_
  refine v_iadd (q := 10) dX12_learnEdge_9 rfl ?_
  refine v_iload (q := 12) 4 dX12_learnEdge_10 rfl rfl ?_
  refine v_iadd (q := 13) dX12_learnEdge_12 rfl ?_
  refine v_iconst (v := 1) (q := 14) dX12_learnEdge_13 (by decide) rfl ?_
  refine v_bipush (v := 16) (q := 16) dX12_learnEdge_14 (by decide) rfl ?_
  refine v_iload_n (q := 17) 1 dX12_learnEdge_16 rfl rfl rfl ?_
  refine v_imul (q := 18) dX12_learnEdge_17 rfl ?_
  refine v_iadd (q := 19) dX12_learnEdge_18 rfl ?_
  refine v_iload_n (q := 20) 2 dX12_learnEdge_19 rfl rfl rfl ?_
  refine v_iadd (q := 21) dX12_learnEdge_20 rfl ?_
  obtain ⟨h2, h2e, H⟩ := bs H
  refine u_tI (q := 22) h2e dX12_learnEdge_21 rfl ?_
  refine v_aload_n (q := 23) 0 dX12_learnEdge_22 rfl rfl rfl ?_
  refine v_iload (q := 25) 4 dX12_learnEdge_23 rfl rfl ?_
  refine v_iload_n (q := 26) 3 dX12_learnEdge_25 rfl rfl rfl ?_
  obtain ⟨_, o3, H⟩ := bs H
  obtain ⟨x4, x4e, H⟩ := bs H
  refine u_callV1 (M' := mX12_layWay) (d' := 2) (rc := (RX12, TX12, 58)) (As := [.int v4, .int v3]) (st := []) (q := 29) oX12_layWay dX12_learnEdge_26 w1709 w1711 w0090 rfl rfl (gO_sp o3).1 (gO_sp o3).2 rfl (Nat.le_of_ble_eq_true rfl) (Nat.le_of_ble_eq_true rfl) (Nat.lt_of_lt_of_le (by decide) hd) rfl (sX12_layWay (Nat.le_refl _) x4e) rfl ?_
  refine v_istore (L' := [(5, .int x4.1), (0, .ref v0), (1, .int v1), (2, .int v2), (3, .int v3), (4, .int v4)]) (q := 31) dX12_learnEdge_29 (by decide) rfl rfl ?_
  refine v_iload (q := 33) 0 dX12_learnEdge_31 rfl rfl ?_
  refine v_if_ne (q1 := 37) (q2 := 36) dX12_learnEdge_33 (by decide) rfl (fun c5 => ?_) (fun c5 => ?_)
  · have H := ine c5 H
    refine v_iload (q := 39) 0 dX12_learnEdge_37 rfl rfl ?_
    refine v_istore (L' := [(6, .int x4.1), (5, .int x4.1), (0, .ref v0), (1, .int v1), (2, .int v2), (3, .int v3), (4, .int v4)]) (q := 41) dX12_learnEdge_39 (by decide) rfl rfl ?_
    obtain ⟨e12, e12L, H⟩ := bs H
    refine V.sub [2, 3, 4, 5, 1, 0] rfl ?_
    refine lp_V (P := (fun s41 => V Γ d mX12_learnEdge 41 [(0, .ref v0), (1, .int v1), (2, .int v2), (3, .int v3), (5, .int x4.1), (6, .int s41.1)] [] s41.2 (none, r))) (E := (fun e => V Γ d mX12_learnEdge 68 [(0, .ref v0), (1, .int v1), (2, .int v2), (3, .int v3), (5, .int x4.1)] [] e (none, r))) (fun s r hb kI kE => sbX12_learnEdge_41 hd (s41 := s) (r := r) hb kI kE) FU (x4.1, x4.2) e12 e12L ?_
    refine v_aload_n (q := 69) 0 dX12_learnEdge_68 rfl rfl rfl ?_
    obtain ⟨x13, x13e, H⟩ := bs H
    refine u_gR (q := 72) (r := (RX12, TX12, 58)) x13e dX12_learnEdge_69 w1384 rfl (by decide) rfl rfl ?_
    refine v_iconst (v := 0) (q := 73) dX12_learnEdge_72 (by decide) rfl ?_
    refine v_iload_n (q := 74) 3 dX12_learnEdge_73 rfl rfl rfl ?_
    obtain ⟨h14, h14e, H⟩ := bs H
    refine u_tI (q := 75) h14e dX12_learnEdge_74 rfl ?_
    refine v_aload_n (q := 76) 0 dX12_learnEdge_75 rfl rfl rfl ?_
    refine v_iconst (v := 3) (q := 77) dX12_learnEdge_76 (by decide) rfl ?_
    refine v_iload_n (q := 78) 1 dX12_learnEdge_77 rfl rfl rfl ?_
    refine v_iload_n (q := 79) 2 dX12_learnEdge_78 rfl rfl rfl ?_
    refine v_iload (q := 81) 4 dX12_learnEdge_79 rfl rfl ?_
    refine v_iconst (v := 1) (q := 82) dX12_learnEdge_81 (by decide) rfl ?_
    refine v_iadd (q := 83) dX12_learnEdge_82 rfl ?_
    obtain ⟨_, o15, H⟩ := bs H
    obtain ⟨x16, x16e, H⟩ := bs H
    refine u_callV0 (M' := mX12_report) (d' := 2) (rc := (RX12, TX12, 58)) (As := [.int (3 : Int32), .int v1, .int v2, .int (x4.1 + (1 : Int32))]) (st := []) (q := 86) oX12_report dX12_learnEdge_83 w1666 w1668 w0080 rfl rfl (gO_sp o15).1 (gO_sp o15).2 rfl (Nat.le_of_ble_eq_true rfl) (Nat.le_of_ble_eq_true rfl) (Nat.lt_of_lt_of_le (by decide) hd) rfl (sX12_report (Nat.le_refl _) x16e) rfl ?_
    cases H
    exact v_return rfl dX12_learnEdge_86
  · have H := ip c5 H
    cases H
    exact v_return rfl dX12_learnEdge_36
def mX12_learn : MI := (yX12_learn, cX12_learn, 6, none)
theorem oX12_learn : mOK mX12_learn 3 := ⟨by decide +kernel, by decide +kernel, by decide +kernel, by decide, w1684, w0150⟩
def jX12_learn_57 (u0 : Nat) (u1 : Int32) (u2 : Int32) (u3 : Int32) (v4 : Int32) (h : Hp) : Option ((Int32 × Hp) ⊕ (Hp)) :=
(some (v4 + (1 : Int32))).bind fun x9 =>
some (.inl (x9, h))
set_option maxRecDepth 20000 in
set_option maxHeartbeats 4000000 in
theorem sjX12_learn_57 {Γ : Gm} {d : Nat} (hd : 5 ≤ d) {u0 : Nat} {u1 : Int32} {u2 : Int32} {u3 : Int32} {v4 : Int32} {h : Hp} {r : (Int32 × Hp) ⊕ (Hp)} {t : Option Value × Hp} (H : jX12_learn_57 u0 u1 u2 u3 v4 h = some r) (kI : ∀ s, r = .inl s → (fun s3 => V Γ d mX12_learn 3 [(0, .ref u0), (1, .int u1), (2, .int u2), (3, .int u3), (4, .int s3.1)] [] s3.2 t) s) (kE : ∀ e, r = .inr e → (fun e => V Γ d mX12_learn 63 [] [] e t) e) : V Γ d mX12_learn 57 [(0, .ref u0), (1, .int u1), (2, .int u2), (3, .int u3), (4, .int v4)] [] h t := by
  unfold jX12_learn_57 at H
  obtain ⟨x9, x9e, H⟩ := bs H
  refine v_iinc (v := x9) (L' := [(4, .int x9), (0, .ref u0), (1, .int u1), (2, .int u2), (3, .int u3)]) (q := 60) 4 dX12_learn_57 rfl (Option.some.inj x9e) (by decide) rfl rfl ?_
  refine v_goto (q := 3) dX12_learn_60 (by decide) ?_
  exact V.sub [1, 2, 3, 4, 0] rfl (kI (x9, h) (Option.some.inj H).symm)
def bX12_learn_3 (u0 : Nat) (u1 : Int32) (u2 : Int32) (u3 : Int32) (s3 : Int32 × Hp) : Option ((Int32 × Hp) ⊕ (Hp)) :=
(gI s3.2 12 u0 31).bind fun x1 =>
if x1 ≤ s3.1 then (
some (.inr s3.2)) else (
(gR s3.2 12 u0 30).bind fun x3 =>
(lI s3.2 .int x3 s3.1).bind fun x4 =>
if x4 = u3 then (
(gO s3.2 12 u0).bind fun _ =>
(fX12_reportOnce s3.2 u0 (2 : Int32) u1 u2 u3).bind fun x13 =>
jX12_learn_57 u0 u1 u2 u3 s3.1 x13) else (
(gO s3.2 12 u0).bind fun _ =>
(fX12_isEdge s3.2 u0 x4 u3).bind fun x7 =>
if x7 = 0 then (
(gO s3.2 12 u0).bind fun _ =>
(fX12_learnEdge s3.2 u0 u1 u2 x4 u3).bind fun x11 =>
jX12_learn_57 u0 u1 u2 u3 s3.1 x11) else (
jX12_learn_57 u0 u1 u2 u3 s3.1 s3.2)))
set_option maxRecDepth 20000 in
set_option maxHeartbeats 4000000 in
theorem sbX12_learn_3 {Γ : Gm} {d : Nat} (hd : 5 ≤ d) {u0 : Nat} {u1 : Int32} {u2 : Int32} {u3 : Int32} {s3 : Int32 × Hp} {r : (Int32 × Hp) ⊕ (Hp)} {t : Option Value × Hp} (H : bX12_learn_3 u0 u1 u2 u3 s3 = some r) (kI : ∀ s, r = .inl s → (fun s3 => V Γ d mX12_learn 3 [(0, .ref u0), (1, .int u1), (2, .int u2), (3, .int u3), (4, .int s3.1)] [] s3.2 t) s) (kE : ∀ e, r = .inr e → (fun e => V Γ d mX12_learn 63 [] [] e t) e) : V Γ d mX12_learn 3 [(0, .ref u0), (1, .int u1), (2, .int u2), (3, .int u3), (4, .int s3.1)] [] s3.2 t := by
  unfold bX12_learn_3 at H
  refine v_iload (q := 5) 4 dX12_learn_3 rfl rfl ?_
  refine v_aload_n (q := 6) 0 dX12_learn_5 rfl rfl rfl ?_
  obtain ⟨x1, x1e, H⟩ := bs H
  refine u_gI (q := 9) (r := (RX12, TX12, 58)) x1e dX12_learn_6 w1387 rfl (by decide) rfl rfl ?_
  refine v_icmp_ge (q1 := 63) (q2 := 12) dX12_learn_9 (by decide) rfl (fun c2 => ?_) (fun c2 => ?_)
  · have H := ip c2 H
    exact V.sub [] rfl (kE s3.2 (Option.some.inj H).symm)
  · have H := ine c2 H
    refine v_aload_n (q := 13) 0 dX12_learn_12 rfl rfl rfl ?_
    obtain ⟨x3, x3e, H⟩ := bs H
    refine u_gR (q := 16) (r := (RX12, TX12, 58)) x3e dX12_learn_13 w1386 rfl (by decide) rfl rfl ?_
    refine v_iload (q := 18) 4 dX12_learn_16 rfl rfl ?_
    obtain ⟨x4, x4e, H⟩ := bs H
    refine u_lI (q := 19) x4e dX12_learn_18 rfl ?_
    refine v_istore (L' := [(5, .int x4), (0, .ref u0), (1, .int u1), (2, .int u2), (3, .int u3), (4, .int s3.1)]) (q := 21) dX12_learn_19 (by decide) rfl rfl ?_
    refine v_iload (q := 23) 0 dX12_learn_21 rfl rfl ?_
    refine v_iload_n (q := 24) 4 dX12_learn_23 rfl rfl rfl ?_
    refine v_icmp_ne (q1 := 38) (q2 := 27) dX12_learn_24 (by decide) rfl (fun c5 => ?_) (fun c5 => ?_)
    · have H := ine c5 H
      refine v_aload_n (q := 39) 1 dX12_learn_38 rfl rfl rfl ?_
      refine v_iload (q := 41) 0 dX12_learn_39 rfl rfl ?_
      refine v_iload_n (q := 42) 4 dX12_learn_41 rfl rfl rfl ?_
      obtain ⟨_, o6, H⟩ := bs H
      obtain ⟨x7, x7e, H⟩ := bs H
      refine u_callV1 (M' := mX12_isEdge) (d' := 1) (rc := (RX12, TX12, 58)) (As := [.int x4, .int u3]) (st := []) (q := 45) oX12_isEdge dX12_learn_42 w1701 w1703 w0088 rfl rfl (gO_sp o6).1 (gO_sp o6).2 rfl (Nat.le_of_ble_eq_true rfl) (Nat.le_of_ble_eq_true rfl) (Nat.lt_of_lt_of_le (by decide) hd) rfl (sX12_isEdge (Nat.le_refl _) x7e) rfl ?_
      refine v_if_ne (q1 := 57) (q2 := 48) dX12_learn_45 (by decide) rfl (fun c8 => ?_) (fun c8 => ?_)
      · have H := ine c8 H
        exact V.sub [1, 2, 3, 4, 5] rfl (sjX12_learn_57 hd H kI kE)
      · have H := ip c8 H
        refine v_aload_n (q := 49) 1 dX12_learn_48 rfl rfl rfl ?_
        refine v_iload_n (q := 50) 2 dX12_learn_49 rfl rfl rfl ?_
        refine v_iload_n (q := 51) 3 dX12_learn_50 rfl rfl rfl ?_
        refine v_iload (q := 53) 0 dX12_learn_51 rfl rfl ?_
        refine v_iload_n (q := 54) 4 dX12_learn_53 rfl rfl rfl ?_
        obtain ⟨_, o10, H⟩ := bs H
        obtain ⟨x11, x11e, H⟩ := bs H
        refine u_callV0 (M' := mX12_learnEdge) (d' := 3) (rc := (RX12, TX12, 58)) (As := [.int u1, .int u2, .int x4, .int u3]) (st := []) (q := 57) oX12_learnEdge dX12_learn_54 w1705 w1707 w0089 rfl rfl (gO_sp o10).1 (gO_sp o10).2 rfl (Nat.le_of_ble_eq_true rfl) (Nat.le_of_ble_eq_true rfl) (Nat.lt_of_lt_of_le (by decide) hd) rfl (sX12_learnEdge (Nat.le_refl _) x11e) rfl ?_
        exact V.sub [1, 2, 3, 4, 5] rfl (sjX12_learn_57 hd H kI kE)
    · have H := ip c5 H
      refine v_aload_n (q := 28) 1 dX12_learn_27 rfl rfl rfl ?_
      refine v_iconst (v := 2) (q := 29) dX12_learn_28 (by decide) rfl ?_
      refine v_iload_n (q := 30) 2 dX12_learn_29 rfl rfl rfl ?_
      refine v_iload_n (q := 31) 3 dX12_learn_30 rfl rfl rfl ?_
      refine v_iload_n (q := 32) 4 dX12_learn_31 rfl rfl rfl ?_
      obtain ⟨_, o12, H⟩ := bs H
      obtain ⟨x13, x13e, H⟩ := bs H
      refine u_callV0 (M' := mX12_reportOnce) (d' := 4) (rc := (RX12, TX12, 58)) (As := [.int (2 : Int32), .int u1, .int u2, .int u3]) (st := []) (q := 35) oX12_reportOnce dX12_learn_32 w1685 w1687 w0084 rfl rfl (gO_sp o12).1 (gO_sp o12).2 rfl (Nat.le_of_ble_eq_true rfl) (Nat.le_of_ble_eq_true rfl) (Nat.lt_of_lt_of_le (by decide) hd) rfl (sX12_reportOnce (Nat.le_refl _) x13e) rfl ?_
      refine v_goto (q := 57) dX12_learn_35 (by decide) ?_
      exact V.sub [1, 2, 3, 4, 5] rfl (sjX12_learn_57 hd H kI kE)
def fX12_learn (h : Hp) (v0 : Nat) (v1 : Int32) (v2 : Int32) (v3 : Int32) : Option (Hp) :=
(lp (bX12_learn_3 v0 v1 v2 v3) FU ((0 : Int32), h)).bind fun e14 =>
some e14
set_option maxRecDepth 20000 in
set_option maxHeartbeats 4000000 in
theorem sX12_learn {Γ : Gm} {d : Nat} (hd : 5 ≤ d) {h : Hp} {v0 : Nat} {v1 : Int32} {v2 : Int32} {v3 : Int32} {r : Hp} (H : fX12_learn h v0 v1 v2 v3 = some r) : V Γ d mX12_learn 0 [(0, .ref v0), (1, .int v1), (2, .int v2), (3, .int v3)] [] h (none, r) := by
  unfold fX12_learn at H
  refine v_iconst (v := 0) (q := 1) dX12_learn_0 (by decide) rfl ?_
  refine v_istore (L' := [(4, .int (0 : Int32)), (0, .ref v0), (1, .int v1), (2, .int v2), (3, .int v3)]) (q := 3) dX12_learn_1 (by decide) rfl rfl ?_
  obtain ⟨e14, e14L, H⟩ := bs H
  refine V.sub [1, 2, 3, 4, 0] rfl ?_
  refine lp_V (P := (fun s3 => V Γ d mX12_learn 3 [(0, .ref v0), (1, .int v1), (2, .int v2), (3, .int v3), (4, .int s3.1)] [] s3.2 (none, r))) (E := (fun e => V Γ d mX12_learn 63 [] [] e (none, r))) (fun s r hb kI kE => sbX12_learn_3 hd (s3 := s) (r := r) hb kI kE) FU ((0 : Int32), h) e14 e14L ?_
  cases H
  exact v_return rfl dX12_learn_63
def mX12_sortOf : MI := (yX12_sortOf, cX12_sortOf, 2, some .int)
theorem oX12_sortOf : mOK mX12_sortOf 1 := ⟨by decide +kernel, by decide +kernel, by decide +kernel, by decide, w1721, w0150⟩
def fX12_sortOf (h : Hp) (v0 : Nat) (v1 : Int32) : Option (Int32) :=
(gR h 12 v0 5).bind fun x1 =>
(gI h 12 v0 9).bind fun x2 =>
(lI h .int x1 (((6 : Int32) * x2) + v1)).bind fun x3 =>
some x3
set_option maxRecDepth 20000 in
set_option maxHeartbeats 4000000 in
theorem sX12_sortOf {Γ : Gm} {d : Nat} (hd : 1 ≤ d) {h : Hp} {v0 : Nat} {v1 : Int32} {r : Int32} (H : fX12_sortOf h v0 v1 = some r) : V Γ d mX12_sortOf 0 [(0, .ref v0), (1, .int v1)] [] h (some (.int r), h) := by
  unfold fX12_sortOf at H
  refine v_aload_n (q := 1) 0 dX12_sortOf_0 rfl rfl rfl ?_
  obtain ⟨x1, x1e, H⟩ := bs H
  refine u_gR (q := 4) (r := (RX12, TX12, 58)) x1e dX12_sortOf_1 w1361 rfl (by decide) rfl rfl ?_
  refine v_bipush (v := 6) (q := 6) dX12_sortOf_4 (by decide) rfl ?_
  refine v_aload_n (q := 7) 0 dX12_sortOf_6 rfl rfl rfl ?_
  obtain ⟨x2, x2e, H⟩ := bs H
  refine u_gI (q := 10) (r := (RX12, TX12, 58)) x2e dX12_sortOf_7 w1365 rfl (by decide) rfl rfl ?_
  refine v_imul (q := 11) dX12_sortOf_10 rfl ?_
  refine v_iload_n (q := 12) 1 dX12_sortOf_11 rfl rfl rfl ?_
  refine v_iadd (q := 13) dX12_sortOf_12 rfl ?_
  obtain ⟨x3, x3e, H⟩ := bs H
  refine u_lI (q := 14) x3e dX12_sortOf_13 rfl ?_
  cases H
  exact v_ireturn rfl dX12_sortOf_14
def mX12_isOn : MI := (yX12_isOn, cX12_isOn, 8, some .boolean)
theorem oX12_isOn : mOK mX12_isOn 3 := ⟨by decide +kernel, by decide +kernel, by decide +kernel, by decide, w1725, w0150⟩
def jX12_isOn_98 (u0 : Nat) (u1 : Int32) (u2 : Int32) (u3 : Int32) (u5 : Int32) (v6 : Int32) (v7 : Int32) (h : Hp) : Option ((Int32 × Int32) ⊕ (Int32)) :=
(some (v7 + (1 : Int32))).bind fun x14 =>
some (.inl (v6, x14))
set_option maxRecDepth 20000 in
set_option maxHeartbeats 4000000 in
theorem sjX12_isOn_98 {Γ : Gm} {d : Nat} (hd : 2 ≤ d) {u0 : Nat} {u1 : Int32} {u2 : Int32} {u3 : Int32} {u5 : Int32} {v6 : Int32} {v7 : Int32} {h : Hp} {r : (Int32 × Int32) ⊕ (Int32)} {t : Option Value × Hp} (H : jX12_isOn_98 u0 u1 u2 u3 u5 v6 v7 h = some r) (kI : ∀ s, r = .inl s → (fun s44 => V Γ d mX12_isOn 44 [(0, .ref u0), (1, .int u1), (2, .int u2), (3, .int u3), (5, .int u5), (6, .int s44.1), (7, .int s44.2)] [] h t) s) (kE : ∀ e, r = .inr e → (fun e => V Γ d mX12_isOn 104 [(6, .int e)] [] h t) e) : V Γ d mX12_isOn 98 [(0, .ref u0), (1, .int u1), (2, .int u2), (3, .int u3), (5, .int u5), (6, .int v6), (7, .int v7)] [] h t := by
  unfold jX12_isOn_98 at H
  obtain ⟨x14, x14e, H⟩ := bs H
  refine v_iinc (v := x14) (L' := [(7, .int x14), (0, .ref u0), (1, .int u1), (2, .int u2), (3, .int u3), (5, .int u5), (6, .int v6)]) (q := 101) 6 dX12_isOn_98 rfl (Option.some.inj x14e) (by decide) rfl rfl ?_
  refine v_goto (q := 44) dX12_isOn_101 (by decide) ?_
  exact V.sub [1, 2, 3, 4, 5, 6, 0] rfl (kI (v6, x14) (Option.some.inj H).symm)
def jX12_isOn_91 (u0 : Nat) (u1 : Int32) (u2 : Int32) (u3 : Int32) (u5 : Int32) (v6 : Int32) (v7 : Int32) (y0 : Int32) (y1 : Int32) (h : Hp) : Option ((Int32 × Int32) ⊕ (Int32)) :=
if y1 = y0 then (
jX12_isOn_98 u0 u1 u2 u3 u5 u5 v7 h) else (
jX12_isOn_98 u0 u1 u2 u3 u5 v6 v7 h)
set_option maxRecDepth 20000 in
set_option maxHeartbeats 4000000 in
theorem sjX12_isOn_91 {Γ : Gm} {d : Nat} (hd : 2 ≤ d) {u0 : Nat} {u1 : Int32} {u2 : Int32} {u3 : Int32} {u5 : Int32} {v6 : Int32} {v7 : Int32} {y0 : Int32} {y1 : Int32} {h : Hp} {r : (Int32 × Int32) ⊕ (Int32)} {t : Option Value × Hp} (H : jX12_isOn_91 u0 u1 u2 u3 u5 v6 v7 y0 y1 h = some r) (kI : ∀ s, r = .inl s → (fun s44 => V Γ d mX12_isOn 44 [(0, .ref u0), (1, .int u1), (2, .int u2), (3, .int u3), (5, .int u5), (6, .int s44.1), (7, .int s44.2)] [] h t) s) (kE : ∀ e, r = .inr e → (fun e => V Γ d mX12_isOn 104 [(6, .int e)] [] h t) e) : V Γ d mX12_isOn 91 [(0, .ref u0), (1, .int u1), (2, .int u2), (3, .int u3), (5, .int u5), (6, .int v6), (7, .int v7)] [.int y0, .int y1] h t := by
  unfold jX12_isOn_91 at H
  refine v_icmp_ne (q1 := 98) (q2 := 94) dX12_isOn_91 (by decide) rfl (fun c13 => ?_) (fun c13 => ?_)
  · have H := ine c13 H
    exact V.sub [0, 1, 2, 3, 4, 5, 6] rfl (sjX12_isOn_98 hd H kI kE)
  · have H := ip c13 H
    refine v_iload (q := 96) 4 dX12_isOn_94 rfl rfl ?_
    refine v_istore (L' := [(6, .int u5), (0, .ref u0), (1, .int u1), (2, .int u2), (3, .int u3), (5, .int u5), (7, .int v7)]) (q := 98) dX12_isOn_96 (by decide) rfl rfl ?_
    exact V.sub [1, 2, 3, 4, 5, 0, 6] rfl (sjX12_isOn_98 hd H kI kE)
def jX12_isOn_73 (u0 : Nat) (u1 : Int32) (u2 : Int32) (u3 : Int32) (u5 : Int32) (v6 : Int32) (v7 : Int32) (h : Hp) : Option ((Int32 × Int32) ⊕ (Int32)) :=
(gO h 12 u0).bind fun _ =>
(fX12_opOf h u0 u1 v7).bind fun x11 =>
if u3 = 0 then (
jX12_isOn_91 u0 u1 u2 u3 u5 v6 v7 (8 : Int32) x11 h) else (
jX12_isOn_91 u0 u1 u2 u3 u5 v6 v7 (6 : Int32) x11 h)
set_option maxRecDepth 20000 in
set_option maxHeartbeats 4000000 in
theorem sjX12_isOn_73 {Γ : Gm} {d : Nat} (hd : 2 ≤ d) {u0 : Nat} {u1 : Int32} {u2 : Int32} {u3 : Int32} {u5 : Int32} {v6 : Int32} {v7 : Int32} {h : Hp} {r : (Int32 × Int32) ⊕ (Int32)} {t : Option Value × Hp} (H : jX12_isOn_73 u0 u1 u2 u3 u5 v6 v7 h = some r) (kI : ∀ s, r = .inl s → (fun s44 => V Γ d mX12_isOn 44 [(0, .ref u0), (1, .int u1), (2, .int u2), (3, .int u3), (5, .int u5), (6, .int s44.1), (7, .int s44.2)] [] h t) s) (kE : ∀ e, r = .inr e → (fun e => V Γ d mX12_isOn 104 [(6, .int e)] [] h t) e) : V Γ d mX12_isOn 73 [(0, .ref u0), (1, .int u1), (2, .int u2), (3, .int u3), (5, .int u5), (6, .int v6), (7, .int v7)] [] h t := by
  unfold jX12_isOn_73 at H
  refine v_aload_n (q := 74) 0 dX12_isOn_73 rfl rfl rfl ?_
  refine v_iload_n (q := 75) 1 dX12_isOn_74 rfl rfl rfl ?_
  refine v_iload (q := 77) 6 dX12_isOn_75 rfl rfl ?_
  obtain ⟨_, o10, H⟩ := bs H
  obtain ⟨x11, x11e, H⟩ := bs H
  refine u_callV1 (M' := mX12_opOf) (d' := 1) (rc := (RX12, TX12, 58)) (As := [.int u1, .int v7]) (st := []) (q := 80) oX12_opOf dX12_isOn_77 w1646 w1648 w0075 rfl rfl (gO_sp o10).1 (gO_sp o10).2 rfl (Nat.le_of_ble_eq_true rfl) (Nat.le_of_ble_eq_true rfl) (Nat.lt_of_lt_of_le (by decide) hd) rfl (sX12_opOf (Nat.le_refl _) x11e) rfl ?_
  refine v_iload_n (q := 81) 3 dX12_isOn_80 rfl rfl rfl ?_
  refine v_if_eq (q1 := 89) (q2 := 84) dX12_isOn_81 (by decide) rfl (fun c12 => ?_) (fun c12 => ?_)
  · have H := ip c12 H
    refine v_bipush (v := 8) (q := 91) dX12_isOn_89 (by decide) rfl ?_
    exact V.sub [0, 1, 2, 3, 4, 5, 6] rfl (sjX12_isOn_91 hd H kI kE)
  · have H := ine c12 H
    refine v_bipush (v := 6) (q := 86) dX12_isOn_84 (by decide) rfl ?_
    refine v_goto (q := 91) dX12_isOn_86 (by decide) ?_
    exact V.sub [0, 1, 2, 3, 4, 5, 6] rfl (sjX12_isOn_91 hd H kI kE)
def jX12_isOn_67 (u0 : Nat) (u1 : Int32) (u2 : Int32) (u3 : Int32) (u5 : Int32) (v6 : Int32) (v7 : Int32) (y0 : Int32) (y1 : Int32) (h : Hp) : Option ((Int32 × Int32) ⊕ (Int32)) :=
if y1 = y0 then (
jX12_isOn_73 u0 u1 u2 u3 u5 (0 : Int32) v7 h) else (
jX12_isOn_73 u0 u1 u2 u3 u5 v6 v7 h)
set_option maxRecDepth 20000 in
set_option maxHeartbeats 4000000 in
theorem sjX12_isOn_67 {Γ : Gm} {d : Nat} (hd : 2 ≤ d) {u0 : Nat} {u1 : Int32} {u2 : Int32} {u3 : Int32} {u5 : Int32} {v6 : Int32} {v7 : Int32} {y0 : Int32} {y1 : Int32} {h : Hp} {r : (Int32 × Int32) ⊕ (Int32)} {t : Option Value × Hp} (H : jX12_isOn_67 u0 u1 u2 u3 u5 v6 v7 y0 y1 h = some r) (kI : ∀ s, r = .inl s → (fun s44 => V Γ d mX12_isOn 44 [(0, .ref u0), (1, .int u1), (2, .int u2), (3, .int u3), (5, .int u5), (6, .int s44.1), (7, .int s44.2)] [] h t) s) (kE : ∀ e, r = .inr e → (fun e => V Γ d mX12_isOn 104 [(6, .int e)] [] h t) e) : V Γ d mX12_isOn 67 [(0, .ref u0), (1, .int u1), (2, .int u2), (3, .int u3), (5, .int u5), (6, .int v6), (7, .int v7)] [.int y0, .int y1] h t := by
  unfold jX12_isOn_67 at H
  refine v_icmp_ne (q1 := 73) (q2 := 70) dX12_isOn_67 (by decide) rfl (fun c9 => ?_) (fun c9 => ?_)
  · have H := ine c9 H
    exact V.sub [0, 1, 2, 3, 4, 5, 6] rfl (sjX12_isOn_73 hd H kI kE)
  · have H := ip c9 H
    refine v_iconst (v := 0) (q := 71) dX12_isOn_70 (by decide) rfl ?_
    refine v_istore (L' := [(6, .int (0 : Int32)), (0, .ref u0), (1, .int u1), (2, .int u2), (3, .int u3), (5, .int u5), (7, .int v7)]) (q := 73) dX12_isOn_71 (by decide) rfl rfl ?_
    exact V.sub [1, 2, 3, 4, 5, 0, 6] rfl (sjX12_isOn_73 hd H kI kE)
def bX12_isOn_44 (u0 : Nat) (u1 : Int32) (u2 : Int32) (u3 : Int32) (u5 : Int32) (h : Hp) (s44 : Int32 × Int32) : Option ((Int32 × Int32) ⊕ (Int32)) :=
if u2 ≤ s44.2 then (
some (.inr s44.1)) else (
(gO h 12 u0).bind fun _ =>
(fX12_opOf h u0 u1 s44.2).bind fun x7 =>
if u3 = 0 then (
jX12_isOn_67 u0 u1 u2 u3 u5 s44.1 s44.2 (7 : Int32) x7 h) else (
jX12_isOn_67 u0 u1 u2 u3 u5 s44.1 s44.2 (5 : Int32) x7 h))
set_option maxRecDepth 20000 in
set_option maxHeartbeats 4000000 in
theorem sbX12_isOn_44 {Γ : Gm} {d : Nat} (hd : 2 ≤ d) {u0 : Nat} {u1 : Int32} {u2 : Int32} {u3 : Int32} {u5 : Int32} {h : Hp} {s44 : Int32 × Int32} {r : (Int32 × Int32) ⊕ (Int32)} {t : Option Value × Hp} (H : bX12_isOn_44 u0 u1 u2 u3 u5 h s44 = some r) (kI : ∀ s, r = .inl s → (fun s44 => V Γ d mX12_isOn 44 [(0, .ref u0), (1, .int u1), (2, .int u2), (3, .int u3), (5, .int u5), (6, .int s44.1), (7, .int s44.2)] [] h t) s) (kE : ∀ e, r = .inr e → (fun e => V Γ d mX12_isOn 104 [(6, .int e)] [] h t) e) : V Γ d mX12_isOn 44 [(0, .ref u0), (1, .int u1), (2, .int u2), (3, .int u3), (5, .int u5), (6, .int s44.1), (7, .int s44.2)] [] h t := by
  unfold bX12_isOn_44 at H
  refine v_iload (q := 46) 6 dX12_isOn_44 rfl rfl ?_
  refine v_iload_n (q := 47) 2 dX12_isOn_46 rfl rfl rfl ?_
  refine v_icmp_ge (q1 := 104) (q2 := 50) dX12_isOn_47 (by decide) rfl (fun c5 => ?_) (fun c5 => ?_)
  · have H := ip c5 H
    exact V.sub [5] rfl (kE s44.1 (Option.some.inj H).symm)
  · have H := ine c5 H
    refine v_aload_n (q := 51) 0 dX12_isOn_50 rfl rfl rfl ?_
    refine v_iload_n (q := 52) 1 dX12_isOn_51 rfl rfl rfl ?_
    refine v_iload (q := 54) 6 dX12_isOn_52 rfl rfl ?_
    obtain ⟨_, o6, H⟩ := bs H
    obtain ⟨x7, x7e, H⟩ := bs H
    refine u_callV1 (M' := mX12_opOf) (d' := 1) (rc := (RX12, TX12, 58)) (As := [.int u1, .int s44.2]) (st := []) (q := 57) oX12_opOf dX12_isOn_54 w1646 w1648 w0075 rfl rfl (gO_sp o6).1 (gO_sp o6).2 rfl (Nat.le_of_ble_eq_true rfl) (Nat.le_of_ble_eq_true rfl) (Nat.lt_of_lt_of_le (by decide) hd) rfl (sX12_opOf (Nat.le_refl _) x7e) rfl ?_
    refine v_iload_n (q := 58) 3 dX12_isOn_57 rfl rfl rfl ?_
    refine v_if_eq (q1 := 65) (q2 := 61) dX12_isOn_58 (by decide) rfl (fun c8 => ?_) (fun c8 => ?_)
    · have H := ip c8 H
      refine v_bipush (v := 7) (q := 67) dX12_isOn_65 (by decide) rfl ?_
      exact V.sub [0, 1, 2, 3, 4, 5, 6] rfl (sjX12_isOn_67 hd H kI kE)
    · have H := ine c8 H
      refine v_iconst (v := 5) (q := 62) dX12_isOn_61 (by decide) rfl ?_
      refine v_goto (q := 67) dX12_isOn_62 (by decide) ?_
      exact V.sub [0, 1, 2, 3, 4, 5, 6] rfl (sjX12_isOn_67 hd H kI kE)
def jX12_isOn_35 (v0 : Nat) (v1 : Int32) (v2 : Int32) (v3 : Int32) (y0 : Int32) (h : Hp) : Option (Int32) :=
(lp (bX12_isOn_44 v0 v1 v2 v3 y0 h) FU (y0, (0 : Int32))).bind fun e15 =>
(bz e15).bind fun x16 =>
some x16
set_option maxRecDepth 20000 in
set_option maxHeartbeats 4000000 in
theorem sjX12_isOn_35 {Γ : Gm} {d : Nat} (hd : 2 ≤ d) {v0 : Nat} {v1 : Int32} {v2 : Int32} {v3 : Int32} {y0 : Int32} {h : Hp} {r : Int32} (H : jX12_isOn_35 v0 v1 v2 v3 y0 h = some r) : V Γ d mX12_isOn 35 [(0, .ref v0), (1, .int v1), (2, .int v2), (3, .int v3)] [.int y0] h (some (.int r), h) := by
  unfold jX12_isOn_35 at H
  refine v_istore (L' := [(5, .int y0), (0, .ref v0), (1, .int v1), (2, .int v2), (3, .int v3)]) (q := 37) dX12_isOn_35 (by decide) rfl rfl ?_
  refine v_iload (q := 39) 0 dX12_isOn_37 rfl rfl ?_
  refine v_istore (L' := [(6, .int y0), (5, .int y0), (0, .ref v0), (1, .int v1), (2, .int v2), (3, .int v3)]) (q := 41) dX12_isOn_39 (by decide) rfl rfl ?_
  refine v_iconst (v := 0) (q := 42) dX12_isOn_41 (by decide) rfl ?_
  refine v_istore (L' := [(7, .int (0 : Int32)), (6, .int y0), (5, .int y0), (0, .ref v0), (1, .int v1), (2, .int v2), (3, .int v3)]) (q := 44) dX12_isOn_42 (by decide) rfl rfl ?_
  obtain ⟨e15, e15L, H⟩ := bs H
  refine V.sub [3, 4, 5, 6, 2, 1, 0] rfl ?_
  refine lp_V (P := (fun s44 => V Γ d mX12_isOn 44 [(0, .ref v0), (1, .int v1), (2, .int v2), (3, .int v3), (5, .int y0), (6, .int s44.1), (7, .int s44.2)] [] h (some (.int r), h))) (E := (fun e => V Γ d mX12_isOn 104 [(6, .int e)] [] h (some (.int r), h))) (fun s r hb kI kE => sbX12_isOn_44 hd (s44 := s) (r := r) hb kI kE) FU (y0, (0 : Int32)) e15 e15L ?_
  refine v_iload (q := 106) 0 dX12_isOn_104 rfl rfl ?_
  obtain ⟨x16, x16e, H⟩ := bs H
  obtain ⟨x16q, x16z⟩ := bz_sp x16e
  refine v_topi x16q.symm ?_
  cases H
  exact v_zreturn rfl (by rw [x16q]; exact x16z) dX12_isOn_106
def fX12_isOn (h : Hp) (v0 : Nat) (v1 : Int32) (v2 : Int32) (v3 : Int32) : Option (Int32) :=
(gO h 12 v0).bind fun _ =>
(fX12_sortOf h v0 v1).bind fun x2 =>
if v3 = 0 then (
if x2 = 0 then (
jX12_isOn_35 v0 v1 v2 v3 (1 : Int32) h) else (
jX12_isOn_35 v0 v1 v2 v3 (0 : Int32) h)) else (
if x2 = (2 : Int32) then (
jX12_isOn_35 v0 v1 v2 v3 (0 : Int32) h) else (
jX12_isOn_35 v0 v1 v2 v3 (1 : Int32) h))
set_option maxRecDepth 20000 in
set_option maxHeartbeats 4000000 in
theorem sX12_isOn {Γ : Gm} {d : Nat} (hd : 2 ≤ d) {h : Hp} {v0 : Nat} {v1 : Int32} {v2 : Int32} {v3 : Int32} {r : Int32} (H : fX12_isOn h v0 v1 v2 v3 = some r) : V Γ d mX12_isOn 0 [(0, .ref v0), (1, .int v1), (2, .int v2), (3, .int v3)] [] h (some (.int r), h) := by
  unfold fX12_isOn at H
  refine v_aload_n (q := 1) 0 dX12_isOn_0 rfl rfl rfl ?_
  refine v_iload_n (q := 2) 1 dX12_isOn_1 rfl rfl rfl ?_
  obtain ⟨_, o1, H⟩ := bs H
  obtain ⟨x2, x2e, H⟩ := bs H
  refine u_callV1 (M' := mX12_sortOf) (d' := 1) (rc := (RX12, TX12, 58)) (As := [.int v1]) (st := []) (q := 5) oX12_sortOf dX12_isOn_2 w1718 w1720 w0092 rfl rfl (gO_sp o1).1 (gO_sp o1).2 rfl (Nat.le_of_ble_eq_true rfl) (Nat.le_of_ble_eq_true rfl) (Nat.lt_of_lt_of_le (by decide) hd) rfl (sX12_sortOf (Nat.le_refl _) x2e) rfl ?_
  refine v_istore (L' := [(4, .int x2), (0, .ref v0), (1, .int v1), (2, .int v2), (3, .int v3)]) (q := 7) dX12_isOn_5 (by decide) rfl rfl ?_
  refine v_iload_n (q := 8) 4 dX12_isOn_7 rfl rfl rfl ?_
  refine v_if_eq (q1 := 25) (q2 := 11) dX12_isOn_8 (by decide) rfl (fun c3 => ?_) (fun c3 => ?_)
  · have H := ip c3 H
    refine v_iload (q := 27) 0 dX12_isOn_25 rfl rfl ?_
    refine v_if_ne (q1 := 34) (q2 := 30) dX12_isOn_27 (by decide) rfl (fun c4 => ?_) (fun c4 => ?_)
    · have H := ine c4 H
      refine v_iconst (v := 0) (q := 35) dX12_isOn_34 (by decide) rfl ?_
      exact V.sub [1, 2, 3, 4] rfl (sjX12_isOn_35 hd H)
    · have H := ip c4 H
      refine v_iconst (v := 1) (q := 31) dX12_isOn_30 (by decide) rfl ?_
      refine v_goto (q := 35) dX12_isOn_31 (by decide) ?_
      exact V.sub [1, 2, 3, 4] rfl (sjX12_isOn_35 hd H)
  · have H := ine c3 H
    refine v_iload (q := 13) 0 dX12_isOn_11 rfl rfl ?_
    refine v_iconst (v := 2) (q := 14) dX12_isOn_13 (by decide) rfl ?_
    refine v_icmp_eq (q1 := 21) (q2 := 17) dX12_isOn_14 (by decide) rfl (fun c17 => ?_) (fun c17 => ?_)
    · have H := ip c17 H
      refine v_iconst (v := 0) (q := 22) dX12_isOn_21 (by decide) rfl ?_
      refine v_goto (q := 35) dX12_isOn_22 (by decide) ?_
      exact V.sub [1, 2, 3, 4] rfl (sjX12_isOn_35 hd H)
    · have H := ine c17 H
      refine v_iconst (v := 1) (q := 18) dX12_isOn_17 (by decide) rfl ?_
      refine v_goto (q := 35) dX12_isOn_18 (by decide) ?_
      exact V.sub [1, 2, 3, 4] rfl (sjX12_isOn_35 hd H)
def mX12_canSoft : MI := (yX12_canSoft, cX12_canSoft, 3, some .boolean)
theorem oX12_canSoft : mOK mX12_canSoft 2 := ⟨by decide +kernel, by decide +kernel, by decide +kernel, by decide, w1729, w0150⟩
def jX12_canSoft_25 (y0 : Int32) (h : Hp) : Option (Int32) :=
(bz y0).bind fun x4 =>
some x4
set_option maxRecDepth 20000 in
set_option maxHeartbeats 4000000 in
theorem sjX12_canSoft_25 {Γ : Gm} {d : Nat} (hd : 3 ≤ d) {y0 : Int32} {h : Hp} {r : Int32} (H : jX12_canSoft_25 y0 h = some r) : V Γ d mX12_canSoft 25 [] [.int y0] h (some (.int r), h) := by
  unfold jX12_canSoft_25 at H
  obtain ⟨x4, x4e, H⟩ := bs H
  obtain ⟨x4q, x4z⟩ := bz_sp x4e
  refine v_topi x4q.symm ?_
  cases H
  exact v_zreturn rfl (by rw [x4q]; exact x4z) dX12_canSoft_25
def jX12_canSoft_24 (h : Hp) : Option (Int32) :=
jX12_canSoft_25 (0 : Int32) h
set_option maxRecDepth 20000 in
set_option maxHeartbeats 4000000 in
theorem sjX12_canSoft_24 {Γ : Gm} {d : Nat} (hd : 3 ≤ d) {h : Hp} {r : Int32} (H : jX12_canSoft_24 h = some r) : V Γ d mX12_canSoft 24 [] [] h (some (.int r), h) := by
  unfold jX12_canSoft_24 at H
  refine v_iconst (v := 0) (q := 25) dX12_canSoft_24 (by decide) rfl ?_
  exact V.sub [] rfl (sjX12_canSoft_25 hd H)
def fX12_canSoft (h : Hp) (v0 : Nat) (v1 : Int32) (v2 : Int32) : Option (Int32) :=
(gO h 12 v0).bind fun _ =>
(fX12_isOn h v0 v1 v2 (1 : Int32)).bind fun x2 =>
if x2 = 0 then (
jX12_canSoft_24 h) else (
(gO h 12 v0).bind fun _ =>
(fX12_isOn h v0 v1 v2 (0 : Int32)).bind fun x6 =>
if x6 = 0 then (
jX12_canSoft_24 h) else (
jX12_canSoft_25 (1 : Int32) h))
set_option maxRecDepth 20000 in
set_option maxHeartbeats 4000000 in
theorem sX12_canSoft {Γ : Gm} {d : Nat} (hd : 3 ≤ d) {h : Hp} {v0 : Nat} {v1 : Int32} {v2 : Int32} {r : Int32} (H : fX12_canSoft h v0 v1 v2 = some r) : V Γ d mX12_canSoft 0 [(0, .ref v0), (1, .int v1), (2, .int v2)] [] h (some (.int r), h) := by
  unfold fX12_canSoft at H
  refine v_aload_n (q := 1) 0 dX12_canSoft_0 rfl rfl rfl ?_
  refine v_iload_n (q := 2) 1 dX12_canSoft_1 rfl rfl rfl ?_
  refine v_iload_n (q := 3) 2 dX12_canSoft_2 rfl rfl rfl ?_
  refine v_iconst (v := 1) (q := 4) dX12_canSoft_3 (by decide) rfl ?_
  obtain ⟨_, o1, H⟩ := bs H
  obtain ⟨x2, x2e, H⟩ := bs H
  refine u_callV1 (M' := mX12_isOn) (d' := 2) (rc := (RX12, TX12, 58)) (As := [.int v1, .int v2, .int (1 : Int32)]) (st := []) (q := 7) oX12_isOn dX12_canSoft_4 w1722 w1724 w0093 rfl rfl (gO_sp o1).1 (gO_sp o1).2 rfl (Nat.le_of_ble_eq_true rfl) (Nat.le_of_ble_eq_true rfl) (Nat.lt_of_lt_of_le (by decide) hd) rfl (sX12_isOn (Nat.le_refl _) x2e) rfl ?_
  refine v_if_eq (q1 := 24) (q2 := 10) dX12_canSoft_7 (by decide) rfl (fun c3 => ?_) (fun c3 => ?_)
  · have H := ip c3 H
    exact V.sub [] rfl (sjX12_canSoft_24 hd H)
  · have H := ine c3 H
    refine v_aload_n (q := 11) 0 dX12_canSoft_10 rfl rfl rfl ?_
    refine v_iload_n (q := 12) 1 dX12_canSoft_11 rfl rfl rfl ?_
    refine v_iload_n (q := 13) 2 dX12_canSoft_12 rfl rfl rfl ?_
    refine v_iconst (v := 0) (q := 14) dX12_canSoft_13 (by decide) rfl ?_
    obtain ⟨_, o5, H⟩ := bs H
    obtain ⟨x6, x6e, H⟩ := bs H
    refine u_callV1 (M' := mX12_isOn) (d' := 2) (rc := (RX12, TX12, 58)) (As := [.int v1, .int v2, .int (0 : Int32)]) (st := []) (q := 17) oX12_isOn dX12_canSoft_14 w1722 w1724 w0093 rfl rfl (gO_sp o5).1 (gO_sp o5).2 rfl (Nat.le_of_ble_eq_true rfl) (Nat.le_of_ble_eq_true rfl) (Nat.lt_of_lt_of_le (by decide) hd) rfl (sX12_isOn (Nat.le_refl _) x6e) rfl ?_
    refine v_if_eq (q1 := 24) (q2 := 20) dX12_canSoft_17 (by decide) rfl (fun c7 => ?_) (fun c7 => ?_)
    · have H := ip c7 H
      exact V.sub [] rfl (sjX12_canSoft_24 hd H)
    · have H := ine c7 H
      refine v_iconst (v := 1) (q := 21) dX12_canSoft_20 (by decide) rfl ?_
      refine v_goto (q := 25) dX12_canSoft_21 (by decide) ?_
      exact V.sub [] rfl (sjX12_canSoft_25 hd H)
def mX12_use : MI := (yX12_use, cX12_use, 5, none)
theorem oX12_use : mOK mX12_use 3 := ⟨by decide +kernel, by decide +kernel, by decide +kernel, by decide, w1717, w0150⟩
def jX12_use_157 (h : Hp) : Option (Hp) :=
some h
set_option maxRecDepth 20000 in
set_option maxHeartbeats 4000000 in
theorem sjX12_use_157 {Γ : Gm} {d : Nat} (hd : 5 ≤ d) {h : Hp} {r : Hp} (H : jX12_use_157 h = some r) : V Γ d mX12_use 157 [] [] h (none, r) := by
  unfold jX12_use_157 at H
  cases H
  exact v_return rfl dX12_use_157
def jX12_use_118 (v0 : Nat) (v1 : Int32) (v2 : Int32) (v3 : Int32) (h : Hp) : Option (Hp) :=
(gR h 12 v0 0).bind fun x20 =>
(lI h .int x20 ((256 : Int32) + v3)).bind fun x21 =>
if (x21 &&& (2 : Int32)) ≤ 0 then (
jX12_use_157 h) else (
(gR h 12 v0 0).bind fun x23 =>
(lI h .int x23 ((256 : Int32) + v3)).bind fun x24 =>
if (x24 &&& (8 : Int32)) ≤ 0 then (
jX12_use_157 h) else (
(gO h 12 v0).bind fun _ =>
(fX12_reportOnce h v0 (5 : Int32) v1 v2 v3).bind fun x27 =>
jX12_use_157 x27))
set_option maxRecDepth 20000 in
set_option maxHeartbeats 4000000 in
theorem sjX12_use_118 {Γ : Gm} {d : Nat} (hd : 5 ≤ d) {v0 : Nat} {v1 : Int32} {v2 : Int32} {v3 : Int32} {h : Hp} {r : Hp} (H : jX12_use_118 v0 v1 v2 v3 h = some r) : V Γ d mX12_use 118 [(0, .ref v0), (1, .int v1), (2, .int v2), (3, .int v3)] [] h (none, r) := by
  unfold jX12_use_118 at H
  refine v_aload_n (q := 119) 0 dX12_use_118 rfl rfl rfl ?_
  obtain ⟨x20, x20e, H⟩ := bs H
  refine u_gR (q := 122) (r := (RX12, TX12, 58)) x20e dX12_use_119 w1356 rfl (by decide) rfl rfl ?_
  refine v_sipush (v := 256) (q := 125) dX12_use_122 (by decide) rfl ?_
  refine v_iload_n (q := 126) 3 dX12_use_125 rfl rfl rfl ?_
  refine v_iadd (q := 127) dX12_use_126 rfl ?_
  obtain ⟨x21, x21e, H⟩ := bs H
  refine u_lI (q := 128) x21e dX12_use_127 rfl ?_
  refine v_iconst (v := 2) (q := 129) dX12_use_128 (by decide) rfl ?_
  refine v_iand (q := 130) dX12_use_129 rfl ?_
  refine v_if_le (q1 := 157) (q2 := 133) dX12_use_130 (by decide) rfl (fun c22 => ?_) (fun c22 => ?_)
  · have H := ip c22 H
    exact V.sub [] rfl (sjX12_use_157 hd H)
  · have H := ine c22 H
    refine v_aload_n (q := 134) 0 dX12_use_133 rfl rfl rfl ?_
    obtain ⟨x23, x23e, H⟩ := bs H
    refine u_gR (q := 137) (r := (RX12, TX12, 58)) x23e dX12_use_134 w1356 rfl (by decide) rfl rfl ?_
    refine v_sipush (v := 256) (q := 140) dX12_use_137 (by decide) rfl ?_
    refine v_iload_n (q := 141) 3 dX12_use_140 rfl rfl rfl ?_
    refine v_iadd (q := 142) dX12_use_141 rfl ?_
    obtain ⟨x24, x24e, H⟩ := bs H
    refine u_lI (q := 143) x24e dX12_use_142 rfl ?_
    refine v_bipush (v := 8) (q := 145) dX12_use_143 (by decide) rfl ?_
    refine v_iand (q := 146) dX12_use_145 rfl ?_
    refine v_if_le (q1 := 157) (q2 := 149) dX12_use_146 (by decide) rfl (fun c25 => ?_) (fun c25 => ?_)
    · have H := ip c25 H
      exact V.sub [] rfl (sjX12_use_157 hd H)
    · have H := ine c25 H
      refine v_aload_n (q := 150) 0 dX12_use_149 rfl rfl rfl ?_
      refine v_iconst (v := 5) (q := 151) dX12_use_150 (by decide) rfl ?_
      refine v_iload_n (q := 152) 1 dX12_use_151 rfl rfl rfl ?_
      refine v_iload_n (q := 153) 2 dX12_use_152 rfl rfl rfl ?_
      refine v_iload_n (q := 154) 3 dX12_use_153 rfl rfl rfl ?_
      obtain ⟨_, o26, H⟩ := bs H
      obtain ⟨x27, x27e, H⟩ := bs H
      refine u_callV0 (M' := mX12_reportOnce) (d' := 4) (rc := (RX12, TX12, 58)) (As := [.int (5 : Int32), .int v1, .int v2, .int v3]) (st := []) (q := 157) oX12_reportOnce dX12_use_154 w1685 w1687 w0084 rfl rfl (gO_sp o26).1 (gO_sp o26).2 rfl (Nat.le_of_ble_eq_true rfl) (Nat.le_of_ble_eq_true rfl) (Nat.lt_of_lt_of_le (by decide) hd) rfl (sX12_reportOnce (Nat.le_refl _) x27e) rfl ?_
      exact V.sub [] rfl (sjX12_use_157 hd H)
def jX12_use_61 (v0 : Nat) (v1 : Int32) (v2 : Int32) (v3 : Int32) (y0 : Int32) (y1 : Int32) (y2 : Int32) (h : Hp) : Option (Hp) :=
(some (y2 ||| (y1 ||| y0))).bind fun x13 =>
(gR h 12 v0 0).bind fun x14 =>
(lI h .int x14 ((256 : Int32) + v3)).bind fun x15 =>
(tI h x14 ((256 : Int32) + v3) (x15 ||| x13)).bind fun h16 =>
(gR h16 12 v0 0).bind fun x17 =>
(lI h16 .int x17 ((256 : Int32) + v3)).bind fun x18 =>
if (x18 &&& (1 : Int32)) ≤ 0 then (
jX12_use_118 v0 v1 v2 v3 h16) else (
(gR h16 12 v0 0).bind fun x28 =>
(lI h16 .int x28 ((256 : Int32) + v3)).bind fun x29 =>
if (x29 &&& (4 : Int32)) ≤ 0 then (
jX12_use_118 v0 v1 v2 v3 h16) else (
(gO h16 12 v0).bind fun _ =>
(fX12_reportOnce h16 v0 (4 : Int32) v1 v2 v3).bind fun x32 =>
jX12_use_118 v0 v1 v2 v3 x32))
set_option maxRecDepth 20000 in
set_option maxHeartbeats 4000000 in
theorem sjX12_use_61 {Γ : Gm} {d : Nat} (hd : 5 ≤ d) {v0 : Nat} {v1 : Int32} {v2 : Int32} {v3 : Int32} {y0 : Int32} {y1 : Int32} {y2 : Int32} {h : Hp} {r : Hp} (H : jX12_use_61 v0 v1 v2 v3 y0 y1 y2 h = some r) : V Γ d mX12_use 61 [(0, .ref v0), (1, .int v1), (2, .int v2), (3, .int v3)] [.int y0, .int y1, .int y2] h (none, r) := by
  unfold jX12_use_61 at H
  refine v_ior (q := 62) dX12_use_61 rfl ?_
  refine v_ior (q := 63) dX12_use_62 rfl ?_
  obtain ⟨x13, x13e, H⟩ := bs H
  refine v_topi (Option.some.inj x13e) ?_
  refine v_istore (L' := [(4, .int x13), (0, .ref v0), (1, .int v1), (2, .int v2), (3, .int v3)]) (q := 65) dX12_use_63 (by decide) rfl rfl ?_
  refine v_aload_n (q := 66) 1 dX12_use_65 rfl rfl rfl ?_
  obtain ⟨x14, x14e, H⟩ := bs H
  refine u_gR (q := 69) (r := (RX12, TX12, 58)) x14e dX12_use_66 w1356 rfl (by decide) rfl rfl ?_
  refine v_sipush (v := 256) (q := 72) dX12_use_69 (by decide) rfl ?_
  refine v_iload_n (q := 73) 4 dX12_use_72 rfl rfl rfl ?_
  refine v_iadd (q := 74) dX12_use_73 rfl ?_
  refine v_dup2 (q := 75) dX12_use_74 rfl rfl rfl ?_
  obtain ⟨x15, x15e, H⟩ := bs H
  refine u_lI (q := 76) x15e dX12_use_75 rfl ?_
  refine v_iload (q := 78) 0 dX12_use_76 rfl rfl ?_
  refine v_ior (q := 79) dX12_use_78 rfl ?_
  obtain ⟨h16, h16e, H⟩ := bs H
  refine u_tI (q := 80) h16e dX12_use_79 rfl ?_
  refine v_aload_n (q := 81) 1 dX12_use_80 rfl rfl rfl ?_
  obtain ⟨x17, x17e, H⟩ := bs H
  refine u_gR (q := 84) (r := (RX12, TX12, 58)) x17e dX12_use_81 w1356 rfl (by decide) rfl rfl ?_
  refine v_sipush (v := 256) (q := 87) dX12_use_84 (by decide) rfl ?_
  refine v_iload_n (q := 88) 4 dX12_use_87 rfl rfl rfl ?_
  refine v_iadd (q := 89) dX12_use_88 rfl ?_
  obtain ⟨x18, x18e, H⟩ := bs H
  refine u_lI (q := 90) x18e dX12_use_89 rfl ?_
  refine v_iconst (v := 1) (q := 91) dX12_use_90 (by decide) rfl ?_
  refine v_iand (q := 92) dX12_use_91 rfl ?_
  refine v_if_le (q1 := 118) (q2 := 95) dX12_use_92 (by decide) rfl (fun c19 => ?_) (fun c19 => ?_)
  · have H := ip c19 H
    exact V.sub [1, 2, 3, 4] rfl (sjX12_use_118 hd H)
  · have H := ine c19 H
    refine v_aload_n (q := 96) 1 dX12_use_95 rfl rfl rfl ?_
    obtain ⟨x28, x28e, H⟩ := bs H
    refine u_gR (q := 99) (r := (RX12, TX12, 58)) x28e dX12_use_96 w1356 rfl (by decide) rfl rfl ?_
    refine v_sipush (v := 256) (q := 102) dX12_use_99 (by decide) rfl ?_
    refine v_iload_n (q := 103) 4 dX12_use_102 rfl rfl rfl ?_
    refine v_iadd (q := 104) dX12_use_103 rfl ?_
    obtain ⟨x29, x29e, H⟩ := bs H
    refine u_lI (q := 105) x29e dX12_use_104 rfl ?_
    refine v_iconst (v := 4) (q := 106) dX12_use_105 (by decide) rfl ?_
    refine v_iand (q := 107) dX12_use_106 rfl ?_
    refine v_if_le (q1 := 118) (q2 := 110) dX12_use_107 (by decide) rfl (fun c30 => ?_) (fun c30 => ?_)
    · have H := ip c30 H
      exact V.sub [1, 2, 3, 4] rfl (sjX12_use_118 hd H)
    · have H := ine c30 H
      refine v_aload_n (q := 111) 1 dX12_use_110 rfl rfl rfl ?_
      refine v_iconst (v := 4) (q := 112) dX12_use_111 (by decide) rfl ?_
      refine v_iload_n (q := 113) 2 dX12_use_112 rfl rfl rfl ?_
      refine v_iload_n (q := 114) 3 dX12_use_113 rfl rfl rfl ?_
      refine v_iload_n (q := 115) 4 dX12_use_114 rfl rfl rfl ?_
      obtain ⟨_, o31, H⟩ := bs H
      obtain ⟨x32, x32e, H⟩ := bs H
      refine u_callV0 (M' := mX12_reportOnce) (d' := 4) (rc := (RX12, TX12, 58)) (As := [.int (4 : Int32), .int v1, .int v2, .int v3]) (st := []) (q := 118) oX12_reportOnce dX12_use_115 w1685 w1687 w0084 rfl rfl (gO_sp o31).1 (gO_sp o31).2 rfl (Nat.le_of_ble_eq_true rfl) (Nat.le_of_ble_eq_true rfl) (Nat.lt_of_lt_of_le (by decide) hd) rfl (sX12_reportOnce (Nat.le_refl _) x32e) rfl ?_
      exact V.sub [1, 2, 3, 4] rfl (sjX12_use_118 hd H)
def jX12_use_46 (v0 : Nat) (v1 : Int32) (v2 : Int32) (v3 : Int32) (y0 : Int32) (y1 : Int32) (h : Hp) : Option (Hp) :=
(gO h 12 v0).bind fun _ =>
(fX12_canSoft h v0 v1 v2).bind fun x11 =>
if x11 = 0 then (
jX12_use_61 v0 v1 v2 v3 (0 : Int32) y0 y1 h) else (
jX12_use_61 v0 v1 v2 v3 (8 : Int32) y0 y1 h)
set_option maxRecDepth 20000 in
set_option maxHeartbeats 4000000 in
theorem sjX12_use_46 {Γ : Gm} {d : Nat} (hd : 5 ≤ d) {v0 : Nat} {v1 : Int32} {v2 : Int32} {v3 : Int32} {y0 : Int32} {y1 : Int32} {h : Hp} {r : Hp} (H : jX12_use_46 v0 v1 v2 v3 y0 y1 h = some r) : V Γ d mX12_use 46 [(0, .ref v0), (1, .int v1), (2, .int v2), (3, .int v3)] [.int y0, .int y1] h (none, r) := by
  unfold jX12_use_46 at H
  refine v_aload_n (q := 47) 0 dX12_use_46 rfl rfl rfl ?_
  refine v_iload_n (q := 48) 1 dX12_use_47 rfl rfl rfl ?_
  refine v_iload_n (q := 49) 2 dX12_use_48 rfl rfl rfl ?_
  obtain ⟨_, o10, H⟩ := bs H
  obtain ⟨x11, x11e, H⟩ := bs H
  refine u_callV1 (M' := mX12_canSoft) (d' := 3) (rc := (RX12, TX12, 58)) (As := [.int v1, .int v2]) (st := [.int y0, .int y1]) (q := 52) oX12_canSoft dX12_use_49 w1726 w1728 w0094 rfl rfl (gO_sp o10).1 (gO_sp o10).2 rfl (Nat.le_of_ble_eq_true rfl) (Nat.le_of_ble_eq_true rfl) (Nat.lt_of_lt_of_le (by decide) hd) rfl (sX12_canSoft (Nat.le_refl _) x11e) rfl ?_
  refine v_if_eq (q1 := 60) (q2 := 55) dX12_use_52 (by decide) rfl (fun c12 => ?_) (fun c12 => ?_)
  · have H := ip c12 H
    refine v_iconst (v := 0) (q := 61) dX12_use_60 (by decide) rfl ?_
    exact V.sub [0, 1, 2, 3] rfl (sjX12_use_61 hd H)
  · have H := ine c12 H
    refine v_bipush (v := 8) (q := 57) dX12_use_55 (by decide) rfl ?_
    refine v_goto (q := 61) dX12_use_57 (by decide) ?_
    exact V.sub [0, 1, 2, 3] rfl (sjX12_use_61 hd H)
def jX12_use_27 (v0 : Nat) (v1 : Int32) (v2 : Int32) (v3 : Int32) (y0 : Int32) (h : Hp) : Option (Hp) :=
(gO h 12 v0).bind fun _ =>
(fX12_isOn h v0 v1 v2 (1 : Int32)).bind fun x8 =>
if x8 = 0 then (
jX12_use_46 v0 v1 v2 v3 (0 : Int32) y0 h) else (
jX12_use_46 v0 v1 v2 v3 (4 : Int32) y0 h)
set_option maxRecDepth 20000 in
set_option maxHeartbeats 4000000 in
theorem sjX12_use_27 {Γ : Gm} {d : Nat} (hd : 5 ≤ d) {v0 : Nat} {v1 : Int32} {v2 : Int32} {v3 : Int32} {y0 : Int32} {h : Hp} {r : Hp} (H : jX12_use_27 v0 v1 v2 v3 y0 h = some r) : V Γ d mX12_use 27 [(0, .ref v0), (1, .int v1), (2, .int v2), (3, .int v3)] [.int y0] h (none, r) := by
  unfold jX12_use_27 at H
  refine v_istore (L' := [(4, .int y0), (0, .ref v0), (1, .int v1), (2, .int v2), (3, .int v3)]) (q := 29) dX12_use_27 (by decide) rfl rfl ?_
  refine v_iload (q := 31) 0 dX12_use_29 rfl rfl ?_
  refine v_aload_n (q := 32) 1 dX12_use_31 rfl rfl rfl ?_
  refine v_iload_n (q := 33) 2 dX12_use_32 rfl rfl rfl ?_
  refine v_iload_n (q := 34) 3 dX12_use_33 rfl rfl rfl ?_
  refine v_iconst (v := 1) (q := 35) dX12_use_34 (by decide) rfl ?_
  obtain ⟨_, o7, H⟩ := bs H
  obtain ⟨x8, x8e, H⟩ := bs H
  refine u_callV1 (M' := mX12_isOn) (d' := 2) (rc := (RX12, TX12, 58)) (As := [.int v1, .int v2, .int (1 : Int32)]) (st := [.int y0]) (q := 38) oX12_isOn dX12_use_35 w1722 w1724 w0093 rfl rfl (gO_sp o7).1 (gO_sp o7).2 rfl (Nat.le_of_ble_eq_true rfl) (Nat.le_of_ble_eq_true rfl) (Nat.lt_of_lt_of_le (by decide) hd) rfl (sX12_isOn (Nat.le_refl _) x8e) rfl ?_
  refine v_if_eq (q1 := 45) (q2 := 41) dX12_use_38 (by decide) rfl (fun c9 => ?_) (fun c9 => ?_)
  · have H := ip c9 H
    refine v_iconst (v := 0) (q := 46) dX12_use_45 (by decide) rfl ?_
    exact V.sub [1, 2, 3, 4] rfl (sjX12_use_46 hd H)
  · have H := ine c9 H
    refine v_iconst (v := 4) (q := 42) dX12_use_41 (by decide) rfl ?_
    refine v_goto (q := 46) dX12_use_42 (by decide) ?_
    exact V.sub [1, 2, 3, 4] rfl (sjX12_use_46 hd H)
def fX12_use (h : Hp) (v0 : Nat) (v1 : Int32) (v2 : Int32) (v3 : Int32) : Option (Hp) :=
(gO h 12 v0).bind fun _ =>
(fX12_sortOf h v0 v1).bind fun x2 =>
if x2 = (2 : Int32) then (
jX12_use_27 v0 v1 v2 v3 (1 : Int32) h) else (
(gO h 12 v0).bind fun _ =>
(fX12_sortOf h v0 v1).bind fun x5 =>
if x5 = (1 : Int32) then (
jX12_use_27 v0 v1 v2 v3 (2 : Int32) h) else (
jX12_use_27 v0 v1 v2 v3 (0 : Int32) h))
set_option maxRecDepth 20000 in
set_option maxHeartbeats 4000000 in
theorem sX12_use {Γ : Gm} {d : Nat} (hd : 5 ≤ d) {h : Hp} {v0 : Nat} {v1 : Int32} {v2 : Int32} {v3 : Int32} {r : Hp} (H : fX12_use h v0 v1 v2 v3 = some r) : V Γ d mX12_use 0 [(0, .ref v0), (1, .int v1), (2, .int v2), (3, .int v3)] [] h (none, r) := by
  unfold fX12_use at H
  refine v_aload_n (q := 1) 0 dX12_use_0 rfl rfl rfl ?_
  refine v_iload_n (q := 2) 1 dX12_use_1 rfl rfl rfl ?_
  obtain ⟨_, o1, H⟩ := bs H
  obtain ⟨x2, x2e, H⟩ := bs H
  refine u_callV1 (M' := mX12_sortOf) (d' := 1) (rc := (RX12, TX12, 58)) (As := [.int v1]) (st := []) (q := 5) oX12_sortOf dX12_use_2 w1718 w1720 w0092 rfl rfl (gO_sp o1).1 (gO_sp o1).2 rfl (Nat.le_of_ble_eq_true rfl) (Nat.le_of_ble_eq_true rfl) (Nat.lt_of_lt_of_le (by decide) hd) rfl (sX12_sortOf (Nat.le_refl _) x2e) rfl ?_
  refine v_iconst (v := 2) (q := 6) dX12_use_5 (by decide) rfl ?_
  refine v_icmp_ne (q1 := 13) (q2 := 9) dX12_use_6 (by decide) rfl (fun c3 => ?_) (fun c3 => ?_)
  · have H := ine c3 H
    refine v_aload_n (q := 14) 0 dX12_use_13 rfl rfl rfl ?_
    refine v_iload_n (q := 15) 1 dX12_use_14 rfl rfl rfl ?_
    obtain ⟨_, o4, H⟩ := bs H
    obtain ⟨x5, x5e, H⟩ := bs H
    refine u_callV1 (M' := mX12_sortOf) (d' := 1) (rc := (RX12, TX12, 58)) (As := [.int v1]) (st := []) (q := 18) oX12_sortOf dX12_use_15 w1718 w1720 w0092 rfl rfl (gO_sp o4).1 (gO_sp o4).2 rfl (Nat.le_of_ble_eq_true rfl) (Nat.le_of_ble_eq_true rfl) (Nat.lt_of_lt_of_le (by decide) hd) rfl (sX12_sortOf (Nat.le_refl _) x5e) rfl ?_
    refine v_iconst (v := 1) (q := 19) dX12_use_18 (by decide) rfl ?_
    refine v_icmp_ne (q1 := 26) (q2 := 22) dX12_use_19 (by decide) rfl (fun c6 => ?_) (fun c6 => ?_)
    · have H := ine c6 H
      refine v_iconst (v := 0) (q := 27) dX12_use_26 (by decide) rfl ?_
      exact V.sub [0, 1, 2, 3] rfl (sjX12_use_27 hd H)
    · have H := ip c6 H
      refine v_iconst (v := 2) (q := 23) dX12_use_22 (by decide) rfl ?_
      refine v_goto (q := 27) dX12_use_23 (by decide) ?_
      exact V.sub [0, 1, 2, 3] rfl (sjX12_use_27 hd H)
  · have H := ip c3 H
    refine v_iconst (v := 1) (q := 10) dX12_use_9 (by decide) rfl ?_
    refine v_goto (q := 27) dX12_use_10 (by decide) ?_
    exact V.sub [0, 1, 2, 3] rfl (sjX12_use_27 hd H)

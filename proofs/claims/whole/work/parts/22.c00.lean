def bX12_clearAll_2 (u0 : Nat) (s2 : Int32 × Hp) : Option ((Int32 × Hp) ⊕ (Hp)) :=
if (1541 : Int32) ≤ s2.1 then (
some (.inr s2.2)) else (
(gR s2.2 12 u0 0).bind fun x2 =>
(tI s2.2 x2 s2.1 (0 : Int32)).bind fun h3 =>
(some (s2.1 + (1 : Int32))).bind fun x4 =>
some (.inl (x4, h3)))
set_option maxRecDepth 20000 in
set_option maxHeartbeats 4000000 in
theorem sbX12_clearAll_2 {Γ : Gm} {d : Nat} (hd : 1 ≤ d) {u0 : Nat} {s2 : Int32 × Hp} {r : (Int32 × Hp) ⊕ (Hp)} {t : Option Value × Hp} (H : bX12_clearAll_2 u0 s2 = some r) (kI : ∀ s, r = .inl s → (fun s2 => V Γ d mX12_clearAll 2 [(0, .ref u0), (1, .int s2.1)] [] s2.2 t) s) (kE : ∀ e, r = .inr e → (fun e => V Γ d mX12_clearAll 22 [] [] e t) e) : V Γ d mX12_clearAll 2 [(0, .ref u0), (1, .int s2.1)] [] s2.2 t := by
  unfold bX12_clearAll_2 at H
  refine v_iload_n (q := 3) 1 dX12_clearAll_2 rfl rfl rfl ?_
  refine v_sipush (v := 1541) (q := 6) dX12_clearAll_3 (by decide) rfl ?_
  refine v_icmp_ge (q1 := 22) (q2 := 9) dX12_clearAll_6 (by decide) rfl (fun c1 => ?_) (fun c1 => ?_)
  · replace H := ip c1 H
    exact V.sub [] rfl (kE s2.2 (Option.some.inj H).symm)
  · replace H := ine c1 H
    refine v_aload_n (q := 10) 0 dX12_clearAll_9 rfl rfl rfl ?_
    replace H := bs H; obtain ⟨x2, x2e, H⟩ := H
    refine u_gR (q := 13) (r := (RX12, TX12, 58)) x2e dX12_clearAll_10 w1356 rfl (by decide) rfl rfl ?_
    refine v_iload_n (q := 14) 1 dX12_clearAll_13 rfl rfl rfl ?_
    refine v_iconst (v := 0) (q := 15) dX12_clearAll_14 (by decide) rfl ?_
    replace H := bs H; obtain ⟨h3, h3e, H⟩ := H
    refine u_tI (q := 16) h3e dX12_clearAll_15 rfl ?_
    replace H := bs H; obtain ⟨x4, x4e, H⟩ := H
    refine v_iinc (v := x4) (L' := [(1, .int x4), (0, .ref u0)]) (q := 19) 1 dX12_clearAll_16 rfl (Option.some.inj x4e) (by decide) rfl rfl ?_
    refine v_goto (q := 2) dX12_clearAll_19 (by decide) ?_
    exact V.sub [1, 0] rfl (kI (x4, h3) (Option.some.inj H).symm)
def fX12_clearAll (h : Hp) (v0 : Nat) : Option (Hp) :=
(lp (bX12_clearAll_2 v0) FU ((0 : Int32), h)).bind fun e5 =>
some e5
set_option maxRecDepth 20000 in
set_option maxHeartbeats 4000000 in
theorem sX12_clearAll {Γ : Gm} {d : Nat} (hd : 1 ≤ d) {h : Hp} {v0 : Nat} {r : Hp} (H : fX12_clearAll h v0 = some r) : V Γ d mX12_clearAll 0 [(0, .ref v0)] [] h (none, r) := by
  unfold fX12_clearAll at H
  refine v_iconst (v := 0) (q := 1) dX12_clearAll_0 (by decide) rfl ?_
  refine v_istore_n (L' := [(1, .int (0 : Int32)), (0, .ref v0)]) (q := 2) dX12_clearAll_1 rfl (by decide) rfl rfl ?_
  replace H := bs H; obtain ⟨e5, e5L, H⟩ := H
  refine V.sub [1, 0] rfl ?_
  refine lp_V (P := (fun s2 => V Γ d mX12_clearAll 2 [(0, .ref v0), (1, .int s2.1)] [] s2.2 (none, r))) (E := (fun e => V Γ d mX12_clearAll 22 [] [] e (none, r))) (fun s r hb kI kE => sbX12_clearAll_2 hd (s2 := s) (r := r) hb kI kE) FU ((0 : Int32), h) e5 e5L ?_
  cases H
  exact v_return rfl dX12_clearAll_22
def fX12_clearBank (h : Hp) (v0 : Nat) (v1 : Int32) : Option (Hp) :=
(gR h 12 v0 1).bind fun x1 =>
(tI h x1 v1 (0 : Int32)).bind fun h2 =>
(gR h2 12 v0 2).bind fun x3 =>
(tI h2 x3 v1 (0 : Int32)).bind fun h4 =>
(gR h4 12 v0 3).bind fun x5 =>
(tI h4 x5 v1 (0 : Int32)).bind fun h6 =>
some h6
set_option maxRecDepth 20000 in
set_option maxHeartbeats 4000000 in
theorem sX12_clearBank {Γ : Gm} {d : Nat} (hd : 1 ≤ d) {h : Hp} {v0 : Nat} {v1 : Int32} {r : Hp} (H : fX12_clearBank h v0 v1 = some r) : V Γ d mX12_clearBank 0 [(0, .ref v0), (1, .int v1)] [] h (none, r) := by
  unfold fX12_clearBank at H
  refine v_aload_n (q := 1) 0 dX12_clearBank_0 rfl rfl rfl ?_
  replace H := bs H; obtain ⟨x1, x1e, H⟩ := H
  refine u_gR (q := 4) (r := (RX12, TX12, 58)) x1e dX12_clearBank_1 w1357 rfl (by decide) rfl rfl ?_
  refine v_iload_n (q := 5) 1 dX12_clearBank_4 rfl rfl rfl ?_
  refine v_iconst (v := 0) (q := 6) dX12_clearBank_5 (by decide) rfl ?_
  replace H := bs H; obtain ⟨h2, h2e, H⟩ := H
  refine u_tI (q := 7) h2e dX12_clearBank_6 rfl ?_
  refine v_aload_n (q := 8) 0 dX12_clearBank_7 rfl rfl rfl ?_
  replace H := bs H; obtain ⟨x3, x3e, H⟩ := H
  refine u_gR (q := 11) (r := (RX12, TX12, 58)) x3e dX12_clearBank_8 w1358 rfl (by decide) rfl rfl ?_
  refine v_iload_n (q := 12) 1 dX12_clearBank_11 rfl rfl rfl ?_
  refine v_iconst (v := 0) (q := 13) dX12_clearBank_12 (by decide) rfl ?_
  replace H := bs H; obtain ⟨h4, h4e, H⟩ := H
  refine u_tI (q := 14) h4e dX12_clearBank_13 rfl ?_
  refine v_aload_n (q := 15) 0 dX12_clearBank_14 rfl rfl rfl ?_
  replace H := bs H; obtain ⟨x5, x5e, H⟩ := H
  refine u_gR (q := 18) (r := (RX12, TX12, 58)) x5e dX12_clearBank_15 w1359 rfl (by decide) rfl rfl ?_
  refine v_iload_n (q := 19) 1 dX12_clearBank_18 rfl rfl rfl ?_
  refine v_iconst (v := 0) (q := 20) dX12_clearBank_19 (by decide) rfl ?_
  replace H := bs H; obtain ⟨h6, h6e, H⟩ := H
  refine u_tI (q := 21) h6e dX12_clearBank_20 rfl ?_
  cases H
  exact v_return rfl dX12_clearBank_21
def bX12_startAnew_6 (u0 : Nat) (s6 : Int32 × Hp) : Option ((Int32 × Hp) ⊕ (Hp)) :=
if (72 : Int32) ≤ s6.1 then (
some (.inr s6.2)) else (
(gR s6.2 12 u0 0).bind fun x4 =>
(gR s6.2 12 u0 7).bind fun x5 =>
(gI s6.2 12 u0 9).bind fun x6 =>
(lI s6.2 .int x5 (((72 : Int32) * x6) + s6.1)).bind fun x7 =>
(tI s6.2 x4 ((1541 : Int32) + s6.1) x7).bind fun h8 =>
(gR h8 12 u0 0).bind fun x9 =>
(gR h8 12 u0 8).bind fun x10 =>
(gI h8 12 u0 9).bind fun x11 =>
(lI h8 .int x10 (((72 : Int32) * x11) + s6.1)).bind fun x12 =>
(tI h8 x9 ((1613 : Int32) + s6.1) x12).bind fun h13 =>
(some (s6.1 + (1 : Int32))).bind fun x14 =>
some (.inl (x14, h13)))
set_option maxRecDepth 20000 in
set_option maxHeartbeats 4000000 in
theorem sbX12_startAnew_6 {Γ : Gm} {d : Nat} (hd : 2 ≤ d) {u0 : Nat} {s6 : Int32 × Hp} {r : (Int32 × Hp) ⊕ (Hp)} {t : Option Value × Hp} (H : bX12_startAnew_6 u0 s6 = some r) (kI : ∀ s, r = .inl s → (fun s6 => V Γ d mX12_startAnew 6 [(0, .ref u0), (1, .int s6.1)] [] s6.2 t) s) (kE : ∀ e, r = .inr e → (fun e => V Γ d mX12_startAnew 66 [(0, .ref u0)] [] e t) e) : V Γ d mX12_startAnew 6 [(0, .ref u0), (1, .int s6.1)] [] s6.2 t := by
  unfold bX12_startAnew_6 at H
  refine v_iload_n (q := 7) 1 dX12_startAnew_6 rfl rfl rfl ?_
  refine v_bipush (v := 72) (q := 9) dX12_startAnew_7 (by decide) rfl ?_
  refine v_icmp_ge (q1 := 66) (q2 := 12) dX12_startAnew_9 (by decide) rfl (fun c3 => ?_) (fun c3 => ?_)
  · replace H := ip c3 H
    exact V.sub [0] rfl (kE s6.2 (Option.some.inj H).symm)
  · replace H := ine c3 H
    refine v_aload_n (q := 13) 0 dX12_startAnew_12 rfl rfl rfl ?_
    replace H := bs H; obtain ⟨x4, x4e, H⟩ := H
    refine u_gR (q := 16) (r := (RX12, TX12, 58)) x4e dX12_startAnew_13 w1356 rfl (by decide) rfl rfl ?_
    refine v_sipush (v := 1541) (q := 19) dX12_startAnew_16 (by decide) rfl ?_
    refine v_iload_n (q := 20) 1 dX12_startAnew_19 rfl rfl rfl ?_
    refine v_iadd (q := 21) dX12_startAnew_20 rfl ?_
    refine v_aload_n (q := 22) 0 dX12_startAnew_21 rfl rfl rfl ?_
    replace H := bs H; obtain ⟨x5, x5e, H⟩ := H
    refine u_gR (q := 25) (r := (RX12, TX12, 58)) x5e dX12_startAnew_22 w1363 rfl (by decide) rfl rfl ?_
    refine v_bipush (v := 72) (q := 27) dX12_startAnew_25 (by decide) rfl ?_
    refine v_aload_n (q := 28) 0 dX12_startAnew_27 rfl rfl rfl ?_
    replace H := bs H; obtain ⟨x6, x6e, H⟩ := H
    refine u_gI (q := 31) (r := (RX12, TX12, 58)) x6e dX12_startAnew_28 w1365 rfl (by decide) rfl rfl ?_
    refine v_imul (q := 32) dX12_startAnew_31 rfl ?_
    refine v_iload_n (q := 33) 1 dX12_startAnew_32 rfl rfl rfl ?_
    refine v_iadd (q := 34) dX12_startAnew_33 rfl ?_
    replace H := bs H; obtain ⟨x7, x7e, H⟩ := H
    refine u_lI (q := 35) x7e dX12_startAnew_34 rfl ?_
    replace H := bs H; obtain ⟨h8, h8e, H⟩ := H
    refine u_tI (q := 36) h8e dX12_startAnew_35 rfl ?_
    refine v_aload_n (q := 37) 0 dX12_startAnew_36 rfl rfl rfl ?_
    replace H := bs H; obtain ⟨x9, x9e, H⟩ := H
    refine u_gR (q := 40) (r := (RX12, TX12, 58)) x9e dX12_startAnew_37 w1356 rfl (by decide) rfl rfl ?_
    refine v_sipush (v := 1613) (q := 43) dX12_startAnew_40 (by decide) rfl ?_
    refine v_iload_n (q := 44) 1 dX12_startAnew_43 rfl rfl rfl ?_
    refine v_iadd (q := 45) dX12_startAnew_44 rfl ?_
    refine v_aload_n (q := 46) 0 dX12_startAnew_45 rfl rfl rfl ?_
    replace H := bs H; obtain ⟨x10, x10e, H⟩ := H
    refine u_gR (q := 49) (r := (RX12, TX12, 58)) x10e dX12_startAnew_46 w1364 rfl (by decide) rfl rfl ?_
    refine v_bipush (v := 72) (q := 51) dX12_startAnew_49 (by decide) rfl ?_
    refine v_aload_n (q := 52) 0 dX12_startAnew_51 rfl rfl rfl ?_
    replace H := bs H; obtain ⟨x11, x11e, H⟩ := H
    refine u_gI (q := 55) (r := (RX12, TX12, 58)) x11e dX12_startAnew_52 w1365 rfl (by decide) rfl rfl ?_
    refine v_imul (q := 56) dX12_startAnew_55 rfl ?_
    refine v_iload_n (q := 57) 1 dX12_startAnew_56 rfl rfl rfl ?_
    refine v_iadd (q := 58) dX12_startAnew_57 rfl ?_
    replace H := bs H; obtain ⟨x12, x12e, H⟩ := H
    refine u_lI (q := 59) x12e dX12_startAnew_58 rfl ?_
    replace H := bs H; obtain ⟨h13, h13e, H⟩ := H
    refine u_tI (q := 60) h13e dX12_startAnew_59 rfl ?_
    replace H := bs H; obtain ⟨x14, x14e, H⟩ := H
    refine v_iinc (v := x14) (L' := [(1, .int x14), (0, .ref u0)]) (q := 63) 1 dX12_startAnew_60 rfl (Option.some.inj x14e) (by decide) rfl rfl ?_
    refine v_goto (q := 6) dX12_startAnew_63 (by decide) ?_
    exact V.sub [1, 0] rfl (kI (x14, h13) (Option.some.inj H).symm)
def bX12_startAnew_78 (u0 : Nat) (s78 : Int32 × Hp) : Option ((Int32 × Hp) ⊕ (Hp)) :=
if (2 : Int32) ≤ s78.1 then (
some (.inr s78.2)) else (
(gR s78.2 12 u0 55).bind fun x19 =>
(tZ s78.2 x19 s78.1 (0 : Int32)).bind fun h20 =>
(some (s78.1 + (1 : Int32))).bind fun x21 =>
some (.inl (x21, h20)))
set_option maxRecDepth 20000 in
set_option maxHeartbeats 4000000 in
theorem sbX12_startAnew_78 {Γ : Gm} {d : Nat} (hd : 2 ≤ d) {u0 : Nat} {s78 : Int32 × Hp} {r : (Int32 × Hp) ⊕ (Hp)} {t : Option Value × Hp} (H : bX12_startAnew_78 u0 s78 = some r) (kI : ∀ s, r = .inl s → (fun s78 => V Γ d mX12_startAnew 78 [(0, .ref u0), (1, .int s78.1)] [] s78.2 t) s) (kE : ∀ e, r = .inr e → (fun e => V Γ d mX12_startAnew 96 [] [] e t) e) : V Γ d mX12_startAnew 78 [(0, .ref u0), (1, .int s78.1)] [] s78.2 t := by
  unfold bX12_startAnew_78 at H
  refine v_iload_n (q := 79) 1 dX12_startAnew_78 rfl rfl rfl ?_
  refine v_iconst (v := 2) (q := 80) dX12_startAnew_79 (by decide) rfl ?_
  refine v_icmp_ge (q1 := 96) (q2 := 83) dX12_startAnew_80 (by decide) rfl (fun c18 => ?_) (fun c18 => ?_)
  · replace H := ip c18 H
    exact V.sub [] rfl (kE s78.2 (Option.some.inj H).symm)
  · replace H := ine c18 H
    refine v_aload_n (q := 84) 0 dX12_startAnew_83 rfl rfl rfl ?_
    replace H := bs H; obtain ⟨x19, x19e, H⟩ := H
    refine u_gR (q := 87) (r := (RX12, TX12, 58)) x19e dX12_startAnew_84 w1411 rfl (by decide) rfl rfl ?_
    refine v_iload_n (q := 88) 1 dX12_startAnew_87 rfl rfl rfl ?_
    refine v_iconst (v := 0) (q := 89) dX12_startAnew_88 (by decide) rfl ?_
    replace H := bs H; obtain ⟨h20, h20e, H⟩ := H
    refine u_tZ (q := 90) h20e dX12_startAnew_89 rfl ?_
    replace H := bs H; obtain ⟨x21, x21e, H⟩ := H
    refine v_iinc (v := x21) (L' := [(1, .int x21), (0, .ref u0)]) (q := 93) 1 dX12_startAnew_90 rfl (Option.some.inj x21e) (by decide) rfl rfl ?_
    refine v_goto (q := 78) dX12_startAnew_93 (by decide) ?_
    exact V.sub [1, 0] rfl (kI (x21, h20) (Option.some.inj H).symm)
def fX12_startAnew (h : Hp) (v0 : Nat) : Option (Hp) :=
(gO h 12 v0).bind fun _ =>
(fX12_clearAll h v0).bind fun x2 =>
(lp (bX12_startAnew_6 v0) FU ((0 : Int32), x2)).bind fun e15 =>
(pI e15 12 v0 56 (0 : Int32)).bind fun h16 =>
(pI h16 12 v0 57 (0 : Int32)).bind fun h17 =>
(lp (bX12_startAnew_78 v0) FU ((0 : Int32), h17)).bind fun e22 =>
some e22
set_option maxRecDepth 20000 in
set_option maxHeartbeats 4000000 in
theorem sX12_startAnew {Γ : Gm} {d : Nat} (hd : 2 ≤ d) {h : Hp} {v0 : Nat} {r : Hp} (H : fX12_startAnew h v0 = some r) : V Γ d mX12_startAnew 0 [(0, .ref v0)] [] h (none, r) := by
  unfold fX12_startAnew at H
  refine v_aload_n (q := 1) 0 dX12_startAnew_0 rfl rfl rfl ?_
  replace H := bs H; obtain ⟨_, o1, H⟩ := H
  replace H := bs H; obtain ⟨x2, x2e, H⟩ := H
  refine u_callV0 (M' := mX12_clearAll) (d' := 1) (rc := (RX12, TX12, 58)) (As := []) (st := []) (q := 4) oX12_clearAll dX12_startAnew_1 w1352 w1354 w0052 rfl rfl (gO_sp o1).1 (gO_sp o1).2 rfl (Nat.le_of_ble_eq_true rfl) (Nat.le_of_ble_eq_true rfl) (Nat.lt_of_lt_of_le (by decide) hd) rfl (sX12_clearAll (Nat.le_refl _) x2e) rfl ?_
  refine v_iconst (v := 0) (q := 5) dX12_startAnew_4 (by decide) rfl ?_
  refine v_istore_n (L' := [(1, .int (0 : Int32)), (0, .ref v0)]) (q := 6) dX12_startAnew_5 rfl (by decide) rfl rfl ?_
  replace H := bs H; obtain ⟨e15, e15L, H⟩ := H
  refine V.sub [1, 0] rfl ?_
  refine lp_V (P := (fun s6 => V Γ d mX12_startAnew 6 [(0, .ref v0), (1, .int s6.1)] [] s6.2 (none, r))) (E := (fun e => V Γ d mX12_startAnew 66 [(0, .ref v0)] [] e (none, r))) (fun s r hb kI kE => sbX12_startAnew_6 hd (s6 := s) (r := r) hb kI kE) FU ((0 : Int32), x2) e15 e15L ?_
  refine v_aload_n (q := 67) 0 dX12_startAnew_66 rfl rfl rfl ?_
  refine v_iconst (v := 0) (q := 68) dX12_startAnew_67 (by decide) rfl ?_
  replace H := bs H; obtain ⟨h16, h16e, H⟩ := H
  refine u_pI (q := 71) (r := (RX12, TX12, 58)) h16e dX12_startAnew_68 w1412 rfl (by decide) (Or.inl rfl) rfl rfl ?_
  refine v_aload_n (q := 72) 0 dX12_startAnew_71 rfl rfl rfl ?_
  refine v_iconst (v := 0) (q := 73) dX12_startAnew_72 (by decide) rfl ?_
  replace H := bs H; obtain ⟨h17, h17e, H⟩ := H
  refine u_pI (q := 76) (r := (RX12, TX12, 58)) h17e dX12_startAnew_73 w1413 rfl (by decide) (Or.inl rfl) rfl rfl ?_
  refine v_iconst (v := 0) (q := 77) dX12_startAnew_76 (by decide) rfl ?_
  refine v_istore_n (L' := [(1, .int (0 : Int32)), (0, .ref v0)]) (q := 78) dX12_startAnew_77 rfl (by decide) rfl rfl ?_
  replace H := bs H; obtain ⟨e22, e22L, H⟩ := H
  refine V.sub [1, 0] rfl ?_
  refine lp_V (P := (fun s78 => V Γ d mX12_startAnew 78 [(0, .ref v0), (1, .int s78.1)] [] s78.2 (none, r))) (E := (fun e => V Γ d mX12_startAnew 96 [] [] e (none, r))) (fun s r hb kI kE => sbX12_startAnew_78 hd (s78 := s) (r := r) hb kI kE) FU ((0 : Int32), h17) e22 e22L ?_
  cases H
  exact v_return rfl dX12_startAnew_96
def mX12_init : MI := (yX12_init, cX12_init, 1, none)
theorem oX12_init : mOK mX12_init 0 := ⟨by decide +kernel, by decide +kernel, by decide +kernel, by decide, w1341, w0150⟩
def fX12_init (h : Hp) (v0 : Nat) : Option (Hp) :=
(nA h .int (9685 : Int32)).bind fun h1 =>
(pR h1 12 v0 0 (hN h)).bind fun h2 =>
(nA h2 .int (2 : Int32)).bind fun h3 =>
(pR h3 12 v0 1 (hN h2)).bind fun h4 =>
(nA h4 .int (2 : Int32)).bind fun h5 =>
(pR h5 12 v0 2 (hN h4)).bind fun h6 =>
(nA h6 .int (2 : Int32)).bind fun h7 =>
(pR h7 12 v0 3 (hN h6)).bind fun h8 =>
(nA h8 .int (20 : Int32)).bind fun h9 =>
(pR h9 12 v0 4 (hN h8)).bind fun h10 =>
(nA h10 .int (12 : Int32)).bind fun h11 =>
(pR h11 12 v0 5 (hN h10)).bind fun h12 =>
(nA h12 .int (12 : Int32)).bind fun h13 =>
(pR h13 12 v0 6 (hN h12)).bind fun h14 =>
(nA h14 .int (144 : Int32)).bind fun h15 =>
(pR h15 12 v0 7 (hN h14)).bind fun h16 =>
(nA h16 .int (144 : Int32)).bind fun h17 =>
(pR h17 12 v0 8 (hN h16)).bind fun h18 =>
(nA h18 .byte (900 : Int32)).bind fun h19 =>
(pR h19 12 v0 10 (hN h18)).bind fun h20 =>
(pI h20 12 v0 20 (-1 : Int32)).bind fun h21 =>
(nA h21 .byte (71 : Int32)).bind fun h22 =>
(tB h22 (hN h21) (0 : Int32) (116 : Int32)).bind fun h23 =>
(tB h23 (hN h21) (1 : Int32) (97 : Int32)).bind fun h24 =>
(tB h24 (hN h21) (2 : Int32) (107 : Int32)).bind fun h25 =>
(tB h25 (hN h21) (3 : Int32) (101 : Int32)).bind fun h26 =>
(tB h26 (hN h21) (4 : Int32) (32 : Int32)).bind fun h27 =>
(tB h27 (hN h21) (5 : Int32) (105 : Int32)).bind fun h28 =>
(tB h28 (hN h21) (6 : Int32) (110 : Int32)).bind fun h29 =>
(tB h29 (hN h21) (7 : Int32) (110 : Int32)).bind fun h30 =>
(tB h30 (hN h21) (8 : Int32) (101 : Int32)).bind fun h31 =>
(tB h31 (hN h21) (9 : Int32) (114 : Int32)).bind fun h32 =>
(tB h32 (hN h21) (10 : Int32) (32 : Int32)).bind fun h33 =>
(tB h33 (hN h21) (11 : Int32) (115 : Int32)).bind fun h34 =>
(tB h34 (hN h21) (12 : Int32) (104 : Int32)).bind fun h35 =>
(tB h35 (hN h21) (13 : Int32) (97 : Int32)).bind fun h36 =>
(tB h36 (hN h21) (14 : Int32) (114 : Int32)).bind fun h37 =>
(tB h37 (hN h21) (15 : Int32) (101 : Int32)).bind fun h38 =>
(tB h38 (hN h21) (16 : Int32) (32 : Int32)).bind fun h39 =>
(tB h39 (hN h21) (17 : Int32) (116 : Int32)).bind fun h40 =>
(tB h40 (hN h21) (18 : Int32) (114 : Int32)).bind fun h41 =>
(tB h41 (hN h21) (19 : Int32) (121 : Int32)).bind fun h42 =>
(tB h42 (hN h21) (20 : Int32) (32 : Int32)).bind fun h43 =>
(tB h43 (hN h21) (21 : Int32) (100 : Int32)).bind fun h44 =>
(tB h44 (hN h21) (22 : Int32) (114 : Int32)).bind fun h45 =>
(tB h45 (hN h21) (23 : Int32) (111 : Int32)).bind fun h46 =>
(tB h46 (hN h21) (24 : Int32) (112 : Int32)).bind fun h47 =>
(tB h47 (hN h21) (25 : Int32) (32 : Int32)).bind fun h48 =>
(tB h48 (hN h21) (26 : Int32) (111 : Int32)).bind fun h49 =>
(tB h49 (hN h21) (27 : Int32) (102 : Int32)).bind fun h50 =>
(tB h50 (hN h21) (28 : Int32) (102 : Int32)).bind fun h51 =>
(tB h51 (hN h21) (29 : Int32) (32 : Int32)).bind fun h52 =>
(tB h52 (hN h21) (30 : Int32) (111 : Int32)).bind fun h53 =>
(tB h53 (hN h21) (31 : Int32) (110 : Int32)).bind fun h54 =>
(tB h54 (hN h21) (32 : Int32) (32 : Int32)).bind fun h55 =>
(tB h55 (hN h21) (33 : Int32) (109 : Int32)).bind fun h56 =>
(tB h56 (hN h21) (34 : Int32) (97 : Int32)).bind fun h57 =>
(tB h57 (hN h21) (35 : Int32) (115 : Int32)).bind fun h58 =>
(tB h58 (hN h21) (36 : Int32) (107 : Int32)).bind fun h59 =>
(tB h59 (hN h21) (37 : Int32) (32 : Int32)).bind fun h60 =>
(tB h60 (hN h21) (38 : Int32) (111 : Int32)).bind fun h61 =>
(tB h61 (hN h21) (39 : Int32) (112 : Int32)).bind fun h62 =>
(tB h62 (hN h21) (40 : Int32) (101 : Int32)).bind fun h63 =>
(tB h63 (hN h21) (41 : Int32) (110 : Int32)).bind fun h64 =>
(tB h64 (hN h21) (42 : Int32) (32 : Int32)).bind fun h65 =>
(tB h65 (hN h21) (43 : Int32) (107 : Int32)).bind fun h66 =>
(tB h66 (hN h21) (44 : Int32) (105 : Int32)).bind fun h67 =>
(tB h67 (hN h21) (45 : Int32) (110 : Int32)).bind fun h68 =>
(tB h68 (hN h21) (46 : Int32) (100 : Int32)).bind fun h69 =>
(tB h69 (hN h21) (47 : Int32) (32 : Int32)).bind fun h70 =>
(tB h70 (hN h21) (48 : Int32) (108 : Int32)).bind fun h71 =>
(tB h71 (hN h21) (49 : Int32) (111 : Int32)).bind fun h72 =>
(tB h72 (hN h21) (50 : Int32) (99 : Int32)).bind fun h73 =>
(tB h73 (hN h21) (51 : Int32) (107 : Int32)).bind fun h74 =>
(tB h74 (hN h21) (52 : Int32) (32 : Int32)).bind fun h75 =>
(tB h75 (hN h21) (53 : Int32) (111 : Int32)).bind fun h76 =>
(tB h76 (hN h21) (54 : Int32) (102 : Int32)).bind fun h77 =>
(tB h77 (hN h21) (55 : Int32) (32 : Int32)).bind fun h78 =>
(tB h78 (hN h21) (56 : Int32) (116 : Int32)).bind fun h79 =>
(tB h79 (hN h21) (57 : Int32) (97 : Int32)).bind fun h80 =>
(tB h80 (hN h21) (58 : Int32) (115 : Int32)).bind fun h81 =>
(tB h81 (hN h21) (59 : Int32) (107 : Int32)).bind fun h82 =>
(tB h82 (hN h21) (60 : Int32) (32 : Int32)).bind fun h83 =>
(tB h83 (hN h21) (61 : Int32) (115 : Int32)).bind fun h84 =>
(tB h84 (hN h21) (62 : Int32) (111 : Int32)).bind fun h85 =>
(tB h85 (hN h21) (63 : Int32) (102 : Int32)).bind fun h86 =>
(tB h86 (hN h21) (64 : Int32) (116 : Int32)).bind fun h87 =>
(tB h87 (hN h21) (65 : Int32) (32 : Int32)).bind fun h88 =>
(tB h88 (hN h21) (66 : Int32) (104 : Int32)).bind fun h89 =>
(tB h89 (hN h21) (67 : Int32) (97 : Int32)).bind fun h90 =>
(tB h90 (hN h21) (68 : Int32) (114 : Int32)).bind fun h91 =>
(tB h91 (hN h21) (69 : Int32) (100 : Int32)).bind fun h92 =>
(tB h92 (hN h21) (70 : Int32) (32 : Int32)).bind fun h93 =>
(pR h93 12 v0 21 (hN h21)).bind fun h94 =>
(nA h94 .int (24 : Int32)).bind fun h95 =>
(pR h95 12 v0 22 (hN h94)).bind fun h96 =>
(nA h96 .int (24 : Int32)).bind fun h97 =>
(pR h97 12 v0 23 (hN h96)).bind fun h98 =>
(nA h98 .int (24 : Int32)).bind fun h99 =>
(pR h99 12 v0 24 (hN h98)).bind fun h100 =>
(nA h100 .int (24 : Int32)).bind fun h101 =>
(pR h101 12 v0 25 (hN h100)).bind fun h102 =>
(nA h102 .int (16 : Int32)).bind fun h103 =>
(pR h103 12 v0 27 (hN h102)).bind fun h104 =>
(nA h104 .int (20 : Int32)).bind fun h105 =>
(pR h105 12 v0 28 (hN h104)).bind fun h106 =>
(nA h106 .int (10 : Int32)).bind fun h107 =>
(pR h107 12 v0 29 (hN h106)).bind fun h108 =>
(nA h108 .int (10 : Int32)).bind fun h109 =>
(pR h109 12 v0 30 (hN h108)).bind fun h110 =>
(nA h110 .int (9685 : Int32)).bind fun h111 =>
(pR h111 12 v0 32 (hN h110)).bind fun h112 =>
(nA h112 .int (16 : Int32)).bind fun h113 =>
(pR h113 12 v0 33 (hN h112)).bind fun h114 =>
(nA h114 .int (256 : Int32)).bind fun h115 =>
(pR h115 12 v0 34 (hN h114)).bind fun h116 =>
(nA h116 .int (6 : Int32)).bind fun h117 =>
(pR h117 12 v0 36 (hN h116)).bind fun h118 =>
(nA h118 .int (6 : Int32)).bind fun h119 =>
(pR h119 12 v0 37 (hN h118)).bind fun h120 =>
(nA h120 .int (10 : Int32)).bind fun h121 =>
(pR h121 12 v0 38 (hN h120)).bind fun h122 =>
(nA h122 .int (10 : Int32)).bind fun h123 =>
(pR h123 12 v0 39 (hN h122)).bind fun h124 =>
(nA h124 .int (20005 : Int32)).bind fun h125 =>
(pR h125 12 v0 41 (hN h124)).bind fun h126 =>
(nA h126 .int (4001 : Int32)).bind fun h127 =>
(pR h127 12 v0 42 (hN h126)).bind fun h128 =>
(nA h128 .int (4001 : Int32)).bind fun h129 =>
(pR h129 12 v0 43 (hN h128)).bind fun h130 =>
(nA h130 .int (4001 : Int32)).bind fun h131 =>
(pR h131 12 v0 44 (hN h130)).bind fun h132 =>
(nA h132 .int (16384 : Int32)).bind fun h133 =>
(pR h133 12 v0 45 (hN h132)).bind fun h134 =>
(nA h134 .int (6 : Int32)).bind fun h135 =>
(pR h135 12 v0 48 (hN h134)).bind fun h136 =>
(nA h136 .int (6 : Int32)).bind fun h137 =>
(pR h137 12 v0 49 (hN h136)).bind fun h138 =>
(nA h138 .int (8 : Int32)).bind fun h139 =>
(pR h139 12 v0 50 (hN h138)).bind fun h140 =>
(nA h140 .int (6 : Int32)).bind fun h141 =>
(pR h141 12 v0 51 (hN h140)).bind fun h142 =>
(nA h142 .int (125905 : Int32)).bind fun h143 =>
(pR h143 12 v0 53 (hN h142)).bind fun h144 =>
(nA h144 .int (19370 : Int32)).bind fun h145 =>
(pR h145 12 v0 54 (hN h144)).bind fun h146 =>
(nA h146 .boolean (2 : Int32)).bind fun h147 =>
(pR h147 12 v0 55 (hN h146)).bind fun h148 =>
(gO h148 12 v0).bind fun _ =>
(fX12_clearBank h148 v0 (0 : Int32)).bind fun x150 =>
(gO x150 12 v0).bind fun _ =>
(fX12_startAnew x150 v0).bind fun x152 =>
some x152
set_option maxRecDepth 20000 in
set_option maxHeartbeats 4000000 in
theorem sX12_init {Γ : Gm} {d : Nat} (hd : 3 ≤ d) {h : Hp} {v0 : Nat} {r : Hp} (H : fX12_init h v0 = some r) : V Γ d mX12_init 0 [(0, .ref v0)] [] h (none, r) := by
  unfold fX12_init at H
  refine v_aload_n (q := 1) 0 dX12_init_0 rfl rfl rfl ?_
  refine v_obj (q := 4) dX12_init_1 w1342 w0166 w0167 (Nat.le_of_ble_eq_true rfl) (Nat.lt_of_lt_of_le (by decide) hd) rfl ?_
  refine v_aload_n (q := 5) 0 dX12_init_4 rfl rfl rfl ?_
  refine v_sipush (v := 9685) (q := 8) dX12_init_5 (by decide) rfl ?_
  replace H := bs H; obtain ⟨h1, h1e, H⟩ := H
  refine u_nA (q := 10) (ty := .int) rfl (by decide) w0217 h1e dX12_init_8 rfl ?_
  replace H := bs H; obtain ⟨h2, h2e, H⟩ := H
  refine u_pR (q := 13) (r := (RX12, TX12, 58)) h2e dX12_init_10 w1356 rfl (by decide) (Or.inr ⟨rfl, rfl, rfl⟩) rfl rfl ?_
  refine v_aload_n (q := 14) 0 dX12_init_13 rfl rfl rfl ?_
  refine v_iconst (v := 2) (q := 15) dX12_init_14 (by decide) rfl ?_
  replace H := bs H; obtain ⟨h3, h3e, H⟩ := H
  refine u_nA (q := 17) (ty := .int) rfl (by decide) w0217 h3e dX12_init_15 rfl ?_
  replace H := bs H; obtain ⟨h4, h4e, H⟩ := H
  refine u_pR (q := 20) (r := (RX12, TX12, 58)) h4e dX12_init_17 w1357 rfl (by decide) (Or.inr ⟨rfl, rfl, rfl⟩) rfl rfl ?_
  refine v_aload_n (q := 21) 0 dX12_init_20 rfl rfl rfl ?_
  refine v_iconst (v := 2) (q := 22) dX12_init_21 (by decide) rfl ?_
  replace H := bs H; obtain ⟨h5, h5e, H⟩ := H
  refine u_nA (q := 24) (ty := .int) rfl (by decide) w0217 h5e dX12_init_22 rfl ?_
  replace H := bs H; obtain ⟨h6, h6e, H⟩ := H
  refine u_pR (q := 27) (r := (RX12, TX12, 58)) h6e dX12_init_24 w1358 rfl (by decide) (Or.inr ⟨rfl, rfl, rfl⟩) rfl rfl ?_
  refine v_aload_n (q := 28) 0 dX12_init_27 rfl rfl rfl ?_
  refine v_iconst (v := 2) (q := 29) dX12_init_28 (by decide) rfl ?_
  replace H := bs H; obtain ⟨h7, h7e, H⟩ := H
  refine u_nA (q := 31) (ty := .int) rfl (by decide) w0217 h7e dX12_init_29 rfl ?_
  replace H := bs H; obtain ⟨h8, h8e, H⟩ := H
  refine u_pR (q := 34) (r := (RX12, TX12, 58)) h8e dX12_init_31 w1359 rfl (by decide) (Or.inr ⟨rfl, rfl, rfl⟩) rfl rfl ?_
  refine v_aload_n (q := 35) 0 dX12_init_34 rfl rfl rfl ?_
  refine v_bipush (v := 20) (q := 37) dX12_init_35 (by decide) rfl ?_
  replace H := bs H; obtain ⟨h9, h9e, H⟩ := H
  refine u_nA (q := 39) (ty := .int) rfl (by decide) w0217 h9e dX12_init_37 rfl ?_
  replace H := bs H; obtain ⟨h10, h10e, H⟩ := H
  refine u_pR (q := 42) (r := (RX12, TX12, 58)) h10e dX12_init_39 w1360 rfl (by decide) (Or.inr ⟨rfl, rfl, rfl⟩) rfl rfl ?_
  refine v_aload_n (q := 43) 0 dX12_init_42 rfl rfl rfl ?_
  refine v_bipush (v := 12) (q := 45) dX12_init_43 (by decide) rfl ?_
  replace H := bs H; obtain ⟨h11, h11e, H⟩ := H
  refine u_nA (q := 47) (ty := .int) rfl (by decide) w0217 h11e dX12_init_45 rfl ?_
  replace H := bs H; obtain ⟨h12, h12e, H⟩ := H
  refine u_pR (q := 50) (r := (RX12, TX12, 58)) h12e dX12_init_47 w1361 rfl (by decide) (Or.inr ⟨rfl, rfl, rfl⟩) rfl rfl ?_
  refine v_aload_n (q := 51) 0 dX12_init_50 rfl rfl rfl ?_
  refine v_bipush (v := 12) (q := 53) dX12_init_51 (by decide) rfl ?_
  replace H := bs H; obtain ⟨h13, h13e, H⟩ := H
  refine u_nA (q := 55) (ty := .int) rfl (by decide) w0217 h13e dX12_init_53 rfl ?_
  replace H := bs H; obtain ⟨h14, h14e, H⟩ := H
  refine u_pR (q := 58) (r := (RX12, TX12, 58)) h14e dX12_init_55 w1362 rfl (by decide) (Or.inr ⟨rfl, rfl, rfl⟩) rfl rfl ?_
  refine v_aload_n (q := 59) 0 dX12_init_58 rfl rfl rfl ?_
  refine v_sipush (v := 144) (q := 62) dX12_init_59 (by decide) rfl ?_
  replace H := bs H; obtain ⟨h15, h15e, H⟩ := H
  refine u_nA (q := 64) (ty := .int) rfl (by decide) w0217 h15e dX12_init_62 rfl ?_
  replace H := bs H; obtain ⟨h16, h16e, H⟩ := H
  refine u_pR (q := 67) (r := (RX12, TX12, 58)) h16e dX12_init_64 w1363 rfl (by decide) (Or.inr ⟨rfl, rfl, rfl⟩) rfl rfl ?_
  refine v_aload_n (q := 68) 0 dX12_init_67 rfl rfl rfl ?_
  refine v_sipush (v := 144) (q := 71) dX12_init_68 (by decide) rfl ?_
  replace H := bs H; obtain ⟨h17, h17e, H⟩ := H
  refine u_nA (q := 73) (ty := .int) rfl (by decide) w0217 h17e dX12_init_71 rfl ?_
  replace H := bs H; obtain ⟨h18, h18e, H⟩ := H
  refine u_pR (q := 76) (r := (RX12, TX12, 58)) h18e dX12_init_73 w1364 rfl (by decide) (Or.inr ⟨rfl, rfl, rfl⟩) rfl rfl ?_
  refine v_aload_n (q := 77) 0 dX12_init_76 rfl rfl rfl ?_
  refine v_sipush (v := 900) (q := 80) dX12_init_77 (by decide) rfl ?_
  replace H := bs H; obtain ⟨h19, h19e, H⟩ := H
  refine u_nA (q := 82) (ty := .byte) rfl (by decide) w0216 h19e dX12_init_80 rfl ?_
  replace H := bs H; obtain ⟨h20, h20e, H⟩ := H
  refine u_pR (q := 85) (r := (RX12, TX12, 58)) h20e dX12_init_82 w1366 rfl (by decide) (Or.inr ⟨rfl, rfl, rfl⟩) rfl rfl ?_
  refine v_aload_n (q := 86) 0 dX12_init_85 rfl rfl rfl ?_
  refine v_iconst (v := -1) (q := 87) dX12_init_86 (by decide) rfl ?_
  replace H := bs H; obtain ⟨h21, h21e, H⟩ := H
  refine u_pI (q := 90) (r := (RX12, TX12, 58)) h21e dX12_init_87 w1376 rfl (by decide) (Or.inl rfl) rfl rfl ?_
  refine v_aload_n (q := 91) 0 dX12_init_90 rfl rfl rfl ?_
  refine v_bipush (v := 71) (q := 93) dX12_init_91 (by decide) rfl ?_
  replace H := bs H; obtain ⟨h22, h22e, H⟩ := H
  refine u_nA (q := 95) (ty := .byte) rfl (by decide) w0216 h22e dX12_init_93 rfl ?_
  refine v_dup (q := 96) dX12_init_95 rfl rfl ?_
  refine v_iconst (v := 0) (q := 97) dX12_init_96 (by decide) rfl ?_
  refine v_bipush (v := 116) (q := 99) dX12_init_97 (by decide) rfl ?_
  replace H := bs H; obtain ⟨h23, h23e, H⟩ := H
  refine u_tB (q := 100) h23e dX12_init_99 rfl ?_
  refine v_dup (q := 101) dX12_init_100 rfl rfl ?_
  refine v_iconst (v := 1) (q := 102) dX12_init_101 (by decide) rfl ?_
  refine v_bipush (v := 97) (q := 104) dX12_init_102 (by decide) rfl ?_
  replace H := bs H; obtain ⟨h24, h24e, H⟩ := H
  refine u_tB (q := 105) h24e dX12_init_104 rfl ?_
  refine v_dup (q := 106) dX12_init_105 rfl rfl ?_
  refine v_iconst (v := 2) (q := 107) dX12_init_106 (by decide) rfl ?_
  refine v_bipush (v := 107) (q := 109) dX12_init_107 (by decide) rfl ?_
  replace H := bs H; obtain ⟨h25, h25e, H⟩ := H
  refine u_tB (q := 110) h25e dX12_init_109 rfl ?_
  refine v_dup (q := 111) dX12_init_110 rfl rfl ?_
  refine v_iconst (v := 3) (q := 112) dX12_init_111 (by decide) rfl ?_
  refine v_bipush (v := 101) (q := 114) dX12_init_112 (by decide) rfl ?_
  replace H := bs H; obtain ⟨h26, h26e, H⟩ := H
  refine u_tB (q := 115) h26e dX12_init_114 rfl ?_
  refine v_dup (q := 116) dX12_init_115 rfl rfl ?_
  refine v_iconst (v := 4) (q := 117) dX12_init_116 (by decide) rfl ?_
  refine v_bipush (v := 32) (q := 119) dX12_init_117 (by decide) rfl ?_
  replace H := bs H; obtain ⟨h27, h27e, H⟩ := H
  refine u_tB (q := 120) h27e dX12_init_119 rfl ?_
  refine v_dup (q := 121) dX12_init_120 rfl rfl ?_
  refine v_iconst (v := 5) (q := 122) dX12_init_121 (by decide) rfl ?_
  refine v_bipush (v := 105) (q := 124) dX12_init_122 (by decide) rfl ?_
  replace H := bs H; obtain ⟨h28, h28e, H⟩ := H
  refine u_tB (q := 125) h28e dX12_init_124 rfl ?_
  refine v_dup (q := 126) dX12_init_125 rfl rfl ?_
  refine v_bipush (v := 6) (q := 128) dX12_init_126 (by decide) rfl ?_
  refine v_bipush (v := 110) (q := 130) dX12_init_128 (by decide) rfl ?_
  replace H := bs H; obtain ⟨h29, h29e, H⟩ := H
  refine u_tB (q := 131) h29e dX12_init_130 rfl ?_
  refine v_dup (q := 132) dX12_init_131 rfl rfl ?_
  refine v_bipush (v := 7) (q := 134) dX12_init_132 (by decide) rfl ?_
  refine v_bipush (v := 110) (q := 136) dX12_init_134 (by decide) rfl ?_
  replace H := bs H; obtain ⟨h30, h30e, H⟩ := H
  refine u_tB (q := 137) h30e dX12_init_136 rfl ?_
  refine v_dup (q := 138) dX12_init_137 rfl rfl ?_
  refine v_bipush (v := 8) (q := 140) dX12_init_138 (by decide) rfl ?_
  refine v_bipush (v := 101) (q := 142) dX12_init_140 (by decide) rfl ?_
  replace H := bs H; obtain ⟨h31, h31e, H⟩ := H
  refine u_tB (q := 143) h31e dX12_init_142 rfl ?_
  refine v_dup (q := 144) dX12_init_143 rfl rfl ?_
  refine v_bipush (v := 9) (q := 146) dX12_init_144 (by decide) rfl ?_
  refine v_bipush (v := 114) (q := 148) dX12_init_146 (by decide) rfl ?_
  replace H := bs H; obtain ⟨h32, h32e, H⟩ := H
  refine u_tB (q := 149) h32e dX12_init_148 rfl ?_
  refine v_dup (q := 150) dX12_init_149 rfl rfl ?_
  refine v_bipush (v := 10) (q := 152) dX12_init_150 (by decide) rfl ?_
  refine v_bipush (v := 32) (q := 154) dX12_init_152 (by decide) rfl ?_
  replace H := bs H; obtain ⟨h33, h33e, H⟩ := H
  refine u_tB (q := 155) h33e dX12_init_154 rfl ?_
  refine v_dup (q := 156) dX12_init_155 rfl rfl ?_
  refine v_bipush (v := 11) (q := 158) dX12_init_156 (by decide) rfl ?_
  refine v_bipush (v := 115) (q := 160) dX12_init_158 (by decide) rfl ?_
  replace H := bs H; obtain ⟨h34, h34e, H⟩ := H
  refine u_tB (q := 161) h34e dX12_init_160 rfl ?_
  refine v_dup (q := 162) dX12_init_161 rfl rfl ?_
  refine v_bipush (v := 12) (q := 164) dX12_init_162 (by decide) rfl ?_
  refine v_bipush (v := 104) (q := 166) dX12_init_164 (by decide) rfl ?_
  replace H := bs H; obtain ⟨h35, h35e, H⟩ := H
  refine u_tB (q := 167) h35e dX12_init_166 rfl ?_
  refine v_dup (q := 168) dX12_init_167 rfl rfl ?_
  refine v_bipush (v := 13) (q := 170) dX12_init_168 (by decide) rfl ?_
  refine v_bipush (v := 97) (q := 172) dX12_init_170 (by decide) rfl ?_
  replace H := bs H; obtain ⟨h36, h36e, H⟩ := H
  refine u_tB (q := 173) h36e dX12_init_172 rfl ?_
  refine v_dup (q := 174) dX12_init_173 rfl rfl ?_
  refine v_bipush (v := 14) (q := 176) dX12_init_174 (by decide) rfl ?_
  refine v_bipush (v := 114) (q := 178) dX12_init_176 (by decide) rfl ?_
  replace H := bs H; obtain ⟨h37, h37e, H⟩ := H
  refine u_tB (q := 179) h37e dX12_init_178 rfl ?_
  refine v_dup (q := 180) dX12_init_179 rfl rfl ?_
  refine v_bipush (v := 15) (q := 182) dX12_init_180 (by decide) rfl ?_
  refine v_bipush (v := 101) (q := 184) dX12_init_182 (by decide) rfl ?_
  replace H := bs H; obtain ⟨h38, h38e, H⟩ := H
  refine u_tB (q := 185) h38e dX12_init_184 rfl ?_
  refine v_dup (q := 186) dX12_init_185 rfl rfl ?_
  refine v_bipush (v := 16) (q := 188) dX12_init_186 (by decide) rfl ?_
  refine v_bipush (v := 32) (q := 190) dX12_init_188 (by decide) rfl ?_
  replace H := bs H; obtain ⟨h39, h39e, H⟩ := H
  refine u_tB (q := 191) h39e dX12_init_190 rfl ?_
  refine v_dup (q := 192) dX12_init_191 rfl rfl ?_
  refine v_bipush (v := 17) (q := 194) dX12_init_192 (by decide) rfl ?_
  refine v_bipush (v := 116) (q := 196) dX12_init_194 (by decide) rfl ?_
  replace H := bs H; obtain ⟨h40, h40e, H⟩ := H
  refine u_tB (q := 197) h40e dX12_init_196 rfl ?_
  refine v_dup (q := 198) dX12_init_197 rfl rfl ?_
  refine v_bipush (v := 18) (q := 200) dX12_init_198 (by decide) rfl ?_
  refine v_bipush (v := 114) (q := 202) dX12_init_200 (by decide) rfl ?_
  replace H := bs H; obtain ⟨h41, h41e, H⟩ := H
  refine u_tB (q := 203) h41e dX12_init_202 rfl ?_
  refine v_dup (q := 204) dX12_init_203 rfl rfl ?_
  refine v_bipush (v := 19) (q := 206) dX12_init_204 (by decide) rfl ?_
  refine v_bipush (v := 121) (q := 208) dX12_init_206 (by decide) rfl ?_
  replace H := bs H; obtain ⟨h42, h42e, H⟩ := H
  refine u_tB (q := 209) h42e dX12_init_208 rfl ?_
  refine v_dup (q := 210) dX12_init_209 rfl rfl ?_
  refine v_bipush (v := 20) (q := 212) dX12_init_210 (by decide) rfl ?_
  refine v_bipush (v := 32) (q := 214) dX12_init_212 (by decide) rfl ?_
  replace H := bs H; obtain ⟨h43, h43e, H⟩ := H
  refine u_tB (q := 215) h43e dX12_init_214 rfl ?_
  refine v_dup (q := 216) dX12_init_215 rfl rfl ?_
  refine v_bipush (v := 21) (q := 218) dX12_init_216 (by decide) rfl ?_
  refine v_bipush (v := 100) (q := 220) dX12_init_218 (by decide) rfl ?_
  replace H := bs H; obtain ⟨h44, h44e, H⟩ := H
  refine u_tB (q := 221) h44e dX12_init_220 rfl ?_
  refine v_dup (q := 222) dX12_init_221 rfl rfl ?_
  refine v_bipush (v := 22) (q := 224) dX12_init_222 (by decide) rfl ?_
  refine v_bipush (v := 114) (q := 226) dX12_init_224 (by decide) rfl ?_
  replace H := bs H; obtain ⟨h45, h45e, H⟩ := H
  refine u_tB (q := 227) h45e dX12_init_226 rfl ?_
  refine v_dup (q := 228) dX12_init_227 rfl rfl ?_
  refine v_bipush (v := 23) (q := 230) dX12_init_228 (by decide) rfl ?_
  refine v_bipush (v := 111) (q := 232) dX12_init_230 (by decide) rfl ?_
  replace H := bs H; obtain ⟨h46, h46e, H⟩ := H
  refine u_tB (q := 233) h46e dX12_init_232 rfl ?_
  refine v_dup (q := 234) dX12_init_233 rfl rfl ?_
  refine v_bipush (v := 24) (q := 236) dX12_init_234 (by decide) rfl ?_
  refine v_bipush (v := 112) (q := 238) dX12_init_236 (by decide) rfl ?_
  replace H := bs H; obtain ⟨h47, h47e, H⟩ := H
  refine u_tB (q := 239) h47e dX12_init_238 rfl ?_
  refine v_dup (q := 240) dX12_init_239 rfl rfl ?_
  refine v_bipush (v := 25) (q := 242) dX12_init_240 (by decide) rfl ?_
  refine v_bipush (v := 32) (q := 244) dX12_init_242 (by decide) rfl ?_
  replace H := bs H; obtain ⟨h48, h48e, H⟩ := H
  refine u_tB (q := 245) h48e dX12_init_244 rfl ?_
  refine v_dup (q := 246) dX12_init_245 rfl rfl ?_
  refine v_bipush (v := 26) (q := 248) dX12_init_246 (by decide) rfl ?_
  refine v_bipush (v := 111) (q := 250) dX12_init_248 (by decide) rfl ?_
  replace H := bs H; obtain ⟨h49, h49e, H⟩ := H
  refine u_tB (q := 251) h49e dX12_init_250 rfl ?_
  refine v_dup (q := 252) dX12_init_251 rfl rfl ?_
  refine v_bipush (v := 27) (q := 254) dX12_init_252 (by decide) rfl ?_
  refine v_bipush (v := 102) (q := 256) dX12_init_254 (by decide) rfl ?_
  replace H := bs H; obtain ⟨h50, h50e, H⟩ := H
  refine u_tB (q := 257) h50e dX12_init_256 rfl ?_
  refine v_dup (q := 258) dX12_init_257 rfl rfl ?_
  refine v_bipush (v := 28) (q := 260) dX12_init_258 (by decide) rfl ?_
  refine v_bipush (v := 102) (q := 262) dX12_init_260 (by decide) rfl ?_
  replace H := bs H; obtain ⟨h51, h51e, H⟩ := H
  refine u_tB (q := 263) h51e dX12_init_262 rfl ?_
  refine v_dup (q := 264) dX12_init_263 rfl rfl ?_
  refine v_bipush (v := 29) (q := 266) dX12_init_264 (by decide) rfl ?_
  refine v_bipush (v := 32) (q := 268) dX12_init_266 (by decide) rfl ?_
  replace H := bs H; obtain ⟨h52, h52e, H⟩ := H
  refine u_tB (q := 269) h52e dX12_init_268 rfl ?_
  refine v_dup (q := 270) dX12_init_269 rfl rfl ?_
  refine v_bipush (v := 30) (q := 272) dX12_init_270 (by decide) rfl ?_
  refine v_bipush (v := 111) (q := 274) dX12_init_272 (by decide) rfl ?_
  replace H := bs H; obtain ⟨h53, h53e, H⟩ := H
  refine u_tB (q := 275) h53e dX12_init_274 rfl ?_
  refine v_dup (q := 276) dX12_init_275 rfl rfl ?_
  refine v_bipush (v := 31) (q := 278) dX12_init_276 (by decide) rfl ?_
  refine v_bipush (v := 110) (q := 280) dX12_init_278 (by decide) rfl ?_
  replace H := bs H; obtain ⟨h54, h54e, H⟩ := H
  refine u_tB (q := 281) h54e dX12_init_280 rfl ?_
  refine v_dup (q := 282) dX12_init_281 rfl rfl ?_
  refine v_bipush (v := 32) (q := 284) dX12_init_282 (by decide) rfl ?_
  refine v_bipush (v := 32) (q := 286) dX12_init_284 (by decide) rfl ?_
  replace H := bs H; obtain ⟨h55, h55e, H⟩ := H
  refine u_tB (q := 287) h55e dX12_init_286 rfl ?_
  refine v_dup (q := 288) dX12_init_287 rfl rfl ?_
  refine v_bipush (v := 33) (q := 290) dX12_init_288 (by decide) rfl ?_
  refine v_bipush (v := 109) (q := 292) dX12_init_290 (by decide) rfl ?_
  replace H := bs H; obtain ⟨h56, h56e, H⟩ := H
  refine u_tB (q := 293) h56e dX12_init_292 rfl ?_
  refine v_dup (q := 294) dX12_init_293 rfl rfl ?_
  refine v_bipush (v := 34) (q := 296) dX12_init_294 (by decide) rfl ?_
  refine v_bipush (v := 97) (q := 298) dX12_init_296 (by decide) rfl ?_
  replace H := bs H; obtain ⟨h57, h57e, H⟩ := H
  refine u_tB (q := 299) h57e dX12_init_298 rfl ?_
  refine v_dup (q := 300) dX12_init_299 rfl rfl ?_
  refine v_bipush (v := 35) (q := 302) dX12_init_300 (by decide) rfl ?_
  refine v_bipush (v := 115) (q := 304) dX12_init_302 (by decide) rfl ?_
  replace H := bs H; obtain ⟨h58, h58e, H⟩ := H
  refine u_tB (q := 305) h58e dX12_init_304 rfl ?_
  refine v_dup (q := 306) dX12_init_305 rfl rfl ?_
  refine v_bipush (v := 36) (q := 308) dX12_init_306 (by decide) rfl ?_
  refine v_bipush (v := 107) (q := 310) dX12_init_308 (by decide) rfl ?_
  replace H := bs H; obtain ⟨h59, h59e, H⟩ := H
  refine u_tB (q := 311) h59e dX12_init_310 rfl ?_
  refine v_dup (q := 312) dX12_init_311 rfl rfl ?_
  refine v_bipush (v := 37) (q := 314) dX12_init_312 (by decide) rfl ?_
  refine v_bipush (v := 32) (q := 316) dX12_init_314 (by decide) rfl ?_
  replace H := bs H; obtain ⟨h60, h60e, H⟩ := H
  refine u_tB (q := 317) h60e dX12_init_316 rfl ?_
  refine v_dup (q := 318) dX12_init_317 rfl rfl ?_
  refine v_bipush (v := 38) (q := 320) dX12_init_318 (by decide) rfl ?_
  refine v_bipush (v := 111) (q := 322) dX12_init_320 (by decide) rfl ?_
  replace H := bs H; obtain ⟨h61, h61e, H⟩ := H
  refine u_tB (q := 323) h61e dX12_init_322 rfl ?_
  refine v_dup (q := 324) dX12_init_323 rfl rfl ?_
  refine v_bipush (v := 39) (q := 326) dX12_init_324 (by decide) rfl ?_
  refine v_bipush (v := 112) (q := 328) dX12_init_326 (by decide) rfl ?_
  replace H := bs H; obtain ⟨h62, h62e, H⟩ := H
  refine u_tB (q := 329) h62e dX12_init_328 rfl ?_
  refine v_dup (q := 330) dX12_init_329 rfl rfl ?_
  refine v_bipush (v := 40) (q := 332) dX12_init_330 (by decide) rfl ?_
  refine v_bipush (v := 101) (q := 334) dX12_init_332 (by decide) rfl ?_
  replace H := bs H; obtain ⟨h63, h63e, H⟩ := H
  refine u_tB (q := 335) h63e dX12_init_334 rfl ?_
  refine v_dup (q := 336) dX12_init_335 rfl rfl ?_
  refine v_bipush (v := 41) (q := 338) dX12_init_336 (by decide) rfl ?_
  refine v_bipush (v := 110) (q := 340) dX12_init_338 (by decide) rfl ?_
  replace H := bs H; obtain ⟨h64, h64e, H⟩ := H
  refine u_tB (q := 341) h64e dX12_init_340 rfl ?_
  refine v_dup (q := 342) dX12_init_341 rfl rfl ?_
  refine v_bipush (v := 42) (q := 344) dX12_init_342 (by decide) rfl ?_
  refine v_bipush (v := 32) (q := 346) dX12_init_344 (by decide) rfl ?_
  replace H := bs H; obtain ⟨h65, h65e, H⟩ := H
  refine u_tB (q := 347) h65e dX12_init_346 rfl ?_
  refine v_dup (q := 348) dX12_init_347 rfl rfl ?_
  refine v_bipush (v := 43) (q := 350) dX12_init_348 (by decide) rfl ?_
  refine v_bipush (v := 107) (q := 352) dX12_init_350 (by decide) rfl ?_
  replace H := bs H; obtain ⟨h66, h66e, H⟩ := H
  refine u_tB (q := 353) h66e dX12_init_352 rfl ?_
  refine v_dup (q := 354) dX12_init_353 rfl rfl ?_
  refine v_bipush (v := 44) (q := 356) dX12_init_354 (by decide) rfl ?_
  refine v_bipush (v := 105) (q := 358) dX12_init_356 (by decide) rfl ?_
  replace H := bs H; obtain ⟨h67, h67e, H⟩ := H
  refine u_tB (q := 359) h67e dX12_init_358 rfl ?_
  refine v_dup (q := 360) dX12_init_359 rfl rfl ?_
  refine v_bipush (v := 45) (q := 362) dX12_init_360 (by decide) rfl ?_
  refine v_bipush (v := 110) (q := 364) dX12_init_362 (by decide) rfl ?_
  replace H := bs H; obtain ⟨h68, h68e, H⟩ := H
  refine u_tB (q := 365) h68e dX12_init_364 rfl ?_
  refine v_dup (q := 366) dX12_init_365 rfl rfl ?_
  refine v_bipush (v := 46) (q := 368) dX12_init_366 (by decide) rfl ?_
  refine v_bipush (v := 100) (q := 370) dX12_init_368 (by decide) rfl ?_
  replace H := bs H; obtain ⟨h69, h69e, H⟩ := H
  refine u_tB (q := 371) h69e dX12_init_370 rfl ?_
  refine v_dup (q := 372) dX12_init_371 rfl rfl ?_
  refine v_bipush (v := 47) (q := 374) dX12_init_372 (by decide) rfl ?_
  refine v_bipush (v := 32) (q := 376) dX12_init_374 (by decide) rfl ?_
  replace H := bs H; obtain ⟨h70, h70e, H⟩ := H
  refine u_tB (q := 377) h70e dX12_init_376 rfl ?_
  refine v_dup (q := 378) dX12_init_377 rfl rfl ?_
  refine v_bipush (v := 48) (q := 380) dX12_init_378 (by decide) rfl ?_
  refine v_bipush (v := 108) (q := 382) dX12_init_380 (by decide) rfl ?_
  replace H := bs H; obtain ⟨h71, h71e, H⟩ := H
  refine u_tB (q := 383) h71e dX12_init_382 rfl ?_
  refine v_dup (q := 384) dX12_init_383 rfl rfl ?_
  refine v_bipush (v := 49) (q := 386) dX12_init_384 (by decide) rfl ?_
  refine v_bipush (v := 111) (q := 388) dX12_init_386 (by decide) rfl ?_
  replace H := bs H; obtain ⟨h72, h72e, H⟩ := H
  refine u_tB (q := 389) h72e dX12_init_388 rfl ?_
  refine v_dup (q := 390) dX12_init_389 rfl rfl ?_
  refine v_bipush (v := 50) (q := 392) dX12_init_390 (by decide) rfl ?_
  refine v_bipush (v := 99) (q := 394) dX12_init_392 (by decide) rfl ?_
  replace H := bs H; obtain ⟨h73, h73e, H⟩ := H
  refine u_tB (q := 395) h73e dX12_init_394 rfl ?_
  refine v_dup (q := 396) dX12_init_395 rfl rfl ?_
  refine v_bipush (v := 51) (q := 398) dX12_init_396 (by decide) rfl ?_
  refine v_bipush (v := 107) (q := 400) dX12_init_398 (by decide) rfl ?_
  replace H := bs H; obtain ⟨h74, h74e, H⟩ := H
  refine u_tB (q := 401) h74e dX12_init_400 rfl ?_
  refine v_dup (q := 402) dX12_init_401 rfl rfl ?_
  refine v_bipush (v := 52) (q := 404) dX12_init_402 (by decide) rfl ?_
  refine v_bipush (v := 32) (q := 406) dX12_init_404 (by decide) rfl ?_
  replace H := bs H; obtain ⟨h75, h75e, H⟩ := H
  refine u_tB (q := 407) h75e dX12_init_406 rfl ?_
  refine v_dup (q := 408) dX12_init_407 rfl rfl ?_
  refine v_bipush (v := 53) (q := 410) dX12_init_408 (by decide) rfl ?_
  refine v_bipush (v := 111) (q := 412) dX12_init_410 (by decide) rfl ?_
  replace H := bs H; obtain ⟨h76, h76e, H⟩ := H
  refine u_tB (q := 413) h76e dX12_init_412 rfl ?_
  refine v_dup (q := 414) dX12_init_413 rfl rfl ?_
  refine v_bipush (v := 54) (q := 416) dX12_init_414 (by decide) rfl ?_
  refine v_bipush (v := 102) (q := 418) dX12_init_416 (by decide) rfl ?_
  replace H := bs H; obtain ⟨h77, h77e, H⟩ := H
  refine u_tB (q := 419) h77e dX12_init_418 rfl ?_
  refine v_dup (q := 420) dX12_init_419 rfl rfl ?_
  refine v_bipush (v := 55) (q := 422) dX12_init_420 (by decide) rfl ?_
  refine v_bipush (v := 32) (q := 424) dX12_init_422 (by decide) rfl ?_
  replace H := bs H; obtain ⟨h78, h78e, H⟩ := H
  refine u_tB (q := 425) h78e dX12_init_424 rfl ?_
  refine v_dup (q := 426) dX12_init_425 rfl rfl ?_
  refine v_bipush (v := 56) (q := 428) dX12_init_426 (by decide) rfl ?_
  refine v_bipush (v := 116) (q := 430) dX12_init_428 (by decide) rfl ?_
  replace H := bs H; obtain ⟨h79, h79e, H⟩ := H
  refine u_tB (q := 431) h79e dX12_init_430 rfl ?_
  refine v_dup (q := 432) dX12_init_431 rfl rfl ?_
  refine v_bipush (v := 57) (q := 434) dX12_init_432 (by decide) rfl ?_
  refine v_bipush (v := 97) (q := 436) dX12_init_434 (by decide) rfl ?_
  replace H := bs H; obtain ⟨h80, h80e, H⟩ := H
  refine u_tB (q := 437) h80e dX12_init_436 rfl ?_
  refine v_dup (q := 438) dX12_init_437 rfl rfl ?_
  refine v_bipush (v := 58) (q := 440) dX12_init_438 (by decide) rfl ?_
  refine v_bipush (v := 115) (q := 442) dX12_init_440 (by decide) rfl ?_
  replace H := bs H; obtain ⟨h81, h81e, H⟩ := H
  refine u_tB (q := 443) h81e dX12_init_442 rfl ?_
  refine v_dup (q := 444) dX12_init_443 rfl rfl ?_
  refine v_bipush (v := 59) (q := 446) dX12_init_444 (by decide) rfl ?_
  refine v_bipush (v := 107) (q := 448) dX12_init_446 (by decide) rfl ?_
  replace H := bs H; obtain ⟨h82, h82e, H⟩ := H
  refine u_tB (q := 449) h82e dX12_init_448 rfl ?_
  refine v_dup (q := 450) dX12_init_449 rfl rfl ?_
  refine v_bipush (v := 60) (q := 452) dX12_init_450 (by decide) rfl ?_
  refine v_bipush (v := 32) (q := 454) dX12_init_452 (by decide) rfl ?_
  replace H := bs H; obtain ⟨h83, h83e, H⟩ := H
  refine u_tB (q := 455) h83e dX12_init_454 rfl ?_
  refine v_dup (q := 456) dX12_init_455 rfl rfl ?_
  refine v_bipush (v := 61) (q := 458) dX12_init_456 (by decide) rfl ?_
  refine v_bipush (v := 115) (q := 460) dX12_init_458 (by decide) rfl ?_
  replace H := bs H; obtain ⟨h84, h84e, H⟩ := H
  refine u_tB (q := 461) h84e dX12_init_460 rfl ?_
  refine v_dup (q := 462) dX12_init_461 rfl rfl ?_
  refine v_bipush (v := 62) (q := 464) dX12_init_462 (by decide) rfl ?_
  refine v_bipush (v := 111) (q := 466) dX12_init_464 (by decide) rfl ?_
  replace H := bs H; obtain ⟨h85, h85e, H⟩ := H
  refine u_tB (q := 467) h85e dX12_init_466 rfl ?_
  refine v_dup (q := 468) dX12_init_467 rfl rfl ?_
  refine v_bipush (v := 63) (q := 470) dX12_init_468 (by decide) rfl ?_
  refine v_bipush (v := 102) (q := 472) dX12_init_470 (by decide) rfl ?_
  replace H := bs H; obtain ⟨h86, h86e, H⟩ := H
  refine u_tB (q := 473) h86e dX12_init_472 rfl ?_
  refine v_dup (q := 474) dX12_init_473 rfl rfl ?_
  refine v_bipush (v := 64) (q := 476) dX12_init_474 (by decide) rfl ?_
  refine v_bipush (v := 116) (q := 478) dX12_init_476 (by decide) rfl ?_
  replace H := bs H; obtain ⟨h87, h87e, H⟩ := H
  refine u_tB (q := 479) h87e dX12_init_478 rfl ?_
  refine v_dup (q := 480) dX12_init_479 rfl rfl ?_
  refine v_bipush (v := 65) (q := 482) dX12_init_480 (by decide) rfl ?_
  refine v_bipush (v := 32) (q := 484) dX12_init_482 (by decide) rfl ?_
  replace H := bs H; obtain ⟨h88, h88e, H⟩ := H
  refine u_tB (q := 485) h88e dX12_init_484 rfl ?_
  refine v_dup (q := 486) dX12_init_485 rfl rfl ?_
  refine v_bipush (v := 66) (q := 488) dX12_init_486 (by decide) rfl ?_
  refine v_bipush (v := 104) (q := 490) dX12_init_488 (by decide) rfl ?_
  replace H := bs H; obtain ⟨h89, h89e, H⟩ := H
  refine u_tB (q := 491) h89e dX12_init_490 rfl ?_
  refine v_dup (q := 492) dX12_init_491 rfl rfl ?_
  refine v_bipush (v := 67) (q := 494) dX12_init_492 (by decide) rfl ?_
  refine v_bipush (v := 97) (q := 496) dX12_init_494 (by decide) rfl ?_
  replace H := bs H; obtain ⟨h90, h90e, H⟩ := H
  refine u_tB (q := 497) h90e dX12_init_496 rfl ?_
  refine v_dup (q := 498) dX12_init_497 rfl rfl ?_
  refine v_bipush (v := 68) (q := 500) dX12_init_498 (by decide) rfl ?_
  refine v_bipush (v := 114) (q := 502) dX12_init_500 (by decide) rfl ?_
  replace H := bs H; obtain ⟨h91, h91e, H⟩ := H
  refine u_tB (q := 503) h91e dX12_init_502 rfl ?_
  refine v_dup (q := 504) dX12_init_503 rfl rfl ?_
  refine v_bipush (v := 69) (q := 506) dX12_init_504 (by decide) rfl ?_
  refine v_bipush (v := 100) (q := 508) dX12_init_506 (by decide) rfl ?_
  replace H := bs H; obtain ⟨h92, h92e, H⟩ := H
  refine u_tB (q := 509) h92e dX12_init_508 rfl ?_
  refine v_dup (q := 510) dX12_init_509 rfl rfl ?_
  refine v_bipush (v := 70) (q := 512) dX12_init_510 (by decide) rfl ?_
  refine v_bipush (v := 32) (q := 514) dX12_init_512 (by decide) rfl ?_
  replace H := bs H; obtain ⟨h93, h93e, H⟩ := H
  refine u_tB (q := 515) h93e dX12_init_514 rfl ?_
  replace H := bs H; obtain ⟨h94, h94e, H⟩ := H
  refine u_pR (q := 518) (r := (RX12, TX12, 58)) h94e dX12_init_515 w1377 rfl (by decide) (Or.inr ⟨rfl, rfl, rfl⟩) rfl rfl ?_
  refine v_aload_n (q := 519) 0 dX12_init_518 rfl rfl rfl ?_
  refine v_bipush (v := 24) (q := 521) dX12_init_519 (by decide) rfl ?_
  replace H := bs H; obtain ⟨h95, h95e, H⟩ := H
  refine u_nA (q := 523) (ty := .int) rfl (by decide) w0217 h95e dX12_init_521 rfl ?_
  replace H := bs H; obtain ⟨h96, h96e, H⟩ := H
  refine u_pR (q := 526) (r := (RX12, TX12, 58)) h96e dX12_init_523 w1378 rfl (by decide) (Or.inr ⟨rfl, rfl, rfl⟩) rfl rfl ?_
  refine v_aload_n (q := 527) 0 dX12_init_526 rfl rfl rfl ?_
  refine v_bipush (v := 24) (q := 529) dX12_init_527 (by decide) rfl ?_
  replace H := bs H; obtain ⟨h97, h97e, H⟩ := H
  refine u_nA (q := 531) (ty := .int) rfl (by decide) w0217 h97e dX12_init_529 rfl ?_
  replace H := bs H; obtain ⟨h98, h98e, H⟩ := H
  refine u_pR (q := 534) (r := (RX12, TX12, 58)) h98e dX12_init_531 w1379 rfl (by decide) (Or.inr ⟨rfl, rfl, rfl⟩) rfl rfl ?_
  refine v_aload_n (q := 535) 0 dX12_init_534 rfl rfl rfl ?_
  refine v_bipush (v := 24) (q := 537) dX12_init_535 (by decide) rfl ?_
  replace H := bs H; obtain ⟨h99, h99e, H⟩ := H
  refine u_nA (q := 539) (ty := .int) rfl (by decide) w0217 h99e dX12_init_537 rfl ?_
  replace H := bs H; obtain ⟨h100, h100e, H⟩ := H
  refine u_pR (q := 542) (r := (RX12, TX12, 58)) h100e dX12_init_539 w1380 rfl (by decide) (Or.inr ⟨rfl, rfl, rfl⟩) rfl rfl ?_
  refine v_aload_n (q := 543) 0 dX12_init_542 rfl rfl rfl ?_
  refine v_bipush (v := 24) (q := 545) dX12_init_543 (by decide) rfl ?_
  replace H := bs H; obtain ⟨h101, h101e, H⟩ := H
  refine u_nA (q := 547) (ty := .int) rfl (by decide) w0217 h101e dX12_init_545 rfl ?_
  replace H := bs H; obtain ⟨h102, h102e, H⟩ := H
  refine u_pR (q := 550) (r := (RX12, TX12, 58)) h102e dX12_init_547 w1381 rfl (by decide) (Or.inr ⟨rfl, rfl, rfl⟩) rfl rfl ?_
  refine v_aload_n (q := 551) 0 dX12_init_550 rfl rfl rfl ?_
  refine v_bipush (v := 16) (q := 553) dX12_init_551 (by decide) rfl ?_
  replace H := bs H; obtain ⟨h103, h103e, H⟩ := H
  refine u_nA (q := 555) (ty := .int) rfl (by decide) w0217 h103e dX12_init_553 rfl ?_
  replace H := bs H; obtain ⟨h104, h104e, H⟩ := H
  refine u_pR (q := 558) (r := (RX12, TX12, 58)) h104e dX12_init_555 w1383 rfl (by decide) (Or.inr ⟨rfl, rfl, rfl⟩) rfl rfl ?_
  refine v_aload_n (q := 559) 0 dX12_init_558 rfl rfl rfl ?_
  refine v_bipush (v := 20) (q := 561) dX12_init_559 (by decide) rfl ?_
  replace H := bs H; obtain ⟨h105, h105e, H⟩ := H
  refine u_nA (q := 563) (ty := .int) rfl (by decide) w0217 h105e dX12_init_561 rfl ?_
  replace H := bs H; obtain ⟨h106, h106e, H⟩ := H
  refine u_pR (q := 566) (r := (RX12, TX12, 58)) h106e dX12_init_563 w1384 rfl (by decide) (Or.inr ⟨rfl, rfl, rfl⟩) rfl rfl ?_
  refine v_aload_n (q := 567) 0 dX12_init_566 rfl rfl rfl ?_
  refine v_bipush (v := 10) (q := 569) dX12_init_567 (by decide) rfl ?_
  replace H := bs H; obtain ⟨h107, h107e, H⟩ := H
  refine u_nA (q := 571) (ty := .int) rfl (by decide) w0217 h107e dX12_init_569 rfl ?_
  replace H := bs H; obtain ⟨h108, h108e, H⟩ := H
  refine u_pR (q := 574) (r := (RX12, TX12, 58)) h108e dX12_init_571 w1385 rfl (by decide) (Or.inr ⟨rfl, rfl, rfl⟩) rfl rfl ?_
  refine v_aload_n (q := 575) 0 dX12_init_574 rfl rfl rfl ?_
  refine v_bipush (v := 10) (q := 577) dX12_init_575 (by decide) rfl ?_
  replace H := bs H; obtain ⟨h109, h109e, H⟩ := H
  refine u_nA (q := 579) (ty := .int) rfl (by decide) w0217 h109e dX12_init_577 rfl ?_
  replace H := bs H; obtain ⟨h110, h110e, H⟩ := H
  refine u_pR (q := 582) (r := (RX12, TX12, 58)) h110e dX12_init_579 w1386 rfl (by decide) (Or.inr ⟨rfl, rfl, rfl⟩) rfl rfl ?_
  refine v_aload_n (q := 583) 0 dX12_init_582 rfl rfl rfl ?_
  refine v_sipush (v := 9685) (q := 586) dX12_init_583 (by decide) rfl ?_
  replace H := bs H; obtain ⟨h111, h111e, H⟩ := H
  refine u_nA (q := 588) (ty := .int) rfl (by decide) w0217 h111e dX12_init_586 rfl ?_
  replace H := bs H; obtain ⟨h112, h112e, H⟩ := H
  refine u_pR (q := 591) (r := (RX12, TX12, 58)) h112e dX12_init_588 w1388 rfl (by decide) (Or.inr ⟨rfl, rfl, rfl⟩) rfl rfl ?_
  refine v_aload_n (q := 592) 0 dX12_init_591 rfl rfl rfl ?_
  refine v_bipush (v := 16) (q := 594) dX12_init_592 (by decide) rfl ?_
  replace H := bs H; obtain ⟨h113, h113e, H⟩ := H
  refine u_nA (q := 596) (ty := .int) rfl (by decide) w0217 h113e dX12_init_594 rfl ?_
  replace H := bs H; obtain ⟨h114, h114e, H⟩ := H
  refine u_pR (q := 599) (r := (RX12, TX12, 58)) h114e dX12_init_596 w1389 rfl (by decide) (Or.inr ⟨rfl, rfl, rfl⟩) rfl rfl ?_
  refine v_aload_n (q := 600) 0 dX12_init_599 rfl rfl rfl ?_
  refine v_sipush (v := 256) (q := 603) dX12_init_600 (by decide) rfl ?_
  replace H := bs H; obtain ⟨h115, h115e, H⟩ := H
  refine u_nA (q := 605) (ty := .int) rfl (by decide) w0217 h115e dX12_init_603 rfl ?_
  replace H := bs H; obtain ⟨h116, h116e, H⟩ := H
  refine u_pR (q := 608) (r := (RX12, TX12, 58)) h116e dX12_init_605 w1390 rfl (by decide) (Or.inr ⟨rfl, rfl, rfl⟩) rfl rfl ?_
  refine v_aload_n (q := 609) 0 dX12_init_608 rfl rfl rfl ?_
  refine v_bipush (v := 6) (q := 611) dX12_init_609 (by decide) rfl ?_
  replace H := bs H; obtain ⟨h117, h117e, H⟩ := H
  refine u_nA (q := 613) (ty := .int) rfl (by decide) w0217 h117e dX12_init_611 rfl ?_
  replace H := bs H; obtain ⟨h118, h118e, H⟩ := H
  refine u_pR (q := 616) (r := (RX12, TX12, 58)) h118e dX12_init_613 w1392 rfl (by decide) (Or.inr ⟨rfl, rfl, rfl⟩) rfl rfl ?_
  refine v_aload_n (q := 617) 0 dX12_init_616 rfl rfl rfl ?_
  refine v_bipush (v := 6) (q := 619) dX12_init_617 (by decide) rfl ?_
  replace H := bs H; obtain ⟨h119, h119e, H⟩ := H
  refine u_nA (q := 621) (ty := .int) rfl (by decide) w0217 h119e dX12_init_619 rfl ?_
  replace H := bs H; obtain ⟨h120, h120e, H⟩ := H
  refine u_pR (q := 624) (r := (RX12, TX12, 58)) h120e dX12_init_621 w1393 rfl (by decide) (Or.inr ⟨rfl, rfl, rfl⟩) rfl rfl ?_
  refine v_aload_n (q := 625) 0 dX12_init_624 rfl rfl rfl ?_
  refine v_bipush (v := 10) (q := 627) dX12_init_625 (by decide) rfl ?_
  replace H := bs H; obtain ⟨h121, h121e, H⟩ := H
  refine u_nA (q := 629) (ty := .int) rfl (by decide) w0217 h121e dX12_init_627 rfl ?_
  replace H := bs H; obtain ⟨h122, h122e, H⟩ := H
  refine u_pR (q := 632) (r := (RX12, TX12, 58)) h122e dX12_init_629 w1394 rfl (by decide) (Or.inr ⟨rfl, rfl, rfl⟩) rfl rfl ?_
  refine v_aload_n (q := 633) 0 dX12_init_632 rfl rfl rfl ?_
  refine v_bipush (v := 10) (q := 635) dX12_init_633 (by decide) rfl ?_
  replace H := bs H; obtain ⟨h123, h123e, H⟩ := H
  refine u_nA (q := 637) (ty := .int) rfl (by decide) w0217 h123e dX12_init_635 rfl ?_
  replace H := bs H; obtain ⟨h124, h124e, H⟩ := H
  refine u_pR (q := 640) (r := (RX12, TX12, 58)) h124e dX12_init_637 w1395 rfl (by decide) (Or.inr ⟨rfl, rfl, rfl⟩) rfl rfl ?_
  refine v_aload_n (q := 641) 0 dX12_init_640 rfl rfl rfl ?_
  refine v_sipush (v := 20005) (q := 644) dX12_init_641 (by decide) rfl ?_
  replace H := bs H; obtain ⟨h125, h125e, H⟩ := H
  refine u_nA (q := 646) (ty := .int) rfl (by decide) w0217 h125e dX12_init_644 rfl ?_
  replace H := bs H; obtain ⟨h126, h126e, H⟩ := H
  refine u_pR (q := 649) (r := (RX12, TX12, 58)) h126e dX12_init_646 w1397 rfl (by decide) (Or.inr ⟨rfl, rfl, rfl⟩) rfl rfl ?_
  refine v_aload_n (q := 650) 0 dX12_init_649 rfl rfl rfl ?_
  refine v_sipush (v := 4001) (q := 653) dX12_init_650 (by decide) rfl ?_
  replace H := bs H; obtain ⟨h127, h127e, H⟩ := H
  refine u_nA (q := 655) (ty := .int) rfl (by decide) w0217 h127e dX12_init_653 rfl ?_
  replace H := bs H; obtain ⟨h128, h128e, H⟩ := H
  refine u_pR (q := 658) (r := (RX12, TX12, 58)) h128e dX12_init_655 w1398 rfl (by decide) (Or.inr ⟨rfl, rfl, rfl⟩) rfl rfl ?_
  refine v_aload_n (q := 659) 0 dX12_init_658 rfl rfl rfl ?_
  refine v_sipush (v := 4001) (q := 662) dX12_init_659 (by decide) rfl ?_
  replace H := bs H; obtain ⟨h129, h129e, H⟩ := H
  refine u_nA (q := 664) (ty := .int) rfl (by decide) w0217 h129e dX12_init_662 rfl ?_
  replace H := bs H; obtain ⟨h130, h130e, H⟩ := H
  refine u_pR (q := 667) (r := (RX12, TX12, 58)) h130e dX12_init_664 w1399 rfl (by decide) (Or.inr ⟨rfl, rfl, rfl⟩) rfl rfl ?_
  refine v_aload_n (q := 668) 0 dX12_init_667 rfl rfl rfl ?_
  refine v_sipush (v := 4001) (q := 671) dX12_init_668 (by decide) rfl ?_
  replace H := bs H; obtain ⟨h131, h131e, H⟩ := H
  refine u_nA (q := 673) (ty := .int) rfl (by decide) w0217 h131e dX12_init_671 rfl ?_
  replace H := bs H; obtain ⟨h132, h132e, H⟩ := H
  refine u_pR (q := 676) (r := (RX12, TX12, 58)) h132e dX12_init_673 w1400 rfl (by decide) (Or.inr ⟨rfl, rfl, rfl⟩) rfl rfl ?_
  refine v_aload_n (q := 677) 0 dX12_init_676 rfl rfl rfl ?_
  refine v_sipush (v := 16384) (q := 680) dX12_init_677 (by decide) rfl ?_
  replace H := bs H; obtain ⟨h133, h133e, H⟩ := H
  refine u_nA (q := 682) (ty := .int) rfl (by decide) w0217 h133e dX12_init_680 rfl ?_
  replace H := bs H; obtain ⟨h134, h134e, H⟩ := H
  refine u_pR (q := 685) (r := (RX12, TX12, 58)) h134e dX12_init_682 w1401 rfl (by decide) (Or.inr ⟨rfl, rfl, rfl⟩) rfl rfl ?_
  refine v_aload_n (q := 686) 0 dX12_init_685 rfl rfl rfl ?_
  refine v_bipush (v := 6) (q := 688) dX12_init_686 (by decide) rfl ?_
  replace H := bs H; obtain ⟨h135, h135e, H⟩ := H
  refine u_nA (q := 690) (ty := .int) rfl (by decide) w0217 h135e dX12_init_688 rfl ?_
  replace H := bs H; obtain ⟨h136, h136e, H⟩ := H
  refine u_pR (q := 693) (r := (RX12, TX12, 58)) h136e dX12_init_690 w1404 rfl (by decide) (Or.inr ⟨rfl, rfl, rfl⟩) rfl rfl ?_
  refine v_aload_n (q := 694) 0 dX12_init_693 rfl rfl rfl ?_
  refine v_bipush (v := 6) (q := 696) dX12_init_694 (by decide) rfl ?_
  replace H := bs H; obtain ⟨h137, h137e, H⟩ := H
  refine u_nA (q := 698) (ty := .int) rfl (by decide) w0217 h137e dX12_init_696 rfl ?_
  replace H := bs H; obtain ⟨h138, h138e, H⟩ := H
  refine u_pR (q := 701) (r := (RX12, TX12, 58)) h138e dX12_init_698 w1405 rfl (by decide) (Or.inr ⟨rfl, rfl, rfl⟩) rfl rfl ?_
  refine v_aload_n (q := 702) 0 dX12_init_701 rfl rfl rfl ?_
  refine v_bipush (v := 8) (q := 704) dX12_init_702 (by decide) rfl ?_
  replace H := bs H; obtain ⟨h139, h139e, H⟩ := H
  refine u_nA (q := 706) (ty := .int) rfl (by decide) w0217 h139e dX12_init_704 rfl ?_
  replace H := bs H; obtain ⟨h140, h140e, H⟩ := H
  refine u_pR (q := 709) (r := (RX12, TX12, 58)) h140e dX12_init_706 w1406 rfl (by decide) (Or.inr ⟨rfl, rfl, rfl⟩) rfl rfl ?_
  refine v_aload_n (q := 710) 0 dX12_init_709 rfl rfl rfl ?_
  refine v_bipush (v := 6) (q := 712) dX12_init_710 (by decide) rfl ?_
  replace H := bs H; obtain ⟨h141, h141e, H⟩ := H
  refine u_nA (q := 714) (ty := .int) rfl (by decide) w0217 h141e dX12_init_712 rfl ?_
  replace H := bs H; obtain ⟨h142, h142e, H⟩ := H
  refine u_pR (q := 717) (r := (RX12, TX12, 58)) h142e dX12_init_714 w1407 rfl (by decide) (Or.inr ⟨rfl, rfl, rfl⟩) rfl rfl ?_
  refine v_aload_n (q := 718) 0 dX12_init_717 rfl rfl rfl ?_
  refine v_ldc (v := 125905) (q := 720) dX12_init_718 w1343 rfl ?_
  replace H := bs H; obtain ⟨h143, h143e, H⟩ := H
  refine u_nA (q := 722) (ty := .int) rfl (by decide) w0217 h143e dX12_init_720 rfl ?_
  replace H := bs H; obtain ⟨h144, h144e, H⟩ := H
  refine u_pR (q := 725) (r := (RX12, TX12, 58)) h144e dX12_init_722 w1409 rfl (by decide) (Or.inr ⟨rfl, rfl, rfl⟩) rfl rfl ?_
  refine v_aload_n (q := 726) 0 dX12_init_725 rfl rfl rfl ?_
  refine v_sipush (v := 19370) (q := 729) dX12_init_726 (by decide) rfl ?_
  replace H := bs H; obtain ⟨h145, h145e, H⟩ := H
  refine u_nA (q := 731) (ty := .int) rfl (by decide) w0217 h145e dX12_init_729 rfl ?_
  replace H := bs H; obtain ⟨h146, h146e, H⟩ := H
  refine u_pR (q := 734) (r := (RX12, TX12, 58)) h146e dX12_init_731 w1410 rfl (by decide) (Or.inr ⟨rfl, rfl, rfl⟩) rfl rfl ?_
  refine v_aload_n (q := 735) 0 dX12_init_734 rfl rfl rfl ?_
  refine v_iconst (v := 2) (q := 736) dX12_init_735 (by decide) rfl ?_
  replace H := bs H; obtain ⟨h147, h147e, H⟩ := H
  refine u_nA (q := 738) (ty := .boolean) rfl (by decide) w0414 h147e dX12_init_736 rfl ?_
  replace H := bs H; obtain ⟨h148, h148e, H⟩ := H
  refine u_pR (q := 741) (r := (RX12, TX12, 58)) h148e dX12_init_738 w1411 rfl (by decide) (Or.inr ⟨rfl, rfl, rfl⟩) rfl rfl ?_
  refine v_aload_n (q := 742) 0 dX12_init_741 rfl rfl rfl ?_
  refine v_iconst (v := 0) (q := 743) dX12_init_742 (by decide) rfl ?_
  replace H := bs H; obtain ⟨_, o149, H⟩ := H
  replace H := bs H; obtain ⟨x150, x150e, H⟩ := H
  refine u_callV0 (M' := mX12_clearBank) (d' := 1) (rc := (RX12, TX12, 58)) (As := [.int (0 : Int32)]) (st := []) (q := 746) oX12_clearBank dX12_init_743 w1344 w1346 w0050 rfl rfl (gO_sp o149).1 (gO_sp o149).2 rfl (Nat.le_of_ble_eq_true rfl) (Nat.le_of_ble_eq_true rfl) (Nat.lt_of_lt_of_le (by decide) hd) rfl (sX12_clearBank (Nat.le_refl _) x150e) rfl ?_
  refine v_aload_n (q := 747) 0 dX12_init_746 rfl rfl rfl ?_
  replace H := bs H; obtain ⟨_, o151, H⟩ := H
  replace H := bs H; obtain ⟨x152, x152e, H⟩ := H
  refine u_callV0 (M' := mX12_startAnew) (d' := 2) (rc := (RX12, TX12, 58)) (As := []) (st := []) (q := 750) oX12_startAnew dX12_init_747 w1348 w1350 w0051 rfl rfl (gO_sp o151).1 (gO_sp o151).2 rfl (Nat.le_of_ble_eq_true rfl) (Nat.le_of_ble_eq_true rfl) (Nat.lt_of_lt_of_le (by decide) hd) rfl (sX12_startAnew (Nat.le_refl _) x152e) rfl ?_
  cases H
  exact v_return rfl dX12_init_750

/-! the constructors of the class that hold a grid -/
def mX4_init : MI := (yX4_init, cX4_init, 1, none)
theorem oX4_init : mOK mX4_init 0 := ⟨by decide +kernel, by decide +kernel, by decide +kernel, by decide, w0458, w0148⟩
def fX4_init (h : Hp) (v0 : Nat) : Option (Hp) :=
(some (nw h (.inl 10))).bind fun h1 =>
(fX10_init h1 (hN h)).bind fun x2 =>
(pR x2 4 v0 2 (hN h)).bind fun h3 =>
(nA h3 .int (16 : Int32)).bind fun h4 =>
(pR h4 4 v0 3 (hN h3)).bind fun h5 =>
(some (gdH h5)).bind fun h6 =>
(pR h6 4 v0 4 (hN h5)).bind fun h7 =>
some h7
set_option maxRecDepth 20000 in
set_option maxHeartbeats 4000000 in
theorem sX4_init {Γ : Gm} {d : Nat} (hd : 2 ≤ d) {h : Hp} {v0 : Nat} {r : Hp} (H : fX4_init h v0 = some r) : V Γ d mX4_init 0 [(0, .ref v0)] [] h (none, r) := by
  unfold fX4_init at H
  refine v_aload_n (q := 1) 0 dX4_init_0 rfl rfl rfl ?_
  refine v_obj (q := 4) dX4_init_1 w0459 w0166 w0167 (Nat.le_of_ble_eq_true rfl) (Nat.lt_of_lt_of_le (by decide) hd) rfl ?_
  refine v_aload_n (q := 5) 0 dX4_init_4 rfl rfl rfl ?_
  replace H := bs H; obtain ⟨h1, h1e, H⟩ := H
  refine v_new (r := (RX10, TX10, 3)) (ci := 10) (q := 8) dX4_init_5 rfl w0460 w0391 w0146 rfl ?_
  rw [Option.some.inj h1e]
  refine v_dup (q := 9) dX4_init_8 rfl rfl ?_
  replace H := bs H; obtain ⟨x2, x2e, H⟩ := H
  refine u_callI (M' := mX10_init) (d' := 1) (As := []) (st := [.ref (hN h), .ref v0]) (q := 12) oX10_init dX4_init_9 rfl rfl w0461 w0393 rfl (Nat.le_of_ble_eq_true rfl) (Nat.le_of_ble_eq_true rfl) (Nat.lt_of_lt_of_le (by decide) hd) rfl (sX10_init (Nat.le_refl _) x2e) rfl ?_
  replace H := bs H; obtain ⟨h3, h3e, H⟩ := H
  refine u_pR (q := 15) (r := (RX4, TX4, 5)) h3e dX4_init_12 w0468 rfl (by decide) (Or.inr ⟨rfl, rfl, rfl⟩) rfl rfl ?_
  refine v_aload_n (q := 16) 0 dX4_init_15 rfl rfl rfl ?_
  refine v_bipush (v := 16) (q := 18) dX4_init_16 (by decide) rfl ?_
  replace H := bs H; obtain ⟨h4, h4e, H⟩ := H
  refine u_nA (q := 20) (ty := .int) rfl (by decide) w0217 h4e dX4_init_18 rfl ?_
  replace H := bs H; obtain ⟨h5, h5e, H⟩ := H
  refine u_pR (q := 23) (r := (RX4, TX4, 5)) h5e dX4_init_20 w0469 rfl (by decide) (Or.inr ⟨rfl, rfl, rfl⟩) rfl rfl ?_
  refine v_aload_n (q := 24) 0 dX4_init_23 rfl rfl rfl ?_
  refine v_iconst (v := 4) (q := 25) dX4_init_24 (by decide) rfl ?_
  refine v_bipush (v := 17) (q := 27) dX4_init_25 (by decide) rfl ?_
  replace H := bs H; obtain ⟨h6, h6e, H⟩ := H
  refine v_grid (q := 31) w0462 w0463 w0217 dX4_init_27 rfl ?_
  rw [Option.some.inj h6e]
  replace H := bs H; obtain ⟨h7, h7e, H⟩ := H
  refine u_pR (q := 34) (r := (RX4, TX4, 5)) h7e dX4_init_31 w0470 rfl (by decide) (Or.inr ⟨rfl, rfl, rfl⟩) rfl rfl ?_
  cases H
  exact v_return rfl dX4_init_34
def fX11_init (h : Hp) (v0 : Nat) : Option (Hp) :=
(nA h .byte (900 : Int32)).bind fun h1 =>
(pR h1 11 v0 0 (hN h)).bind fun h2 =>
(some (nw h2 (.inl 6))).bind fun h3 =>
(fX6_init h3 (hN h2)).bind fun x4 =>
(pR x4 11 v0 2 (hN h2)).bind fun h5 =>
(some (nw h5 (.inl 5))).bind fun h6 =>
(fX5_init h6 (hN h5)).bind fun x7 =>
(pR x7 11 v0 3 (hN h5)).bind fun h8 =>
(some (nw h8 (.inl 5))).bind fun h9 =>
(fX5_init h9 (hN h8)).bind fun x10 =>
(pR x10 11 v0 4 (hN h8)).bind fun h11 =>
(some (nw h11 (.inl 2))).bind fun h12 =>
(fX2_init h12 (hN h11)).bind fun x13 =>
(pR x13 11 v0 5 (hN h11)).bind fun h14 =>
(nA h14 (.object RX3) (2 : Int32)).bind fun h15 =>
(pR h15 11 v0 6 (hN h14)).bind fun h16 =>
(nA h16 .boolean (2 : Int32)).bind fun h17 =>
(pR h17 11 v0 7 (hN h16)).bind fun h18 =>
(some (nw h18 (.inl 10))).bind fun h19 =>
(fX10_init h19 (hN h18)).bind fun x20 =>
(pR x20 11 v0 8 (hN h18)).bind fun h21 =>
(some (nw h21 (.inl 9))).bind fun h22 =>
(fX9_init h22 (hN h21)).bind fun x23 =>
(pR x23 11 v0 9 (hN h21)).bind fun h24 =>
(some (nw h24 (.inl 4))).bind fun h25 =>
(fX4_init h25 (hN h24)).bind fun x26 =>
(pR x26 11 v0 10 (hN h24)).bind fun h27 =>
(some (nw h27 (.inl 3))).bind fun h28 =>
(fX3_init h28 (hN h27)).bind fun x29 =>
(pR x29 11 v0 11 (hN h27)).bind fun h30 =>
(nA h30 .int (72 : Int32)).bind fun h31 =>
(pR h31 11 v0 12 (hN h30)).bind fun h32 =>
(some (nw h32 (.inl 0))).bind fun h33 =>
(fX0_init h33 (hN h32)).bind fun x34 =>
(pR x34 11 v0 13 (hN h32)).bind fun h35 =>
some h35
set_option maxRecDepth 20000 in
set_option maxHeartbeats 4000000 in
theorem sX11_init {Γ : Gm} {d : Nat} (hd : 4 ≤ d) {h : Hp} {v0 : Nat} {r : Hp} (H : fX11_init h v0 = some r) : V Γ d mX11_init 0 [(0, .ref v0)] [] h (none, r) := by
  unfold fX11_init at H
  refine v_aload_n (q := 1) 0 dX11_init_0 rfl rfl rfl ?_
  refine v_obj (q := 4) dX11_init_1 w0165 w0166 w0167 (Nat.le_of_ble_eq_true rfl) (Nat.lt_of_lt_of_le (by decide) hd) rfl ?_
  refine v_aload_n (q := 5) 0 dX11_init_4 rfl rfl rfl ?_
  refine v_sipush (v := 900) (q := 8) dX11_init_5 (by decide) rfl ?_
  replace H := bs H; obtain ⟨h1, h1e, H⟩ := H
  refine u_nA (q := 10) (ty := .byte) rfl (by decide) w0216 h1e dX11_init_8 rfl ?_
  replace H := bs H; obtain ⟨h2, h2e, H⟩ := H
  refine u_pR (q := 13) (r := (RX11, TX11, 14)) h2e dX11_init_10 w0521 rfl (by decide) (Or.inr ⟨rfl, rfl, rfl⟩) rfl rfl ?_
  refine v_aload_n (q := 14) 0 dX11_init_13 rfl rfl rfl ?_
  replace H := bs H; obtain ⟨h3, h3e, H⟩ := H
  refine v_new (r := (RX6, TX6, 13)) (ci := 6) (q := 17) dX11_init_14 rfl w0168 w0169 w0140 rfl ?_
  rw [Option.some.inj h3e]
  refine v_dup (q := 18) dX11_init_17 rfl rfl ?_
  replace H := bs H; obtain ⟨x4, x4e, H⟩ := H
  refine u_callI (M' := mX6_init) (d' := 1) (As := []) (st := [.ref (hN h2), .ref v0]) (q := 21) oX6_init dX11_init_18 rfl rfl w0170 w0171 rfl (Nat.le_of_ble_eq_true rfl) (Nat.le_of_ble_eq_true rfl) (Nat.lt_of_lt_of_le (by decide) hd) rfl (sX6_init (Nat.le_refl _) x4e) rfl ?_
  replace H := bs H; obtain ⟨h5, h5e, H⟩ := H
  refine u_pR (q := 24) (r := (RX11, TX11, 14)) h5e dX11_init_21 w0523 rfl (by decide) (Or.inr ⟨rfl, rfl, rfl⟩) rfl rfl ?_
  refine v_aload_n (q := 25) 0 dX11_init_24 rfl rfl rfl ?_
  replace H := bs H; obtain ⟨h6, h6e, H⟩ := H
  refine v_new (r := (RX5, TX5, 7)) (ci := 5) (q := 28) dX11_init_25 rfl w0218 w0219 w0141 rfl ?_
  rw [Option.some.inj h6e]
  refine v_dup (q := 29) dX11_init_28 rfl rfl ?_
  replace H := bs H; obtain ⟨x7, x7e, H⟩ := H
  refine u_callI (M' := mX5_init) (d' := 1) (As := []) (st := [.ref (hN h5), .ref v0]) (q := 32) oX5_init dX11_init_29 rfl rfl w0220 w0221 rfl (Nat.le_of_ble_eq_true rfl) (Nat.le_of_ble_eq_true rfl) (Nat.lt_of_lt_of_le (by decide) hd) rfl (sX5_init (Nat.le_refl _) x7e) rfl ?_
  replace H := bs H; obtain ⟨h8, h8e, H⟩ := H
  refine u_pR (q := 35) (r := (RX11, TX11, 14)) h8e dX11_init_32 w0524 rfl (by decide) (Or.inl rfl) rfl rfl ?_
  refine v_aload_n (q := 36) 0 dX11_init_35 rfl rfl rfl ?_
  replace H := bs H; obtain ⟨h9, h9e, H⟩ := H
  refine v_new (r := (RX5, TX5, 7)) (ci := 5) (q := 39) dX11_init_36 rfl w0218 w0219 w0141 rfl ?_
  rw [Option.some.inj h9e]
  refine v_dup (q := 40) dX11_init_39 rfl rfl ?_
  replace H := bs H; obtain ⟨x10, x10e, H⟩ := H
  refine u_callI (M' := mX5_init) (d' := 1) (As := []) (st := [.ref (hN h8), .ref v0]) (q := 43) oX5_init dX11_init_40 rfl rfl w0220 w0221 rfl (Nat.le_of_ble_eq_true rfl) (Nat.le_of_ble_eq_true rfl) (Nat.lt_of_lt_of_le (by decide) hd) rfl (sX5_init (Nat.le_refl _) x10e) rfl ?_
  replace H := bs H; obtain ⟨h11, h11e, H⟩ := H
  refine u_pR (q := 46) (r := (RX11, TX11, 14)) h11e dX11_init_43 w0525 rfl (by decide) (Or.inl rfl) rfl rfl ?_
  refine v_aload_n (q := 47) 0 dX11_init_46 rfl rfl rfl ?_
  replace H := bs H; obtain ⟨h12, h12e, H⟩ := H
  refine v_new (r := (RX2, TX2, 3)) (ci := 2) (q := 50) dX11_init_47 rfl w0267 w0268 w0142 rfl ?_
  rw [Option.some.inj h12e]
  refine v_dup (q := 51) dX11_init_50 rfl rfl ?_
  replace H := bs H; obtain ⟨x13, x13e, H⟩ := H
  refine u_callI (M' := mX2_init) (d' := 3) (As := []) (st := [.ref (hN h11), .ref v0]) (q := 54) oX2_init dX11_init_51 rfl rfl w0269 w0270 rfl (Nat.le_of_ble_eq_true rfl) (Nat.le_of_ble_eq_true rfl) (Nat.lt_of_lt_of_le (by decide) hd) rfl (sX2_init (Nat.le_refl _) x13e) rfl ?_
  replace H := bs H; obtain ⟨h14, h14e, H⟩ := H
  refine u_pR (q := 57) (r := (RX11, TX11, 14)) h14e dX11_init_54 w0526 rfl (by decide) (Or.inr ⟨rfl, rfl, rfl⟩) rfl rfl ?_
  refine v_aload_n (q := 58) 0 dX11_init_57 rfl rfl rfl ?_
  refine v_iconst (v := 2) (q := 59) dX11_init_58 (by decide) rfl ?_
  replace H := bs H; obtain ⟨h15, h15e, H⟩ := H
  refine u_nR (q := 62) w0389 h15e dX11_init_59 rfl ?_
  replace H := bs H; obtain ⟨h16, h16e, H⟩ := H
  refine u_pR (q := 65) (r := (RX11, TX11, 14)) h16e dX11_init_62 w0527 rfl (by decide) (Or.inr ⟨rfl, rfl, rfl⟩) rfl rfl ?_
  refine v_aload_n (q := 66) 0 dX11_init_65 rfl rfl rfl ?_
  refine v_iconst (v := 2) (q := 67) dX11_init_66 (by decide) rfl ?_
  replace H := bs H; obtain ⟨h17, h17e, H⟩ := H
  refine u_nA (q := 69) (ty := .boolean) rfl (by decide) w0414 h17e dX11_init_67 rfl ?_
  replace H := bs H; obtain ⟨h18, h18e, H⟩ := H
  refine u_pR (q := 72) (r := (RX11, TX11, 14)) h18e dX11_init_69 w0528 rfl (by decide) (Or.inr ⟨rfl, rfl, rfl⟩) rfl rfl ?_
  refine v_aload_n (q := 73) 0 dX11_init_72 rfl rfl rfl ?_
  replace H := bs H; obtain ⟨h19, h19e, H⟩ := H
  refine v_new (r := (RX10, TX10, 3)) (ci := 10) (q := 76) dX11_init_73 rfl w0390 w0391 w0146 rfl ?_
  rw [Option.some.inj h19e]
  refine v_dup (q := 77) dX11_init_76 rfl rfl ?_
  replace H := bs H; obtain ⟨x20, x20e, H⟩ := H
  refine u_callI (M' := mX10_init) (d' := 1) (As := []) (st := [.ref (hN h18), .ref v0]) (q := 80) oX10_init dX11_init_77 rfl rfl w0392 w0393 rfl (Nat.le_of_ble_eq_true rfl) (Nat.le_of_ble_eq_true rfl) (Nat.lt_of_lt_of_le (by decide) hd) rfl (sX10_init (Nat.le_refl _) x20e) rfl ?_
  replace H := bs H; obtain ⟨h21, h21e, H⟩ := H
  refine u_pR (q := 83) (r := (RX11, TX11, 14)) h21e dX11_init_80 w0529 rfl (by decide) (Or.inr ⟨rfl, rfl, rfl⟩) rfl rfl ?_
  refine v_aload_n (q := 84) 0 dX11_init_83 rfl rfl rfl ?_
  replace H := bs H; obtain ⟨h22, h22e, H⟩ := H
  refine v_new (r := (RX9, TX9, 10)) (ci := 9) (q := 87) dX11_init_84 rfl w0415 w0416 w0147 rfl ?_
  rw [Option.some.inj h22e]
  refine v_dup (q := 88) dX11_init_87 rfl rfl ?_
  replace H := bs H; obtain ⟨x23, x23e, H⟩ := H
  refine u_callI (M' := mX9_init) (d' := 2) (As := []) (st := [.ref (hN h21), .ref v0]) (q := 91) oX9_init dX11_init_88 rfl rfl w0417 w0418 rfl (Nat.le_of_ble_eq_true rfl) (Nat.le_of_ble_eq_true rfl) (Nat.lt_of_lt_of_le (by decide) hd) rfl (sX9_init (Nat.le_refl _) x23e) rfl ?_
  replace H := bs H; obtain ⟨h24, h24e, H⟩ := H
  refine u_pR (q := 94) (r := (RX11, TX11, 14)) h24e dX11_init_91 w0530 rfl (by decide) (Or.inr ⟨rfl, rfl, rfl⟩) rfl rfl ?_
  refine v_aload_n (q := 95) 0 dX11_init_94 rfl rfl rfl ?_
  replace H := bs H; obtain ⟨h25, h25e, H⟩ := H
  refine v_new (r := (RX4, TX4, 5)) (ci := 4) (q := 98) dX11_init_95 rfl w0454 w0455 w0148 rfl ?_
  rw [Option.some.inj h25e]
  refine v_dup (q := 99) dX11_init_98 rfl rfl ?_
  replace H := bs H; obtain ⟨x26, x26e, H⟩ := H
  refine u_callI (M' := mX4_init) (d' := 2) (As := []) (st := [.ref (hN h24), .ref v0]) (q := 102) oX4_init dX11_init_99 rfl rfl w0456 w0457 rfl (Nat.le_of_ble_eq_true rfl) (Nat.le_of_ble_eq_true rfl) (Nat.lt_of_lt_of_le (by decide) hd) rfl (sX4_init (Nat.le_refl _) x26e) rfl ?_
  replace H := bs H; obtain ⟨h27, h27e, H⟩ := H
  refine u_pR (q := 105) (r := (RX11, TX11, 14)) h27e dX11_init_102 w0531 rfl (by decide) (Or.inr ⟨rfl, rfl, rfl⟩) rfl rfl ?_
  refine v_aload_n (q := 106) 0 dX11_init_105 rfl rfl rfl ?_
  replace H := bs H; obtain ⟨h28, h28e, H⟩ := H
  refine v_new (r := (RX3, TX3, 8)) (ci := 3) (q := 109) dX11_init_106 rfl w0389 w0275 w0143 rfl ?_
  rw [Option.some.inj h28e]
  refine v_dup (q := 110) dX11_init_109 rfl rfl ?_
  replace H := bs H; obtain ⟨x29, x29e, H⟩ := H
  refine u_callI (M' := mX3_init) (d' := 2) (As := []) (st := [.ref (hN h27), .ref v0]) (q := 113) oX3_init dX11_init_110 rfl rfl w0482 w0277 rfl (Nat.le_of_ble_eq_true rfl) (Nat.le_of_ble_eq_true rfl) (Nat.lt_of_lt_of_le (by decide) hd) rfl (sX3_init (Nat.le_refl _) x29e) rfl ?_
  replace H := bs H; obtain ⟨h30, h30e, H⟩ := H
  refine u_pR (q := 116) (r := (RX11, TX11, 14)) h30e dX11_init_113 w0532 rfl (by decide) (Or.inr ⟨rfl, rfl, rfl⟩) rfl rfl ?_
  refine v_aload_n (q := 117) 0 dX11_init_116 rfl rfl rfl ?_
  refine v_bipush (v := 72) (q := 119) dX11_init_117 (by decide) rfl ?_
  replace H := bs H; obtain ⟨h31, h31e, H⟩ := H
  refine u_nA (q := 121) (ty := .int) rfl (by decide) w0217 h31e dX11_init_119 rfl ?_
  replace H := bs H; obtain ⟨h32, h32e, H⟩ := H
  refine u_pR (q := 124) (r := (RX11, TX11, 14)) h32e dX11_init_121 w0533 rfl (by decide) (Or.inr ⟨rfl, rfl, rfl⟩) rfl rfl ?_
  refine v_aload_n (q := 125) 0 dX11_init_124 rfl rfl rfl ?_
  replace H := bs H; obtain ⟨h33, h33e, H⟩ := H
  refine v_new (r := (RX0, TX0, 9)) (ci := 0) (q := 128) dX11_init_125 rfl w0483 w0484 w0149 rfl ?_
  rw [Option.some.inj h33e]
  refine v_dup (q := 129) dX11_init_128 rfl rfl ?_
  replace H := bs H; obtain ⟨x34, x34e, H⟩ := H
  refine u_callI (M' := mX0_init) (d' := 1) (As := []) (st := [.ref (hN h32), .ref v0]) (q := 132) oX0_init dX11_init_129 rfl rfl w0485 w0486 rfl (Nat.le_of_ble_eq_true rfl) (Nat.le_of_ble_eq_true rfl) (Nat.lt_of_lt_of_le (by decide) hd) rfl (sX0_init (Nat.le_refl _) x34e) rfl ?_
  replace H := bs H; obtain ⟨h35, h35e, H⟩ := H
  refine u_pR (q := 135) (r := (RX11, TX11, 14)) h35e dX11_init_132 w0534 rfl (by decide) (Or.inr ⟨rfl, rfl, rfl⟩) rfl rfl ?_
  cases H
  exact v_return rfl dX11_init_135


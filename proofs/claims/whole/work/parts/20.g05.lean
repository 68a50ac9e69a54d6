def mX11_forget : MI := (yX11_forget, cX11_forget, 2, some .int)
theorem oX11_forget : mOK mX11_forget 0 := ⟨by decide +kernel, by decide +kernel, by decide +kernel, by decide, w0909, w0139⟩
def fX11_forget (h : Hp) (v0 : Nat) : Option (Int32 × Hp) :=
(gR h 11 v0 5).bind fun x1 =>
(gO h 2 x1).bind fun _ =>
(fX2_present h x1).bind fun x3 =>
(gR h 3 x3 4).bind fun x4 =>
(gI h 7 x4 0).bind fun x5 =>
(gR h 11 v0 5).bind fun x6 =>
(gO h 2 x6).bind fun _ =>
(fX2_act h x6).bind fun x8 =>
(gO x8.2 3 x8.1).bind fun _ =>
(fX3_clear x8.2 x8.1).bind fun x10 =>
some (x5, x10)
set_option maxRecDepth 20000 in
set_option maxHeartbeats 4000000 in
theorem sX11_forget {Γ : Gm} {d : Nat} (hd : 4 ≤ d) {h : Hp} {v0 : Nat} {r : Int32 × Hp} (H : fX11_forget h v0 = some r) : V Γ d mX11_forget 0 [(0, .ref v0)] [] h (some (.int r.1), r.2) := by
  unfold fX11_forget at H
  refine v_aload_n (q := 1) 0 dX11_forget_0 rfl rfl rfl ?_
  replace H := bs H; obtain ⟨x1, x1e, H⟩ := H
  refine u_gR (q := 4) (r := (RX11, TX11, 14)) x1e dX11_forget_1 w0526 rfl (by decide) rfl rfl ?_
  replace H := bs H; obtain ⟨_, o2, H⟩ := H
  replace H := bs H; obtain ⟨x3, x3e, H⟩ := H
  refine u_callV1 (M' := mX2_present) (d' := 1) (rc := (RX2, TX2, 3)) (As := []) (st := []) (q := 7) oX2_present dX11_forget_4 w0701 w0702 w0703 rfl rfl (gO_sp o2).1 (gO_sp o2).2 rfl (Nat.le_of_ble_eq_true rfl) (Nat.le_of_ble_eq_true rfl) (Nat.lt_of_lt_of_le (by decide) hd) rfl (sX2_present (Nat.le_refl _) x3e) rfl ?_
  replace H := bs H; obtain ⟨x4, x4e, H⟩ := H
  refine u_gR (q := 10) (r := (RX3, TX3, 8)) x4e dX11_forget_7 w0353 rfl (by decide) rfl rfl ?_
  replace H := bs H; obtain ⟨x5, x5e, H⟩ := H
  refine u_gI (q := 13) (r := (RX7, TX7, 7)) x5e dX11_forget_10 w0313 rfl (by decide) rfl rfl ?_
  refine v_istore_n (L' := [(1, .int x5), (0, .ref v0)]) (q := 14) dX11_forget_13 rfl (by decide) rfl rfl ?_
  refine v_aload_n (q := 15) 1 dX11_forget_14 rfl rfl rfl ?_
  replace H := bs H; obtain ⟨x6, x6e, H⟩ := H
  refine u_gR (q := 18) (r := (RX11, TX11, 14)) x6e dX11_forget_15 w0526 rfl (by decide) rfl rfl ?_
  replace H := bs H; obtain ⟨_, o7, H⟩ := H
  replace H := bs H; obtain ⟨x8, x8e, H⟩ := H
  refine u_callV1 (M' := mX2_act) (d' := 3) (rc := (RX2, TX2, 3)) (As := []) (st := []) (q := 21) oX2_act dX11_forget_18 w0743 w0744 w0745 rfl rfl (gO_sp o7).1 (gO_sp o7).2 rfl (Nat.le_of_ble_eq_true rfl) (Nat.le_of_ble_eq_true rfl) (Nat.lt_of_lt_of_le (by decide) hd) rfl (sX2_act (Nat.le_refl _) x8e) rfl ?_
  replace H := bs H; obtain ⟨_, o9, H⟩ := H
  replace H := bs H; obtain ⟨x10, x10e, H⟩ := H
  refine u_callV0 (M' := mX3_clear) (d' := 3) (rc := (RX3, TX3, 8)) (As := []) (st := []) (q := 24) oX3_clear dX11_forget_21 w0910 w0713 w0714 rfl rfl (gO_sp o9).1 (gO_sp o9).2 rfl (Nat.le_of_ble_eq_true rfl) (Nat.le_of_ble_eq_true rfl) (Nat.lt_of_lt_of_le (by decide) hd) rfl (sX3_clear (Nat.le_refl _) x10e) rfl ?_
  refine v_iload_n (q := 25) 0 dX11_forget_24 rfl rfl rfl ?_
  cases H
  exact v_ireturn rfl dX11_forget_25
def mX11_image : MI := (yX11_image, cX11_image, 2, some .int)
theorem oX11_image : mOK mX11_image 1 := ⟨by decide +kernel, by decide +kernel, by decide +kernel, by decide, w1324, w0139⟩
def jX11_image_9 (h : Hp) : Option (Int32 × Hp) :=
some (((-1 : Int32), h))
set_option maxRecDepth 20000 in
set_option maxHeartbeats 4000000 in
theorem sjX11_image_9 {Γ : Gm} {d : Nat} (hd : 3 ≤ d) {h : Hp} {r : Int32 × Hp} (H : jX11_image_9 h = some r) : V Γ d mX11_image 9 [] [] h (some (.int r.1), r.2) := by
  unfold jX11_image_9 at H
  refine v_iconst (v := -1) (q := 10) dX11_image_9 (by decide) rfl ?_
  cases H
  exact v_ireturn rfl dX11_image_10
def jX11_image_33 (v0 : Nat) (v1 : Int32) (h : Hp) : Option (Int32 × Hp) :=
(gR h 11 v0 6).bind fun x10 =>
(lR h (.object RX3) x10 v1).bind fun x11 =>
(gR h 11 v0 5).bind fun x12 =>
(gO h 2 x12).bind fun _ =>
(fX2_present h x12).bind fun x14 =>
(gO h 3 x11).bind fun _ =>
(fX3_copyFrom h x11 x14).bind fun x16 =>
(gR x16 11 v0 7).bind fun x17 =>
(tZ x16 x17 v1 (1 : Int32)).bind fun h18 =>
(gR h18 11 v0 6).bind fun x19 =>
(lR h18 (.object RX3) x19 v1).bind fun x20 =>
(gR h18 3 x20 4).bind fun x21 =>
(gI h18 7 x21 0).bind fun x22 =>
some (x22, h18)
set_option maxRecDepth 20000 in
set_option maxHeartbeats 4000000 in
theorem sjX11_image_33 {Γ : Gm} {d : Nat} (hd : 3 ≤ d) {v0 : Nat} {v1 : Int32} {h : Hp} {r : Int32 × Hp} (H : jX11_image_33 v0 v1 h = some r) : V Γ d mX11_image 33 [(0, .ref v0), (1, .int v1)] [] h (some (.int r.1), r.2) := by
  unfold jX11_image_33 at H
  refine v_aload_n (q := 34) 0 dX11_image_33 rfl rfl rfl ?_
  replace H := bs H; obtain ⟨x10, x10e, H⟩ := H
  refine u_gR (q := 37) (r := (RX11, TX11, 14)) x10e dX11_image_34 w0527 rfl (by decide) rfl rfl ?_
  refine v_iload_n (q := 38) 1 dX11_image_37 rfl rfl rfl ?_
  replace H := bs H; obtain ⟨x11, x11e, H⟩ := H
  refine u_lR (q := 39) (ty := (.object RX3)) (by decide) rfl rfl x11e dX11_image_38 rfl ?_
  refine v_aload_n (q := 40) 0 dX11_image_39 rfl rfl rfl ?_
  replace H := bs H; obtain ⟨x12, x12e, H⟩ := H
  refine u_gR (q := 43) (r := (RX11, TX11, 14)) x12e dX11_image_40 w0526 rfl (by decide) rfl rfl ?_
  replace H := bs H; obtain ⟨_, o13, H⟩ := H
  replace H := bs H; obtain ⟨x14, x14e, H⟩ := H
  refine u_callV1 (M' := mX2_present) (d' := 1) (rc := (RX2, TX2, 3)) (As := []) (st := [.ref x11]) (q := 46) oX2_present dX11_image_43 w0701 w0702 w0703 rfl rfl (gO_sp o13).1 (gO_sp o13).2 rfl (Nat.le_of_ble_eq_true rfl) (Nat.le_of_ble_eq_true rfl) (Nat.lt_of_lt_of_le (by decide) hd) rfl (sX2_present (Nat.le_refl _) x14e) rfl ?_
  replace H := bs H; obtain ⟨_, o15, H⟩ := H
  replace H := bs H; obtain ⟨x16, x16e, H⟩ := H
  refine u_callV0 (M' := mX3_copyFrom) (d' := 2) (rc := (RX3, TX3, 8)) (As := [.ref x14]) (st := []) (q := 49) oX3_copyFrom dX11_image_46 w0998 w0752 w0753 rfl rfl (gO_sp o15).1 (gO_sp o15).2 rfl (Nat.le_of_ble_eq_true rfl) (Nat.le_of_ble_eq_true rfl) (Nat.lt_of_lt_of_le (by decide) hd) rfl (sX3_copyFrom (Nat.le_refl _) x16e) rfl ?_
  refine v_aload_n (q := 50) 0 dX11_image_49 rfl rfl rfl ?_
  replace H := bs H; obtain ⟨x17, x17e, H⟩ := H
  refine u_gR (q := 53) (r := (RX11, TX11, 14)) x17e dX11_image_50 w0528 rfl (by decide) rfl rfl ?_
  refine v_iload_n (q := 54) 1 dX11_image_53 rfl rfl rfl ?_
  refine v_iconst (v := 1) (q := 55) dX11_image_54 (by decide) rfl ?_
  replace H := bs H; obtain ⟨h18, h18e, H⟩ := H
  refine u_tZ (q := 56) h18e dX11_image_55 rfl ?_
  refine v_aload_n (q := 57) 0 dX11_image_56 rfl rfl rfl ?_
  replace H := bs H; obtain ⟨x19, x19e, H⟩ := H
  refine u_gR (q := 60) (r := (RX11, TX11, 14)) x19e dX11_image_57 w0527 rfl (by decide) rfl rfl ?_
  refine v_iload_n (q := 61) 1 dX11_image_60 rfl rfl rfl ?_
  replace H := bs H; obtain ⟨x20, x20e, H⟩ := H
  refine u_lR (q := 62) (ty := (.object RX3)) (by decide) rfl rfl x20e dX11_image_61 rfl ?_
  replace H := bs H; obtain ⟨x21, x21e, H⟩ := H
  refine u_gR (q := 65) (r := (RX3, TX3, 8)) x21e dX11_image_62 w0353 rfl (by decide) rfl rfl ?_
  replace H := bs H; obtain ⟨x22, x22e, H⟩ := H
  refine u_gI (q := 68) (r := (RX7, TX7, 7)) x22e dX11_image_65 w0313 rfl (by decide) rfl rfl ?_
  cases H
  exact v_ireturn rfl dX11_image_68
def fX11_image (h : Hp) (v0 : Nat) (v1 : Int32) : Option (Int32 × Hp) :=
if v1 < 0 then (
jX11_image_9 h) else (
if v1 < (2 : Int32) then (
(gR h 11 v0 6).bind fun x3 =>
(lQ h (.object RX3) x3 v1).bind fun x4 =>
(match x4 with
| none => (
(gR h 11 v0 6).bind fun x6 =>
(some (nw h (.inl 3))).bind fun h7 =>
(fX3_init h7 (hN h)).bind fun x8 =>
(tR x8 x6 v1 (hN h)).bind fun h9 =>
jX11_image_33 v0 v1 h9)
| some _ => (
jX11_image_33 v0 v1 h))) else (
jX11_image_9 h))
set_option maxRecDepth 20000 in
set_option maxHeartbeats 4000000 in
theorem sX11_image {Γ : Gm} {d : Nat} (hd : 3 ≤ d) {h : Hp} {v0 : Nat} {v1 : Int32} {r : Int32 × Hp} (H : fX11_image h v0 v1 = some r) : V Γ d mX11_image 0 [(0, .ref v0), (1, .int v1)] [] h (some (.int r.1), r.2) := by
  unfold fX11_image at H
  refine v_iload_n (q := 1) 1 dX11_image_0 rfl rfl rfl ?_
  refine v_if_lt (q1 := 9) (q2 := 4) dX11_image_1 (by decide) rfl (fun c1 => ?_) (fun c1 => ?_)
  · replace H := ip c1 H
    exact V.sub [] rfl (sjX11_image_9 hd H)
  · replace H := ine c1 H
    refine v_iload_n (q := 5) 1 dX11_image_4 rfl rfl rfl ?_
    refine v_iconst (v := 2) (q := 6) dX11_image_5 (by decide) rfl ?_
    refine v_icmp_lt (q1 := 11) (q2 := 9) dX11_image_6 (by decide) rfl (fun c2 => ?_) (fun c2 => ?_)
    · replace H := ip c2 H
      refine v_aload_n (q := 12) 0 dX11_image_11 rfl rfl rfl ?_
      replace H := bs H; obtain ⟨x3, x3e, H⟩ := H
      refine u_gR (q := 15) (r := (RX11, TX11, 14)) x3e dX11_image_12 w0527 rfl (by decide) rfl rfl ?_
      refine v_iload_n (q := 16) 1 dX11_image_15 rfl rfl rfl ?_
      replace H := bs H; obtain ⟨x4, x4e, H⟩ := H
      refine u_lQ (q := 17) (ty := (.object RX3)) (by decide) rfl rfl x4e dX11_image_16 rfl ?_
      rcases x4 with _ | x5
      · refine v_ifnonnullN (q := 20) dX11_image_17 rfl ?_
        refine v_aload_n (q := 21) 0 dX11_image_20 rfl rfl rfl ?_
        replace H := bs H; obtain ⟨x6, x6e, H⟩ := H
        refine u_gR (q := 24) (r := (RX11, TX11, 14)) x6e dX11_image_21 w0527 rfl (by decide) rfl rfl ?_
        refine v_iload_n (q := 25) 1 dX11_image_24 rfl rfl rfl ?_
        replace H := bs H; obtain ⟨h7, h7e, H⟩ := H
        refine v_new (r := (RX3, TX3, 8)) (ci := 3) (q := 28) dX11_image_25 rfl w0389 w0275 w0143 rfl ?_
        rw [Option.some.inj h7e]
        refine v_dup (q := 29) dX11_image_28 rfl rfl ?_
        replace H := bs H; obtain ⟨x8, x8e, H⟩ := H
        refine u_callI (M' := mX3_init) (d' := 2) (As := []) (st := [.ref (hN h), .int v1, .ref x6]) (q := 32) oX3_init dX11_image_29 rfl rfl w0482 w0277 rfl (Nat.le_of_ble_eq_true rfl) (Nat.le_of_ble_eq_true rfl) (Nat.lt_of_lt_of_le (by decide) hd) rfl (sX3_init (Nat.le_refl _) x8e) rfl ?_
        replace H := bs H; obtain ⟨h9, h9e, H⟩ := H
        refine u_tR (q := 33) h9e dX11_image_32 rfl ?_
        exact V.sub [0, 1] rfl (sjX11_image_33 hd H)
      · refine v_ifnonnull (q := 33) dX11_image_17 (by decide) ?_
        exact V.sub [0, 1] rfl (sjX11_image_33 hd H)
    · replace H := ine c2 H
      exact V.sub [] rfl (sjX11_image_9 hd H)
def mX6_init : MI := (yX6_init, cX6_init, 1, none)
theorem oX6_init : mOK mX6_init 0 := ⟨by decide +kernel, by decide +kernel, by decide +kernel, by decide, w0172, w0140⟩
def fX6_init (h : Hp) (v0 : Nat) : Option (Hp) :=
(pI h 6 v0 1 (-1 : Int32)).bind fun h1 =>
(nA h1 .byte (0 : Int32)).bind fun h2 =>
(pR h2 6 v0 2 (hN h1)).bind fun h3 =>
(nA h3 .int (24 : Int32)).bind fun h4 =>
(pR h4 6 v0 9 (hN h3)).bind fun h5 =>
(nA h5 .int (24 : Int32)).bind fun h6 =>
(pR h6 6 v0 10 (hN h5)).bind fun h7 =>
(nA h7 .int (24 : Int32)).bind fun h8 =>
(pR h8 6 v0 11 (hN h7)).bind fun h9 =>
(nA h9 .int (24 : Int32)).bind fun h10 =>
(pR h10 6 v0 12 (hN h9)).bind fun h11 =>
some h11
set_option maxRecDepth 20000 in
set_option maxHeartbeats 4000000 in
theorem sX6_init {Γ : Gm} {d : Nat} (hd : 1 ≤ d) {h : Hp} {v0 : Nat} {r : Hp} (H : fX6_init h v0 = some r) : V Γ d mX6_init 0 [(0, .ref v0)] [] h (none, r) := by
  unfold fX6_init at H
  refine v_aload_n (q := 1) 0 dX6_init_0 rfl rfl rfl ?_
  refine v_obj (q := 4) dX6_init_1 w0173 w0166 w0167 (Nat.le_of_ble_eq_true rfl) (Nat.lt_of_lt_of_le (by decide) hd) rfl ?_
  refine v_aload_n (q := 5) 0 dX6_init_4 rfl rfl rfl ?_
  refine v_iconst (v := -1) (q := 6) dX6_init_5 (by decide) rfl ?_
  replace H := bs H; obtain ⟨h1, h1e, H⟩ := H
  refine u_pI (q := 9) (r := (RX6, TX6, 13)) h1e dX6_init_6 w0176 rfl (by decide) (Or.inl rfl) rfl rfl ?_
  refine v_aload_n (q := 10) 0 dX6_init_9 rfl rfl rfl ?_
  refine v_iconst (v := 0) (q := 11) dX6_init_10 (by decide) rfl ?_
  replace H := bs H; obtain ⟨h2, h2e, H⟩ := H
  refine u_nA (q := 13) (ty := .byte) rfl (by decide) w0216 h2e dX6_init_11 rfl ?_
  replace H := bs H; obtain ⟨h3, h3e, H⟩ := H
  refine u_pR (q := 16) (r := (RX6, TX6, 13)) h3e dX6_init_13 w0178 rfl (by decide) (Or.inl rfl) rfl rfl ?_
  refine v_aload_n (q := 17) 0 dX6_init_16 rfl rfl rfl ?_
  refine v_bipush (v := 24) (q := 19) dX6_init_17 (by decide) rfl ?_
  replace H := bs H; obtain ⟨h4, h4e, H⟩ := H
  refine u_nA (q := 21) (ty := .int) rfl (by decide) w0217 h4e dX6_init_19 rfl ?_
  replace H := bs H; obtain ⟨h5, h5e, H⟩ := H
  refine u_pR (q := 24) (r := (RX6, TX6, 13)) h5e dX6_init_21 w0185 rfl (by decide) (Or.inr ⟨rfl, rfl, rfl⟩) rfl rfl ?_
  refine v_aload_n (q := 25) 0 dX6_init_24 rfl rfl rfl ?_
  refine v_bipush (v := 24) (q := 27) dX6_init_25 (by decide) rfl ?_
  replace H := bs H; obtain ⟨h6, h6e, H⟩ := H
  refine u_nA (q := 29) (ty := .int) rfl (by decide) w0217 h6e dX6_init_27 rfl ?_
  replace H := bs H; obtain ⟨h7, h7e, H⟩ := H
  refine u_pR (q := 32) (r := (RX6, TX6, 13)) h7e dX6_init_29 w0186 rfl (by decide) (Or.inr ⟨rfl, rfl, rfl⟩) rfl rfl ?_
  refine v_aload_n (q := 33) 0 dX6_init_32 rfl rfl rfl ?_
  refine v_bipush (v := 24) (q := 35) dX6_init_33 (by decide) rfl ?_
  replace H := bs H; obtain ⟨h8, h8e, H⟩ := H
  refine u_nA (q := 37) (ty := .int) rfl (by decide) w0217 h8e dX6_init_35 rfl ?_
  replace H := bs H; obtain ⟨h9, h9e, H⟩ := H
  refine u_pR (q := 40) (r := (RX6, TX6, 13)) h9e dX6_init_37 w0187 rfl (by decide) (Or.inr ⟨rfl, rfl, rfl⟩) rfl rfl ?_
  refine v_aload_n (q := 41) 0 dX6_init_40 rfl rfl rfl ?_
  refine v_bipush (v := 24) (q := 43) dX6_init_41 (by decide) rfl ?_
  replace H := bs H; obtain ⟨h10, h10e, H⟩ := H
  refine u_nA (q := 45) (ty := .int) rfl (by decide) w0217 h10e dX6_init_43 rfl ?_
  replace H := bs H; obtain ⟨h11, h11e, H⟩ := H
  refine u_pR (q := 48) (r := (RX6, TX6, 13)) h11e dX6_init_45 w0188 rfl (by decide) (Or.inr ⟨rfl, rfl, rfl⟩) rfl rfl ?_
  cases H
  exact v_return rfl dX6_init_48
def mX5_init : MI := (yX5_init, cX5_init, 1, none)
theorem oX5_init : mOK mX5_init 0 := ⟨by decide +kernel, by decide +kernel, by decide +kernel, by decide, w0222, w0141⟩
def fX5_init (h : Hp) (v0 : Nat) : Option (Hp) :=
(nA h .int (10 : Int32)).bind fun h1 =>
(pR h1 5 v0 3 (hN h)).bind fun h2 =>
(nA h2 .int (6 : Int32)).bind fun h3 =>
(pR h3 5 v0 4 (hN h2)).bind fun h4 =>
(nA h4 .int (6 : Int32)).bind fun h5 =>
(pR h5 5 v0 5 (hN h4)).bind fun h6 =>
(nA h6 .int (72 : Int32)).bind fun h7 =>
(pR h7 5 v0 6 (hN h6)).bind fun h8 =>
some h8
set_option maxRecDepth 20000 in
set_option maxHeartbeats 4000000 in
theorem sX5_init {Γ : Gm} {d : Nat} (hd : 1 ≤ d) {h : Hp} {v0 : Nat} {r : Hp} (H : fX5_init h v0 = some r) : V Γ d mX5_init 0 [(0, .ref v0)] [] h (none, r) := by
  unfold fX5_init at H
  refine v_aload_n (q := 1) 0 dX5_init_0 rfl rfl rfl ?_
  refine v_obj (q := 4) dX5_init_1 w0223 w0166 w0167 (Nat.le_of_ble_eq_true rfl) (Nat.lt_of_lt_of_le (by decide) hd) rfl ?_
  refine v_aload_n (q := 5) 0 dX5_init_4 rfl rfl rfl ?_
  refine v_bipush (v := 10) (q := 7) dX5_init_5 (by decide) rfl ?_
  replace H := bs H; obtain ⟨h1, h1e, H⟩ := H
  refine u_nA (q := 9) (ty := .int) rfl (by decide) w0217 h1e dX5_init_7 rfl ?_
  replace H := bs H; obtain ⟨h2, h2e, H⟩ := H
  refine u_pR (q := 12) (r := (RX5, TX5, 7)) h2e dX5_init_9 w0235 rfl (by decide) (Or.inr ⟨rfl, rfl, rfl⟩) rfl rfl ?_
  refine v_aload_n (q := 13) 0 dX5_init_12 rfl rfl rfl ?_
  refine v_bipush (v := 6) (q := 15) dX5_init_13 (by decide) rfl ?_
  replace H := bs H; obtain ⟨h3, h3e, H⟩ := H
  refine u_nA (q := 17) (ty := .int) rfl (by decide) w0217 h3e dX5_init_15 rfl ?_
  replace H := bs H; obtain ⟨h4, h4e, H⟩ := H
  refine u_pR (q := 20) (r := (RX5, TX5, 7)) h4e dX5_init_17 w0239 rfl (by decide) (Or.inr ⟨rfl, rfl, rfl⟩) rfl rfl ?_
  refine v_aload_n (q := 21) 0 dX5_init_20 rfl rfl rfl ?_
  refine v_bipush (v := 6) (q := 23) dX5_init_21 (by decide) rfl ?_
  replace H := bs H; obtain ⟨h5, h5e, H⟩ := H
  refine u_nA (q := 25) (ty := .int) rfl (by decide) w0217 h5e dX5_init_23 rfl ?_
  replace H := bs H; obtain ⟨h6, h6e, H⟩ := H
  refine u_pR (q := 28) (r := (RX5, TX5, 7)) h6e dX5_init_25 w0244 rfl (by decide) (Or.inr ⟨rfl, rfl, rfl⟩) rfl rfl ?_
  refine v_aload_n (q := 29) 0 dX5_init_28 rfl rfl rfl ?_
  refine v_bipush (v := 72) (q := 31) dX5_init_29 (by decide) rfl ?_
  replace H := bs H; obtain ⟨h7, h7e, H⟩ := H
  refine u_nA (q := 33) (ty := .int) rfl (by decide) w0217 h7e dX5_init_31 rfl ?_
  replace H := bs H; obtain ⟨h8, h8e, H⟩ := H
  refine u_pR (q := 36) (r := (RX5, TX5, 7)) h8e dX5_init_33 w0249 rfl (by decide) (Or.inr ⟨rfl, rfl, rfl⟩) rfl rfl ?_
  cases H
  exact v_return rfl dX5_init_36
def mX2_init : MI := (yX2_init, cX2_init, 1, none)
theorem oX2_init : mOK mX2_init 0 := ⟨by decide +kernel, by decide +kernel, by decide +kernel, by decide, w0271, w0142⟩
def fX2_init (h : Hp) (v0 : Nat) : Option (Hp) :=
(nA h (.object RX3) (13 : Int32)).bind fun h1 =>
(pR h1 2 v0 2 (hN h)).bind fun h2 =>
(gR h2 2 v0 2).bind fun x3 =>
(some (nw h2 (.inl 3))).bind fun h4 =>
(fX3_init h4 (hN h2)).bind fun x5 =>
(tR x5 x3 (0 : Int32) (hN h2)).bind fun h6 =>
some h6
set_option maxRecDepth 20000 in
set_option maxHeartbeats 4000000 in
theorem sX2_init {Γ : Gm} {d : Nat} (hd : 3 ≤ d) {h : Hp} {v0 : Nat} {r : Hp} (H : fX2_init h v0 = some r) : V Γ d mX2_init 0 [(0, .ref v0)] [] h (none, r) := by
  unfold fX2_init at H
  refine v_aload_n (q := 1) 0 dX2_init_0 rfl rfl rfl ?_
  refine v_obj (q := 4) dX2_init_1 w0272 w0166 w0167 (Nat.le_of_ble_eq_true rfl) (Nat.lt_of_lt_of_le (by decide) hd) rfl ?_
  refine v_aload_n (q := 5) 0 dX2_init_4 rfl rfl rfl ?_
  refine v_bipush (v := 13) (q := 7) dX2_init_5 (by decide) rfl ?_
  replace H := bs H; obtain ⟨h1, h1e, H⟩ := H
  refine u_nR (q := 10) w0273 h1e dX2_init_7 rfl ?_
  replace H := bs H; obtain ⟨h2, h2e, H⟩ := H
  refine u_pR (q := 13) (r := (RX2, TX2, 3)) h2e dX2_init_10 w0381 rfl (by decide) (Or.inr ⟨rfl, rfl, rfl⟩) rfl rfl ?_
  refine v_aload_n (q := 14) 0 dX2_init_13 rfl rfl rfl ?_
  replace H := bs H; obtain ⟨x3, x3e, H⟩ := H
  refine u_gR (q := 17) (r := (RX2, TX2, 3)) x3e dX2_init_14 w0381 rfl (by decide) rfl rfl ?_
  refine v_iconst (v := 0) (q := 18) dX2_init_17 (by decide) rfl ?_
  replace H := bs H; obtain ⟨h4, h4e, H⟩ := H
  refine v_new (r := (RX3, TX3, 8)) (ci := 3) (q := 21) dX2_init_18 rfl w0273 w0275 w0143 rfl ?_
  rw [Option.some.inj h4e]
  refine v_dup (q := 22) dX2_init_21 rfl rfl ?_
  replace H := bs H; obtain ⟨x5, x5e, H⟩ := H
  refine u_callI (M' := mX3_init) (d' := 2) (As := []) (st := [.ref (hN h2), .int (0 : Int32), .ref x3]) (q := 25) oX3_init dX2_init_22 rfl rfl w0276 w0277 rfl (Nat.le_of_ble_eq_true rfl) (Nat.le_of_ble_eq_true rfl) (Nat.lt_of_lt_of_le (by decide) hd) rfl (sX3_init (Nat.le_refl _) x5e) rfl ?_
  replace H := bs H; obtain ⟨h6, h6e, H⟩ := H
  refine u_tR (q := 26) h6e dX2_init_25 rfl ?_
  cases H
  exact v_return rfl dX2_init_26
def mX9_init : MI := (yX9_init, cX9_init, 1, none)
theorem oX9_init : mOK mX9_init 0 := ⟨by decide +kernel, by decide +kernel, by decide +kernel, by decide, w0419, w0147⟩
def fX9_init (h : Hp) (v0 : Nat) : Option (Hp) :=
(some (nw h (.inl 10))).bind fun h1 =>
(fX10_init h1 (hN h)).bind fun x2 =>
(pR x2 9 v0 0 (hN h)).bind fun h3 =>
(nA h3 .int (10 : Int32)).bind fun h4 =>
(pR h4 9 v0 8 (hN h3)).bind fun h5 =>
(nA h5 .int (10 : Int32)).bind fun h6 =>
(pR h6 9 v0 9 (hN h5)).bind fun h7 =>
some h7
set_option maxRecDepth 20000 in
set_option maxHeartbeats 4000000 in
theorem sX9_init {Γ : Gm} {d : Nat} (hd : 2 ≤ d) {h : Hp} {v0 : Nat} {r : Hp} (H : fX9_init h v0 = some r) : V Γ d mX9_init 0 [(0, .ref v0)] [] h (none, r) := by
  unfold fX9_init at H
  refine v_aload_n (q := 1) 0 dX9_init_0 rfl rfl rfl ?_
  refine v_obj (q := 4) dX9_init_1 w0420 w0166 w0167 (Nat.le_of_ble_eq_true rfl) (Nat.lt_of_lt_of_le (by decide) hd) rfl ?_
  refine v_aload_n (q := 5) 0 dX9_init_4 rfl rfl rfl ?_
  replace H := bs H; obtain ⟨h1, h1e, H⟩ := H
  refine v_new (r := (RX10, TX10, 3)) (ci := 10) (q := 8) dX9_init_5 rfl w0421 w0391 w0146 rfl ?_
  rw [Option.some.inj h1e]
  refine v_dup (q := 9) dX9_init_8 rfl rfl ?_
  replace H := bs H; obtain ⟨x2, x2e, H⟩ := H
  refine u_callI (M' := mX10_init) (d' := 1) (As := []) (st := [.ref (hN h), .ref v0]) (q := 12) oX10_init dX9_init_9 rfl rfl w0422 w0393 rfl (Nat.le_of_ble_eq_true rfl) (Nat.le_of_ble_eq_true rfl) (Nat.lt_of_lt_of_le (by decide) hd) rfl (sX10_init (Nat.le_refl _) x2e) rfl ?_
  replace H := bs H; obtain ⟨h3, h3e, H⟩ := H
  refine u_pR (q := 15) (r := (RX9, TX9, 10)) h3e dX9_init_12 w0423 rfl (by decide) (Or.inr ⟨rfl, rfl, rfl⟩) rfl rfl ?_
  refine v_aload_n (q := 16) 0 dX9_init_15 rfl rfl rfl ?_
  refine v_bipush (v := 10) (q := 18) dX9_init_16 (by decide) rfl ?_
  replace H := bs H; obtain ⟨h4, h4e, H⟩ := H
  refine u_nA (q := 20) (ty := .int) rfl (by decide) w0217 h4e dX9_init_18 rfl ?_
  replace H := bs H; obtain ⟨h5, h5e, H⟩ := H
  refine u_pR (q := 23) (r := (RX9, TX9, 10)) h5e dX9_init_20 w0431 rfl (by decide) (Or.inr ⟨rfl, rfl, rfl⟩) rfl rfl ?_
  refine v_aload_n (q := 24) 0 dX9_init_23 rfl rfl rfl ?_
  refine v_bipush (v := 10) (q := 26) dX9_init_24 (by decide) rfl ?_
  replace H := bs H; obtain ⟨h6, h6e, H⟩ := H
  refine u_nA (q := 28) (ty := .int) rfl (by decide) w0217 h6e dX9_init_26 rfl ?_
  replace H := bs H; obtain ⟨h7, h7e, H⟩ := H
  refine u_pR (q := 31) (r := (RX9, TX9, 10)) h7e dX9_init_28 w0432 rfl (by decide) (Or.inr ⟨rfl, rfl, rfl⟩) rfl rfl ?_
  cases H
  exact v_return rfl dX9_init_31
def mX11_least : MI := (yX11_least, cX11_least, 1, some .int)
theorem oX11_least : mOK mX11_least 0 := ⟨by decide +kernel, by decide +kernel, by decide +kernel, by decide, w1259, w0139⟩
def fX11_least (h : Hp) (v0 : Nat) : Option (Int32 × Hp) :=
(gR h 11 v0 13).bind fun x1 =>
(gR h 11 v0 3).bind fun x2 =>
(gR h 11 v0 5).bind fun x3 =>
(gO h 2 x3).bind fun _ =>
(fX2_present h x3).bind fun x5 =>
(gR h 3 x5 0).bind fun x6 =>
(gO h 0 x1).bind fun _ =>
(fX0_leastSet h x1 x2 x6).bind fun x8 =>
some (x8.1, x8.2)
set_option maxRecDepth 20000 in
set_option maxHeartbeats 4000000 in
theorem sX11_least {Γ : Gm} {d : Nat} (hd : 8 ≤ d) {h : Hp} {v0 : Nat} {r : Int32 × Hp} (H : fX11_least h v0 = some r) : V Γ d mX11_least 0 [(0, .ref v0)] [] h (some (.int r.1), r.2) := by
  unfold fX11_least at H
  refine v_aload_n (q := 1) 0 dX11_least_0 rfl rfl rfl ?_
  replace H := bs H; obtain ⟨x1, x1e, H⟩ := H
  refine u_gR (q := 4) (r := (RX11, TX11, 14)) x1e dX11_least_1 w0534 rfl (by decide) rfl rfl ?_
  refine v_aload_n (q := 5) 0 dX11_least_4 rfl rfl rfl ?_
  replace H := bs H; obtain ⟨x2, x2e, H⟩ := H
  refine u_gR (q := 8) (r := (RX11, TX11, 14)) x2e dX11_least_5 w0524 rfl (by decide) rfl rfl ?_
  refine v_aload_n (q := 9) 0 dX11_least_8 rfl rfl rfl ?_
  replace H := bs H; obtain ⟨x3, x3e, H⟩ := H
  refine u_gR (q := 12) (r := (RX11, TX11, 14)) x3e dX11_least_9 w0526 rfl (by decide) rfl rfl ?_
  replace H := bs H; obtain ⟨_, o4, H⟩ := H
  replace H := bs H; obtain ⟨x5, x5e, H⟩ := H
  refine u_callV1 (M' := mX2_present) (d' := 1) (rc := (RX2, TX2, 3)) (As := []) (st := [.ref x2, .ref x1]) (q := 15) oX2_present dX11_least_12 w0701 w0702 w0703 rfl rfl (gO_sp o4).1 (gO_sp o4).2 rfl (Nat.le_of_ble_eq_true rfl) (Nat.le_of_ble_eq_true rfl) (Nat.lt_of_lt_of_le (by decide) hd) rfl (sX2_present (Nat.le_refl _) x5e) rfl ?_
  replace H := bs H; obtain ⟨x6, x6e, H⟩ := H
  refine u_gR (q := 18) (r := (RX3, TX3, 8)) x6e dX11_least_15 w0341 rfl (by decide) rfl rfl ?_
  replace H := bs H; obtain ⟨_, o7, H⟩ := H
  replace H := bs H; obtain ⟨x8, x8e, H⟩ := H
  refine u_callV1 (M' := mX0_leastSet) (d' := 7) (rc := (RX0, TX0, 9)) (As := [.ref x2, .ref x6]) (st := []) (q := 21) oX0_leastSet dX11_least_18 w1260 w1261 w1262 rfl rfl (gO_sp o7).1 (gO_sp o7).2 rfl (Nat.le_of_ble_eq_true rfl) (Nat.le_of_ble_eq_true rfl) (Nat.lt_of_lt_of_le (by decide) hd) rfl (sX0_leastSet (Nat.le_refl _) x8e) rfl ?_
  cases H
  exact v_ireturn rfl dX11_least_21
def mX11_leastOf : MI := (yX11_leastOf, cX11_leastOf, 1, some .int)
theorem oX11_leastOf : mOK mX11_leastOf 1 := ⟨by decide +kernel, by decide +kernel, by decide +kernel, by decide, w1041, w0139⟩
def fX11_leastOf (h : Hp) (v0 : Int32) : Option (Int32) :=
(fJ6_bitCount_0f7a4 h ((v0 &&& (-v0)) - (1 : Int32))).bind fun x1 =>
some x1
set_option maxRecDepth 20000 in
set_option maxHeartbeats 4000000 in
theorem sX11_leastOf {Γ : Gm} {d : Nat} (hd : 2 ≤ d) {h : Hp} {v0 : Int32} {r : Int32} (H : fX11_leastOf h v0 = some r) : V Γ d mX11_leastOf 0 [(0, .int v0)] [] h (some (.int r), h) := by
  unfold fX11_leastOf at H
  refine v_iload_n (q := 1) 0 dX11_leastOf_0 rfl rfl rfl ?_
  refine v_iload_n (q := 2) 0 dX11_leastOf_1 rfl rfl rfl ?_
  refine v_ineg (q := 3) dX11_leastOf_2 rfl ?_
  refine v_iand (q := 4) dX11_leastOf_3 rfl ?_
  refine v_iconst (v := 1) (q := 5) dX11_leastOf_4 (by decide) rfl ?_
  refine v_isub (q := 6) dX11_leastOf_5 rfl ?_
  replace H := bs H; obtain ⟨x1, x1e, H⟩ := H
  refine u_callS1 (M' := mJ6_bitCount_0f7a4) (d' := 1) (As := [.int ((v0 &&& (-v0)) - (1 : Int32))]) (st := []) (q := 9) oJ6_bitCount_0f7a4 dX11_leastOf_6 w1042 w0866 rfl (Nat.le_of_ble_eq_true rfl) (Nat.le_of_ble_eq_true rfl) (Nat.lt_of_lt_of_le (by decide) hd) rfl (sJ6_bitCount_0f7a4 (Nat.le_refl _) x1e) rfl ?_
  cases H
  exact v_ireturn rfl dX11_leastOf_9
def mX5_hasLock : MI := (yX5_hasLock, cX5_hasLock, 2, some .boolean)
theorem oX5_hasLock : mOK mX5_hasLock 1 := ⟨by decide +kernel, by decide +kernel, by decide +kernel, by decide, w0946, w0141⟩
def jX5_hasLock_17 (y0 : Int32) (h : Hp) : Option (Int32) :=
(bz y0).bind fun x2 =>
some x2
set_option maxRecDepth 20000 in
set_option maxHeartbeats 4000000 in
theorem sjX5_hasLock_17 {Γ : Gm} {d : Nat} (hd : 1 ≤ d) {y0 : Int32} {h : Hp} {r : Int32} (H : jX5_hasLock_17 y0 h = some r) : V Γ d mX5_hasLock 17 [] [.int y0] h (some (.int r), h) := by
  unfold jX5_hasLock_17 at H
  replace H := bs H; obtain ⟨x2, x2e, H⟩ := H
  obtain ⟨x2q, x2z⟩ := bz_sp x2e
  refine v_topi x2q.symm ?_
  cases H
  exact v_zreturn rfl (by rw [x2q]; exact x2z) dX5_hasLock_17
def jX5_hasLock_16 (h : Hp) : Option (Int32) :=
jX5_hasLock_17 (0 : Int32) h
set_option maxRecDepth 20000 in
set_option maxHeartbeats 4000000 in
theorem sjX5_hasLock_16 {Γ : Gm} {d : Nat} (hd : 1 ≤ d) {h : Hp} {r : Int32} (H : jX5_hasLock_16 h = some r) : V Γ d mX5_hasLock 16 [] [] h (some (.int r), h) := by
  unfold jX5_hasLock_16 at H
  refine v_iconst (v := 0) (q := 17) dX5_hasLock_16 (by decide) rfl ?_
  exact V.sub [] rfl (sjX5_hasLock_17 hd H)
def fX5_hasLock (h : Hp) (v0 : Nat) (v1 : Int32) : Option (Int32) :=
if v1 < 0 then (
jX5_hasLock_16 h) else (
(gI h 5 v0 1).bind fun x3 =>
if x3 ≤ v1 then (
jX5_hasLock_16 h) else (
jX5_hasLock_17 (1 : Int32) h))
set_option maxRecDepth 20000 in
set_option maxHeartbeats 4000000 in
theorem sX5_hasLock {Γ : Gm} {d : Nat} (hd : 1 ≤ d) {h : Hp} {v0 : Nat} {v1 : Int32} {r : Int32} (H : fX5_hasLock h v0 v1 = some r) : V Γ d mX5_hasLock 0 [(0, .ref v0), (1, .int v1)] [] h (some (.int r), h) := by
  unfold fX5_hasLock at H
  refine v_iload_n (q := 1) 1 dX5_hasLock_0 rfl rfl rfl ?_
  refine v_if_lt (q1 := 16) (q2 := 4) dX5_hasLock_1 (by decide) rfl (fun c1 => ?_) (fun c1 => ?_)
  · replace H := ip c1 H
    exact V.sub [] rfl (sjX5_hasLock_16 hd H)
  · replace H := ine c1 H
    refine v_iload_n (q := 5) 1 dX5_hasLock_4 rfl rfl rfl ?_
    refine v_aload_n (q := 6) 0 dX5_hasLock_5 rfl rfl rfl ?_
    replace H := bs H; obtain ⟨x3, x3e, H⟩ := H
    refine u_gI (q := 9) (r := (RX5, TX5, 7)) x3e dX5_hasLock_6 w0227 rfl (by decide) rfl rfl ?_
    refine v_icmp_ge (q1 := 16) (q2 := 12) dX5_hasLock_9 (by decide) rfl (fun c4 => ?_) (fun c4 => ?_)
    · replace H := ip c4 H
      exact V.sub [] rfl (sjX5_hasLock_16 hd H)
    · replace H := ine c4 H
      refine v_iconst (v := 1) (q := 13) dX5_hasLock_12 (by decide) rfl ?_
      refine v_goto (q := 17) dX5_hasLock_13 (by decide) ?_
      exact V.sub [] rfl (sjX5_hasLock_17 hd H)
def mX11_lock : MI := (yX11_lock, cX11_lock, 2, some .int)
theorem oX11_lock : mOK mX11_lock 1 := ⟨by decide +kernel, by decide +kernel, by decide +kernel, by decide, w0942, w0139⟩
def jX11_lock_24 (y0 : Int32) (h : Hp) : Option (Int32) :=
some y0
set_option maxRecDepth 20000 in
set_option maxHeartbeats 4000000 in
theorem sjX11_lock_24 {Γ : Gm} {d : Nat} (hd : 2 ≤ d) {y0 : Int32} {h : Hp} {r : Int32} (H : jX11_lock_24 y0 h = some r) : V Γ d mX11_lock 24 [] [.int y0] h (some (.int r), h) := by
  unfold jX11_lock_24 at H
  cases H
  exact v_ireturn rfl dX11_lock_24
def fX11_lock (h : Hp) (v0 : Nat) (v1 : Int32) : Option (Int32) :=
(gR h 11 v0 3).bind fun x1 =>
(gO h 5 x1).bind fun _ =>
(fX5_hasLock h x1 v1).bind fun x3 =>
if x3 = 0 then (
jX11_lock_24 (-1 : Int32) h) else (
(gR h 11 v0 3).bind fun x5 =>
(gR h 5 x5 3).bind fun x6 =>
(lI h .int x6 v1).bind fun x7 =>
jX11_lock_24 x7 h)
set_option maxRecDepth 20000 in
set_option maxHeartbeats 4000000 in
theorem sX11_lock {Γ : Gm} {d : Nat} (hd : 2 ≤ d) {h : Hp} {v0 : Nat} {v1 : Int32} {r : Int32} (H : fX11_lock h v0 v1 = some r) : V Γ d mX11_lock 0 [(0, .ref v0), (1, .int v1)] [] h (some (.int r), h) := by
  unfold fX11_lock at H
  refine v_aload_n (q := 1) 0 dX11_lock_0 rfl rfl rfl ?_
  replace H := bs H; obtain ⟨x1, x1e, H⟩ := H
  refine u_gR (q := 4) (r := (RX11, TX11, 14)) x1e dX11_lock_1 w0524 rfl (by decide) rfl rfl ?_
  refine v_iload_n (q := 5) 1 dX11_lock_4 rfl rfl rfl ?_
  replace H := bs H; obtain ⟨_, o2, H⟩ := H
  replace H := bs H; obtain ⟨x3, x3e, H⟩ := H
  refine u_callV1 (M' := mX5_hasLock) (d' := 1) (rc := (RX5, TX5, 7)) (As := [.int v1]) (st := []) (q := 8) oX5_hasLock dX11_lock_5 w0943 w0944 w0945 rfl rfl (gO_sp o2).1 (gO_sp o2).2 rfl (Nat.le_of_ble_eq_true rfl) (Nat.le_of_ble_eq_true rfl) (Nat.lt_of_lt_of_le (by decide) hd) rfl (sX5_hasLock (Nat.le_refl _) x3e) rfl ?_
  refine v_if_eq (q1 := 23) (q2 := 11) dX11_lock_8 (by decide) rfl (fun c4 => ?_) (fun c4 => ?_)
  · replace H := ip c4 H
    refine v_iconst (v := -1) (q := 24) dX11_lock_23 (by decide) rfl ?_
    exact V.sub [] rfl (sjX11_lock_24 hd H)
  · replace H := ine c4 H
    refine v_aload_n (q := 12) 0 dX11_lock_11 rfl rfl rfl ?_
    replace H := bs H; obtain ⟨x5, x5e, H⟩ := H
    refine u_gR (q := 15) (r := (RX11, TX11, 14)) x5e dX11_lock_12 w0524 rfl (by decide) rfl rfl ?_
    replace H := bs H; obtain ⟨x6, x6e, H⟩ := H
    refine u_gR (q := 18) (r := (RX5, TX5, 7)) x6e dX11_lock_15 w0238 rfl (by decide) rfl rfl ?_
    refine v_iload_n (q := 19) 1 dX11_lock_18 rfl rfl rfl ?_
    replace H := bs H; obtain ⟨x7, x7e, H⟩ := H
    refine u_lI (q := 20) x7e dX11_lock_19 rfl ?_
    refine v_goto (q := 24) dX11_lock_20 (by decide) ?_
    exact V.sub [] rfl (sjX11_lock_24 hd H)
def mX4_hasRing : MI := (yX4_hasRing, cX4_hasRing, 5, some .boolean)
theorem oX4_hasRing : mOK mX4_hasRing 0 := ⟨by decide +kernel, by decide +kernel, by decide +kernel, by decide, w1015, w0148⟩
def jX4_hasRing_51 (u0 : Nat) (u1 : Int32) (u2 : Int32) (v3 : Int32) (v4 : Int32) (h : Hp) : Option ((Int32 × Int32) ⊕ (Int32)) :=
(some (v4 + (1 : Int32))).bind fun x4 =>
some (.inl (v3, x4))
set_option maxRecDepth 20000 in
set_option maxHeartbeats 4000000 in
theorem sjX4_hasRing_51 {Γ : Gm} {d : Nat} (hd : 1 ≤ d) {u0 : Nat} {u1 : Int32} {u2 : Int32} {v3 : Int32} {v4 : Int32} {h : Hp} {r : (Int32 × Int32) ⊕ (Int32)} {t : Option Value × Hp} (H : jX4_hasRing_51 u0 u1 u2 v3 v4 h = some r) (kI : ∀ s, r = .inl s → (fun s16 => V Γ d mX4_hasRing 16 [(0, .ref u0), (1, .int u1), (2, .int u2), (3, .int s16.1), (4, .int s16.2)] [] h t) s) (kE : ∀ e, r = .inr e → (fun e => V Γ d mX4_hasRing 57 [(0, .ref u0), (1, .int u1), (2, .int u2), (3, .int e)] [] h t) e) : V Γ d mX4_hasRing 51 [(0, .ref u0), (1, .int u1), (2, .int u2), (3, .int v3), (4, .int v4)] [] h t := by
  unfold jX4_hasRing_51 at H
  replace H := bs H; obtain ⟨x4, x4e, H⟩ := H
  refine v_iinc (v := x4) (L' := [(4, .int x4), (0, .ref u0), (1, .int u1), (2, .int u2), (3, .int v3)]) (q := 54) 4 dX4_hasRing_51 rfl (Option.some.inj x4e) (by decide) rfl rfl ?_
  refine v_goto (q := 16) dX4_hasRing_54 (by decide) ?_
  exact V.sub [1, 2, 3, 4, 0] rfl (kI (v3, x4) (Option.some.inj H).symm)
def bX4_hasRing_16 (u0 : Nat) (u1 : Int32) (u2 : Int32) (h : Hp) (s16 : Int32 × Int32) : Option ((Int32 × Int32) ⊕ (Int32)) :=
if (16 : Int32) ≤ s16.2 then (
some (.inr s16.1)) else (
if ((u1 >>> (s16.2 &&& 31)) &&& (1 : Int32)) = 0 then (
jX4_hasRing_51 u0 u1 u2 s16.1 s16.2 h) else (
(gR h 4 u0 3).bind fun x5 =>
(lI h .int x5 s16.2).bind fun x6 =>
if (x6 &&& u1) = 0 then (
jX4_hasRing_51 u0 u1 u2 s16.1 s16.2 h) else (
(some (s16.1 ||| ((1 : Int32) <<< (s16.2 &&& 31)))).bind fun x8 =>
jX4_hasRing_51 u0 u1 u2 x8 s16.2 h)))
set_option maxRecDepth 20000 in
set_option maxHeartbeats 4000000 in
theorem sbX4_hasRing_16 {Γ : Gm} {d : Nat} (hd : 1 ≤ d) {u0 : Nat} {u1 : Int32} {u2 : Int32} {h : Hp} {s16 : Int32 × Int32} {r : (Int32 × Int32) ⊕ (Int32)} {t : Option Value × Hp} (H : bX4_hasRing_16 u0 u1 u2 h s16 = some r) (kI : ∀ s, r = .inl s → (fun s16 => V Γ d mX4_hasRing 16 [(0, .ref u0), (1, .int u1), (2, .int u2), (3, .int s16.1), (4, .int s16.2)] [] h t) s) (kE : ∀ e, r = .inr e → (fun e => V Γ d mX4_hasRing 57 [(0, .ref u0), (1, .int u1), (2, .int u2), (3, .int e)] [] h t) e) : V Γ d mX4_hasRing 16 [(0, .ref u0), (1, .int u1), (2, .int u2), (3, .int s16.1), (4, .int s16.2)] [] h t := by
  unfold bX4_hasRing_16 at H
  refine v_iload (q := 18) 4 dX4_hasRing_16 rfl rfl ?_
  refine v_bipush (v := 16) (q := 20) dX4_hasRing_18 (by decide) rfl ?_
  refine v_icmp_ge (q1 := 57) (q2 := 23) dX4_hasRing_20 (by decide) rfl (fun c2 => ?_) (fun c2 => ?_)
  · replace H := ip c2 H
    exact V.sub [0, 1, 2, 3] rfl (kE s16.1 (Option.some.inj H).symm)
  · replace H := ine c2 H
    refine v_iload_n (q := 24) 1 dX4_hasRing_23 rfl rfl rfl ?_
    refine v_iload (q := 26) 4 dX4_hasRing_24 rfl rfl ?_
    refine v_ishr (q := 27) dX4_hasRing_26 rfl ?_
    refine v_iconst (v := 1) (q := 28) dX4_hasRing_27 (by decide) rfl ?_
    refine v_iand (q := 29) dX4_hasRing_28 rfl ?_
    refine v_if_eq (q1 := 51) (q2 := 32) dX4_hasRing_29 (by decide) rfl (fun c3 => ?_) (fun c3 => ?_)
    · replace H := ip c3 H
      exact V.sub [0, 1, 2, 3, 4] rfl (sjX4_hasRing_51 hd H kI kE)
    · replace H := ine c3 H
      refine v_aload_n (q := 33) 0 dX4_hasRing_32 rfl rfl rfl ?_
      replace H := bs H; obtain ⟨x5, x5e, H⟩ := H
      refine u_gR (q := 36) (r := (RX4, TX4, 5)) x5e dX4_hasRing_33 w0469 rfl (by decide) rfl rfl ?_
      refine v_iload (q := 38) 4 dX4_hasRing_36 rfl rfl ?_
      replace H := bs H; obtain ⟨x6, x6e, H⟩ := H
      refine u_lI (q := 39) x6e dX4_hasRing_38 rfl ?_
      refine v_iload_n (q := 40) 1 dX4_hasRing_39 rfl rfl rfl ?_
      refine v_iand (q := 41) dX4_hasRing_40 rfl ?_
      refine v_if_eq (q1 := 51) (q2 := 44) dX4_hasRing_41 (by decide) rfl (fun c7 => ?_) (fun c7 => ?_)
      · replace H := ip c7 H
        exact V.sub [0, 1, 2, 3, 4] rfl (sjX4_hasRing_51 hd H kI kE)
      · replace H := ine c7 H
        refine v_iload_n (q := 45) 3 dX4_hasRing_44 rfl rfl rfl ?_
        refine v_iconst (v := 1) (q := 46) dX4_hasRing_45 (by decide) rfl ?_
        refine v_iload (q := 48) 4 dX4_hasRing_46 rfl rfl ?_
        refine v_ishl (q := 49) dX4_hasRing_48 rfl ?_
        refine v_ior (q := 50) dX4_hasRing_49 rfl ?_
        replace H := bs H; obtain ⟨x8, x8e, H⟩ := H
        refine v_topi (Option.some.inj x8e) ?_
        refine v_istore_n (L' := [(3, .int x8), (0, .ref u0), (1, .int u1), (2, .int u2), (4, .int s16.2)]) (q := 51) dX4_hasRing_50 rfl (by decide) rfl rfl ?_
        exact V.sub [1, 2, 3, 0, 4] rfl (sjX4_hasRing_51 hd H kI kE)
def bX4_hasRing_5 (u0 : Nat) (h : Hp) (s5 : Int32 × Int32) : Option ((Int32 × Int32) ⊕ ((Int32) ⊕ (Int32))) :=
if (16 : Int32) ≤ s5.2 then (
some (.inr (.inl s5.1))) else (
(lp (bX4_hasRing_16 u0 s5.1 s5.2 h) FU ((0 : Int32), (0 : Int32))).bind fun e9 =>
if e9 = s5.1 then (
some (.inr (.inr s5.1))) else (
(some (s5.2 + (1 : Int32))).bind fun x11 =>
some (.inl (e9, x11))))
set_option maxRecDepth 20000 in
set_option maxHeartbeats 4000000 in
theorem sbX4_hasRing_5 {Γ : Gm} {d : Nat} (hd : 1 ≤ d) {u0 : Nat} {h : Hp} {s5 : Int32 × Int32} {r : (Int32 × Int32) ⊕ ((Int32) ⊕ (Int32))} {t : Option Value × Hp} (H : bX4_hasRing_5 u0 h s5 = some r) (kI : ∀ s, r = .inl s → (fun s5 => V Γ d mX4_hasRing 5 [(0, .ref u0), (1, .int s5.1), (2, .int s5.2)] [] h t) s) (kE : ∀ e, r = .inr e → (fun e => (match e with | .inl a0 => V Γ d mX4_hasRing 80 [(1, .int a0)] [] h t | .inr b0 => V Γ d mX4_hasRing 62 [(1, .int b0)] [] h t)) e) : V Γ d mX4_hasRing 5 [(0, .ref u0), (1, .int s5.1), (2, .int s5.2)] [] h t := by
  unfold bX4_hasRing_5 at H
  refine v_iload_n (q := 6) 2 dX4_hasRing_5 rfl rfl rfl ?_
  refine v_bipush (v := 16) (q := 8) dX4_hasRing_6 (by decide) rfl ?_
  refine v_icmp_ge (q1 := 80) (q2 := 11) dX4_hasRing_8 (by decide) rfl (fun c1 => ?_) (fun c1 => ?_)
  · replace H := ip c1 H
    exact V.sub [1] rfl (kE (.inl s5.1) (Option.some.inj H).symm)
  · replace H := ine c1 H
    refine v_iconst (v := 0) (q := 12) dX4_hasRing_11 (by decide) rfl ?_
    refine v_istore_n (L' := [(3, .int (0 : Int32)), (0, .ref u0), (1, .int s5.1), (2, .int s5.2)]) (q := 13) dX4_hasRing_12 rfl (by decide) rfl rfl ?_
    refine v_iconst (v := 0) (q := 14) dX4_hasRing_13 (by decide) rfl ?_
    refine v_istore (L' := [(4, .int (0 : Int32)), (3, .int (0 : Int32)), (0, .ref u0), (1, .int s5.1), (2, .int s5.2)]) (q := 16) dX4_hasRing_14 (by decide) rfl rfl ?_
    replace H := bs H; obtain ⟨e9, e9L, H⟩ := H
    refine V.sub [2, 3, 4, 1, 0] rfl ?_
    refine lp_V (P := (fun s16 => V Γ d mX4_hasRing 16 [(0, .ref u0), (1, .int s5.1), (2, .int s5.2), (3, .int s16.1), (4, .int s16.2)] [] h t)) (E := (fun e => V Γ d mX4_hasRing 57 [(0, .ref u0), (1, .int s5.1), (2, .int s5.2), (3, .int e)] [] h t)) (fun s r hb kI kE => sbX4_hasRing_16 hd (s16 := s) (r := r) hb kI kE) FU ((0 : Int32), (0 : Int32)) e9 e9L ?_
    refine v_iload_n (q := 58) 3 dX4_hasRing_57 rfl rfl rfl ?_
    refine v_iload_n (q := 59) 1 dX4_hasRing_58 rfl rfl rfl ?_
    refine v_icmp_ne (q1 := 72) (q2 := 62) dX4_hasRing_59 (by decide) rfl (fun c10 => ?_) (fun c10 => ?_)
    · replace H := ine c10 H
      refine v_iload_n (q := 73) 3 dX4_hasRing_72 rfl rfl rfl ?_
      refine v_istore_n (L' := [(1, .int e9), (0, .ref u0), (2, .int s5.2), (3, .int e9)]) (q := 74) dX4_hasRing_73 rfl (by decide) rfl rfl ?_
      replace H := bs H; obtain ⟨x11, x11e, H⟩ := H
      refine v_iinc (v := x11) (L' := [(2, .int x11), (1, .int e9), (0, .ref u0), (3, .int e9)]) (q := 77) 2 dX4_hasRing_74 rfl (Option.some.inj x11e) (by decide) rfl rfl ?_
      refine v_goto (q := 5) dX4_hasRing_77 (by decide) ?_
      exact V.sub [2, 1, 0] rfl (kI (e9, x11) (Option.some.inj H).symm)
    · replace H := ip c10 H
      exact V.sub [1] rfl (kE (.inr s5.1) (Option.some.inj H).symm)
def jX4_hasRing_89 (y0 : Int32) (h : Hp) : Option (Int32) :=
(bz y0).bind fun x16 =>
some x16
set_option maxRecDepth 20000 in
set_option maxHeartbeats 4000000 in
theorem sjX4_hasRing_89 {Γ : Gm} {d : Nat} (hd : 1 ≤ d) {y0 : Int32} {h : Hp} {r : Int32} (H : jX4_hasRing_89 y0 h = some r) : V Γ d mX4_hasRing 89 [] [.int y0] h (some (.int r), h) := by
  unfold jX4_hasRing_89 at H
  replace H := bs H; obtain ⟨x16, x16e, H⟩ := H
  obtain ⟨x16q, x16z⟩ := bz_sp x16e
  refine v_topi x16q.symm ?_
  cases H
  exact v_zreturn rfl (by rw [x16q]; exact x16z) dX4_hasRing_89
def jX4_hasRing_71 (y0 : Int32) (h : Hp) : Option (Int32) :=
(bz y0).bind fun x18 =>
some x18
set_option maxRecDepth 20000 in
set_option maxHeartbeats 4000000 in
theorem sjX4_hasRing_71 {Γ : Gm} {d : Nat} (hd : 1 ≤ d) {y0 : Int32} {h : Hp} {r : Int32} (H : jX4_hasRing_71 y0 h = some r) : V Γ d mX4_hasRing 71 [] [.int y0] h (some (.int r), h) := by
  unfold jX4_hasRing_71 at H
  replace H := bs H; obtain ⟨x18, x18e, H⟩ := H
  obtain ⟨x18q, x18z⟩ := bz_sp x18e
  refine v_topi x18q.symm ?_
  cases H
  exact v_zreturn rfl (by rw [x18q]; exact x18z) dX4_hasRing_71
def fX4_hasRing (h : Hp) (v0 : Nat) : Option (Int32) :=
(lp (bX4_hasRing_5 v0 h) FU ((65535 : Int32), (0 : Int32))).bind fun e12 =>
(match e12 with
| .inl e13 => (
if e13 = 0 then (
jX4_hasRing_89 (0 : Int32) h) else (
jX4_hasRing_89 (1 : Int32) h))
| .inr e14 => (
if e14 = 0 then (
jX4_hasRing_71 (0 : Int32) h) else (
jX4_hasRing_71 (1 : Int32) h)))
set_option maxRecDepth 20000 in
set_option maxHeartbeats 4000000 in
theorem sX4_hasRing {Γ : Gm} {d : Nat} (hd : 1 ≤ d) {h : Hp} {v0 : Nat} {r : Int32} (H : fX4_hasRing h v0 = some r) : V Γ d mX4_hasRing 0 [(0, .ref v0)] [] h (some (.int r), h) := by
  unfold fX4_hasRing at H
  refine v_ldc (v := 65535) (q := 2) dX4_hasRing_0 w1016 rfl ?_
  refine v_istore_n (L' := [(1, .int (65535 : Int32)), (0, .ref v0)]) (q := 3) dX4_hasRing_2 rfl (by decide) rfl rfl ?_
  refine v_iconst (v := 0) (q := 4) dX4_hasRing_3 (by decide) rfl ?_
  refine v_istore_n (L' := [(2, .int (0 : Int32)), (1, .int (65535 : Int32)), (0, .ref v0)]) (q := 5) dX4_hasRing_4 rfl (by decide) rfl rfl ?_
  replace H := bs H; obtain ⟨e12, e12L, H⟩ := H
  refine V.sub [2, 1, 0] rfl ?_
  refine lp_V (P := (fun s5 => V Γ d mX4_hasRing 5 [(0, .ref v0), (1, .int s5.1), (2, .int s5.2)] [] h (some (.int r), h))) (E := (fun e => (match e with | .inl a0 => V Γ d mX4_hasRing 80 [(1, .int a0)] [] h (some (.int r), h) | .inr b0 => V Γ d mX4_hasRing 62 [(1, .int b0)] [] h (some (.int r), h)))) (fun s r hb kI kE => sbX4_hasRing_5 hd (s5 := s) (r := r) hb kI kE) FU ((65535 : Int32), (0 : Int32)) e12 e12L ?_
  rcases e12 with e13 | e14
  · skip
    refine v_iload_n (q := 81) 0 dX4_hasRing_80 rfl rfl rfl ?_
    refine v_if_eq (q1 := 88) (q2 := 84) dX4_hasRing_81 (by decide) rfl (fun c15 => ?_) (fun c15 => ?_)
    · replace H := ip c15 H
      refine v_iconst (v := 0) (q := 89) dX4_hasRing_88 (by decide) rfl ?_
      exact V.sub [] rfl (sjX4_hasRing_89 hd H)
    · replace H := ine c15 H
      refine v_iconst (v := 1) (q := 85) dX4_hasRing_84 (by decide) rfl ?_
      refine v_goto (q := 89) dX4_hasRing_85 (by decide) ?_
      exact V.sub [] rfl (sjX4_hasRing_89 hd H)
  · skip
    refine v_iload_n (q := 63) 0 dX4_hasRing_62 rfl rfl rfl ?_
    refine v_if_eq (q1 := 70) (q2 := 66) dX4_hasRing_63 (by decide) rfl (fun c17 => ?_) (fun c17 => ?_)
    · replace H := ip c17 H
      refine v_iconst (v := 0) (q := 71) dX4_hasRing_70 (by decide) rfl ?_
      exact V.sub [] rfl (sjX4_hasRing_71 hd H)
    · replace H := ine c17 H
      refine v_iconst (v := 1) (q := 67) dX4_hasRing_66 (by decide) rfl ?_
      refine v_goto (q := 71) dX4_hasRing_67 (by decide) ?_
      exact V.sub [] rfl (sjX4_hasRing_71 hd H)
def mX4_shortestRing : MI := (yX4_shortestRing, cX4_shortestRing, 4, some .int)
theorem oX4_shortestRing : mOK mX4_shortestRing 1 := ⟨by decide +kernel, by decide +kernel, by decide +kernel, by decide, w1020, w0148⟩
def jX4_shortestRing_65 (u0 : Nat) (u1 : Nat) (v2 : Int32) (v3 : Int32) (h : Hp) : Option ((Int32 × Int32 × Hp) ⊕ (Int32 × Hp)) :=
(some (v3 + (1 : Int32))).bind fun x7 =>
some (.inl (v2, x7, h))
set_option maxRecDepth 20000 in
set_option maxHeartbeats 4000000 in
theorem sjX4_shortestRing_65 {Γ : Gm} {d : Nat} (hd : 3 ≤ d) {u0 : Nat} {u1 : Nat} {v2 : Int32} {v3 : Int32} {h : Hp} {r : (Int32 × Int32 × Hp) ⊕ (Int32 × Hp)} {t : Option Value × Hp} (H : jX4_shortestRing_65 u0 u1 v2 v3 h = some r) (kI : ∀ s, r = .inl s → (fun s4 => V Γ d mX4_shortestRing 4 [(0, .ref u0), (1, .ref u1), (2, .int s4.1), (3, .int s4.2.1)] [] s4.2.2 t) s) (kE : ∀ e, r = .inr e → (fun e => V Γ d mX4_shortestRing 71 [(2, .int e.1)] [] e.2 t) e) : V Γ d mX4_shortestRing 65 [(0, .ref u0), (1, .ref u1), (2, .int v2), (3, .int v3)] [] h t := by
  unfold jX4_shortestRing_65 at H
  replace H := bs H; obtain ⟨x7, x7e, H⟩ := H
  refine v_iinc (v := x7) (L' := [(3, .int x7), (0, .ref u0), (1, .ref u1), (2, .int v2)]) (q := 68) 3 dX4_shortestRing_65 rfl (Option.some.inj x7e) (by decide) rfl rfl ?_
  refine v_goto (q := 4) dX4_shortestRing_68 (by decide) ?_
  exact V.sub [1, 2, 3, 0] rfl (kI (v2, x7, h) (Option.some.inj H).symm)
def jX4_shortestRing_41 (u0 : Nat) (u1 : Nat) (v3 : Int32) (h : Hp) : Option ((Int32 × Int32 × Hp) ⊕ (Int32 × Hp)) :=
(gR h 4 u0 2).bind fun x9 =>
(gI h 10 x9 1).bind fun x10 =>
(gR h 4 u0 2).bind fun x11 =>
(gR h 10 x11 0).bind fun x12 =>
(kI h .int x12 (0 : Int32) u1 (0 : Int32) (x10 + (1 : Int32))).bind fun h13 =>
jX4_shortestRing_65 u0 u1 x10 v3 h13
set_option maxRecDepth 20000 in
set_option maxHeartbeats 4000000 in
theorem sjX4_shortestRing_41 {Γ : Gm} {d : Nat} (hd : 3 ≤ d) {u0 : Nat} {u1 : Nat} {v3 : Int32} {h : Hp} {r : (Int32 × Int32 × Hp) ⊕ (Int32 × Hp)} {t : Option Value × Hp} (H : jX4_shortestRing_41 u0 u1 v3 h = some r) (kI : ∀ s, r = .inl s → (fun s4 => V Γ d mX4_shortestRing 4 [(0, .ref u0), (1, .ref u1), (2, .int s4.1), (3, .int s4.2.1)] [] s4.2.2 t) s) (kE : ∀ e, r = .inr e → (fun e => V Γ d mX4_shortestRing 71 [(2, .int e.1)] [] e.2 t) e) : V Γ d mX4_shortestRing 41 [(0, .ref u0), (1, .ref u1), (3, .int v3)] [] h t := by
  unfold jX4_shortestRing_41 at H
  refine v_aload_n (q := 42) 0 dX4_shortestRing_41 rfl rfl rfl ?_
  replace H := bs H; obtain ⟨x9, x9e, H⟩ := H
  refine u_gR (q := 45) (r := (RX4, TX4, 5)) x9e dX4_shortestRing_42 w0468 rfl (by decide) rfl rfl ?_
  replace H := bs H; obtain ⟨x10, x10e, H⟩ := H
  refine u_gI (q := 48) (r := (RX10, TX10, 3)) x10e dX4_shortestRing_45 w0402 rfl (by decide) rfl rfl ?_
  refine v_istore_n (L' := [(2, .int x10), (0, .ref u0), (1, .ref u1), (3, .int v3)]) (q := 49) dX4_shortestRing_48 rfl (by decide) rfl rfl ?_
  refine v_aload_n (q := 50) 1 dX4_shortestRing_49 rfl rfl rfl ?_
  replace H := bs H; obtain ⟨x11, x11e, H⟩ := H
  refine u_gR (q := 53) (r := (RX4, TX4, 5)) x11e dX4_shortestRing_50 w0468 rfl (by decide) rfl rfl ?_
  replace H := bs H; obtain ⟨x12, x12e, H⟩ := H
  refine u_gR (q := 56) (r := (RX10, TX10, 3)) x12e dX4_shortestRing_53 w0397 rfl (by decide) rfl rfl ?_
  refine v_iconst (v := 0) (q := 57) dX4_shortestRing_56 (by decide) rfl ?_
  refine v_aload_n (q := 58) 2 dX4_shortestRing_57 rfl rfl rfl ?_
  refine v_iconst (v := 0) (q := 59) dX4_shortestRing_58 (by decide) rfl ?_
  refine v_iload_n (q := 60) 0 dX4_shortestRing_59 rfl rfl rfl ?_
  refine v_iconst (v := 1) (q := 61) dX4_shortestRing_60 (by decide) rfl ?_
  refine v_iadd (q := 62) dX4_shortestRing_61 rfl ?_
  replace H := bs H; obtain ⟨h13, h13e, H⟩ := H
  refine u_kI (q := 65) (ty := .int) rfl rfl (by decide) h13e dX4_shortestRing_62 w1007 w0711 w0710 w0157 (Nat.le_of_ble_eq_true rfl) (Nat.lt_of_lt_of_le (by decide) hd) rfl ?_
  exact V.sub [1, 2, 0, 3] rfl (sjX4_shortestRing_65 hd H kI kE)
def bX4_shortestRing_4 (u0 : Nat) (u1 : Nat) (s4 : Int32 × Int32 × Hp) : Option ((Int32 × Int32 × Hp) ⊕ (Int32 × Hp)) :=
if (16 : Int32) ≤ s4.2.1 then (
some (.inr (s4.1, s4.2.2))) else (
(gR s4.2.2 4 u0 2).bind fun x2 =>
(gR s4.2.2 4 u0 3).bind fun x3 =>
(gO s4.2.2 10 x2).bind fun _ =>
(fX10_find s4.2.2 x2 x3 s4.2.1 s4.2.1).bind fun x5 =>
if x5.1 = 0 then (
jX4_shortestRing_65 u0 u1 s4.1 s4.2.1 x5.2) else (
if s4.1 = 0 then (
jX4_shortestRing_41 u0 u1 s4.2.1 x5.2) else (
(gR x5.2 4 u0 2).bind fun x14 =>
(gI x5.2 10 x14 1).bind fun x15 =>
if s4.1 ≤ x15 then (
jX4_shortestRing_65 u0 u1 s4.1 s4.2.1 x5.2) else (
jX4_shortestRing_41 u0 u1 s4.2.1 x5.2))))
set_option maxRecDepth 20000 in
set_option maxHeartbeats 4000000 in
theorem sbX4_shortestRing_4 {Γ : Gm} {d : Nat} (hd : 3 ≤ d) {u0 : Nat} {u1 : Nat} {s4 : Int32 × Int32 × Hp} {r : (Int32 × Int32 × Hp) ⊕ (Int32 × Hp)} {t : Option Value × Hp} (H : bX4_shortestRing_4 u0 u1 s4 = some r) (kI : ∀ s, r = .inl s → (fun s4 => V Γ d mX4_shortestRing 4 [(0, .ref u0), (1, .ref u1), (2, .int s4.1), (3, .int s4.2.1)] [] s4.2.2 t) s) (kE : ∀ e, r = .inr e → (fun e => V Γ d mX4_shortestRing 71 [(2, .int e.1)] [] e.2 t) e) : V Γ d mX4_shortestRing 4 [(0, .ref u0), (1, .ref u1), (2, .int s4.1), (3, .int s4.2.1)] [] s4.2.2 t := by
  unfold bX4_shortestRing_4 at H
  refine v_iload_n (q := 5) 3 dX4_shortestRing_4 rfl rfl rfl ?_
  refine v_bipush (v := 16) (q := 7) dX4_shortestRing_5 (by decide) rfl ?_
  refine v_icmp_ge (q1 := 71) (q2 := 10) dX4_shortestRing_7 (by decide) rfl (fun c1 => ?_) (fun c1 => ?_)
  · replace H := ip c1 H
    exact V.sub [2] rfl (kE (s4.1, s4.2.2) (Option.some.inj H).symm)
  · replace H := ine c1 H
    refine v_aload_n (q := 11) 0 dX4_shortestRing_10 rfl rfl rfl ?_
    replace H := bs H; obtain ⟨x2, x2e, H⟩ := H
    refine u_gR (q := 14) (r := (RX4, TX4, 5)) x2e dX4_shortestRing_11 w0468 rfl (by decide) rfl rfl ?_
    refine v_aload_n (q := 15) 0 dX4_shortestRing_14 rfl rfl rfl ?_
    replace H := bs H; obtain ⟨x3, x3e, H⟩ := H
    refine u_gR (q := 18) (r := (RX4, TX4, 5)) x3e dX4_shortestRing_15 w0469 rfl (by decide) rfl rfl ?_
    refine v_iload_n (q := 19) 3 dX4_shortestRing_18 rfl rfl rfl ?_
    refine v_iload_n (q := 20) 3 dX4_shortestRing_19 rfl rfl rfl ?_
    replace H := bs H; obtain ⟨_, o4, H⟩ := H
    replace H := bs H; obtain ⟨x5, x5e, H⟩ := H
    refine u_callV1 (M' := mX10_find) (d' := 2) (rc := (RX10, TX10, 3)) (As := [.ref x3, .int s4.2.1, .int s4.2.1]) (st := []) (q := 23) oX10_find dX4_shortestRing_20 w1021 w0859 w0860 rfl rfl (gO_sp o4).1 (gO_sp o4).2 rfl (Nat.le_of_ble_eq_true rfl) (Nat.le_of_ble_eq_true rfl) (Nat.lt_of_lt_of_le (by decide) hd) rfl (sX10_find (Nat.le_refl _) x5e) rfl ?_
    refine v_if_eq (q1 := 65) (q2 := 26) dX4_shortestRing_23 (by decide) rfl (fun c6 => ?_) (fun c6 => ?_)
    · replace H := ip c6 H
      exact V.sub [0, 1, 2, 3] rfl (sjX4_shortestRing_65 hd H kI kE)
    · replace H := ine c6 H
      refine v_iload_n (q := 27) 2 dX4_shortestRing_26 rfl rfl rfl ?_
      refine v_if_eq (q1 := 41) (q2 := 30) dX4_shortestRing_27 (by decide) rfl (fun c8 => ?_) (fun c8 => ?_)
      · replace H := ip c8 H
        exact V.sub [0, 1, 3] rfl (sjX4_shortestRing_41 hd H kI kE)
      · replace H := ine c8 H
        refine v_aload_n (q := 31) 0 dX4_shortestRing_30 rfl rfl rfl ?_
        replace H := bs H; obtain ⟨x14, x14e, H⟩ := H
        refine u_gR (q := 34) (r := (RX4, TX4, 5)) x14e dX4_shortestRing_31 w0468 rfl (by decide) rfl rfl ?_
        replace H := bs H; obtain ⟨x15, x15e, H⟩ := H
        refine u_gI (q := 37) (r := (RX10, TX10, 3)) x15e dX4_shortestRing_34 w0402 rfl (by decide) rfl rfl ?_
        refine v_iload_n (q := 38) 2 dX4_shortestRing_37 rfl rfl rfl ?_
        refine v_icmp_ge (q1 := 65) (q2 := 41) dX4_shortestRing_38 (by decide) rfl (fun c16 => ?_) (fun c16 => ?_)
        · replace H := ip c16 H
          exact V.sub [0, 1, 2, 3] rfl (sjX4_shortestRing_65 hd H kI kE)
        · replace H := ine c16 H
          exact V.sub [0, 1, 3] rfl (sjX4_shortestRing_41 hd H kI kE)
def fX4_shortestRing (h : Hp) (v0 : Nat) (v1 : Nat) : Option (Int32 × Hp) :=
(lp (bX4_shortestRing_4 v0 v1) FU ((0 : Int32), (0 : Int32), h)).bind fun e17 =>
some (e17.1, e17.2)
set_option maxRecDepth 20000 in
set_option maxHeartbeats 4000000 in
theorem sX4_shortestRing {Γ : Gm} {d : Nat} (hd : 3 ≤ d) {h : Hp} {v0 : Nat} {v1 : Nat} {r : Int32 × Hp} (H : fX4_shortestRing h v0 v1 = some r) : V Γ d mX4_shortestRing 0 [(0, .ref v0), (1, .ref v1)] [] h (some (.int r.1), r.2) := by
  unfold fX4_shortestRing at H
  refine v_iconst (v := 0) (q := 1) dX4_shortestRing_0 (by decide) rfl ?_
  refine v_istore_n (L' := [(2, .int (0 : Int32)), (0, .ref v0), (1, .ref v1)]) (q := 2) dX4_shortestRing_1 rfl (by decide) rfl rfl ?_
  refine v_iconst (v := 0) (q := 3) dX4_shortestRing_2 (by decide) rfl ?_
  refine v_istore_n (L' := [(3, .int (0 : Int32)), (2, .int (0 : Int32)), (0, .ref v0), (1, .ref v1)]) (q := 4) dX4_shortestRing_3 rfl (by decide) rfl rfl ?_
  replace H := bs H; obtain ⟨e17, e17L, H⟩ := H
  refine V.sub [2, 3, 1, 0] rfl ?_
  refine lp_V (P := (fun s4 => V Γ d mX4_shortestRing 4 [(0, .ref v0), (1, .ref v1), (2, .int s4.1), (3, .int s4.2.1)] [] s4.2.2 (some (.int r.1), r.2))) (E := (fun e => V Γ d mX4_shortestRing 71 [(2, .int e.1)] [] e.2 (some (.int r.1), r.2))) (fun s r hb kI kE => sbX4_shortestRing_4 hd (s4 := s) (r := r) hb kI kE) FU ((0 : Int32), (0 : Int32), h) e17 e17L ?_
  refine v_iload_n (q := 72) 0 dX4_shortestRing_71 rfl rfl rfl ?_
  cases H
  exact v_ireturn rfl dX4_shortestRing_72
def mX4_doesWithout : MI := (yX4_doesWithout, cX4_doesWithout, 7, some .boolean)
theorem oX4_doesWithout : mOK mX4_doesWithout 1 := ⟨by decide +kernel, by decide +kernel, by decide +kernel, by decide, w1011, w0148⟩
def jX4_doesWithout_18 (rc : Hp → Nat → Int32 → Option (Int32 × Hp)) (h : Hp) : Option (Int32 × Hp) :=
some (((0 : Int32), h))
set_option maxRecDepth 20000 in
set_option maxHeartbeats 4000000 in
theorem sjX4_doesWithout_18 {Γ : Gm} {d : Nat} (hd : 4 ≤ d) {rc : Hp → Nat → Int32 → Option (Int32 × Hp)} {dr : Nat} (hrc : ∀ {h : Hp} {v0 : Nat} {v1 : Int32} {r : Int32 × Hp}, rc h v0 v1 = some r → V Γ dr mX4_doesWithout 0 [(0, .ref v0), (1, .int v1)] [] h (some (.int r.1), r.2)) (hdr : dr < d) {h : Hp} {r : Int32 × Hp} (H : jX4_doesWithout_18 rc h = some r) : V Γ d mX4_doesWithout 18 [] [] h (some (.int r.1), r.2) := by
  unfold jX4_doesWithout_18 at H
  refine v_iconst (v := 0) (q := 19) dX4_doesWithout_18 (by decide) rfl ?_
  cases H
  exact v_zreturn rfl (by decide) dX4_doesWithout_19
def bX4_doesWithout_36 (rc : Hp → Nat → Int32 → Option (Int32 × Hp)) (u0 : Nat) (u1 : Int32) (u2 : Int32) (s36 : Int32 × Int32 × Hp) : Option ((Int32 × Int32 × Hp) ⊕ (Int32 × Hp)) :=
if u2 ≤ s36.2.1 then (
some (.inr (s36.1, s36.2.2))) else (
if s36.1 = 0 then (
(gR s36.2.2 4 u0 4).bind fun x12 =>
(lR s36.2.2 (.array .int) x12 u1).bind fun x13 =>
(lI s36.2.2 .int x13 s36.2.1).bind fun x14 =>
(gR s36.2.2 4 u0 4).bind fun x15 =>
(lR s36.2.2 (.array .int) x15 u1).bind fun x16 =>
(lI s36.2.2 .int x16 (s36.2.1 + (1 : Int32))).bind fun x17 =>
(gR s36.2.2 4 u0 3).bind fun x18 =>
(lI s36.2.2 .int x18 x14).bind fun x19 =>
(tI s36.2.2 x18 x14 (x19 &&& (((1 : Int32) <<< (x17 &&& 31)) ^^^ (-1 : Int32)))).bind fun h20 =>
(gO h20 4 u0).bind fun _ =>
(rc h20 u0 (u1 - (1 : Int32))).bind fun x22 =>
(gR x22.2 4 u0 3).bind fun x23 =>
(lI x22.2 .int x23 x14).bind fun x24 =>
(tI x22.2 x23 x14 (x24 ||| ((1 : Int32) <<< (x17 &&& 31)))).bind fun h25 =>
(some (s36.2.1 + (1 : Int32))).bind fun x26 =>
some (.inl (x22.1, x26, h25))) else (
some (.inr (s36.1, s36.2.2))))
set_option maxRecDepth 20000 in
set_option maxHeartbeats 4000000 in
theorem sbX4_doesWithout_36 {Γ : Gm} {d : Nat} (hd : 4 ≤ d) {rc : Hp → Nat → Int32 → Option (Int32 × Hp)} {dr : Nat} (hrc : ∀ {h : Hp} {v0 : Nat} {v1 : Int32} {r : Int32 × Hp}, rc h v0 v1 = some r → V Γ dr mX4_doesWithout 0 [(0, .ref v0), (1, .int v1)] [] h (some (.int r.1), r.2)) (hdr : dr < d) {u0 : Nat} {u1 : Int32} {u2 : Int32} {s36 : Int32 × Int32 × Hp} {r : (Int32 × Int32 × Hp) ⊕ (Int32 × Hp)} {t : Option Value × Hp} (H : bX4_doesWithout_36 rc u0 u1 u2 s36 = some r) (kI : ∀ s, r = .inl s → (fun s36 => V Γ d mX4_doesWithout 36 [(0, .ref u0), (1, .int u1), (2, .int u2), (3, .int s36.1), (4, .int s36.2.1)] [] s36.2.2 t) s) (kE : ∀ e, r = .inr e → (fun e => V Γ d mX4_doesWithout 114 [(3, .int e.1)] [] e.2 t) e) : V Γ d mX4_doesWithout 36 [(0, .ref u0), (1, .int u1), (2, .int u2), (3, .int s36.1), (4, .int s36.2.1)] [] s36.2.2 t := by
  unfold bX4_doesWithout_36 at H
  refine v_iload (q := 38) 4 dX4_doesWithout_36 rfl rfl ?_
  refine v_iload_n (q := 39) 2 dX4_doesWithout_38 rfl rfl rfl ?_
  refine v_icmp_ge (q1 := 114) (q2 := 42) dX4_doesWithout_39 (by decide) rfl (fun c10 => ?_) (fun c10 => ?_)
  · replace H := ip c10 H
    exact V.sub [3] rfl (kE (s36.1, s36.2.2) (Option.some.inj H).symm)
  · replace H := ine c10 H
    refine v_iload_n (q := 43) 3 dX4_doesWithout_42 rfl rfl rfl ?_
    refine v_if_ne (q1 := 114) (q2 := 46) dX4_doesWithout_43 (by decide) rfl (fun c11 => ?_) (fun c11 => ?_)
    · replace H := ine c11 H
      exact V.sub [3] rfl (kE (s36.1, s36.2.2) (Option.some.inj H).symm)
    · replace H := ip c11 H
      refine v_aload_n (q := 47) 0 dX4_doesWithout_46 rfl rfl rfl ?_
      replace H := bs H; obtain ⟨x12, x12e, H⟩ := H
      refine u_gR (q := 50) (r := (RX4, TX4, 5)) x12e dX4_doesWithout_47 w0470 rfl (by decide) rfl rfl ?_
      refine v_iload_n (q := 51) 1 dX4_doesWithout_50 rfl rfl rfl ?_
      replace H := bs H; obtain ⟨x13, x13e, H⟩ := H
      refine u_lR (q := 52) (ty := (.array .int)) (by decide) rfl rfl x13e dX4_doesWithout_51 rfl ?_
      refine v_iload (q := 54) 4 dX4_doesWithout_52 rfl rfl ?_
      replace H := bs H; obtain ⟨x14, x14e, H⟩ := H
      refine u_lI (q := 55) x14e dX4_doesWithout_54 rfl ?_
      refine v_istore (L' := [(5, .int x14), (0, .ref u0), (1, .int u1), (2, .int u2), (3, .int s36.1), (4, .int s36.2.1)]) (q := 57) dX4_doesWithout_55 (by decide) rfl rfl ?_
      refine v_aload_n (q := 58) 1 dX4_doesWithout_57 rfl rfl rfl ?_
      replace H := bs H; obtain ⟨x15, x15e, H⟩ := H
      refine u_gR (q := 61) (r := (RX4, TX4, 5)) x15e dX4_doesWithout_58 w0470 rfl (by decide) rfl rfl ?_
      refine v_iload_n (q := 62) 2 dX4_doesWithout_61 rfl rfl rfl ?_
      replace H := bs H; obtain ⟨x16, x16e, H⟩ := H
      refine u_lR (q := 63) (ty := (.array .int)) (by decide) rfl rfl x16e dX4_doesWithout_62 rfl ?_
      refine v_iload (q := 65) 5 dX4_doesWithout_63 rfl rfl ?_
      refine v_iconst (v := 1) (q := 66) dX4_doesWithout_65 (by decide) rfl ?_
      refine v_iadd (q := 67) dX4_doesWithout_66 rfl ?_
      replace H := bs H; obtain ⟨x17, x17e, H⟩ := H
      refine u_lI (q := 68) x17e dX4_doesWithout_67 rfl ?_
      refine v_istore (L' := [(6, .int x17), (5, .int x14), (0, .ref u0), (1, .int u1), (2, .int u2), (3, .int s36.1), (4, .int s36.2.1)]) (q := 70) dX4_doesWithout_68 (by decide) rfl rfl ?_
      refine v_aload_n (q := 71) 2 dX4_doesWithout_70 rfl rfl rfl ?_
      replace H := bs H; obtain ⟨x18, x18e, H⟩ := H
      refine u_gR (q := 74) (r := (RX4, TX4, 5)) x18e dX4_doesWithout_71 w0469 rfl (by decide) rfl rfl ?_
      refine v_iload (q := 76) 1 dX4_doesWithout_74 rfl rfl ?_
      refine v_dup2 (q := 77) dX4_doesWithout_76 rfl rfl rfl ?_
      replace H := bs H; obtain ⟨x19, x19e, H⟩ := H
      refine u_lI (q := 78) x19e dX4_doesWithout_77 rfl ?_
      refine v_iconst (v := 1) (q := 79) dX4_doesWithout_78 (by decide) rfl ?_
      refine v_iload (q := 81) 0 dX4_doesWithout_79 rfl rfl ?_
      refine v_ishl (q := 82) dX4_doesWithout_81 rfl ?_
      refine v_iconst (v := -1) (q := 83) dX4_doesWithout_82 (by decide) rfl ?_
      refine v_ixor (q := 84) dX4_doesWithout_83 rfl ?_
      refine v_iand (q := 85) dX4_doesWithout_84 rfl ?_
      replace H := bs H; obtain ⟨h20, h20e, H⟩ := H
      refine u_tI (q := 86) h20e dX4_doesWithout_85 rfl ?_
      refine v_aload_n (q := 87) 2 dX4_doesWithout_86 rfl rfl rfl ?_
      refine v_iload_n (q := 88) 3 dX4_doesWithout_87 rfl rfl rfl ?_
      refine v_iconst (v := 1) (q := 89) dX4_doesWithout_88 (by decide) rfl ?_
      refine v_isub (q := 90) dX4_doesWithout_89 rfl ?_
      replace H := bs H; obtain ⟨_, o21, H⟩ := H
      replace H := bs H; obtain ⟨x22, x22e, H⟩ := H
      refine u_callV1 (M' := mX4_doesWithout) (d' := dr) (rc := (RX4, TX4, 5)) (As := [.int (u1 - (1 : Int32))]) (st := []) (q := 93) oX4_doesWithout dX4_doesWithout_90 w1008 w1010 w0028 rfl rfl (gO_sp o21).1 (gO_sp o21).2 rfl (Nat.le_of_ble_eq_true rfl) (Nat.le_of_ble_eq_true rfl) hdr rfl (hrc x22e) rfl ?_
      refine v_istore_n (L' := [(3, .int x22.1), (6, .int x17), (5, .int x14), (0, .ref u0), (1, .int u1), (2, .int u2), (4, .int s36.2.1)]) (q := 94) dX4_doesWithout_93 rfl (by decide) rfl rfl ?_
      refine v_aload_n (q := 95) 3 dX4_doesWithout_94 rfl rfl rfl ?_
      replace H := bs H; obtain ⟨x23, x23e, H⟩ := H
      refine u_gR (q := 98) (r := (RX4, TX4, 5)) x23e dX4_doesWithout_95 w0469 rfl (by decide) rfl rfl ?_
      refine v_iload (q := 100) 2 dX4_doesWithout_98 rfl rfl ?_
      refine v_dup2 (q := 101) dX4_doesWithout_100 rfl rfl rfl ?_
      replace H := bs H; obtain ⟨x24, x24e, H⟩ := H
      refine u_lI (q := 102) x24e dX4_doesWithout_101 rfl ?_
      refine v_iconst (v := 1) (q := 103) dX4_doesWithout_102 (by decide) rfl ?_
      refine v_iload (q := 105) 1 dX4_doesWithout_103 rfl rfl ?_
      refine v_ishl (q := 106) dX4_doesWithout_105 rfl ?_
      refine v_ior (q := 107) dX4_doesWithout_106 rfl ?_
      replace H := bs H; obtain ⟨h25, h25e, H⟩ := H
      refine u_tI (q := 108) h25e dX4_doesWithout_107 rfl ?_
      replace H := bs H; obtain ⟨x26, x26e, H⟩ := H
      refine v_iinc (v := x26) (L' := [(4, .int x26), (3, .int x22.1), (6, .int x17), (5, .int x14), (0, .ref u0), (1, .int u1), (2, .int u2)]) (q := 111) 6 dX4_doesWithout_108 rfl (Option.some.inj x26e) (by decide) rfl rfl ?_
      refine v_goto (q := 36) dX4_doesWithout_111 (by decide) ?_
      exact V.sub [4, 5, 6, 1, 0] rfl (kI (x22.1, x26, h25) (Option.some.inj H).symm)
def f0X4_doesWithout (rc : Hp → Nat → Int32 → Option (Int32 × Hp)) (h : Hp) (v0 : Nat) (v1 : Int32) : Option (Int32 × Hp) :=
(gO h 4 v0).bind fun _ =>
(fX4_hasRing h v0).bind fun x2 =>
if x2 = 0 then (
some (((1 : Int32), h))) else (
if v1 ≤ 0 then (
jX4_doesWithout_18 rc h) else (
if v1 ≤ (3 : Int32) then (
(gR h 4 v0 4).bind fun x6 =>
(lR h (.array .int) x6 v1).bind fun x7 =>
(gO h 4 v0).bind fun _ =>
(fX4_shortestRing h v0 x7).bind fun x9 =>
(lp (bX4_doesWithout_36 rc v0 v1 x9.1) FU ((0 : Int32), (0 : Int32), x9.2)).bind fun e27 =>
(bz e27.1).bind fun x28 =>
some (x28, e27.2)) else (
jX4_doesWithout_18 rc h)))
set_option maxRecDepth 20000 in
set_option maxHeartbeats 4000000 in
theorem s0X4_doesWithout {Γ : Gm} {d : Nat} (hd : 4 ≤ d) {rc : Hp → Nat → Int32 → Option (Int32 × Hp)} {dr : Nat} (hrc : ∀ {h : Hp} {v0 : Nat} {v1 : Int32} {r : Int32 × Hp}, rc h v0 v1 = some r → V Γ dr mX4_doesWithout 0 [(0, .ref v0), (1, .int v1)] [] h (some (.int r.1), r.2)) (hdr : dr < d) {h : Hp} {v0 : Nat} {v1 : Int32} {r : Int32 × Hp} (H : f0X4_doesWithout rc h v0 v1 = some r) : V Γ d mX4_doesWithout 0 [(0, .ref v0), (1, .int v1)] [] h (some (.int r.1), r.2) := by
  unfold f0X4_doesWithout at H
  refine v_aload_n (q := 1) 0 dX4_doesWithout_0 rfl rfl rfl ?_
  replace H := bs H; obtain ⟨_, o1, H⟩ := H
  replace H := bs H; obtain ⟨x2, x2e, H⟩ := H
  refine u_callV1 (M' := mX4_hasRing) (d' := 1) (rc := (RX4, TX4, 5)) (As := []) (st := []) (q := 4) oX4_hasRing dX4_doesWithout_1 w1012 w1014 w0029 rfl rfl (gO_sp o1).1 (gO_sp o1).2 rfl (Nat.le_of_ble_eq_true rfl) (Nat.le_of_ble_eq_true rfl) (Nat.lt_of_lt_of_le (by decide) hd) rfl (sX4_hasRing (Nat.le_refl _) x2e) rfl ?_
  refine v_if_ne (q1 := 9) (q2 := 7) dX4_doesWithout_4 (by decide) rfl (fun c3 => ?_) (fun c3 => ?_)
  · replace H := ine c3 H
    refine v_iload_n (q := 10) 1 dX4_doesWithout_9 rfl rfl rfl ?_
    refine v_if_le (q1 := 18) (q2 := 13) dX4_doesWithout_10 (by decide) rfl (fun c4 => ?_) (fun c4 => ?_)
    · replace H := ip c4 H
      exact V.sub [] rfl (sjX4_doesWithout_18 hd hrc hdr H)
    · replace H := ine c4 H
      refine v_iload_n (q := 14) 1 dX4_doesWithout_13 rfl rfl rfl ?_
      refine v_iconst (v := 3) (q := 15) dX4_doesWithout_14 (by decide) rfl ?_
      refine v_icmp_le (q1 := 20) (q2 := 18) dX4_doesWithout_15 (by decide) rfl (fun c5 => ?_) (fun c5 => ?_)
      · replace H := ip c5 H
        refine v_aload_n (q := 21) 0 dX4_doesWithout_20 rfl rfl rfl ?_
        refine v_aload_n (q := 22) 0 dX4_doesWithout_21 rfl rfl rfl ?_
        replace H := bs H; obtain ⟨x6, x6e, H⟩ := H
        refine u_gR (q := 25) (r := (RX4, TX4, 5)) x6e dX4_doesWithout_22 w0470 rfl (by decide) rfl rfl ?_
        refine v_iload_n (q := 26) 1 dX4_doesWithout_25 rfl rfl rfl ?_
        replace H := bs H; obtain ⟨x7, x7e, H⟩ := H
        refine u_lR (q := 27) (ty := (.array .int)) (by decide) rfl rfl x7e dX4_doesWithout_26 rfl ?_
        replace H := bs H; obtain ⟨_, o8, H⟩ := H
        replace H := bs H; obtain ⟨x9, x9e, H⟩ := H
        refine u_callV1 (M' := mX4_shortestRing) (d' := 3) (rc := (RX4, TX4, 5)) (As := [.ref x7]) (st := []) (q := 30) oX4_shortestRing dX4_doesWithout_27 w1017 w1019 w0030 rfl rfl (gO_sp o8).1 (gO_sp o8).2 rfl (Nat.le_of_ble_eq_true rfl) (Nat.le_of_ble_eq_true rfl) (Nat.lt_of_lt_of_le (by decide) hd) rfl (sX4_shortestRing (Nat.le_refl _) x9e) rfl ?_
        refine v_istore_n (L' := [(2, .int x9.1), (0, .ref v0), (1, .int v1)]) (q := 31) dX4_doesWithout_30 rfl (by decide) rfl rfl ?_
        refine v_iconst (v := 0) (q := 32) dX4_doesWithout_31 (by decide) rfl ?_
        refine v_istore_n (L' := [(3, .int (0 : Int32)), (2, .int x9.1), (0, .ref v0), (1, .int v1)]) (q := 33) dX4_doesWithout_32 rfl (by decide) rfl rfl ?_
        refine v_iconst (v := 0) (q := 34) dX4_doesWithout_33 (by decide) rfl ?_
        refine v_istore (L' := [(4, .int (0 : Int32)), (3, .int (0 : Int32)), (2, .int x9.1), (0, .ref v0), (1, .int v1)]) (q := 36) dX4_doesWithout_34 (by decide) rfl rfl ?_
        replace H := bs H; obtain ⟨e27, e27L, H⟩ := H
        refine V.sub [3, 4, 2, 1, 0] rfl ?_
        refine lp_V (P := (fun s36 => V Γ d mX4_doesWithout 36 [(0, .ref v0), (1, .int v1), (2, .int x9.1), (3, .int s36.1), (4, .int s36.2.1)] [] s36.2.2 (some (.int r.1), r.2))) (E := (fun e => V Γ d mX4_doesWithout 114 [(3, .int e.1)] [] e.2 (some (.int r.1), r.2))) (fun s r hb kI kE => sbX4_doesWithout_36 hd hrc hdr (s36 := s) (r := r) hb kI kE) FU ((0 : Int32), (0 : Int32), x9.2) e27 e27L ?_
        refine v_iload_n (q := 115) 0 dX4_doesWithout_114 rfl rfl rfl ?_
        replace H := bs H; obtain ⟨x28, x28e, H⟩ := H
        obtain ⟨x28q, x28z⟩ := bz_sp x28e
        refine v_topi x28q.symm ?_
        cases H
        exact v_zreturn rfl (by rw [x28q]; exact x28z) dX4_doesWithout_115
      · replace H := ine c5 H
        exact V.sub [] rfl (sjX4_doesWithout_18 hd hrc hdr H)
  · replace H := ip c3 H
    refine v_iconst (v := 1) (q := 8) dX4_doesWithout_7 (by decide) rfl ?_
    cases H
    exact v_zreturn rfl (by decide) dX4_doesWithout_8
def fX4_doesWithout : Nat → Hp → Nat → Int32 → Option (Int32 × Hp)
  | 0 => fun _ _ _ => none
  | n + 1 => f0X4_doesWithout (fX4_doesWithout n)
theorem sX4_doesWithout {Γ : Gm} : ∀ (n : Nat) {d : Nat} (_ : 4 + n ≤ d) {h : Hp} {v0 : Nat} {v1 : Int32} {r : Int32 × Hp} (_ : fX4_doesWithout n h v0 v1 = some r), V Γ d mX4_doesWithout 0 [(0, .ref v0), (1, .int v1)] [] h (some (.int r.1), r.2)
  | 0, d, hd, h, v0, v1, r, H => by cases H
  | n + 1, d, hd, h, v0, v1, r, H => s0X4_doesWithout (by omega) (dr := 4 + n) (fun H => sX4_doesWithout n (Nat.le_refl _) H) (by omega) H
def mX4_leastOfFewest : MI := (yX4_leastOfFewest, cX4_leastOfFewest, 5, some .int)
theorem oX4_leastOfFewest : mOK mX4_leastOfFewest 0 := ⟨by decide +kernel, by decide +kernel, by decide +kernel, by decide, w1025, w0148⟩
def jX4_leastOfFewest_77 (u0 : Nat) (v1 : Int32) (h : Hp) : Option ((Int32 × Hp) ⊕ ((Hp) ⊕ (Int32 × Hp))) :=
(some (v1 + (1 : Int32))).bind fun x8 =>
some (.inl (x8, h))
set_option maxRecDepth 20000 in
set_option maxHeartbeats 4000000 in
theorem sjX4_leastOfFewest_77 {Γ : Gm} {d : Nat} (hd : 10 ≤ d) {u0 : Nat} {v1 : Int32} {h : Hp} {r : (Int32 × Hp) ⊕ ((Hp) ⊕ (Int32 × Hp))} {t : Option Value × Hp} (H : jX4_leastOfFewest_77 u0 v1 h = some r) (kI : ∀ s, r = .inl s → (fun s2 => V Γ d mX4_leastOfFewest 2 [(0, .ref u0), (1, .int s2.1)] [] s2.2 t) s) (kE : ∀ e, r = .inr e → (fun e => (match e with | .inl a0 => V Γ d mX4_leastOfFewest 83 [] [] a0 t | .inr b0 => V Γ d mX4_leastOfFewest 75 [(1, .int b0.1)] [] b0.2 t)) e) : V Γ d mX4_leastOfFewest 77 [(0, .ref u0), (1, .int v1)] [] h t := by
  unfold jX4_leastOfFewest_77 at H
  replace H := bs H; obtain ⟨x8, x8e, H⟩ := H
  refine v_iinc (v := x8) (L' := [(1, .int x8), (0, .ref u0)]) (q := 80) 1 dX4_leastOfFewest_77 rfl (Option.some.inj x8e) (by decide) rfl rfl ?_
  refine v_goto (q := 2) dX4_leastOfFewest_80 (by decide) ?_
  exact V.sub [1, 0] rfl (kI (x8, h) (Option.some.inj H).symm)
def bX4_leastOfFewest_2 (u0 : Nat) (s2 : Int32 × Hp) : Option ((Int32 × Hp) ⊕ ((Hp) ⊕ (Int32 × Hp))) :=
if (256 : Int32) ≤ s2.1 then (
some (.inr (.inl s2.2))) else (
(some (s2.1 / (16 : Int32))).bind fun x2 =>
(some (s2.1 - s2.1 / (16 : Int32) * (16 : Int32))).bind fun x3 =>
(gR s2.2 4 u0 3).bind fun x4 =>
(lI s2.2 .int x4 x2).bind fun x5 =>
(fX11_has s2.2 x5 x3).bind fun x6 =>
if x6 = 0 then (
jX4_leastOfFewest_77 u0 s2.1 s2.2) else (
(gR s2.2 4 u0 3).bind fun x9 =>
(lI s2.2 .int x9 x2).bind fun x10 =>
(tI s2.2 x9 x2 (x10 &&& (((1 : Int32) <<< (x3 &&& 31)) ^^^ (-1 : Int32)))).bind fun h11 =>
(gI h11 4 u0 0).bind fun x12 =>
(gO h11 4 u0).bind fun _ =>
(fX4_doesWithout 5 h11 u0 (x12 - (1 : Int32))).bind fun x14 =>
(gR x14.2 4 u0 3).bind fun x15 =>
(lI x14.2 .int x15 x2).bind fun x16 =>
(tI x14.2 x15 x2 (x16 ||| ((1 : Int32) <<< (x3 &&& 31)))).bind fun h17 =>
if x14.1 = 0 then (
jX4_leastOfFewest_77 u0 s2.1 h17) else (
some (.inr (.inr (s2.1, h17))))))
set_option maxRecDepth 20000 in
set_option maxHeartbeats 4000000 in
theorem sbX4_leastOfFewest_2 {Γ : Gm} {d : Nat} (hd : 10 ≤ d) {u0 : Nat} {s2 : Int32 × Hp} {r : (Int32 × Hp) ⊕ ((Hp) ⊕ (Int32 × Hp))} {t : Option Value × Hp} (H : bX4_leastOfFewest_2 u0 s2 = some r) (kI : ∀ s, r = .inl s → (fun s2 => V Γ d mX4_leastOfFewest 2 [(0, .ref u0), (1, .int s2.1)] [] s2.2 t) s) (kE : ∀ e, r = .inr e → (fun e => (match e with | .inl a0 => V Γ d mX4_leastOfFewest 83 [] [] a0 t | .inr b0 => V Γ d mX4_leastOfFewest 75 [(1, .int b0.1)] [] b0.2 t)) e) : V Γ d mX4_leastOfFewest 2 [(0, .ref u0), (1, .int s2.1)] [] s2.2 t := by
  unfold bX4_leastOfFewest_2 at H
  refine v_iload_n (q := 3) 1 dX4_leastOfFewest_2 rfl rfl rfl ?_
  refine v_sipush (v := 256) (q := 6) dX4_leastOfFewest_3 (by decide) rfl ?_
  refine v_icmp_ge (q1 := 83) (q2 := 9) dX4_leastOfFewest_6 (by decide) rfl (fun c1 => ?_) (fun c1 => ?_)
  · replace H := ip c1 H
    exact V.sub [] rfl (kE (.inl s2.2) (Option.some.inj H).symm)
  · replace H := ine c1 H
    refine v_iload_n (q := 10) 1 dX4_leastOfFewest_9 rfl rfl rfl ?_
    refine v_bipush (v := 16) (q := 12) dX4_leastOfFewest_10 (by decide) rfl ?_
    refine v_idiv (q := 13) dX4_leastOfFewest_12 (by decide) rfl ?_
    replace H := bs H; obtain ⟨x2, x2e, H⟩ := H
    refine v_topi (Option.some.inj x2e) ?_
    refine v_istore_n (L' := [(2, .int x2), (0, .ref u0), (1, .int s2.1)]) (q := 14) dX4_leastOfFewest_13 rfl (by decide) rfl rfl ?_
    refine v_iload_n (q := 15) 2 dX4_leastOfFewest_14 rfl rfl rfl ?_
    refine v_bipush (v := 16) (q := 17) dX4_leastOfFewest_15 (by decide) rfl ?_
    refine v_irem (q := 18) dX4_leastOfFewest_17 (by decide) rfl ?_
    replace H := bs H; obtain ⟨x3, x3e, H⟩ := H
    refine v_topi (Option.some.inj x3e) ?_
    refine v_istore_n (L' := [(3, .int x3), (2, .int x2), (0, .ref u0), (1, .int s2.1)]) (q := 19) dX4_leastOfFewest_18 rfl (by decide) rfl rfl ?_
    refine v_aload_n (q := 20) 2 dX4_leastOfFewest_19 rfl rfl rfl ?_
    replace H := bs H; obtain ⟨x4, x4e, H⟩ := H
    refine u_gR (q := 23) (r := (RX4, TX4, 5)) x4e dX4_leastOfFewest_20 w0469 rfl (by decide) rfl rfl ?_
    refine v_iload_n (q := 24) 1 dX4_leastOfFewest_23 rfl rfl rfl ?_
    replace H := bs H; obtain ⟨x5, x5e, H⟩ := H
    refine u_lI (q := 25) x5e dX4_leastOfFewest_24 rfl ?_
    refine v_iload_n (q := 26) 0 dX4_leastOfFewest_25 rfl rfl rfl ?_
    replace H := bs H; obtain ⟨x6, x6e, H⟩ := H
    refine u_callSN1 (M' := mX11_has) (d' := 1) (As := [.int x5, .int x3]) (st := []) (q := 29) oX11_has dX4_leastOfFewest_26 w1026 w0783 rfl (Nat.le_of_ble_eq_true rfl) (Nat.le_of_ble_eq_true rfl) (Nat.lt_of_lt_of_le (by decide) hd) rfl (sX11_has (Nat.le_refl _) x6e) rfl ?_
    refine v_if_eq (q1 := 77) (q2 := 32) dX4_leastOfFewest_29 (by decide) rfl (fun c7 => ?_) (fun c7 => ?_)
    · replace H := ip c7 H
      exact V.sub [2, 3] rfl (sjX4_leastOfFewest_77 hd H kI kE)
    · replace H := ine c7 H
      refine v_aload_n (q := 33) 2 dX4_leastOfFewest_32 rfl rfl rfl ?_
      replace H := bs H; obtain ⟨x9, x9e, H⟩ := H
      refine u_gR (q := 36) (r := (RX4, TX4, 5)) x9e dX4_leastOfFewest_33 w0469 rfl (by decide) rfl rfl ?_
      refine v_iload_n (q := 37) 1 dX4_leastOfFewest_36 rfl rfl rfl ?_
      refine v_dup2 (q := 38) dX4_leastOfFewest_37 rfl rfl rfl ?_
      replace H := bs H; obtain ⟨x10, x10e, H⟩ := H
      refine u_lI (q := 39) x10e dX4_leastOfFewest_38 rfl ?_
      refine v_iconst (v := 1) (q := 40) dX4_leastOfFewest_39 (by decide) rfl ?_
      refine v_iload_n (q := 41) 0 dX4_leastOfFewest_40 rfl rfl rfl ?_
      refine v_ishl (q := 42) dX4_leastOfFewest_41 rfl ?_
      refine v_iconst (v := -1) (q := 43) dX4_leastOfFewest_42 (by decide) rfl ?_
      refine v_ixor (q := 44) dX4_leastOfFewest_43 rfl ?_
      refine v_iand (q := 45) dX4_leastOfFewest_44 rfl ?_
      replace H := bs H; obtain ⟨h11, h11e, H⟩ := H
      refine u_tI (q := 46) h11e dX4_leastOfFewest_45 rfl ?_
      refine v_aload_n (q := 47) 2 dX4_leastOfFewest_46 rfl rfl rfl ?_
      refine v_aload_n (q := 48) 2 dX4_leastOfFewest_47 rfl rfl rfl ?_
      replace H := bs H; obtain ⟨x12, x12e, H⟩ := H
      refine u_gI (q := 51) (r := (RX4, TX4, 5)) x12e dX4_leastOfFewest_48 w0464 rfl (by decide) rfl rfl ?_
      refine v_iconst (v := 1) (q := 52) dX4_leastOfFewest_51 (by decide) rfl ?_
      refine v_isub (q := 53) dX4_leastOfFewest_52 rfl ?_
      replace H := bs H; obtain ⟨_, o13, H⟩ := H
      replace H := bs H; obtain ⟨x14, x14e, H⟩ := H
      refine u_callV1 (M' := mX4_doesWithout) (d' := 9) (rc := (RX4, TX4, 5)) (As := [.int (x12 - (1 : Int32))]) (st := []) (q := 56) oX4_doesWithout dX4_leastOfFewest_53 w1008 w1010 w0028 rfl rfl (gO_sp o13).1 (gO_sp o13).2 rfl (Nat.le_of_ble_eq_true rfl) (Nat.le_of_ble_eq_true rfl) (Nat.lt_of_lt_of_le (by decide) hd) rfl (sX4_doesWithout 5 (Nat.le_refl _) x14e) rfl ?_
      refine v_istore (L' := [(4, .int x14.1), (3, .int x3), (2, .int x2), (0, .ref u0), (1, .int s2.1)]) (q := 58) dX4_leastOfFewest_56 (by decide) rfl rfl ?_
      refine v_aload_n (q := 59) 3 dX4_leastOfFewest_58 rfl rfl rfl ?_
      replace H := bs H; obtain ⟨x15, x15e, H⟩ := H
      refine u_gR (q := 62) (r := (RX4, TX4, 5)) x15e dX4_leastOfFewest_59 w0469 rfl (by decide) rfl rfl ?_
      refine v_iload_n (q := 63) 2 dX4_leastOfFewest_62 rfl rfl rfl ?_
      refine v_dup2 (q := 64) dX4_leastOfFewest_63 rfl rfl rfl ?_
      replace H := bs H; obtain ⟨x16, x16e, H⟩ := H
      refine u_lI (q := 65) x16e dX4_leastOfFewest_64 rfl ?_
      refine v_iconst (v := 1) (q := 66) dX4_leastOfFewest_65 (by decide) rfl ?_
      refine v_iload_n (q := 67) 1 dX4_leastOfFewest_66 rfl rfl rfl ?_
      refine v_ishl (q := 68) dX4_leastOfFewest_67 rfl ?_
      refine v_ior (q := 69) dX4_leastOfFewest_68 rfl ?_
      replace H := bs H; obtain ⟨h17, h17e, H⟩ := H
      refine u_tI (q := 70) h17e dX4_leastOfFewest_69 rfl ?_
      refine v_iload (q := 72) 0 dX4_leastOfFewest_70 rfl rfl ?_
      refine v_if_eq (q1 := 77) (q2 := 75) dX4_leastOfFewest_72 (by decide) rfl (fun c18 => ?_) (fun c18 => ?_)
      · replace H := ip c18 H
        exact V.sub [3, 4] rfl (sjX4_leastOfFewest_77 hd H kI kE)
      · replace H := ine c18 H
        exact V.sub [4] rfl (kE (.inr (s2.1, h17)) (Option.some.inj H).symm)
def fX4_leastOfFewest (h : Hp) (v0 : Nat) : Option (Int32 × Hp) :=
(lp (bX4_leastOfFewest_2 v0) FU ((0 : Int32), h)).bind fun e19 =>
(match e19 with
| .inl e20 => (
some (((-1 : Int32), e20)))
| .inr e21 => (
some (e21.1, e21.2)))
set_option maxRecDepth 20000 in
set_option maxHeartbeats 4000000 in
theorem sX4_leastOfFewest {Γ : Gm} {d : Nat} (hd : 10 ≤ d) {h : Hp} {v0 : Nat} {r : Int32 × Hp} (H : fX4_leastOfFewest h v0 = some r) : V Γ d mX4_leastOfFewest 0 [(0, .ref v0)] [] h (some (.int r.1), r.2) := by
  unfold fX4_leastOfFewest at H
  refine v_iconst (v := 0) (q := 1) dX4_leastOfFewest_0 (by decide) rfl ?_
  refine v_istore_n (L' := [(1, .int (0 : Int32)), (0, .ref v0)]) (q := 2) dX4_leastOfFewest_1 rfl (by decide) rfl rfl ?_
  replace H := bs H; obtain ⟨e19, e19L, H⟩ := H
  refine V.sub [1, 0] rfl ?_
  refine lp_V (P := (fun s2 => V Γ d mX4_leastOfFewest 2 [(0, .ref v0), (1, .int s2.1)] [] s2.2 (some (.int r.1), r.2))) (E := (fun e => (match e with | .inl a0 => V Γ d mX4_leastOfFewest 83 [] [] a0 (some (.int r.1), r.2) | .inr b0 => V Γ d mX4_leastOfFewest 75 [(1, .int b0.1)] [] b0.2 (some (.int r.1), r.2)))) (fun s r hb kI kE => sbX4_leastOfFewest_2 hd (s2 := s) (r := r) hb kI kE) FU ((0 : Int32), h) e19 e19L ?_
  rcases e19 with e20 | e21
  · skip
    refine v_iconst (v := -1) (q := 84) dX4_leastOfFewest_83 (by decide) rfl ?_
    cases H
    exact v_ireturn rfl dX4_leastOfFewest_84
  · skip
    refine v_iload_n (q := 76) 0 dX4_leastOfFewest_75 rfl rfl rfl ?_
    cases H
    exact v_ireturn rfl dX4_leastOfFewest_76
def mX4_mend : MI := (yX4_mend, cX4_mend, 2, none)
theorem oX4_mend : mOK mX4_mend 1 := ⟨by decide +kernel, by decide +kernel, by decide +kernel, by decide, w1006, w0148⟩
def bX4_mend_22 (u0 : Nat) (s22 : Hp) : Option ((Hp) ⊕ (Hp)) :=
(gI s22 4 u0 0).bind fun x5 =>
if (3 : Int32) < x5 then (
some (.inr s22)) else (
(gI s22 4 u0 0).bind fun x7 =>
(gO s22 4 u0).bind fun _ =>
(fX4_doesWithout 5 s22 u0 x7).bind fun x9 =>
if x9.1 = 0 then (
(gI x9.2 4 u0 0).bind fun x11 =>
(pI x9.2 4 u0 0 (x11 + (1 : Int32))).bind fun h12 =>
some (.inl h12)) else (
some (.inr x9.2)))
set_option maxRecDepth 20000 in
set_option maxHeartbeats 4000000 in
theorem sbX4_mend_22 {Γ : Gm} {d : Nat} (hd : 11 ≤ d) {u0 : Nat} {s22 : Hp} {r : (Hp) ⊕ (Hp)} {t : Option Value × Hp} (H : bX4_mend_22 u0 s22 = some r) (kI : ∀ s, r = .inl s → (fun s22 => V Γ d mX4_mend 22 [(0, .ref u0)] [] s22 t) s) (kE : ∀ e, r = .inr e → (fun e => V Γ d mX4_mend 54 [(0, .ref u0)] [] e t) e) : V Γ d mX4_mend 22 [(0, .ref u0)] [] s22 t := by
  unfold bX4_mend_22 at H
  refine v_aload_n (q := 23) 0 dX4_mend_22 rfl rfl rfl ?_
  replace H := bs H; obtain ⟨x5, x5e, H⟩ := H
  refine u_gI (q := 26) (r := (RX4, TX4, 5)) x5e dX4_mend_23 w0464 rfl (by decide) rfl rfl ?_
  refine v_iconst (v := 3) (q := 27) dX4_mend_26 (by decide) rfl ?_
  refine v_icmp_gt (q1 := 54) (q2 := 30) dX4_mend_27 (by decide) rfl (fun c6 => ?_) (fun c6 => ?_)
  · replace H := ip c6 H
    exact V.sub [0] rfl (kE s22 (Option.some.inj H).symm)
  · replace H := ine c6 H
    refine v_aload_n (q := 31) 0 dX4_mend_30 rfl rfl rfl ?_
    refine v_aload_n (q := 32) 0 dX4_mend_31 rfl rfl rfl ?_
    replace H := bs H; obtain ⟨x7, x7e, H⟩ := H
    refine u_gI (q := 35) (r := (RX4, TX4, 5)) x7e dX4_mend_32 w0464 rfl (by decide) rfl rfl ?_
    replace H := bs H; obtain ⟨_, o8, H⟩ := H
    replace H := bs H; obtain ⟨x9, x9e, H⟩ := H
    refine u_callV1 (M' := mX4_doesWithout) (d' := 9) (rc := (RX4, TX4, 5)) (As := [.int x7]) (st := []) (q := 38) oX4_doesWithout dX4_mend_35 w1008 w1010 w0028 rfl rfl (gO_sp o8).1 (gO_sp o8).2 rfl (Nat.le_of_ble_eq_true rfl) (Nat.le_of_ble_eq_true rfl) (Nat.lt_of_lt_of_le (by decide) hd) rfl (sX4_doesWithout 5 (Nat.le_refl _) x9e) rfl ?_
    refine v_if_ne (q1 := 54) (q2 := 41) dX4_mend_38 (by decide) rfl (fun c10 => ?_) (fun c10 => ?_)
    · replace H := ine c10 H
      exact V.sub [0] rfl (kE x9.2 (Option.some.inj H).symm)
    · replace H := ip c10 H
      refine v_aload_n (q := 42) 0 dX4_mend_41 rfl rfl rfl ?_
      refine v_dup (q := 43) dX4_mend_42 rfl rfl ?_
      replace H := bs H; obtain ⟨x11, x11e, H⟩ := H
      refine u_gI (q := 46) (r := (RX4, TX4, 5)) x11e dX4_mend_43 w0464 rfl (by decide) rfl rfl ?_
      refine v_iconst (v := 1) (q := 47) dX4_mend_46 (by decide) rfl ?_
      refine v_iadd (q := 48) dX4_mend_47 rfl ?_
      replace H := bs H; obtain ⟨h12, h12e, H⟩ := H
      refine u_pI (q := 51) (r := (RX4, TX4, 5)) h12e dX4_mend_48 w0464 rfl (by decide) (Or.inl rfl) rfl rfl ?_
      refine v_goto (q := 22) dX4_mend_51 (by decide) ?_
      exact V.sub [0] rfl (kI h12 (Option.some.inj H).symm)
def jX4_mend_77 (h : Hp) : Option (Hp) :=
some h
set_option maxRecDepth 20000 in
set_option maxHeartbeats 4000000 in
theorem sjX4_mend_77 {Γ : Gm} {d : Nat} (hd : 11 ≤ d) {h : Hp} {r : Hp} (H : jX4_mend_77 h = some r) : V Γ d mX4_mend 77 [] [] h (none, r) := by
  unfold jX4_mend_77 at H
  cases H
  exact v_return rfl dX4_mend_77
def fX4_mend (h : Hp) (v0 : Nat) (v1 : Nat) : Option (Hp) :=
(gR h 4 v0 3).bind fun x1 =>
(kI h .int v1 (0 : Int32) x1 (0 : Int32) (16 : Int32)).bind fun h2 =>
(pI h2 4 v0 1 (-1 : Int32)).bind fun h3 =>
(pI h3 4 v0 0 (0 : Int32)).bind fun h4 =>
(lp (bX4_mend_22 v0) FU h4).bind fun e13 =>
(gI e13 4 v0 0).bind fun x14 =>
if x14 ≤ 0 then (
jX4_mend_77 e13) else (
(gI e13 4 v0 0).bind fun x16 =>
if (3 : Int32) < x16 then (
jX4_mend_77 e13) else (
(gO e13 4 v0).bind fun _ =>
(fX4_leastOfFewest e13 v0).bind fun x19 =>
(pI x19.2 4 v0 1 x19.1).bind fun h20 =>
jX4_mend_77 h20))
set_option maxRecDepth 20000 in
set_option maxHeartbeats 4000000 in
theorem sX4_mend {Γ : Gm} {d : Nat} (hd : 11 ≤ d) {h : Hp} {v0 : Nat} {v1 : Nat} {r : Hp} (H : fX4_mend h v0 v1 = some r) : V Γ d mX4_mend 0 [(0, .ref v0), (1, .ref v1)] [] h (none, r) := by
  unfold fX4_mend at H
  refine v_aload_n (q := 1) 1 dX4_mend_0 rfl rfl rfl ?_
  refine v_iconst (v := 0) (q := 2) dX4_mend_1 (by decide) rfl ?_
  refine v_aload_n (q := 3) 0 dX4_mend_2 rfl rfl rfl ?_
  replace H := bs H; obtain ⟨x1, x1e, H⟩ := H
  refine u_gR (q := 6) (r := (RX4, TX4, 5)) x1e dX4_mend_3 w0469 rfl (by decide) rfl rfl ?_
  refine v_iconst (v := 0) (q := 7) dX4_mend_6 (by decide) rfl ?_
  refine v_bipush (v := 16) (q := 9) dX4_mend_7 (by decide) rfl ?_
  replace H := bs H; obtain ⟨h2, h2e, H⟩ := H
  refine u_kI (q := 12) (ty := .int) rfl rfl (by decide) h2e dX4_mend_9 w1007 w0711 w0710 w0157 (Nat.le_of_ble_eq_true rfl) (Nat.lt_of_lt_of_le (by decide) hd) rfl ?_
  refine v_aload_n (q := 13) 0 dX4_mend_12 rfl rfl rfl ?_
  refine v_iconst (v := -1) (q := 14) dX4_mend_13 (by decide) rfl ?_
  replace H := bs H; obtain ⟨h3, h3e, H⟩ := H
  refine u_pI (q := 17) (r := (RX4, TX4, 5)) h3e dX4_mend_14 w0466 rfl (by decide) (Or.inl rfl) rfl rfl ?_
  refine v_aload_n (q := 18) 0 dX4_mend_17 rfl rfl rfl ?_
  refine v_iconst (v := 0) (q := 19) dX4_mend_18 (by decide) rfl ?_
  replace H := bs H; obtain ⟨h4, h4e, H⟩ := H
  refine u_pI (q := 22) (r := (RX4, TX4, 5)) h4e dX4_mend_19 w0464 rfl (by decide) (Or.inl rfl) rfl rfl ?_
  replace H := bs H; obtain ⟨e13, e13L, H⟩ := H
  refine V.sub [0] rfl ?_
  refine lp_V (P := (fun s22 => V Γ d mX4_mend 22 [(0, .ref v0)] [] s22 (none, r))) (E := (fun e => V Γ d mX4_mend 54 [(0, .ref v0)] [] e (none, r))) (fun s r hb kI kE => sbX4_mend_22 hd (s22 := s) (r := r) hb kI kE) FU h4 e13 e13L ?_
  refine v_aload_n (q := 55) 0 dX4_mend_54 rfl rfl rfl ?_
  replace H := bs H; obtain ⟨x14, x14e, H⟩ := H
  refine u_gI (q := 58) (r := (RX4, TX4, 5)) x14e dX4_mend_55 w0464 rfl (by decide) rfl rfl ?_
  refine v_if_le (q1 := 77) (q2 := 61) dX4_mend_58 (by decide) rfl (fun c15 => ?_) (fun c15 => ?_)
  · replace H := ip c15 H
    exact V.sub [] rfl (sjX4_mend_77 hd H)
  · replace H := ine c15 H
    refine v_aload_n (q := 62) 0 dX4_mend_61 rfl rfl rfl ?_
    replace H := bs H; obtain ⟨x16, x16e, H⟩ := H
    refine u_gI (q := 65) (r := (RX4, TX4, 5)) x16e dX4_mend_62 w0464 rfl (by decide) rfl rfl ?_
    refine v_iconst (v := 3) (q := 66) dX4_mend_65 (by decide) rfl ?_
    refine v_icmp_gt (q1 := 77) (q2 := 69) dX4_mend_66 (by decide) rfl (fun c17 => ?_) (fun c17 => ?_)
    · replace H := ip c17 H
      exact V.sub [] rfl (sjX4_mend_77 hd H)
    · replace H := ine c17 H
      refine v_aload_n (q := 70) 0 dX4_mend_69 rfl rfl rfl ?_
      refine v_aload_n (q := 71) 0 dX4_mend_70 rfl rfl rfl ?_
      replace H := bs H; obtain ⟨_, o18, H⟩ := H
      replace H := bs H; obtain ⟨x19, x19e, H⟩ := H
      refine u_callV1 (M' := mX4_leastOfFewest) (d' := 10) (rc := (RX4, TX4, 5)) (As := []) (st := [.ref v0]) (q := 74) oX4_leastOfFewest dX4_mend_71 w1022 w1024 w0031 rfl rfl (gO_sp o18).1 (gO_sp o18).2 rfl (Nat.le_of_ble_eq_true rfl) (Nat.le_of_ble_eq_true rfl) (Nat.lt_of_lt_of_le (by decide) hd) rfl (sX4_leastOfFewest (Nat.le_refl _) x19e) rfl ?_
      replace H := bs H; obtain ⟨h20, h20e, H⟩ := H
      refine u_pI (q := 77) (r := (RX4, TX4, 5)) h20e dX4_mend_74 w0466 rfl (by decide) (Or.inl rfl) rfl rfl ?_
      exact V.sub [] rfl (sjX4_mend_77 hd H)
def mX11_mends : MI := (yX11_mends, cX11_mends, 2, some .int)
theorem oX11_mends : mOK mX11_mends 1 := ⟨by decide +kernel, by decide +kernel, by decide +kernel, by decide, w1002, w0139⟩
def jX11_mends_9 (h : Hp) : Option (Int32 × Hp) :=
some (((-1 : Int32), h))
set_option maxRecDepth 20000 in
set_option maxHeartbeats 4000000 in
theorem sjX11_mends_9 {Γ : Gm} {d : Nat} (hd : 12 ≤ d) {h : Hp} {r : Int32 × Hp} (H : jX11_mends_9 h = some r) : V Γ d mX11_mends 9 [] [] h (some (.int r.1), r.2) := by
  unfold jX11_mends_9 at H
  refine v_iconst (v := -1) (q := 10) dX11_mends_9 (by decide) rfl ?_
  cases H
  exact v_ireturn rfl dX11_mends_10
def jX11_mends_66 (y0 : Int32) (h : Hp) : Option (Int32 × Hp) :=
some (y0, h)
set_option maxRecDepth 20000 in
set_option maxHeartbeats 4000000 in
theorem sjX11_mends_66 {Γ : Gm} {d : Nat} (hd : 12 ≤ d) {y0 : Int32} {h : Hp} {r : Int32 × Hp} (H : jX11_mends_66 y0 h = some r) : V Γ d mX11_mends 66 [] [.int y0] h (some (.int r.1), r.2) := by
  unfold jX11_mends_66 at H
  cases H
  exact v_ireturn rfl dX11_mends_66
def fX11_mends (h : Hp) (v0 : Nat) (v1 : Int32) : Option (Int32 × Hp) :=
if v1 < 0 then (
jX11_mends_9 h) else (
if v1 ≤ (1 : Int32) then (
(gR h 11 v0 10).bind fun x3 =>
(gR h 11 v0 5).bind fun x4 =>
(gO h 2 x4).bind fun _ =>
(fX2_present h x4).bind fun x6 =>
(gR h 3 x6 3).bind fun x7 =>
(gR h 1 x7 1).bind fun x8 =>
(gO h 4 x3).bind fun _ =>
(fX4_mend h x3 x8).bind fun x10 =>
(gR x10 11 v0 10).bind fun x11 =>
(gI x10 4 x11 0).bind fun x12 =>
if x12 ≤ (3 : Int32) then (
if v1 = 0 then (
(gR x10 11 v0 10).bind fun x17 =>
(gI x10 4 x17 0).bind fun x18 =>
jX11_mends_66 x18 x10) else (
(gR x10 11 v0 10).bind fun x15 =>
(gI x10 4 x15 1).bind fun x16 =>
jX11_mends_66 x16 x10)) else (
some (((-2 : Int32), x10)))) else (
jX11_mends_9 h))
set_option maxRecDepth 20000 in
set_option maxHeartbeats 4000000 in
theorem sX11_mends {Γ : Gm} {d : Nat} (hd : 12 ≤ d) {h : Hp} {v0 : Nat} {v1 : Int32} {r : Int32 × Hp} (H : fX11_mends h v0 v1 = some r) : V Γ d mX11_mends 0 [(0, .ref v0), (1, .int v1)] [] h (some (.int r.1), r.2) := by
  unfold fX11_mends at H
  refine v_iload_n (q := 1) 1 dX11_mends_0 rfl rfl rfl ?_
  refine v_if_lt (q1 := 9) (q2 := 4) dX11_mends_1 (by decide) rfl (fun c1 => ?_) (fun c1 => ?_)
  · replace H := ip c1 H
    exact V.sub [] rfl (sjX11_mends_9 hd H)
  · replace H := ine c1 H
    refine v_iload_n (q := 5) 1 dX11_mends_4 rfl rfl rfl ?_
    refine v_iconst (v := 1) (q := 6) dX11_mends_5 (by decide) rfl ?_
    refine v_icmp_le (q1 := 11) (q2 := 9) dX11_mends_6 (by decide) rfl (fun c2 => ?_) (fun c2 => ?_)
    · replace H := ip c2 H
      refine v_aload_n (q := 12) 0 dX11_mends_11 rfl rfl rfl ?_
      replace H := bs H; obtain ⟨x3, x3e, H⟩ := H
      refine u_gR (q := 15) (r := (RX11, TX11, 14)) x3e dX11_mends_12 w0531 rfl (by decide) rfl rfl ?_
      refine v_aload_n (q := 16) 0 dX11_mends_15 rfl rfl rfl ?_
      replace H := bs H; obtain ⟨x4, x4e, H⟩ := H
      refine u_gR (q := 19) (r := (RX11, TX11, 14)) x4e dX11_mends_16 w0526 rfl (by decide) rfl rfl ?_
      replace H := bs H; obtain ⟨_, o5, H⟩ := H
      replace H := bs H; obtain ⟨x6, x6e, H⟩ := H
      refine u_callV1 (M' := mX2_present) (d' := 1) (rc := (RX2, TX2, 3)) (As := []) (st := [.ref x3]) (q := 22) oX2_present dX11_mends_19 w0701 w0702 w0703 rfl rfl (gO_sp o5).1 (gO_sp o5).2 rfl (Nat.le_of_ble_eq_true rfl) (Nat.le_of_ble_eq_true rfl) (Nat.lt_of_lt_of_le (by decide) hd) rfl (sX2_present (Nat.le_refl _) x6e) rfl ?_
      replace H := bs H; obtain ⟨x7, x7e, H⟩ := H
      refine u_gR (q := 25) (r := (RX3, TX3, 8)) x7e dX11_mends_22 w0350 rfl (by decide) rfl rfl ?_
      replace H := bs H; obtain ⟨x8, x8e, H⟩ := H
      refine u_gR (q := 28) (r := (RX1, TX1, 4)) x8e dX11_mends_25 w0290 rfl (by decide) rfl rfl ?_
      replace H := bs H; obtain ⟨_, o9, H⟩ := H
      replace H := bs H; obtain ⟨x10, x10e, H⟩ := H
      refine u_callV0 (M' := mX4_mend) (d' := 11) (rc := (RX4, TX4, 5)) (As := [.ref x8]) (st := []) (q := 31) oX4_mend dX11_mends_28 w1003 w1004 w1005 rfl rfl (gO_sp o9).1 (gO_sp o9).2 rfl (Nat.le_of_ble_eq_true rfl) (Nat.le_of_ble_eq_true rfl) (Nat.lt_of_lt_of_le (by decide) hd) rfl (sX4_mend (Nat.le_refl _) x10e) rfl ?_
      refine v_aload_n (q := 32) 0 dX11_mends_31 rfl rfl rfl ?_
      replace H := bs H; obtain ⟨x11, x11e, H⟩ := H
      refine u_gR (q := 35) (r := (RX11, TX11, 14)) x11e dX11_mends_32 w0531 rfl (by decide) rfl rfl ?_
      replace H := bs H; obtain ⟨x12, x12e, H⟩ := H
      refine u_gI (q := 38) (r := (RX4, TX4, 5)) x12e dX11_mends_35 w0465 rfl (by decide) rfl rfl ?_
      refine v_iconst (v := 3) (q := 39) dX11_mends_38 (by decide) rfl ?_
      refine v_icmp_le (q1 := 45) (q2 := 42) dX11_mends_39 (by decide) rfl (fun c13 => ?_) (fun c13 => ?_)
      · replace H := ip c13 H
        refine v_iload_n (q := 46) 1 dX11_mends_45 rfl rfl rfl ?_
        refine v_if_ne (q1 := 59) (q2 := 49) dX11_mends_46 (by decide) rfl (fun c14 => ?_) (fun c14 => ?_)
        · replace H := ine c14 H
          refine v_aload_n (q := 60) 0 dX11_mends_59 rfl rfl rfl ?_
          replace H := bs H; obtain ⟨x15, x15e, H⟩ := H
          refine u_gR (q := 63) (r := (RX11, TX11, 14)) x15e dX11_mends_60 w0531 rfl (by decide) rfl rfl ?_
          replace H := bs H; obtain ⟨x16, x16e, H⟩ := H
          refine u_gI (q := 66) (r := (RX4, TX4, 5)) x16e dX11_mends_63 w0467 rfl (by decide) rfl rfl ?_
          exact V.sub [] rfl (sjX11_mends_66 hd H)
        · replace H := ip c14 H
          refine v_aload_n (q := 50) 0 dX11_mends_49 rfl rfl rfl ?_
          replace H := bs H; obtain ⟨x17, x17e, H⟩ := H
          refine u_gR (q := 53) (r := (RX11, TX11, 14)) x17e dX11_mends_50 w0531 rfl (by decide) rfl rfl ?_
          replace H := bs H; obtain ⟨x18, x18e, H⟩ := H
          refine u_gI (q := 56) (r := (RX4, TX4, 5)) x18e dX11_mends_53 w0465 rfl (by decide) rfl rfl ?_
          refine v_goto (q := 66) dX11_mends_56 (by decide) ?_
          exact V.sub [] rfl (sjX11_mends_66 hd H)
      · replace H := ine c13 H
        refine v_bipush (v := -2) (q := 44) dX11_mends_42 (by decide) rfl ?_
        cases H
        exact v_ireturn rfl dX11_mends_44
    · replace H := ine c2 H
      exact V.sub [] rfl (sjX11_mends_9 hd H)
def mX7_kindsOf : MI := (yX7_kindsOf, cX7_kindsOf, 4, some .int)
theorem oX7_kindsOf : mOK mX7_kindsOf 1 := ⟨by decide +kernel, by decide +kernel, by decide +kernel, by decide, w1278, w0145⟩
def bX7_kindsOf_4 (u0 : Nat) (u1 : Int32) (h : Hp) (s4 : Int32 × Int32) : Option ((Int32 × Int32) ⊕ (Int32)) :=
(gR h 7 u0 4).bind fun x1 =>
(lI h .int x1 u1).bind fun x2 =>
if x2 ≤ s4.2 then (
some (.inr s4.1)) else (
(gR h 7 u0 5).bind fun x4 =>
(lI h .byte x4 ((u1 * (17 : Int32)) + s4.2)).bind fun x5 =>
(some (s4.1 ||| ((1 : Int32) <<< ((x5 >>> ((1 : Int32) &&& 31)) &&& 31)))).bind fun x6 =>
(some (s4.2 + (1 : Int32))).bind fun x7 =>
some (.inl (x6, x7)))
set_option maxRecDepth 20000 in
set_option maxHeartbeats 4000000 in
theorem sbX7_kindsOf_4 {Γ : Gm} {d : Nat} (hd : 1 ≤ d) {u0 : Nat} {u1 : Int32} {h : Hp} {s4 : Int32 × Int32} {r : (Int32 × Int32) ⊕ (Int32)} {t : Option Value × Hp} (H : bX7_kindsOf_4 u0 u1 h s4 = some r) (kI : ∀ s, r = .inl s → (fun s4 => V Γ d mX7_kindsOf 4 [(0, .ref u0), (1, .int u1), (2, .int s4.1), (3, .int s4.2)] [] h t) s) (kE : ∀ e, r = .inr e → (fun e => V Γ d mX7_kindsOf 38 [(2, .int e)] [] h t) e) : V Γ d mX7_kindsOf 4 [(0, .ref u0), (1, .int u1), (2, .int s4.1), (3, .int s4.2)] [] h t := by
  unfold bX7_kindsOf_4 at H
  refine v_iload_n (q := 5) 3 dX7_kindsOf_4 rfl rfl rfl ?_
  refine v_aload_n (q := 6) 0 dX7_kindsOf_5 rfl rfl rfl ?_
  replace H := bs H; obtain ⟨x1, x1e, H⟩ := H
  refine u_gR (q := 9) (r := (RX7, TX7, 7)) x1e dX7_kindsOf_6 w0320 rfl (by decide) rfl rfl ?_
  refine v_iload_n (q := 10) 1 dX7_kindsOf_9 rfl rfl rfl ?_
  replace H := bs H; obtain ⟨x2, x2e, H⟩ := H
  refine u_lI (q := 11) x2e dX7_kindsOf_10 rfl ?_
  refine v_icmp_ge (q1 := 38) (q2 := 14) dX7_kindsOf_11 (by decide) rfl (fun c3 => ?_) (fun c3 => ?_)
  · replace H := ip c3 H
    exact V.sub [2] rfl (kE s4.1 (Option.some.inj H).symm)
  · replace H := ine c3 H
    refine v_iload_n (q := 15) 2 dX7_kindsOf_14 rfl rfl rfl ?_
    refine v_iconst (v := 1) (q := 16) dX7_kindsOf_15 (by decide) rfl ?_
    refine v_aload_n (q := 17) 0 dX7_kindsOf_16 rfl rfl rfl ?_
    replace H := bs H; obtain ⟨x4, x4e, H⟩ := H
    refine u_gR (q := 20) (r := (RX7, TX7, 7)) x4e dX7_kindsOf_17 w0322 rfl (by decide) rfl rfl ?_
    refine v_iload_n (q := 21) 1 dX7_kindsOf_20 rfl rfl rfl ?_
    refine v_bipush (v := 17) (q := 23) dX7_kindsOf_21 (by decide) rfl ?_
    refine v_imul (q := 24) dX7_kindsOf_23 rfl ?_
    refine v_iload_n (q := 25) 3 dX7_kindsOf_24 rfl rfl rfl ?_
    refine v_iadd (q := 26) dX7_kindsOf_25 rfl ?_
    replace H := bs H; obtain ⟨x5, x5e, H⟩ := H
    refine u_lB (q := 27) x5e dX7_kindsOf_26 rfl ?_
    refine v_iconst (v := 1) (q := 28) dX7_kindsOf_27 (by decide) rfl ?_
    refine v_ishr (q := 29) dX7_kindsOf_28 rfl ?_
    refine v_ishl (q := 30) dX7_kindsOf_29 rfl ?_
    refine v_ior (q := 31) dX7_kindsOf_30 rfl ?_
    replace H := bs H; obtain ⟨x6, x6e, H⟩ := H
    refine v_topi (Option.some.inj x6e) ?_
    refine v_istore_n (L' := [(2, .int x6), (0, .ref u0), (1, .int u1), (3, .int s4.2)]) (q := 32) dX7_kindsOf_31 rfl (by decide) rfl rfl ?_
    replace H := bs H; obtain ⟨x7, x7e, H⟩ := H
    refine v_iinc (v := x7) (L' := [(3, .int x7), (2, .int x6), (0, .ref u0), (1, .int u1)]) (q := 35) 3 dX7_kindsOf_32 rfl (Option.some.inj x7e) (by decide) rfl rfl ?_
    refine v_goto (q := 4) dX7_kindsOf_35 (by decide) ?_
    exact V.sub [2, 3, 1, 0] rfl (kI (x6, x7) (Option.some.inj H).symm)
def fX7_kindsOf (h : Hp) (v0 : Nat) (v1 : Int32) : Option (Int32) :=
(lp (bX7_kindsOf_4 v0 v1 h) FU ((0 : Int32), (0 : Int32))).bind fun e8 =>
some e8
set_option maxRecDepth 20000 in
set_option maxHeartbeats 4000000 in
theorem sX7_kindsOf {Γ : Gm} {d : Nat} (hd : 1 ≤ d) {h : Hp} {v0 : Nat} {v1 : Int32} {r : Int32} (H : fX7_kindsOf h v0 v1 = some r) : V Γ d mX7_kindsOf 0 [(0, .ref v0), (1, .int v1)] [] h (some (.int r), h) := by
  unfold fX7_kindsOf at H
  refine v_iconst (v := 0) (q := 1) dX7_kindsOf_0 (by decide) rfl ?_
  refine v_istore_n (L' := [(2, .int (0 : Int32)), (0, .ref v0), (1, .int v1)]) (q := 2) dX7_kindsOf_1 rfl (by decide) rfl rfl ?_
  refine v_iconst (v := 0) (q := 3) dX7_kindsOf_2 (by decide) rfl ?_
  refine v_istore_n (L' := [(3, .int (0 : Int32)), (2, .int (0 : Int32)), (0, .ref v0), (1, .int v1)]) (q := 4) dX7_kindsOf_3 rfl (by decide) rfl rfl ?_
  replace H := bs H; obtain ⟨e8, e8L, H⟩ := H
  refine V.sub [2, 3, 1, 0] rfl ?_
  refine lp_V (P := (fun s4 => V Γ d mX7_kindsOf 4 [(0, .ref v0), (1, .int v1), (2, .int s4.1), (3, .int s4.2)] [] h (some (.int r), h))) (E := (fun e => V Γ d mX7_kindsOf 38 [(2, .int e)] [] h (some (.int r), h))) (fun s r hb kI kE => sbX7_kindsOf_4 hd (s4 := s) (r := r) hb kI kE) FU ((0 : Int32), (0 : Int32)) e8 e8L ?_
  refine v_iload_n (q := 39) 0 dX7_kindsOf_38 rfl rfl rfl ?_
  cases H
  exact v_ireturn rfl dX7_kindsOf_39
def mX7_kindsOfWaiting : MI := (yX7_kindsOfWaiting, cX7_kindsOfWaiting, 3, some .int)
theorem oX7_kindsOfWaiting : mOK mX7_kindsOfWaiting 0 := ⟨by decide +kernel, by decide +kernel, by decide +kernel, by decide, w1274, w0145⟩
def jX7_kindsOfWaiting_31 (u0 : Nat) (v1 : Int32) (v2 : Int32) (h : Hp) : Option ((Int32 × Int32) ⊕ (Int32)) :=
(some (v2 + (1 : Int32))).bind fun x6 =>
some (.inl (v1, x6))
set_option maxRecDepth 20000 in
set_option maxHeartbeats 4000000 in
theorem sjX7_kindsOfWaiting_31 {Γ : Gm} {d : Nat} (hd : 2 ≤ d) {u0 : Nat} {v1 : Int32} {v2 : Int32} {h : Hp} {r : (Int32 × Int32) ⊕ (Int32)} {t : Option Value × Hp} (H : jX7_kindsOfWaiting_31 u0 v1 v2 h = some r) (kI : ∀ s, r = .inl s → (fun s4 => V Γ d mX7_kindsOfWaiting 4 [(0, .ref u0), (1, .int s4.1), (2, .int s4.2)] [] h t) s) (kE : ∀ e, r = .inr e → (fun e => V Γ d mX7_kindsOfWaiting 37 [(1, .int e)] [] h t) e) : V Γ d mX7_kindsOfWaiting 31 [(0, .ref u0), (1, .int v1), (2, .int v2)] [] h t := by
  unfold jX7_kindsOfWaiting_31 at H
  replace H := bs H; obtain ⟨x6, x6e, H⟩ := H
  refine v_iinc (v := x6) (L' := [(2, .int x6), (0, .ref u0), (1, .int v1)]) (q := 34) 2 dX7_kindsOfWaiting_31 rfl (Option.some.inj x6e) (by decide) rfl rfl ?_
  refine v_goto (q := 4) dX7_kindsOfWaiting_34 (by decide) ?_
  exact V.sub [1, 2, 0] rfl (kI (v1, x6) (Option.some.inj H).symm)
def bX7_kindsOfWaiting_4 (u0 : Nat) (h : Hp) (s4 : Int32 × Int32) : Option ((Int32 × Int32) ⊕ (Int32)) :=
(gI h 7 u0 0).bind fun x1 =>
if x1 ≤ s4.2 then (
some (.inr s4.1)) else (
(gR h 7 u0 1).bind fun x3 =>
(lI h .int x3 s4.2).bind fun x4 =>
if (7 : Int32) < x4 then (
jX7_kindsOfWaiting_31 u0 s4.1 s4.2 h) else (
(gO h 7 u0).bind fun _ =>
(fX7_kindsOf h u0 s4.2).bind fun x8 =>
(some (s4.1 ||| x8)).bind fun x9 =>
jX7_kindsOfWaiting_31 u0 x9 s4.2 h))
set_option maxRecDepth 20000 in
set_option maxHeartbeats 4000000 in
theorem sbX7_kindsOfWaiting_4 {Γ : Gm} {d : Nat} (hd : 2 ≤ d) {u0 : Nat} {h : Hp} {s4 : Int32 × Int32} {r : (Int32 × Int32) ⊕ (Int32)} {t : Option Value × Hp} (H : bX7_kindsOfWaiting_4 u0 h s4 = some r) (kI : ∀ s, r = .inl s → (fun s4 => V Γ d mX7_kindsOfWaiting 4 [(0, .ref u0), (1, .int s4.1), (2, .int s4.2)] [] h t) s) (kE : ∀ e, r = .inr e → (fun e => V Γ d mX7_kindsOfWaiting 37 [(1, .int e)] [] h t) e) : V Γ d mX7_kindsOfWaiting 4 [(0, .ref u0), (1, .int s4.1), (2, .int s4.2)] [] h t := by
  unfold bX7_kindsOfWaiting_4 at H
  refine v_iload_n (q := 5) 2 dX7_kindsOfWaiting_4 rfl rfl rfl ?_
  refine v_aload_n (q := 6) 0 dX7_kindsOfWaiting_5 rfl rfl rfl ?_
  replace H := bs H; obtain ⟨x1, x1e, H⟩ := H
  refine u_gI (q := 9) (r := (RX7, TX7, 7)) x1e dX7_kindsOfWaiting_6 w0311 rfl (by decide) rfl rfl ?_
  refine v_icmp_ge (q1 := 37) (q2 := 12) dX7_kindsOfWaiting_9 (by decide) rfl (fun c2 => ?_) (fun c2 => ?_)
  · replace H := ip c2 H
    exact V.sub [1] rfl (kE s4.1 (Option.some.inj H).symm)
  · replace H := ine c2 H
    refine v_aload_n (q := 13) 0 dX7_kindsOfWaiting_12 rfl rfl rfl ?_
    replace H := bs H; obtain ⟨x3, x3e, H⟩ := H
    refine u_gR (q := 16) (r := (RX7, TX7, 7)) x3e dX7_kindsOfWaiting_13 w0314 rfl (by decide) rfl rfl ?_
    refine v_iload_n (q := 17) 2 dX7_kindsOfWaiting_16 rfl rfl rfl ?_
    replace H := bs H; obtain ⟨x4, x4e, H⟩ := H
    refine u_lI (q := 18) x4e dX7_kindsOfWaiting_17 rfl ?_
    refine v_bipush (v := 7) (q := 20) dX7_kindsOfWaiting_18 (by decide) rfl ?_
    refine v_icmp_gt (q1 := 31) (q2 := 23) dX7_kindsOfWaiting_20 (by decide) rfl (fun c5 => ?_) (fun c5 => ?_)
    · replace H := ip c5 H
      exact V.sub [0, 1, 2] rfl (sjX7_kindsOfWaiting_31 hd H kI kE)
    · replace H := ine c5 H
      refine v_iload_n (q := 24) 1 dX7_kindsOfWaiting_23 rfl rfl rfl ?_
      refine v_aload_n (q := 25) 0 dX7_kindsOfWaiting_24 rfl rfl rfl ?_
      refine v_iload_n (q := 26) 2 dX7_kindsOfWaiting_25 rfl rfl rfl ?_
      replace H := bs H; obtain ⟨_, o7, H⟩ := H
      replace H := bs H; obtain ⟨x8, x8e, H⟩ := H
      refine u_callV1 (M' := mX7_kindsOf) (d' := 1) (rc := (RX7, TX7, 7)) (As := [.int s4.2]) (st := [.int s4.1]) (q := 29) oX7_kindsOf dX7_kindsOfWaiting_26 w1275 w1276 w1277 rfl rfl (gO_sp o7).1 (gO_sp o7).2 rfl (Nat.le_of_ble_eq_true rfl) (Nat.le_of_ble_eq_true rfl) (Nat.lt_of_lt_of_le (by decide) hd) rfl (sX7_kindsOf (Nat.le_refl _) x8e) rfl ?_
      refine v_ior (q := 30) dX7_kindsOfWaiting_29 rfl ?_
      replace H := bs H; obtain ⟨x9, x9e, H⟩ := H
      refine v_topi (Option.some.inj x9e) ?_
      refine v_istore_n (L' := [(1, .int x9), (0, .ref u0), (2, .int s4.2)]) (q := 31) dX7_kindsOfWaiting_30 rfl (by decide) rfl rfl ?_
      exact V.sub [1, 0, 2] rfl (sjX7_kindsOfWaiting_31 hd H kI kE)
def fX7_kindsOfWaiting (h : Hp) (v0 : Nat) : Option (Int32) :=
(lp (bX7_kindsOfWaiting_4 v0 h) FU ((0 : Int32), (0 : Int32))).bind fun e10 =>
some e10
set_option maxRecDepth 20000 in
set_option maxHeartbeats 4000000 in
theorem sX7_kindsOfWaiting {Γ : Gm} {d : Nat} (hd : 2 ≤ d) {h : Hp} {v0 : Nat} {r : Int32} (H : fX7_kindsOfWaiting h v0 = some r) : V Γ d mX7_kindsOfWaiting 0 [(0, .ref v0)] [] h (some (.int r), h) := by
  unfold fX7_kindsOfWaiting at H
  refine v_iconst (v := 0) (q := 1) dX7_kindsOfWaiting_0 (by decide) rfl ?_
  refine v_istore_n (L' := [(1, .int (0 : Int32)), (0, .ref v0)]) (q := 2) dX7_kindsOfWaiting_1 rfl (by decide) rfl rfl ?_
  refine v_iconst (v := 0) (q := 3) dX7_kindsOfWaiting_2 (by decide) rfl ?_
  refine v_istore_n (L' := [(2, .int (0 : Int32)), (1, .int (0 : Int32)), (0, .ref v0)]) (q := 4) dX7_kindsOfWaiting_3 rfl (by decide) rfl rfl ?_
  replace H := bs H; obtain ⟨e10, e10L, H⟩ := H
  refine V.sub [2, 1, 0] rfl ?_
  refine lp_V (P := (fun s4 => V Γ d mX7_kindsOfWaiting 4 [(0, .ref v0), (1, .int s4.1), (2, .int s4.2)] [] h (some (.int r), h))) (E := (fun e => V Γ d mX7_kindsOfWaiting 37 [(1, .int e)] [] h (some (.int r), h))) (fun s r hb kI kE => sbX7_kindsOfWaiting_4 hd (s4 := s) (r := r) hb kI kE) FU ((0 : Int32), (0 : Int32)) e10 e10L ?_
  refine v_iload_n (q := 38) 0 dX7_kindsOfWaiting_37 rfl rfl rfl ?_
  cases H
  exact v_ireturn rfl dX7_kindsOfWaiting_38
def mX5_locksOfKinds : MI := (yX5_locksOfKinds, cX5_locksOfKinds, 5, some .int)
theorem oX5_locksOfKinds : mOK mX5_locksOfKinds 2 := ⟨by decide +kernel, by decide +kernel, by decide +kernel, by decide, w1282, w0141⟩
def jX5_locksOfKinds_44 (u0 : Nat) (u1 : Int32) (u2 : Int32) (v3 : Int32) (v4 : Int32) (h : Hp) : Option ((Int32 × Int32) ⊕ (Int32)) :=
(some (v4 + (1 : Int32))).bind fun x5 =>
some (.inl (v3, x5))
set_option maxRecDepth 20000 in
set_option maxHeartbeats 4000000 in
theorem sjX5_locksOfKinds_44 {Γ : Gm} {d : Nat} (hd : 2 ≤ d) {u0 : Nat} {u1 : Int32} {u2 : Int32} {v3 : Int32} {v4 : Int32} {h : Hp} {r : (Int32 × Int32) ⊕ (Int32)} {t : Option Value × Hp} (H : jX5_locksOfKinds_44 u0 u1 u2 v3 v4 h = some r) (kI : ∀ s, r = .inl s → (fun s5 => V Γ d mX5_locksOfKinds 5 [(0, .ref u0), (1, .int u1), (2, .int u2), (3, .int s5.1), (4, .int s5.2)] [] h t) s) (kE : ∀ e, r = .inr e → (fun e => V Γ d mX5_locksOfKinds 50 [(3, .int e)] [] h t) e) : V Γ d mX5_locksOfKinds 44 [(0, .ref u0), (1, .int u1), (2, .int u2), (3, .int v3), (4, .int v4)] [] h t := by
  unfold jX5_locksOfKinds_44 at H
  replace H := bs H; obtain ⟨x5, x5e, H⟩ := H
  refine v_iinc (v := x5) (L' := [(4, .int x5), (0, .ref u0), (1, .int u1), (2, .int u2), (3, .int v3)]) (q := 47) 4 dX5_locksOfKinds_44 rfl (Option.some.inj x5e) (by decide) rfl rfl ?_
  refine v_goto (q := 5) dX5_locksOfKinds_47 (by decide) ?_
  exact V.sub [1, 2, 3, 4, 0] rfl (kI (v3, x5) (Option.some.inj H).symm)
def bX5_locksOfKinds_5 (u0 : Nat) (u1 : Int32) (u2 : Int32) (h : Hp) (s5 : Int32 × Int32) : Option ((Int32 × Int32) ⊕ (Int32)) :=
(gI h 5 u0 1).bind fun x1 =>
if x1 ≤ s5.2 then (
some (.inr s5.1)) else (
(fX11_has h u1 s5.2).bind fun x3 =>
if x3 = 0 then (
jX5_locksOfKinds_44 u0 u1 u2 s5.1 s5.2 h) else (
(gR h 5 u0 3).bind fun x6 =>
(lI h .int x6 s5.2).bind fun x7 =>
(fX11_has h u2 x7).bind fun x8 =>
if x8 = 0 then (
jX5_locksOfKinds_44 u0 u1 u2 s5.1 s5.2 h) else (
(some (s5.1 ||| ((1 : Int32) <<< (s5.2 &&& 31)))).bind fun x10 =>
jX5_locksOfKinds_44 u0 u1 u2 x10 s5.2 h)))
set_option maxRecDepth 20000 in
set_option maxHeartbeats 4000000 in
theorem sbX5_locksOfKinds_5 {Γ : Gm} {d : Nat} (hd : 2 ≤ d) {u0 : Nat} {u1 : Int32} {u2 : Int32} {h : Hp} {s5 : Int32 × Int32} {r : (Int32 × Int32) ⊕ (Int32)} {t : Option Value × Hp} (H : bX5_locksOfKinds_5 u0 u1 u2 h s5 = some r) (kI : ∀ s, r = .inl s → (fun s5 => V Γ d mX5_locksOfKinds 5 [(0, .ref u0), (1, .int u1), (2, .int u2), (3, .int s5.1), (4, .int s5.2)] [] h t) s) (kE : ∀ e, r = .inr e → (fun e => V Γ d mX5_locksOfKinds 50 [(3, .int e)] [] h t) e) : V Γ d mX5_locksOfKinds 5 [(0, .ref u0), (1, .int u1), (2, .int u2), (3, .int s5.1), (4, .int s5.2)] [] h t := by
  unfold bX5_locksOfKinds_5 at H
  refine v_iload (q := 7) 4 dX5_locksOfKinds_5 rfl rfl ?_
  refine v_aload_n (q := 8) 0 dX5_locksOfKinds_7 rfl rfl rfl ?_
  replace H := bs H; obtain ⟨x1, x1e, H⟩ := H
  refine u_gI (q := 11) (r := (RX5, TX5, 7)) x1e dX5_locksOfKinds_8 w0227 rfl (by decide) rfl rfl ?_
  refine v_icmp_ge (q1 := 50) (q2 := 14) dX5_locksOfKinds_11 (by decide) rfl (fun c2 => ?_) (fun c2 => ?_)
  · replace H := ip c2 H
    exact V.sub [3] rfl (kE s5.1 (Option.some.inj H).symm)
  · replace H := ine c2 H
    refine v_iload_n (q := 15) 1 dX5_locksOfKinds_14 rfl rfl rfl ?_
    refine v_iload (q := 17) 4 dX5_locksOfKinds_15 rfl rfl ?_
    replace H := bs H; obtain ⟨x3, x3e, H⟩ := H
    refine u_callSN1 (M' := mX11_has) (d' := 1) (As := [.int u1, .int s5.2]) (st := []) (q := 20) oX11_has dX5_locksOfKinds_17 w1283 w0783 rfl (Nat.le_of_ble_eq_true rfl) (Nat.le_of_ble_eq_true rfl) (Nat.lt_of_lt_of_le (by decide) hd) rfl (sX11_has (Nat.le_refl _) x3e) rfl ?_
    refine v_if_eq (q1 := 44) (q2 := 23) dX5_locksOfKinds_20 (by decide) rfl (fun c4 => ?_) (fun c4 => ?_)
    · replace H := ip c4 H
      exact V.sub [0, 1, 2, 3, 4] rfl (sjX5_locksOfKinds_44 hd H kI kE)
    · replace H := ine c4 H
      refine v_iload_n (q := 24) 2 dX5_locksOfKinds_23 rfl rfl rfl ?_
      refine v_aload_n (q := 25) 0 dX5_locksOfKinds_24 rfl rfl rfl ?_
      replace H := bs H; obtain ⟨x6, x6e, H⟩ := H
      refine u_gR (q := 28) (r := (RX5, TX5, 7)) x6e dX5_locksOfKinds_25 w0235 rfl (by decide) rfl rfl ?_
      refine v_iload (q := 30) 4 dX5_locksOfKinds_28 rfl rfl ?_
      replace H := bs H; obtain ⟨x7, x7e, H⟩ := H
      refine u_lI (q := 31) x7e dX5_locksOfKinds_30 rfl ?_
      replace H := bs H; obtain ⟨x8, x8e, H⟩ := H
      refine u_callSN1 (M' := mX11_has) (d' := 1) (As := [.int u2, .int x7]) (st := []) (q := 34) oX11_has dX5_locksOfKinds_31 w1283 w0783 rfl (Nat.le_of_ble_eq_true rfl) (Nat.le_of_ble_eq_true rfl) (Nat.lt_of_lt_of_le (by decide) hd) rfl (sX11_has (Nat.le_refl _) x8e) rfl ?_
      refine v_if_eq (q1 := 44) (q2 := 37) dX5_locksOfKinds_34 (by decide) rfl (fun c9 => ?_) (fun c9 => ?_)
      · replace H := ip c9 H
        exact V.sub [0, 1, 2, 3, 4] rfl (sjX5_locksOfKinds_44 hd H kI kE)
      · replace H := ine c9 H
        refine v_iload_n (q := 38) 3 dX5_locksOfKinds_37 rfl rfl rfl ?_
        refine v_iconst (v := 1) (q := 39) dX5_locksOfKinds_38 (by decide) rfl ?_
        refine v_iload (q := 41) 4 dX5_locksOfKinds_39 rfl rfl ?_
        refine v_ishl (q := 42) dX5_locksOfKinds_41 rfl ?_
        refine v_ior (q := 43) dX5_locksOfKinds_42 rfl ?_
        replace H := bs H; obtain ⟨x10, x10e, H⟩ := H
        refine v_topi (Option.some.inj x10e) ?_
        refine v_istore_n (L' := [(3, .int x10), (0, .ref u0), (1, .int u1), (2, .int u2), (4, .int s5.2)]) (q := 44) dX5_locksOfKinds_43 rfl (by decide) rfl rfl ?_
        exact V.sub [1, 2, 3, 0, 4] rfl (sjX5_locksOfKinds_44 hd H kI kE)
def fX5_locksOfKinds (h : Hp) (v0 : Nat) (v1 : Int32) (v2 : Int32) : Option (Int32) :=
(lp (bX5_locksOfKinds_5 v0 v1 v2 h) FU ((0 : Int32), (0 : Int32))).bind fun e11 =>
some e11
set_option maxRecDepth 20000 in
set_option maxHeartbeats 4000000 in
theorem sX5_locksOfKinds {Γ : Gm} {d : Nat} (hd : 2 ≤ d) {h : Hp} {v0 : Nat} {v1 : Int32} {v2 : Int32} {r : Int32} (H : fX5_locksOfKinds h v0 v1 v2 = some r) : V Γ d mX5_locksOfKinds 0 [(0, .ref v0), (1, .int v1), (2, .int v2)] [] h (some (.int r), h) := by
  unfold fX5_locksOfKinds at H
  refine v_iconst (v := 0) (q := 1) dX5_locksOfKinds_0 (by decide) rfl ?_
  refine v_istore_n (L' := [(3, .int (0 : Int32)), (0, .ref v0), (1, .int v1), (2, .int v2)]) (q := 2) dX5_locksOfKinds_1 rfl (by decide) rfl rfl ?_
  refine v_iconst (v := 0) (q := 3) dX5_locksOfKinds_2 (by decide) rfl ?_
  refine v_istore (L' := [(4, .int (0 : Int32)), (3, .int (0 : Int32)), (0, .ref v0), (1, .int v1), (2, .int v2)]) (q := 5) dX5_locksOfKinds_3 (by decide) rfl rfl ?_
  replace H := bs H; obtain ⟨e11, e11L, H⟩ := H
  refine V.sub [2, 3, 4, 1, 0] rfl ?_
  refine lp_V (P := (fun s5 => V Γ d mX5_locksOfKinds 5 [(0, .ref v0), (1, .int v1), (2, .int v2), (3, .int s5.1), (4, .int s5.2)] [] h (some (.int r), h))) (E := (fun e => V Γ d mX5_locksOfKinds 50 [(3, .int e)] [] h (some (.int r), h))) (fun s r hb kI kE => sbX5_locksOfKinds_5 hd (s5 := s) (r := r) hb kI kE) FU ((0 : Int32), (0 : Int32)) e11 e11L ?_
  refine v_iload_n (q := 51) 0 dX5_locksOfKinds_50 rfl rfl rfl ?_
  cases H
  exact v_ireturn rfl dX5_locksOfKinds_51
def mX11_missed : MI := (yX11_missed, cX11_missed, 3, some .int)
theorem oX11_missed : mOK mX11_missed 0 := ⟨by decide +kernel, by decide +kernel, by decide +kernel, by decide, w1270, w0139⟩
def fX11_missed (h : Hp) (v0 : Nat) : Option (Int32 × Hp) :=
(gR h 11 v0 13).bind fun x1 =>
(gR h 11 v0 3).bind fun x2 =>
(gR h 11 v0 5).bind fun x3 =>
(gO h 2 x3).bind fun _ =>
(fX2_present h x3).bind fun x5 =>
(gR h 3 x5 0).bind fun x6 =>
(gO h 0 x1).bind fun _ =>
(fX0_leastSet h x1 x2 x6).bind fun x8 =>
if x8.1 = 0 then (
some (((0 : Int32), x8.2))) else (
(gR x8.2 11 v0 5).bind fun x10 =>
(gO x8.2 2 x10).bind fun _ =>
(fX2_present x8.2 x10).bind fun x12 =>
(gR x8.2 3 x12 0).bind fun x13 =>
(gO x8.2 11 v0).bind fun _ =>
(fX11_runEveryone x8.2 v0 x13).bind fun x15 =>
(gO x15.2 7 x15.1).bind fun _ =>
(fX7_kindsOfWaiting x15.2 x15.1).bind fun x17 =>
(gR x15.2 11 v0 3).bind fun x18 =>
(gR x15.2 11 v0 13).bind fun x19 =>
(gR x15.2 0 x19 3).bind fun x20 =>
(lI x15.2 .int x20 x8.1).bind fun x21 =>
(gO x15.2 5 x18).bind fun _ =>
(fX5_locksOfKinds x15.2 x18 x21 (x17 ^^^ (-1 : Int32))).bind fun x23 =>
(fJ6_bitCount_0f7a4 x15.2 x23).bind fun x24 =>
some (x24, x15.2))
set_option maxRecDepth 20000 in
set_option maxHeartbeats 4000000 in
theorem sX11_missed {Γ : Gm} {d : Nat} (hd : 8 ≤ d) {h : Hp} {v0 : Nat} {r : Int32 × Hp} (H : fX11_missed h v0 = some r) : V Γ d mX11_missed 0 [(0, .ref v0)] [] h (some (.int r.1), r.2) := by
  unfold fX11_missed at H
  refine v_aload_n (q := 1) 0 dX11_missed_0 rfl rfl rfl ?_
  replace H := bs H; obtain ⟨x1, x1e, H⟩ := H
  refine u_gR (q := 4) (r := (RX11, TX11, 14)) x1e dX11_missed_1 w0534 rfl (by decide) rfl rfl ?_
  refine v_aload_n (q := 5) 0 dX11_missed_4 rfl rfl rfl ?_
  replace H := bs H; obtain ⟨x2, x2e, H⟩ := H
  refine u_gR (q := 8) (r := (RX11, TX11, 14)) x2e dX11_missed_5 w0524 rfl (by decide) rfl rfl ?_
  refine v_aload_n (q := 9) 0 dX11_missed_8 rfl rfl rfl ?_
  replace H := bs H; obtain ⟨x3, x3e, H⟩ := H
  refine u_gR (q := 12) (r := (RX11, TX11, 14)) x3e dX11_missed_9 w0526 rfl (by decide) rfl rfl ?_
  replace H := bs H; obtain ⟨_, o4, H⟩ := H
  replace H := bs H; obtain ⟨x5, x5e, H⟩ := H
  refine u_callV1 (M' := mX2_present) (d' := 1) (rc := (RX2, TX2, 3)) (As := []) (st := [.ref x2, .ref x1]) (q := 15) oX2_present dX11_missed_12 w0701 w0702 w0703 rfl rfl (gO_sp o4).1 (gO_sp o4).2 rfl (Nat.le_of_ble_eq_true rfl) (Nat.le_of_ble_eq_true rfl) (Nat.lt_of_lt_of_le (by decide) hd) rfl (sX2_present (Nat.le_refl _) x5e) rfl ?_
  replace H := bs H; obtain ⟨x6, x6e, H⟩ := H
  refine u_gR (q := 18) (r := (RX3, TX3, 8)) x6e dX11_missed_15 w0341 rfl (by decide) rfl rfl ?_
  replace H := bs H; obtain ⟨_, o7, H⟩ := H
  replace H := bs H; obtain ⟨x8, x8e, H⟩ := H
  refine u_callV1 (M' := mX0_leastSet) (d' := 7) (rc := (RX0, TX0, 9)) (As := [.ref x2, .ref x6]) (st := []) (q := 21) oX0_leastSet dX11_missed_18 w1260 w1261 w1262 rfl rfl (gO_sp o7).1 (gO_sp o7).2 rfl (Nat.le_of_ble_eq_true rfl) (Nat.le_of_ble_eq_true rfl) (Nat.lt_of_lt_of_le (by decide) hd) rfl (sX0_leastSet (Nat.le_refl _) x8e) rfl ?_
  refine v_istore_n (L' := [(1, .int x8.1), (0, .ref v0)]) (q := 22) dX11_missed_21 rfl (by decide) rfl rfl ?_
  refine v_iload_n (q := 23) 0 dX11_missed_22 rfl rfl rfl ?_
  refine v_if_ne (q1 := 28) (q2 := 26) dX11_missed_23 (by decide) rfl (fun c9 => ?_) (fun c9 => ?_)
  · replace H := ine c9 H
    refine v_aload_n (q := 29) 1 dX11_missed_28 rfl rfl rfl ?_
    refine v_aload_n (q := 30) 1 dX11_missed_29 rfl rfl rfl ?_
    replace H := bs H; obtain ⟨x10, x10e, H⟩ := H
    refine u_gR (q := 33) (r := (RX11, TX11, 14)) x10e dX11_missed_30 w0526 rfl (by decide) rfl rfl ?_
    replace H := bs H; obtain ⟨_, o11, H⟩ := H
    replace H := bs H; obtain ⟨x12, x12e, H⟩ := H
    refine u_callV1 (M' := mX2_present) (d' := 1) (rc := (RX2, TX2, 3)) (As := []) (st := [.ref v0]) (q := 36) oX2_present dX11_missed_33 w0701 w0702 w0703 rfl rfl (gO_sp o11).1 (gO_sp o11).2 rfl (Nat.le_of_ble_eq_true rfl) (Nat.le_of_ble_eq_true rfl) (Nat.lt_of_lt_of_le (by decide) hd) rfl (sX2_present (Nat.le_refl _) x12e) rfl ?_
    replace H := bs H; obtain ⟨x13, x13e, H⟩ := H
    refine u_gR (q := 39) (r := (RX3, TX3, 8)) x13e dX11_missed_36 w0341 rfl (by decide) rfl rfl ?_
    replace H := bs H; obtain ⟨_, o14, H⟩ := H
    replace H := bs H; obtain ⟨x15, x15e, H⟩ := H
    refine u_callV1 (M' := mX11_runEveryone) (d' := 7) (rc := (RX11, TX11, 14)) (As := [.ref x13]) (st := []) (q := 42) oX11_runEveryone dX11_missed_39 w1047 w1049 w0033 rfl rfl (gO_sp o14).1 (gO_sp o14).2 rfl (Nat.le_of_ble_eq_true rfl) (Nat.le_of_ble_eq_true rfl) (Nat.lt_of_lt_of_le (by decide) hd) rfl (sX11_runEveryone (Nat.le_refl _) x15e) rfl ?_
    replace H := bs H; obtain ⟨_, o16, H⟩ := H
    replace H := bs H; obtain ⟨x17, x17e, H⟩ := H
    refine u_callV1 (M' := mX7_kindsOfWaiting) (d' := 2) (rc := (RX7, TX7, 7)) (As := []) (st := []) (q := 45) oX7_kindsOfWaiting dX11_missed_42 w1271 w1272 w1273 rfl rfl (gO_sp o16).1 (gO_sp o16).2 rfl (Nat.le_of_ble_eq_true rfl) (Nat.le_of_ble_eq_true rfl) (Nat.lt_of_lt_of_le (by decide) hd) rfl (sX7_kindsOfWaiting (Nat.le_refl _) x17e) rfl ?_
    refine v_istore_n (L' := [(2, .int x17), (1, .int x8.1), (0, .ref v0)]) (q := 46) dX11_missed_45 rfl (by decide) rfl rfl ?_
    refine v_aload_n (q := 47) 2 dX11_missed_46 rfl rfl rfl ?_
    replace H := bs H; obtain ⟨x18, x18e, H⟩ := H
    refine u_gR (q := 50) (r := (RX11, TX11, 14)) x18e dX11_missed_47 w0524 rfl (by decide) rfl rfl ?_
    refine v_aload_n (q := 51) 2 dX11_missed_50 rfl rfl rfl ?_
    replace H := bs H; obtain ⟨x19, x19e, H⟩ := H
    refine u_gR (q := 54) (r := (RX11, TX11, 14)) x19e dX11_missed_51 w0534 rfl (by decide) rfl rfl ?_
    replace H := bs H; obtain ⟨x20, x20e, H⟩ := H
    refine u_gR (q := 57) (r := (RX0, TX0, 9)) x20e dX11_missed_54 w0496 rfl (by decide) rfl rfl ?_
    refine v_iload_n (q := 58) 1 dX11_missed_57 rfl rfl rfl ?_
    replace H := bs H; obtain ⟨x21, x21e, H⟩ := H
    refine u_lI (q := 59) x21e dX11_missed_58 rfl ?_
    refine v_iload_n (q := 60) 0 dX11_missed_59 rfl rfl rfl ?_
    refine v_iconst (v := -1) (q := 61) dX11_missed_60 (by decide) rfl ?_
    refine v_ixor (q := 62) dX11_missed_61 rfl ?_
    replace H := bs H; obtain ⟨_, o22, H⟩ := H
    replace H := bs H; obtain ⟨x23, x23e, H⟩ := H
    refine u_callV1 (M' := mX5_locksOfKinds) (d' := 2) (rc := (RX5, TX5, 7)) (As := [.int x21, .int (x17 ^^^ (-1 : Int32))]) (st := []) (q := 65) oX5_locksOfKinds dX11_missed_62 w1279 w1280 w1281 rfl rfl (gO_sp o22).1 (gO_sp o22).2 rfl (Nat.le_of_ble_eq_true rfl) (Nat.le_of_ble_eq_true rfl) (Nat.lt_of_lt_of_le (by decide) hd) rfl (sX5_locksOfKinds (Nat.le_refl _) x23e) rfl ?_
    replace H := bs H; obtain ⟨x24, x24e, H⟩ := H
    refine u_callS1 (M' := mJ6_bitCount_0f7a4) (d' := 1) (As := [.int x23]) (st := []) (q := 68) oJ6_bitCount_0f7a4 dX11_missed_65 w1042 w0866 rfl (Nat.le_of_ble_eq_true rfl) (Nat.le_of_ble_eq_true rfl) (Nat.lt_of_lt_of_le (by decide) hd) rfl (sJ6_bitCount_0f7a4 (Nat.le_refl _) x24e) rfl ?_
    cases H
    exact v_ireturn rfl dX11_missed_68
  · replace H := ip c9 H
    refine v_iconst (v := 0) (q := 27) dX11_missed_26 (by decide) rfl ?_
    cases H
    exact v_ireturn rfl dX11_missed_27
def mX11_move : MI := (yX11_move, cX11_move, 5, some .int)
theorem oX11_move : mOK mX11_move 3 := ⟨by decide +kernel, by decide +kernel, by decide +kernel, by decide, w1241, w0139⟩
def jX11_move_20 (h : Hp) : Option (Int32 × Hp) :=
some (((-2 : Int32), h))
set_option maxRecDepth 20000 in
set_option maxHeartbeats 4000000 in
theorem sjX11_move_20 {Γ : Gm} {d : Nat} (hd : 8 ≤ d) {h : Hp} {r : Int32 × Hp} (H : jX11_move_20 h = some r) : V Γ d mX11_move 20 [] [] h (some (.int r.1), r.2) := by
  unfold jX11_move_20 at H
  refine v_bipush (v := -2) (q := 22) dX11_move_20 (by decide) rfl ?_
  cases H
  exact v_ireturn rfl dX11_move_22
def jX11_move_75 (y0 : Int32) (h : Hp) : Option (Int32 × Hp) :=
some (y0, h)
set_option maxRecDepth 20000 in
set_option maxHeartbeats 4000000 in
theorem sjX11_move_75 {Γ : Gm} {d : Nat} (hd : 8 ≤ d) {y0 : Int32} {h : Hp} {r : Int32 × Hp} (H : jX11_move_75 y0 h = some r) : V Γ d mX11_move 75 [] [.int y0] h (some (.int r.1), r.2) := by
  unfold jX11_move_75 at H
  cases H
  exact v_ireturn rfl dX11_move_75
def fX11_move (h : Hp) (v0 : Nat) (v1 : Int32) (v2 : Int32) (v3 : Int32) : Option (Int32 × Hp) :=
(gR h 11 v0 3).bind fun x1 =>
(gO h 5 x1).bind fun _ =>
(fX5_isSet h x1 v1).bind fun x3 =>
if x3 = 0 then (
jX11_move_20 h) else (
if v3 < 0 then (
jX11_move_20 h) else (
if v3 ≤ (1 : Int32) then (
(gR h 11 v0 13).bind fun x7 =>
(gR h 11 v0 3).bind fun x8 =>
(gR h 11 v0 5).bind fun x9 =>
(gO h 2 x9).bind fun _ =>
(fX2_present h x9).bind fun x11 =>
(gR h 3 x11 0).bind fun x12 =>
(gO h 0 x7).bind fun _ =>
(fX0_moveOf h x7 x8 x12 v1 v2).bind fun x14 =>
if x14.1 = (-1 : Int32) then (
some (((-2 : Int32), x14.2))) else (
if v3 = 0 then (
jX11_move_75 (x14.1 >>> ((3 : Int32) &&& 31)) x14.2) else (
jX11_move_75 ((x14.1 &&& (7 : Int32)) - (1 : Int32)) x14.2))) else (
jX11_move_20 h)))
set_option maxRecDepth 20000 in
set_option maxHeartbeats 4000000 in
theorem sX11_move {Γ : Gm} {d : Nat} (hd : 8 ≤ d) {h : Hp} {v0 : Nat} {v1 : Int32} {v2 : Int32} {v3 : Int32} {r : Int32 × Hp} (H : fX11_move h v0 v1 v2 v3 = some r) : V Γ d mX11_move 0 [(0, .ref v0), (1, .int v1), (2, .int v2), (3, .int v3)] [] h (some (.int r.1), r.2) := by
  unfold fX11_move at H
  refine v_aload_n (q := 1) 0 dX11_move_0 rfl rfl rfl ?_
  replace H := bs H; obtain ⟨x1, x1e, H⟩ := H
  refine u_gR (q := 4) (r := (RX11, TX11, 14)) x1e dX11_move_1 w0524 rfl (by decide) rfl rfl ?_
  refine v_iload_n (q := 5) 1 dX11_move_4 rfl rfl rfl ?_
  replace H := bs H; obtain ⟨_, o2, H⟩ := H
  replace H := bs H; obtain ⟨x3, x3e, H⟩ := H
  refine u_callV1 (M' := mX5_isSet) (d' := 2) (rc := (RX5, TX5, 7)) (As := [.int v1]) (st := []) (q := 8) oX5_isSet dX11_move_5 w1059 w1060 w1061 rfl rfl (gO_sp o2).1 (gO_sp o2).2 rfl (Nat.le_of_ble_eq_true rfl) (Nat.le_of_ble_eq_true rfl) (Nat.lt_of_lt_of_le (by decide) hd) rfl (sX5_isSet (Nat.le_refl _) x3e) rfl ?_
  refine v_if_eq (q1 := 20) (q2 := 11) dX11_move_8 (by decide) rfl (fun c4 => ?_) (fun c4 => ?_)
  · replace H := ip c4 H
    exact V.sub [] rfl (sjX11_move_20 hd H)
  · replace H := ine c4 H
    refine v_iload_n (q := 12) 3 dX11_move_11 rfl rfl rfl ?_
    refine v_if_lt (q1 := 20) (q2 := 15) dX11_move_12 (by decide) rfl (fun c5 => ?_) (fun c5 => ?_)
    · replace H := ip c5 H
      exact V.sub [] rfl (sjX11_move_20 hd H)
    · replace H := ine c5 H
      refine v_iload_n (q := 16) 3 dX11_move_15 rfl rfl rfl ?_
      refine v_iconst (v := 1) (q := 17) dX11_move_16 (by decide) rfl ?_
      refine v_icmp_le (q1 := 23) (q2 := 20) dX11_move_17 (by decide) rfl (fun c6 => ?_) (fun c6 => ?_)
      · replace H := ip c6 H
        refine v_aload_n (q := 24) 0 dX11_move_23 rfl rfl rfl ?_
        replace H := bs H; obtain ⟨x7, x7e, H⟩ := H
        refine u_gR (q := 27) (r := (RX11, TX11, 14)) x7e dX11_move_24 w0534 rfl (by decide) rfl rfl ?_
        refine v_aload_n (q := 28) 0 dX11_move_27 rfl rfl rfl ?_
        replace H := bs H; obtain ⟨x8, x8e, H⟩ := H
        refine u_gR (q := 31) (r := (RX11, TX11, 14)) x8e dX11_move_28 w0524 rfl (by decide) rfl rfl ?_
        refine v_aload_n (q := 32) 0 dX11_move_31 rfl rfl rfl ?_
        replace H := bs H; obtain ⟨x9, x9e, H⟩ := H
        refine u_gR (q := 35) (r := (RX11, TX11, 14)) x9e dX11_move_32 w0526 rfl (by decide) rfl rfl ?_
        replace H := bs H; obtain ⟨_, o10, H⟩ := H
        replace H := bs H; obtain ⟨x11, x11e, H⟩ := H
        refine u_callV1 (M' := mX2_present) (d' := 1) (rc := (RX2, TX2, 3)) (As := []) (st := [.ref x8, .ref x7]) (q := 38) oX2_present dX11_move_35 w0701 w0702 w0703 rfl rfl (gO_sp o10).1 (gO_sp o10).2 rfl (Nat.le_of_ble_eq_true rfl) (Nat.le_of_ble_eq_true rfl) (Nat.lt_of_lt_of_le (by decide) hd) rfl (sX2_present (Nat.le_refl _) x11e) rfl ?_
        replace H := bs H; obtain ⟨x12, x12e, H⟩ := H
        refine u_gR (q := 41) (r := (RX3, TX3, 8)) x12e dX11_move_38 w0341 rfl (by decide) rfl rfl ?_
        refine v_iload_n (q := 42) 1 dX11_move_41 rfl rfl rfl ?_
        refine v_iload_n (q := 43) 2 dX11_move_42 rfl rfl rfl ?_
        replace H := bs H; obtain ⟨_, o13, H⟩ := H
        replace H := bs H; obtain ⟨x14, x14e, H⟩ := H
        refine u_callV1 (M' := mX0_moveOf) (d' := 7) (rc := (RX0, TX0, 9)) (As := [.ref x8, .ref x12, .int v1, .int v2]) (st := []) (q := 46) oX0_moveOf dX11_move_43 w1242 w1243 w1244 rfl rfl (gO_sp o13).1 (gO_sp o13).2 rfl (Nat.le_of_ble_eq_true rfl) (Nat.le_of_ble_eq_true rfl) (Nat.lt_of_lt_of_le (by decide) hd) rfl (sX0_moveOf (Nat.le_refl _) x14e) rfl ?_
        refine v_istore (L' := [(4, .int x14.1), (0, .ref v0), (1, .int v1), (2, .int v2), (3, .int v3)]) (q := 48) dX11_move_46 (by decide) rfl rfl ?_
        refine v_iload (q := 50) 0 dX11_move_48 rfl rfl ?_
        refine v_iconst (v := -1) (q := 51) dX11_move_50 (by decide) rfl ?_
        refine v_icmp_ne (q1 := 57) (q2 := 54) dX11_move_51 (by decide) rfl (fun c15 => ?_) (fun c15 => ?_)
        · replace H := ine c15 H
          refine v_iload_n (q := 58) 4 dX11_move_57 rfl rfl rfl ?_
          refine v_if_ne (q1 := 68) (q2 := 61) dX11_move_58 (by decide) rfl (fun c16 => ?_) (fun c16 => ?_)
          · replace H := ine c16 H
            refine v_iload (q := 70) 0 dX11_move_68 rfl rfl ?_
            refine v_bipush (v := 7) (q := 72) dX11_move_70 (by decide) rfl ?_
            refine v_iand (q := 73) dX11_move_72 rfl ?_
            refine v_iconst (v := 1) (q := 74) dX11_move_73 (by decide) rfl ?_
            refine v_isub (q := 75) dX11_move_74 rfl ?_
            exact V.sub [] rfl (sjX11_move_75 hd H)
          · replace H := ip c16 H
            refine v_iload (q := 63) 0 dX11_move_61 rfl rfl ?_
            refine v_iconst (v := 3) (q := 64) dX11_move_63 (by decide) rfl ?_
            refine v_ishr (q := 65) dX11_move_64 rfl ?_
            refine v_goto (q := 75) dX11_move_65 (by decide) ?_
            exact V.sub [] rfl (sjX11_move_75 hd H)
        · replace H := ip c15 H
          refine v_bipush (v := -2) (q := 56) dX11_move_54 (by decide) rfl ?_
          cases H
          exact v_ireturn rfl dX11_move_56
      · replace H := ine c6 H
        exact V.sub [] rfl (sjX11_move_20 hd H)
def mX1_ledToFrom : MI := (yX1_ledToFrom, cX1_ledToFrom, 4, some .int)
theorem oX1_ledToFrom : mOK mX1_ledToFrom 1 := ⟨by decide +kernel, by decide +kernel, by decide +kernel, by decide, w1038, w0144⟩
def jX1_ledToFrom_27 (u0 : Nat) (u1 : Int32) (v2 : Int32) (v3 : Int32) (h : Hp) : Option ((Int32 × Int32) ⊕ (Int32)) :=
(some (v3 + (1 : Int32))).bind fun x4 =>
some (.inl (v2, x4))
set_option maxRecDepth 20000 in
set_option maxHeartbeats 4000000 in
theorem sjX1_ledToFrom_27 {Γ : Gm} {d : Nat} (hd : 2 ≤ d) {u0 : Nat} {u1 : Int32} {v2 : Int32} {v3 : Int32} {h : Hp} {r : (Int32 × Int32) ⊕ (Int32)} {t : Option Value × Hp} (H : jX1_ledToFrom_27 u0 u1 v2 v3 h = some r) (kI : ∀ s, r = .inl s → (fun s4 => V Γ d mX1_ledToFrom 4 [(0, .ref u0), (1, .int u1), (2, .int s4.1), (3, .int s4.2)] [] h t) s) (kE : ∀ e, r = .inr e → (fun e => V Γ d mX1_ledToFrom 33 [(2, .int e)] [] h t) e) : V Γ d mX1_ledToFrom 27 [(0, .ref u0), (1, .int u1), (2, .int v2), (3, .int v3)] [] h t := by
  unfold jX1_ledToFrom_27 at H
  replace H := bs H; obtain ⟨x4, x4e, H⟩ := H
  refine v_iinc (v := x4) (L' := [(3, .int x4), (0, .ref u0), (1, .int u1), (2, .int v2)]) (q := 30) 3 dX1_ledToFrom_27 rfl (Option.some.inj x4e) (by decide) rfl rfl ?_
  refine v_goto (q := 4) dX1_ledToFrom_30 (by decide) ?_
  exact V.sub [1, 2, 3, 0] rfl (kI (v2, x4) (Option.some.inj H).symm)
def bX1_ledToFrom_4 (u0 : Nat) (u1 : Int32) (h : Hp) (s4 : Int32 × Int32) : Option ((Int32 × Int32) ⊕ (Int32)) :=
if (16 : Int32) ≤ s4.2 then (
some (.inr s4.1)) else (
(fX11_has h u1 s4.2).bind fun x2 =>
if x2 = 0 then (
jX1_ledToFrom_27 u0 u1 s4.1 s4.2 h) else (
(gR h 1 u0 1).bind fun x5 =>
(lI h .int x5 s4.2).bind fun x6 =>
(some (s4.1 ||| x6)).bind fun x7 =>
jX1_ledToFrom_27 u0 u1 x7 s4.2 h))
set_option maxRecDepth 20000 in
set_option maxHeartbeats 4000000 in
theorem sbX1_ledToFrom_4 {Γ : Gm} {d : Nat} (hd : 2 ≤ d) {u0 : Nat} {u1 : Int32} {h : Hp} {s4 : Int32 × Int32} {r : (Int32 × Int32) ⊕ (Int32)} {t : Option Value × Hp} (H : bX1_ledToFrom_4 u0 u1 h s4 = some r) (kI : ∀ s, r = .inl s → (fun s4 => V Γ d mX1_ledToFrom 4 [(0, .ref u0), (1, .int u1), (2, .int s4.1), (3, .int s4.2)] [] h t) s) (kE : ∀ e, r = .inr e → (fun e => V Γ d mX1_ledToFrom 33 [(2, .int e)] [] h t) e) : V Γ d mX1_ledToFrom 4 [(0, .ref u0), (1, .int u1), (2, .int s4.1), (3, .int s4.2)] [] h t := by
  unfold bX1_ledToFrom_4 at H
  refine v_iload_n (q := 5) 3 dX1_ledToFrom_4 rfl rfl rfl ?_
  refine v_bipush (v := 16) (q := 7) dX1_ledToFrom_5 (by decide) rfl ?_
  refine v_icmp_ge (q1 := 33) (q2 := 10) dX1_ledToFrom_7 (by decide) rfl (fun c1 => ?_) (fun c1 => ?_)
  · replace H := ip c1 H
    exact V.sub [2] rfl (kE s4.1 (Option.some.inj H).symm)
  · replace H := ine c1 H
    refine v_iload_n (q := 11) 1 dX1_ledToFrom_10 rfl rfl rfl ?_
    refine v_iload_n (q := 12) 3 dX1_ledToFrom_11 rfl rfl rfl ?_
    replace H := bs H; obtain ⟨x2, x2e, H⟩ := H
    refine u_callSN1 (M' := mX11_has) (d' := 1) (As := [.int u1, .int s4.2]) (st := []) (q := 15) oX11_has dX1_ledToFrom_12 w0849 w0783 rfl (Nat.le_of_ble_eq_true rfl) (Nat.le_of_ble_eq_true rfl) (Nat.lt_of_lt_of_le (by decide) hd) rfl (sX11_has (Nat.le_refl _) x2e) rfl ?_
    refine v_if_eq (q1 := 27) (q2 := 18) dX1_ledToFrom_15 (by decide) rfl (fun c3 => ?_) (fun c3 => ?_)
    · replace H := ip c3 H
      exact V.sub [0, 1, 2, 3] rfl (sjX1_ledToFrom_27 hd H kI kE)
    · replace H := ine c3 H
      refine v_iload_n (q := 19) 2 dX1_ledToFrom_18 rfl rfl rfl ?_
      refine v_aload_n (q := 20) 0 dX1_ledToFrom_19 rfl rfl rfl ?_
      replace H := bs H; obtain ⟨x5, x5e, H⟩ := H
      refine u_gR (q := 23) (r := (RX1, TX1, 4)) x5e dX1_ledToFrom_20 w0288 rfl (by decide) rfl rfl ?_
      refine v_iload_n (q := 24) 3 dX1_ledToFrom_23 rfl rfl rfl ?_
      replace H := bs H; obtain ⟨x6, x6e, H⟩ := H
      refine u_lI (q := 25) x6e dX1_ledToFrom_24 rfl ?_
      refine v_ior (q := 26) dX1_ledToFrom_25 rfl ?_
      replace H := bs H; obtain ⟨x7, x7e, H⟩ := H
      refine v_topi (Option.some.inj x7e) ?_
      refine v_istore_n (L' := [(2, .int x7), (0, .ref u0), (1, .int u1), (3, .int s4.2)]) (q := 27) dX1_ledToFrom_26 rfl (by decide) rfl rfl ?_
      exact V.sub [1, 2, 0, 3] rfl (sjX1_ledToFrom_27 hd H kI kE)
def fX1_ledToFrom (h : Hp) (v0 : Nat) (v1 : Int32) : Option (Int32) :=
(lp (bX1_ledToFrom_4 v0 v1 h) FU ((0 : Int32), (0 : Int32))).bind fun e8 =>
some e8
set_option maxRecDepth 20000 in
set_option maxHeartbeats 4000000 in
theorem sX1_ledToFrom {Γ : Gm} {d : Nat} (hd : 2 ≤ d) {h : Hp} {v0 : Nat} {v1 : Int32} {r : Int32} (H : fX1_ledToFrom h v0 v1 = some r) : V Γ d mX1_ledToFrom 0 [(0, .ref v0), (1, .int v1)] [] h (some (.int r), h) := by
  unfold fX1_ledToFrom at H
  refine v_iconst (v := 0) (q := 1) dX1_ledToFrom_0 (by decide) rfl ?_
  refine v_istore_n (L' := [(2, .int (0 : Int32)), (0, .ref v0), (1, .int v1)]) (q := 2) dX1_ledToFrom_1 rfl (by decide) rfl rfl ?_
  refine v_iconst (v := 0) (q := 3) dX1_ledToFrom_2 (by decide) rfl ?_
  refine v_istore_n (L' := [(3, .int (0 : Int32)), (2, .int (0 : Int32)), (0, .ref v0), (1, .int v1)]) (q := 4) dX1_ledToFrom_3 rfl (by decide) rfl rfl ?_
  replace H := bs H; obtain ⟨e8, e8L, H⟩ := H
  refine V.sub [2, 3, 1, 0] rfl ?_
  refine lp_V (P := (fun s4 => V Γ d mX1_ledToFrom 4 [(0, .ref v0), (1, .int v1), (2, .int s4.1), (3, .int s4.2)] [] h (some (.int r), h))) (E := (fun e => V Γ d mX1_ledToFrom 33 [(2, .int e)] [] h (some (.int r), h))) (fun s r hb kI kE => sbX1_ledToFrom_4 hd (s4 := s) (r := r) hb kI kE) FU ((0 : Int32), (0 : Int32)) e8 e8L ?_
  refine v_iload_n (q := 34) 0 dX1_ledToFrom_33 rfl rfl rfl ?_
  cases H
  exact v_ireturn rfl dX1_ledToFrom_34
def mX1_inOrder : MI := (yX1_inOrder, cX1_inOrder, 6, some .int)
theorem oX1_inOrder : mOK mX1_inOrder 1 := ⟨by decide +kernel, by decide +kernel, by decide +kernel, by decide, w1034, w0144⟩
def jX1_inOrder_47 (u0 : Nat) (u1 : Int32) (v2 : Int32) (v3 : Int32) (h : Hp) : Option ((Int32 × Int32) ⊕ ((Int32) ⊕ (Unit))) :=
(some (v3 + (1 : Int32))).bind fun x9 =>
some (.inl (v2, x9))
set_option maxRecDepth 20000 in
set_option maxHeartbeats 4000000 in
theorem sjX1_inOrder_47 {Γ : Gm} {d : Nat} (hd : 3 ≤ d) {u0 : Nat} {u1 : Int32} {v2 : Int32} {v3 : Int32} {h : Hp} {r : (Int32 × Int32) ⊕ ((Int32) ⊕ (Unit))} {t : Option Value × Hp} (H : jX1_inOrder_47 u0 u1 v2 v3 h = some r) (kI : ∀ s, r = .inl s → (fun s4 => V Γ d mX1_inOrder 4 [(0, .ref u0), (1, .int u1), (2, .int s4.1), (3, .int s4.2)] [] h t) s) (kE : ∀ e, r = .inr e → (fun e => (match e with | .inl a0 => V Γ d mX1_inOrder 53 [(0, .ref u0), (1, .int u1), (2, .int a0)] [] h t | .inr b0 => V Γ d mX1_inOrder 23 [] [] h t)) e) : V Γ d mX1_inOrder 47 [(0, .ref u0), (1, .int u1), (2, .int v2), (3, .int v3)] [] h t := by
  unfold jX1_inOrder_47 at H
  replace H := bs H; obtain ⟨x9, x9e, H⟩ := H
  refine v_iinc (v := x9) (L' := [(3, .int x9), (0, .ref u0), (1, .int u1), (2, .int v2)]) (q := 50) 3 dX1_inOrder_47 rfl (Option.some.inj x9e) (by decide) rfl rfl ?_
  refine v_goto (q := 4) dX1_inOrder_50 (by decide) ?_
  exact V.sub [1, 2, 3, 0] rfl (kI (v2, x9) (Option.some.inj H).symm)
def bX1_inOrder_4 (u0 : Nat) (u1 : Int32) (h : Hp) (s4 : Int32 × Int32) : Option ((Int32 × Int32) ⊕ ((Int32) ⊕ (Unit))) :=
if (16 : Int32) ≤ s4.2 then (
some (.inr (.inl s4.1))) else (
(gR h 1 u0 2).bind fun x2 =>
(lI h .int x2 s4.2).bind fun x3 =>
(fX11_has h x3 s4.2).bind fun x4 =>
if x4 = 0 then (
(gR h 1 u0 1).bind fun x6 =>
(lI h .int x6 s4.2).bind fun x7 =>
if x7 = 0 then (
jX1_inOrder_47 u0 u1 s4.1 s4.2 h) else (
(gR h 1 u0 1).bind fun x10 =>
(lI h .int x10 s4.2).bind fun x11 =>
(some (s4.1 ||| (((1 : Int32) <<< (s4.2 &&& 31)) ||| x11))).bind fun x12 =>
jX1_inOrder_47 u0 u1 x12 s4.2 h)) else (
some (.inr (.inr ()))))
set_option maxRecDepth 20000 in
set_option maxHeartbeats 4000000 in
theorem sbX1_inOrder_4 {Γ : Gm} {d : Nat} (hd : 3 ≤ d) {u0 : Nat} {u1 : Int32} {h : Hp} {s4 : Int32 × Int32} {r : (Int32 × Int32) ⊕ ((Int32) ⊕ (Unit))} {t : Option Value × Hp} (H : bX1_inOrder_4 u0 u1 h s4 = some r) (kI : ∀ s, r = .inl s → (fun s4 => V Γ d mX1_inOrder 4 [(0, .ref u0), (1, .int u1), (2, .int s4.1), (3, .int s4.2)] [] h t) s) (kE : ∀ e, r = .inr e → (fun e => (match e with | .inl a0 => V Γ d mX1_inOrder 53 [(0, .ref u0), (1, .int u1), (2, .int a0)] [] h t | .inr b0 => V Γ d mX1_inOrder 23 [] [] h t)) e) : V Γ d mX1_inOrder 4 [(0, .ref u0), (1, .int u1), (2, .int s4.1), (3, .int s4.2)] [] h t := by
  unfold bX1_inOrder_4 at H
  refine v_iload_n (q := 5) 3 dX1_inOrder_4 rfl rfl rfl ?_
  refine v_bipush (v := 16) (q := 7) dX1_inOrder_5 (by decide) rfl ?_
  refine v_icmp_ge (q1 := 53) (q2 := 10) dX1_inOrder_7 (by decide) rfl (fun c1 => ?_) (fun c1 => ?_)
  · replace H := ip c1 H
    exact V.sub [0, 1, 2] rfl (kE (.inl s4.1) (Option.some.inj H).symm)
  · replace H := ine c1 H
    refine v_aload_n (q := 11) 0 dX1_inOrder_10 rfl rfl rfl ?_
    replace H := bs H; obtain ⟨x2, x2e, H⟩ := H
    refine u_gR (q := 14) (r := (RX1, TX1, 4)) x2e dX1_inOrder_11 w0291 rfl (by decide) rfl rfl ?_
    refine v_iload_n (q := 15) 3 dX1_inOrder_14 rfl rfl rfl ?_
    replace H := bs H; obtain ⟨x3, x3e, H⟩ := H
    refine u_lI (q := 16) x3e dX1_inOrder_15 rfl ?_
    refine v_iload_n (q := 17) 3 dX1_inOrder_16 rfl rfl rfl ?_
    replace H := bs H; obtain ⟨x4, x4e, H⟩ := H
    refine u_callSN1 (M' := mX11_has) (d' := 1) (As := [.int x3, .int s4.2]) (st := []) (q := 20) oX11_has dX1_inOrder_17 w0849 w0783 rfl (Nat.le_of_ble_eq_true rfl) (Nat.le_of_ble_eq_true rfl) (Nat.lt_of_lt_of_le (by decide) hd) rfl (sX11_has (Nat.le_refl _) x4e) rfl ?_
    refine v_if_eq (q1 := 25) (q2 := 23) dX1_inOrder_20 (by decide) rfl (fun c5 => ?_) (fun c5 => ?_)
    · replace H := ip c5 H
      refine v_aload_n (q := 26) 0 dX1_inOrder_25 rfl rfl rfl ?_
      replace H := bs H; obtain ⟨x6, x6e, H⟩ := H
      refine u_gR (q := 29) (r := (RX1, TX1, 4)) x6e dX1_inOrder_26 w0288 rfl (by decide) rfl rfl ?_
      refine v_iload_n (q := 30) 3 dX1_inOrder_29 rfl rfl rfl ?_
      replace H := bs H; obtain ⟨x7, x7e, H⟩ := H
      refine u_lI (q := 31) x7e dX1_inOrder_30 rfl ?_
      refine v_if_eq (q1 := 47) (q2 := 34) dX1_inOrder_31 (by decide) rfl (fun c8 => ?_) (fun c8 => ?_)
      · replace H := ip c8 H
        exact V.sub [0, 1, 2, 3] rfl (sjX1_inOrder_47 hd H kI kE)
      · replace H := ine c8 H
        refine v_iload_n (q := 35) 2 dX1_inOrder_34 rfl rfl rfl ?_
        refine v_iconst (v := 1) (q := 36) dX1_inOrder_35 (by decide) rfl ?_
        refine v_iload_n (q := 37) 3 dX1_inOrder_36 rfl rfl rfl ?_
        refine v_ishl (q := 38) dX1_inOrder_37 rfl ?_
        refine v_aload_n (q := 39) 0 dX1_inOrder_38 rfl rfl rfl ?_
        replace H := bs H; obtain ⟨x10, x10e, H⟩ := H
        refine u_gR (q := 42) (r := (RX1, TX1, 4)) x10e dX1_inOrder_39 w0288 rfl (by decide) rfl rfl ?_
        refine v_iload_n (q := 43) 3 dX1_inOrder_42 rfl rfl rfl ?_
        replace H := bs H; obtain ⟨x11, x11e, H⟩ := H
        refine u_lI (q := 44) x11e dX1_inOrder_43 rfl ?_
        refine v_ior (q := 45) dX1_inOrder_44 rfl ?_
        refine v_ior (q := 46) dX1_inOrder_45 rfl ?_
        replace H := bs H; obtain ⟨x12, x12e, H⟩ := H
        refine v_topi (Option.some.inj x12e) ?_
        refine v_istore_n (L' := [(2, .int x12), (0, .ref u0), (1, .int u1), (3, .int s4.2)]) (q := 47) dX1_inOrder_46 rfl (by decide) rfl rfl ?_
        exact V.sub [1, 2, 0, 3] rfl (sjX1_inOrder_47 hd H kI kE)
    · replace H := ine c5 H
      exact V.sub [] rfl (kE (.inr ()) (Option.some.inj H).symm)
def bX1_inOrder_58 (u0 : Nat) (u1 : Int32) (h : Hp) (s58 : Int32 × Int32 × Int32) : Option ((Int32 × Int32 × Int32) ⊕ ((Int32) ⊕ (Unit))) :=
if u1 < s58.2.2 then (
some (.inr (.inl s58.2.1))) else (
(gO h 1 u0).bind fun _ =>
(fX1_ledToFrom h u0 s58.1).bind fun x18 =>
(some (s58.1 &&& (x18 ^^^ (-1 : Int32)))).bind fun x19 =>
if x19 = 0 then (
some (.inr (.inr ()))) else (
(fX11_leastOf h x19).bind fun x21 =>
(some (s58.1 &&& (((1 : Int32) <<< (x21 &&& 31)) ^^^ (-1 : Int32)))).bind fun x22 =>
(some (s58.2.2 + (1 : Int32))).bind fun x23 =>
some (.inl (x22, x21, x23))))
set_option maxRecDepth 20000 in
set_option maxHeartbeats 4000000 in
theorem sbX1_inOrder_58 {Γ : Gm} {d : Nat} (hd : 3 ≤ d) {u0 : Nat} {u1 : Int32} {h : Hp} {s58 : Int32 × Int32 × Int32} {r : (Int32 × Int32 × Int32) ⊕ ((Int32) ⊕ (Unit))} {t : Option Value × Hp} (H : bX1_inOrder_58 u0 u1 h s58 = some r) (kI : ∀ s, r = .inl s → (fun s58 => V Γ d mX1_inOrder 58 [(0, .ref u0), (1, .int u1), (2, .int s58.1), (3, .int s58.2.1), (4, .int s58.2.2)] [] h t) s) (kE : ∀ e, r = .inr e → (fun e => (match e with | .inl a0 => V Γ d mX1_inOrder 102 [(3, .int a0)] [] h t | .inr b0 => V Γ d mX1_inOrder 80 [] [] h t)) e) : V Γ d mX1_inOrder 58 [(0, .ref u0), (1, .int u1), (2, .int s58.1), (3, .int s58.2.1), (4, .int s58.2.2)] [] h t := by
  unfold bX1_inOrder_58 at H
  refine v_iload (q := 60) 4 dX1_inOrder_58 rfl rfl ?_
  refine v_iload_n (q := 61) 1 dX1_inOrder_60 rfl rfl rfl ?_
  refine v_icmp_gt (q1 := 102) (q2 := 64) dX1_inOrder_61 (by decide) rfl (fun c16 => ?_) (fun c16 => ?_)
  · replace H := ip c16 H
    exact V.sub [3] rfl (kE (.inl s58.2.1) (Option.some.inj H).symm)
  · replace H := ine c16 H
    refine v_iload_n (q := 65) 2 dX1_inOrder_64 rfl rfl rfl ?_
    refine v_aload_n (q := 66) 0 dX1_inOrder_65 rfl rfl rfl ?_
    refine v_iload_n (q := 67) 2 dX1_inOrder_66 rfl rfl rfl ?_
    replace H := bs H; obtain ⟨_, o17, H⟩ := H
    replace H := bs H; obtain ⟨x18, x18e, H⟩ := H
    refine u_callV1 (M' := mX1_ledToFrom) (d' := 2) (rc := (RX1, TX1, 4)) (As := [.int s58.1]) (st := [.int s58.1]) (q := 70) oX1_ledToFrom dX1_inOrder_67 w1035 w1037 w0032 rfl rfl (gO_sp o17).1 (gO_sp o17).2 rfl (Nat.le_of_ble_eq_true rfl) (Nat.le_of_ble_eq_true rfl) (Nat.lt_of_lt_of_le (by decide) hd) rfl (sX1_ledToFrom (Nat.le_refl _) x18e) rfl ?_
    refine v_iconst (v := -1) (q := 71) dX1_inOrder_70 (by decide) rfl ?_
    refine v_ixor (q := 72) dX1_inOrder_71 rfl ?_
    refine v_iand (q := 73) dX1_inOrder_72 rfl ?_
    replace H := bs H; obtain ⟨x19, x19e, H⟩ := H
    refine v_topi (Option.some.inj x19e) ?_
    refine v_istore (L' := [(5, .int x19), (0, .ref u0), (1, .int u1), (2, .int s58.1), (3, .int s58.2.1), (4, .int s58.2.2)]) (q := 75) dX1_inOrder_73 (by decide) rfl rfl ?_
    refine v_iload (q := 77) 0 dX1_inOrder_75 rfl rfl ?_
    refine v_if_ne (q1 := 82) (q2 := 80) dX1_inOrder_77 (by decide) rfl (fun c20 => ?_) (fun c20 => ?_)
    · replace H := ine c20 H
      refine v_iload (q := 84) 0 dX1_inOrder_82 rfl rfl ?_
      replace H := bs H; obtain ⟨x21, x21e, H⟩ := H
      refine u_callSN1 (M' := mX11_leastOf) (d' := 2) (As := [.int x19]) (st := []) (q := 87) oX11_leastOf dX1_inOrder_84 w1039 w1040 rfl (Nat.le_of_ble_eq_true rfl) (Nat.le_of_ble_eq_true rfl) (Nat.lt_of_lt_of_le (by decide) hd) rfl (sX11_leastOf (Nat.le_refl _) x21e) rfl ?_
      refine v_istore_n (L' := [(3, .int x21), (5, .int x19), (0, .ref u0), (1, .int u1), (2, .int s58.1), (4, .int s58.2.2)]) (q := 88) dX1_inOrder_87 rfl (by decide) rfl rfl ?_
      refine v_iload_n (q := 89) 4 dX1_inOrder_88 rfl rfl rfl ?_
      refine v_iconst (v := 1) (q := 90) dX1_inOrder_89 (by decide) rfl ?_
      refine v_iload_n (q := 91) 0 dX1_inOrder_90 rfl rfl rfl ?_
      refine v_ishl (q := 92) dX1_inOrder_91 rfl ?_
      refine v_iconst (v := -1) (q := 93) dX1_inOrder_92 (by decide) rfl ?_
      refine v_ixor (q := 94) dX1_inOrder_93 rfl ?_
      refine v_iand (q := 95) dX1_inOrder_94 rfl ?_
      replace H := bs H; obtain ⟨x22, x22e, H⟩ := H
      refine v_topi (Option.some.inj x22e) ?_
      refine v_istore_n (L' := [(2, .int x22), (3, .int x21), (5, .int x19), (0, .ref u0), (1, .int u1), (4, .int s58.2.2)]) (q := 96) dX1_inOrder_95 rfl (by decide) rfl rfl ?_
      replace H := bs H; obtain ⟨x23, x23e, H⟩ := H
      refine v_iinc (v := x23) (L' := [(4, .int x23), (2, .int x22), (3, .int x21), (5, .int x19), (0, .ref u0), (1, .int u1)]) (q := 99) 5 dX1_inOrder_96 rfl (Option.some.inj x23e) (by decide) rfl rfl ?_
      refine v_goto (q := 58) dX1_inOrder_99 (by decide) ?_
      exact V.sub [4, 5, 1, 2, 0] rfl (kI (x22, x21, x23) (Option.some.inj H).symm)
    · replace H := ip c20 H
      exact V.sub [] rfl (kE (.inr ()) (Option.some.inj H).symm)
def fX1_inOrder (h : Hp) (v0 : Nat) (v1 : Int32) : Option (Int32) :=
(lp (bX1_inOrder_4 v0 v1 h) FU ((0 : Int32), (0 : Int32))).bind fun e13 =>
(match e13 with
| .inl e14 => (
(lp (bX1_inOrder_58 v0 v1 h) FU (e14, (-1 : Int32), (0 : Int32))).bind fun e24 =>
(match e24 with
| .inl e25 => (
some e25)
| .inr e26 => (
some (-1 : Int32))))
| .inr e15 => (
some (-1 : Int32)))
set_option maxRecDepth 20000 in
set_option maxHeartbeats 4000000 in
theorem sX1_inOrder {Γ : Gm} {d : Nat} (hd : 3 ≤ d) {h : Hp} {v0 : Nat} {v1 : Int32} {r : Int32} (H : fX1_inOrder h v0 v1 = some r) : V Γ d mX1_inOrder 0 [(0, .ref v0), (1, .int v1)] [] h (some (.int r), h) := by
  unfold fX1_inOrder at H
  refine v_iconst (v := 0) (q := 1) dX1_inOrder_0 (by decide) rfl ?_
  refine v_istore_n (L' := [(2, .int (0 : Int32)), (0, .ref v0), (1, .int v1)]) (q := 2) dX1_inOrder_1 rfl (by decide) rfl rfl ?_
  refine v_iconst (v := 0) (q := 3) dX1_inOrder_2 (by decide) rfl ?_
  refine v_istore_n (L' := [(3, .int (0 : Int32)), (2, .int (0 : Int32)), (0, .ref v0), (1, .int v1)]) (q := 4) dX1_inOrder_3 rfl (by decide) rfl rfl ?_
  replace H := bs H; obtain ⟨e13, e13L, H⟩ := H
  refine V.sub [2, 3, 1, 0] rfl ?_
  refine lp_V (P := (fun s4 => V Γ d mX1_inOrder 4 [(0, .ref v0), (1, .int v1), (2, .int s4.1), (3, .int s4.2)] [] h (some (.int r), h))) (E := (fun e => (match e with | .inl a0 => V Γ d mX1_inOrder 53 [(0, .ref v0), (1, .int v1), (2, .int a0)] [] h (some (.int r), h) | .inr b0 => V Γ d mX1_inOrder 23 [] [] h (some (.int r), h)))) (fun s r hb kI kE => sbX1_inOrder_4 hd (s4 := s) (r := r) hb kI kE) FU ((0 : Int32), (0 : Int32)) e13 e13L ?_
  rcases e13 with e14 | e15
  · skip
    refine v_iconst (v := -1) (q := 54) dX1_inOrder_53 (by decide) rfl ?_
    refine v_istore_n (L' := [(3, .int (-1 : Int32)), (0, .ref v0), (1, .int v1), (2, .int e14)]) (q := 55) dX1_inOrder_54 rfl (by decide) rfl rfl ?_
    refine v_iconst (v := 0) (q := 56) dX1_inOrder_55 (by decide) rfl ?_
    refine v_istore (L' := [(4, .int (0 : Int32)), (3, .int (-1 : Int32)), (0, .ref v0), (1, .int v1), (2, .int e14)]) (q := 58) dX1_inOrder_56 (by decide) rfl rfl ?_
    replace H := bs H; obtain ⟨e24, e24L, H⟩ := H
    refine V.sub [2, 3, 4, 1, 0] rfl ?_
    refine lp_V (P := (fun s58 => V Γ d mX1_inOrder 58 [(0, .ref v0), (1, .int v1), (2, .int s58.1), (3, .int s58.2.1), (4, .int s58.2.2)] [] h (some (.int r), h))) (E := (fun e => (match e with | .inl a0 => V Γ d mX1_inOrder 102 [(3, .int a0)] [] h (some (.int r), h) | .inr b0 => V Γ d mX1_inOrder 80 [] [] h (some (.int r), h)))) (fun s r hb kI kE => sbX1_inOrder_58 hd (s58 := s) (r := r) hb kI kE) FU (e14, (-1 : Int32), (0 : Int32)) e24 e24L ?_
    rcases e24 with e25 | e26
    · skip
      refine v_iload_n (q := 103) 0 dX1_inOrder_102 rfl rfl rfl ?_
      cases H
      exact v_ireturn rfl dX1_inOrder_103
    · skip
      refine v_iconst (v := -1) (q := 81) dX1_inOrder_80 (by decide) rfl ?_
      cases H
      exact v_ireturn rfl dX1_inOrder_81
  · skip
    refine v_iconst (v := -1) (q := 24) dX1_inOrder_23 (by decide) rfl ?_
    cases H
    exact v_ireturn rfl dX1_inOrder_24

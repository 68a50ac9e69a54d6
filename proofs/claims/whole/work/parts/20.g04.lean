def mX11_back : MI := (yX11_back, cX11_back, 2, some .int)
theorem oX11_back : mOK mX11_back 1 := ⟨by decide +kernel, by decide +kernel, by decide +kernel, by decide, w1328, w0139⟩
def jX11_back_27 (h : Hp) : Option (Int32 × Hp) :=
some (((-1 : Int32), h))
set_option maxRecDepth 20000 in
set_option maxHeartbeats 4000000 in
theorem sjX11_back_27 {Γ : Gm} {d : Nat} (hd : 3 ≤ d) {h : Hp} {r : Int32 × Hp} (H : jX11_back_27 h = some r) : V Γ d mX11_back 27 [] [] h (some (.int r.1), r.2) := by
  unfold jX11_back_27 at H
  refine v_iconst (v := -1) (q := 28) dX11_back_27 (by decide) rfl ?_
  cases H
  exact v_ireturn rfl dX11_back_28
def fX11_back (h : Hp) (v0 : Nat) (v1 : Int32) : Option (Int32 × Hp) :=
if v1 < 0 then (
jX11_back_27 h) else (
if (2 : Int32) ≤ v1 then (
jX11_back_27 h) else (
(gR h 11 v0 7).bind fun x3 =>
(lI h .boolean x3 v1).bind fun x4 =>
if x4 = 0 then (
jX11_back_27 h) else (
(gR h 11 v0 6).bind fun x6 =>
(lQ h (.object RX3) x6 v1).bind fun x7 =>
(match x7 with
| none => (
jX11_back_27 h)
| some _ => (
(gR h 11 v0 5).bind fun x9 =>
(gO h 2 x9).bind fun _ =>
(fX2_restart h x9).bind fun x11 =>
(gR x11 11 v0 5).bind fun x12 =>
(gO x11 2 x12).bind fun _ =>
(fX2_present x11 x12).bind fun x14 =>
(gR x11 11 v0 6).bind fun x15 =>
(lR x11 (.object RX3) x15 v1).bind fun x16 =>
(gO x11 3 x14).bind fun _ =>
(fX3_copyFrom x11 x14 x16).bind fun x18 =>
(gR x18 11 v0 6).bind fun x19 =>
(lR x18 (.object RX3) x19 v1).bind fun x20 =>
(gR x18 3 x20 4).bind fun x21 =>
(gI x18 7 x21 0).bind fun x22 =>
some (x22, x18))))))
set_option maxRecDepth 20000 in
set_option maxHeartbeats 4000000 in
theorem sX11_back {Γ : Gm} {d : Nat} (hd : 3 ≤ d) {h : Hp} {v0 : Nat} {v1 : Int32} {r : Int32 × Hp} (H : fX11_back h v0 v1 = some r) : V Γ d mX11_back 0 [(0, .ref v0), (1, .int v1)] [] h (some (.int r.1), r.2) := by
  unfold fX11_back at H
  refine v_iload_n (q := 1) 1 dX11_back_0 rfl rfl rfl ?_
  refine v_if_lt (q1 := 27) (q2 := 4) dX11_back_1 (by decide) rfl (fun c1 => ?_) (fun c1 => ?_)
  · replace H := ip c1 H
    exact V.sub [] rfl (sjX11_back_27 hd H)
  · replace H := ine c1 H
    refine v_iload_n (q := 5) 1 dX11_back_4 rfl rfl rfl ?_
    refine v_iconst (v := 2) (q := 6) dX11_back_5 (by decide) rfl ?_
    refine v_icmp_ge (q1 := 27) (q2 := 9) dX11_back_6 (by decide) rfl (fun c2 => ?_) (fun c2 => ?_)
    · replace H := ip c2 H
      exact V.sub [] rfl (sjX11_back_27 hd H)
    · replace H := ine c2 H
      refine v_aload_n (q := 10) 0 dX11_back_9 rfl rfl rfl ?_
      replace H := bs H; obtain ⟨x3, x3e, H⟩ := H
      refine u_gR (q := 13) (r := (RX11, TX11, 14)) x3e dX11_back_10 w0528 rfl (by decide) rfl rfl ?_
      refine v_iload_n (q := 14) 1 dX11_back_13 rfl rfl rfl ?_
      replace H := bs H; obtain ⟨x4, x4e, H⟩ := H
      refine u_lZ (q := 15) x4e dX11_back_14 rfl ?_
      refine v_if_eq (q1 := 27) (q2 := 18) dX11_back_15 (by decide) rfl (fun c5 => ?_) (fun c5 => ?_)
      · replace H := ip c5 H
        exact V.sub [] rfl (sjX11_back_27 hd H)
      · replace H := ine c5 H
        refine v_aload_n (q := 19) 0 dX11_back_18 rfl rfl rfl ?_
        replace H := bs H; obtain ⟨x6, x6e, H⟩ := H
        refine u_gR (q := 22) (r := (RX11, TX11, 14)) x6e dX11_back_19 w0527 rfl (by decide) rfl rfl ?_
        refine v_iload_n (q := 23) 1 dX11_back_22 rfl rfl rfl ?_
        replace H := bs H; obtain ⟨x7, x7e, H⟩ := H
        refine u_lQ (q := 24) (ty := (.object RX3)) (by decide) rfl rfl x7e dX11_back_23 rfl ?_
        rcases x7 with _ | x8
        · refine v_ifnonnullN (q := 27) dX11_back_24 rfl ?_
          exact V.sub [] rfl (sjX11_back_27 hd H)
        · refine v_ifnonnull (q := 29) dX11_back_24 (by decide) ?_
          refine v_aload_n (q := 30) 0 dX11_back_29 rfl rfl rfl ?_
          replace H := bs H; obtain ⟨x9, x9e, H⟩ := H
          refine u_gR (q := 33) (r := (RX11, TX11, 14)) x9e dX11_back_30 w0526 rfl (by decide) rfl rfl ?_
          replace H := bs H; obtain ⟨_, o10, H⟩ := H
          replace H := bs H; obtain ⟨x11, x11e, H⟩ := H
          refine u_callV0 (M' := mX2_restart) (d' := 1) (rc := (RX2, TX2, 3)) (As := []) (st := []) (q := 36) oX2_restart dX11_back_33 w0697 w0698 w0699 rfl rfl (gO_sp o10).1 (gO_sp o10).2 rfl (Nat.le_of_ble_eq_true rfl) (Nat.le_of_ble_eq_true rfl) (Nat.lt_of_lt_of_le (by decide) hd) rfl (sX2_restart (Nat.le_refl _) x11e) rfl ?_
          refine v_aload_n (q := 37) 0 dX11_back_36 rfl rfl rfl ?_
          replace H := bs H; obtain ⟨x12, x12e, H⟩ := H
          refine u_gR (q := 40) (r := (RX11, TX11, 14)) x12e dX11_back_37 w0526 rfl (by decide) rfl rfl ?_
          replace H := bs H; obtain ⟨_, o13, H⟩ := H
          replace H := bs H; obtain ⟨x14, x14e, H⟩ := H
          refine u_callV1 (M' := mX2_present) (d' := 1) (rc := (RX2, TX2, 3)) (As := []) (st := []) (q := 43) oX2_present dX11_back_40 w0701 w0702 w0703 rfl rfl (gO_sp o13).1 (gO_sp o13).2 rfl (Nat.le_of_ble_eq_true rfl) (Nat.le_of_ble_eq_true rfl) (Nat.lt_of_lt_of_le (by decide) hd) rfl (sX2_present (Nat.le_refl _) x14e) rfl ?_
          refine v_aload_n (q := 44) 0 dX11_back_43 rfl rfl rfl ?_
          replace H := bs H; obtain ⟨x15, x15e, H⟩ := H
          refine u_gR (q := 47) (r := (RX11, TX11, 14)) x15e dX11_back_44 w0527 rfl (by decide) rfl rfl ?_
          refine v_iload_n (q := 48) 1 dX11_back_47 rfl rfl rfl ?_
          replace H := bs H; obtain ⟨x16, x16e, H⟩ := H
          refine u_lR (q := 49) (ty := (.object RX3)) (by decide) rfl rfl x16e dX11_back_48 rfl ?_
          replace H := bs H; obtain ⟨_, o17, H⟩ := H
          replace H := bs H; obtain ⟨x18, x18e, H⟩ := H
          refine u_callV0 (M' := mX3_copyFrom) (d' := 2) (rc := (RX3, TX3, 8)) (As := [.ref x16]) (st := []) (q := 52) oX3_copyFrom dX11_back_49 w0998 w0752 w0753 rfl rfl (gO_sp o17).1 (gO_sp o17).2 rfl (Nat.le_of_ble_eq_true rfl) (Nat.le_of_ble_eq_true rfl) (Nat.lt_of_lt_of_le (by decide) hd) rfl (sX3_copyFrom (Nat.le_refl _) x18e) rfl ?_
          refine v_aload_n (q := 53) 0 dX11_back_52 rfl rfl rfl ?_
          replace H := bs H; obtain ⟨x19, x19e, H⟩ := H
          refine u_gR (q := 56) (r := (RX11, TX11, 14)) x19e dX11_back_53 w0527 rfl (by decide) rfl rfl ?_
          refine v_iload_n (q := 57) 1 dX11_back_56 rfl rfl rfl ?_
          replace H := bs H; obtain ⟨x20, x20e, H⟩ := H
          refine u_lR (q := 58) (ty := (.object RX3)) (by decide) rfl rfl x20e dX11_back_57 rfl ?_
          replace H := bs H; obtain ⟨x21, x21e, H⟩ := H
          refine u_gR (q := 61) (r := (RX3, TX3, 8)) x21e dX11_back_58 w0353 rfl (by decide) rfl rfl ?_
          replace H := bs H; obtain ⟨x22, x22e, H⟩ := H
          refine u_gI (q := 64) (r := (RX7, TX7, 7)) x22e dX11_back_61 w0313 rfl (by decide) rfl rfl ?_
          cases H
          exact v_ireturn rfl dX11_back_64
def mX5_hasProgram : MI := (yX5_hasProgram, cX5_hasProgram, 2, some .boolean)
theorem oX5_hasProgram : mOK mX5_hasProgram 1 := ⟨by decide +kernel, by decide +kernel, by decide +kernel, by decide, w0742, w0141⟩
def jX5_hasProgram_17 (y0 : Int32) (h : Hp) : Option (Int32) :=
(bz y0).bind fun x2 =>
some x2
set_option maxRecDepth 20000 in
set_option maxHeartbeats 4000000 in
theorem sjX5_hasProgram_17 {Γ : Gm} {d : Nat} (hd : 1 ≤ d) {y0 : Int32} {h : Hp} {r : Int32} (H : jX5_hasProgram_17 y0 h = some r) : V Γ d mX5_hasProgram 17 [] [.int y0] h (some (.int r), h) := by
  unfold jX5_hasProgram_17 at H
  replace H := bs H; obtain ⟨x2, x2e, H⟩ := H
  obtain ⟨x2q, x2z⟩ := bz_sp x2e
  refine v_topi x2q.symm ?_
  cases H
  exact v_zreturn rfl (by rw [x2q]; exact x2z) dX5_hasProgram_17
def jX5_hasProgram_16 (h : Hp) : Option (Int32) :=
jX5_hasProgram_17 (0 : Int32) h
set_option maxRecDepth 20000 in
set_option maxHeartbeats 4000000 in
theorem sjX5_hasProgram_16 {Γ : Gm} {d : Nat} (hd : 1 ≤ d) {h : Hp} {r : Int32} (H : jX5_hasProgram_16 h = some r) : V Γ d mX5_hasProgram 16 [] [] h (some (.int r), h) := by
  unfold jX5_hasProgram_16 at H
  refine v_iconst (v := 0) (q := 17) dX5_hasProgram_16 (by decide) rfl ?_
  exact V.sub [] rfl (sjX5_hasProgram_17 hd H)
def fX5_hasProgram (h : Hp) (v0 : Nat) (v1 : Int32) : Option (Int32) :=
if v1 < 0 then (
jX5_hasProgram_16 h) else (
(gI h 5 v0 2).bind fun x3 =>
if x3 ≤ v1 then (
jX5_hasProgram_16 h) else (
jX5_hasProgram_17 (1 : Int32) h))
set_option maxRecDepth 20000 in
set_option maxHeartbeats 4000000 in
theorem sX5_hasProgram {Γ : Gm} {d : Nat} (hd : 1 ≤ d) {h : Hp} {v0 : Nat} {v1 : Int32} {r : Int32} (H : fX5_hasProgram h v0 v1 = some r) : V Γ d mX5_hasProgram 0 [(0, .ref v0), (1, .int v1)] [] h (some (.int r), h) := by
  unfold fX5_hasProgram at H
  refine v_iload_n (q := 1) 1 dX5_hasProgram_0 rfl rfl rfl ?_
  refine v_if_lt (q1 := 16) (q2 := 4) dX5_hasProgram_1 (by decide) rfl (fun c1 => ?_) (fun c1 => ?_)
  · replace H := ip c1 H
    exact V.sub [] rfl (sjX5_hasProgram_16 hd H)
  · replace H := ine c1 H
    refine v_iload_n (q := 5) 1 dX5_hasProgram_4 rfl rfl rfl ?_
    refine v_aload_n (q := 6) 0 dX5_hasProgram_5 rfl rfl rfl ?_
    replace H := bs H; obtain ⟨x3, x3e, H⟩ := H
    refine u_gI (q := 9) (r := (RX5, TX5, 7)) x3e dX5_hasProgram_6 w0230 rfl (by decide) rfl rfl ?_
    refine v_icmp_ge (q1 := 16) (q2 := 12) dX5_hasProgram_9 (by decide) rfl (fun c4 => ?_) (fun c4 => ?_)
    · replace H := ip c4 H
      exact V.sub [] rfl (sjX5_hasProgram_16 hd H)
    · replace H := ine c4 H
      refine v_iconst (v := 1) (q := 13) dX5_hasProgram_12 (by decide) rfl ?_
      refine v_goto (q := 17) dX5_hasProgram_13 (by decide) ?_
      exact V.sub [] rfl (sjX5_hasProgram_17 hd H)
def mX5_hasPair : MI := (yX5_hasPair, cX5_hasPair, 3, some .boolean)
theorem oX5_hasPair : mOK mX5_hasPair 2 := ⟨by decide +kernel, by decide +kernel, by decide +kernel, by decide, w0918, w0141⟩
def jX5_hasPair_29 (y0 : Int32) (h : Hp) : Option (Int32) :=
(bz y0).bind fun x4 =>
some x4
set_option maxRecDepth 20000 in
set_option maxHeartbeats 4000000 in
theorem sjX5_hasPair_29 {Γ : Gm} {d : Nat} (hd : 2 ≤ d) {y0 : Int32} {h : Hp} {r : Int32} (H : jX5_hasPair_29 y0 h = some r) : V Γ d mX5_hasPair 29 [] [.int y0] h (some (.int r), h) := by
  unfold jX5_hasPair_29 at H
  replace H := bs H; obtain ⟨x4, x4e, H⟩ := H
  obtain ⟨x4q, x4z⟩ := bz_sp x4e
  refine v_topi x4q.symm ?_
  cases H
  exact v_zreturn rfl (by rw [x4q]; exact x4z) dX5_hasPair_29
def jX5_hasPair_28 (h : Hp) : Option (Int32) :=
jX5_hasPair_29 (0 : Int32) h
set_option maxRecDepth 20000 in
set_option maxHeartbeats 4000000 in
theorem sjX5_hasPair_28 {Γ : Gm} {d : Nat} (hd : 2 ≤ d) {h : Hp} {r : Int32} (H : jX5_hasPair_28 h = some r) : V Γ d mX5_hasPair 28 [] [] h (some (.int r), h) := by
  unfold jX5_hasPair_28 at H
  refine v_iconst (v := 0) (q := 29) dX5_hasPair_28 (by decide) rfl ?_
  exact V.sub [] rfl (sjX5_hasPair_29 hd H)
def fX5_hasPair (h : Hp) (v0 : Nat) (v1 : Int32) (v2 : Int32) : Option (Int32) :=
(gO h 5 v0).bind fun _ =>
(fX5_hasProgram h v0 v1).bind fun x2 =>
if x2 = 0 then (
jX5_hasPair_28 h) else (
if v2 < 0 then (
jX5_hasPair_28 h) else (
(gR h 5 v0 5).bind fun x6 =>
(lI h .int x6 v1).bind fun x7 =>
if (x7 - (1 : Int32)) ≤ v2 then (
jX5_hasPair_28 h) else (
jX5_hasPair_29 (1 : Int32) h)))
set_option maxRecDepth 20000 in
set_option maxHeartbeats 4000000 in
theorem sX5_hasPair {Γ : Gm} {d : Nat} (hd : 2 ≤ d) {h : Hp} {v0 : Nat} {v1 : Int32} {v2 : Int32} {r : Int32} (H : fX5_hasPair h v0 v1 v2 = some r) : V Γ d mX5_hasPair 0 [(0, .ref v0), (1, .int v1), (2, .int v2)] [] h (some (.int r), h) := by
  unfold fX5_hasPair at H
  refine v_aload_n (q := 1) 0 dX5_hasPair_0 rfl rfl rfl ?_
  refine v_iload_n (q := 2) 1 dX5_hasPair_1 rfl rfl rfl ?_
  replace H := bs H; obtain ⟨_, o1, H⟩ := H
  replace H := bs H; obtain ⟨x2, x2e, H⟩ := H
  refine u_callV1 (M' := mX5_hasProgram) (d' := 1) (rc := (RX5, TX5, 7)) (As := [.int v1]) (st := []) (q := 5) oX5_hasProgram dX5_hasPair_2 w0919 w0740 w0741 rfl rfl (gO_sp o1).1 (gO_sp o1).2 rfl (Nat.le_of_ble_eq_true rfl) (Nat.le_of_ble_eq_true rfl) (Nat.lt_of_lt_of_le (by decide) hd) rfl (sX5_hasProgram (Nat.le_refl _) x2e) rfl ?_
  refine v_if_eq (q1 := 28) (q2 := 8) dX5_hasPair_5 (by decide) rfl (fun c3 => ?_) (fun c3 => ?_)
  · replace H := ip c3 H
    exact V.sub [] rfl (sjX5_hasPair_28 hd H)
  · replace H := ine c3 H
    refine v_iload_n (q := 9) 2 dX5_hasPair_8 rfl rfl rfl ?_
    refine v_if_lt (q1 := 28) (q2 := 12) dX5_hasPair_9 (by decide) rfl (fun c5 => ?_) (fun c5 => ?_)
    · replace H := ip c5 H
      exact V.sub [] rfl (sjX5_hasPair_28 hd H)
    · replace H := ine c5 H
      refine v_iload_n (q := 13) 2 dX5_hasPair_12 rfl rfl rfl ?_
      refine v_aload_n (q := 14) 0 dX5_hasPair_13 rfl rfl rfl ?_
      replace H := bs H; obtain ⟨x6, x6e, H⟩ := H
      refine u_gR (q := 17) (r := (RX5, TX5, 7)) x6e dX5_hasPair_14 w0244 rfl (by decide) rfl rfl ?_
      refine v_iload_n (q := 18) 1 dX5_hasPair_17 rfl rfl rfl ?_
      replace H := bs H; obtain ⟨x7, x7e, H⟩ := H
      refine u_lI (q := 19) x7e dX5_hasPair_18 rfl ?_
      refine v_iconst (v := 1) (q := 20) dX5_hasPair_19 (by decide) rfl ?_
      refine v_isub (q := 21) dX5_hasPair_20 rfl ?_
      refine v_icmp_ge (q1 := 28) (q2 := 24) dX5_hasPair_21 (by decide) rfl (fun c8 => ?_) (fun c8 => ?_)
      · replace H := ip c8 H
        exact V.sub [] rfl (sjX5_hasPair_28 hd H)
      · replace H := ine c8 H
        refine v_iconst (v := 1) (q := 25) dX5_hasPair_24 (by decide) rfl ?_
        refine v_goto (q := 29) dX5_hasPair_25 (by decide) ?_
        exact V.sub [] rfl (sjX5_hasPair_29 hd H)
def mX11_exchange : MI := (yX11_exchange, cX11_exchange, 5, none)
theorem oX11_exchange : mOK mX11_exchange 3 := ⟨by decide +kernel, by decide +kernel, by decide +kernel, by decide, w0922, w0139⟩
def fX11_exchange (h : Hp) (v0 : Nat) (v1 : Int32) (v2 : Int32) : Option (Hp) :=
(some ((v1 * (12 : Int32)) + v2)).bind fun x1 =>
(lI h .int v0 x1).bind fun x2 =>
(lI h .int v0 (x1 + (1 : Int32))).bind fun x3 =>
(tI h v0 x1 x3).bind fun h4 =>
(tI h4 v0 (x1 + (1 : Int32)) x2).bind fun h5 =>
some h5
set_option maxRecDepth 20000 in
set_option maxHeartbeats 4000000 in
theorem sX11_exchange {Γ : Gm} {d : Nat} (hd : 1 ≤ d) {h : Hp} {v0 : Nat} {v1 : Int32} {v2 : Int32} {r : Hp} (H : fX11_exchange h v0 v1 v2 = some r) : V Γ d mX11_exchange 0 [(0, .ref v0), (1, .int v1), (2, .int v2)] [] h (none, r) := by
  unfold fX11_exchange at H
  refine v_iload_n (q := 1) 1 dX11_exchange_0 rfl rfl rfl ?_
  refine v_bipush (v := 12) (q := 3) dX11_exchange_1 (by decide) rfl ?_
  refine v_imul (q := 4) dX11_exchange_3 rfl ?_
  refine v_iload_n (q := 5) 2 dX11_exchange_4 rfl rfl rfl ?_
  refine v_iadd (q := 6) dX11_exchange_5 rfl ?_
  replace H := bs H; obtain ⟨x1, x1e, H⟩ := H
  refine v_topi (Option.some.inj x1e) ?_
  refine v_istore_n (L' := [(3, .int x1), (0, .ref v0), (1, .int v1), (2, .int v2)]) (q := 7) dX11_exchange_6 rfl (by decide) rfl rfl ?_
  refine v_aload_n (q := 8) 1 dX11_exchange_7 rfl rfl rfl ?_
  refine v_iload_n (q := 9) 0 dX11_exchange_8 rfl rfl rfl ?_
  replace H := bs H; obtain ⟨x2, x2e, H⟩ := H
  refine u_lI (q := 10) x2e dX11_exchange_9 rfl ?_
  refine v_istore (L' := [(4, .int x2), (3, .int x1), (0, .ref v0), (1, .int v1), (2, .int v2)]) (q := 12) dX11_exchange_10 (by decide) rfl rfl ?_
  refine v_aload_n (q := 13) 2 dX11_exchange_12 rfl rfl rfl ?_
  refine v_iload_n (q := 14) 1 dX11_exchange_13 rfl rfl rfl ?_
  refine v_aload_n (q := 15) 2 dX11_exchange_14 rfl rfl rfl ?_
  refine v_iload_n (q := 16) 1 dX11_exchange_15 rfl rfl rfl ?_
  refine v_iconst (v := 1) (q := 17) dX11_exchange_16 (by decide) rfl ?_
  refine v_iadd (q := 18) dX11_exchange_17 rfl ?_
  replace H := bs H; obtain ⟨x3, x3e, H⟩ := H
  refine u_lI (q := 19) x3e dX11_exchange_18 rfl ?_
  replace H := bs H; obtain ⟨h4, h4e, H⟩ := H
  refine u_tI (q := 20) h4e dX11_exchange_19 rfl ?_
  refine v_aload_n (q := 21) 2 dX11_exchange_20 rfl rfl rfl ?_
  refine v_iload_n (q := 22) 1 dX11_exchange_21 rfl rfl rfl ?_
  refine v_iconst (v := 1) (q := 23) dX11_exchange_22 (by decide) rfl ?_
  refine v_iadd (q := 24) dX11_exchange_23 rfl ?_
  refine v_iload (q := 26) 0 dX11_exchange_24 rfl rfl ?_
  replace H := bs H; obtain ⟨h5, h5e, H⟩ := H
  refine u_tI (q := 27) h5e dX11_exchange_26 rfl ?_
  cases H
  exact v_return rfl dX11_exchange_27
def mX11_bestSwap : MI := (yX11_bestSwap, cX11_bestSwap, 6, some .int)
theorem oX11_bestSwap : mOK mX11_bestSwap 1 := ⟨by decide +kernel, by decide +kernel, by decide +kernel, by decide, w1292, w0139⟩
def jX11_bestSwap_9 (h : Hp) : Option (Int32 × Hp) :=
some (((-1 : Int32), h))
set_option maxRecDepth 20000 in
set_option maxHeartbeats 4000000 in
theorem sjX11_bestSwap_9 {Γ : Gm} {d : Nat} (hd : 8 ≤ d) {h : Hp} {r : Int32 × Hp} (H : jX11_bestSwap_9 h = some r) : V Γ d mX11_bestSwap 9 [] [] h (some (.int r.1), r.2) := by
  unfold jX11_bestSwap_9 at H
  refine v_iconst (v := -1) (q := 10) dX11_bestSwap_9 (by decide) rfl ?_
  cases H
  exact v_ireturn rfl dX11_bestSwap_10
def jX11_bestSwap_143 (u0 : Nat) (u1 : Int32) (v2 : Int32) (v3 : Int32) (v4 : Int32) (h : Hp) : Option ((Int32 × Int32 × Int32 × Hp) ⊕ (Int32 × Int32 × Hp)) :=
(some (v4 + (1 : Int32))).bind fun x23 =>
some (.inl (v2, v3, x23, h))
set_option maxRecDepth 20000 in
set_option maxHeartbeats 4000000 in
theorem sjX11_bestSwap_143 {Γ : Gm} {d : Nat} (hd : 8 ≤ d) {u0 : Nat} {u1 : Int32} {v2 : Int32} {v3 : Int32} {v4 : Int32} {h : Hp} {r : (Int32 × Int32 × Int32 × Hp) ⊕ (Int32 × Int32 × Hp)} {t : Option Value × Hp} (H : jX11_bestSwap_143 u0 u1 v2 v3 v4 h = some r) (kI : ∀ s, r = .inl s → (fun s53 => V Γ d mX11_bestSwap 53 [(0, .ref u0), (1, .int u1), (2, .int s53.1), (3, .int s53.2.1), (4, .int s53.2.2.1)] [] s53.2.2.2 t) s) (kE : ∀ e, r = .inr e → (fun e => V Γ d mX11_bestSwap 149 [(1, .int u1), (2, .int e.1), (3, .int e.2.1)] [] e.2.2 t) e) : V Γ d mX11_bestSwap 143 [(0, .ref u0), (1, .int u1), (2, .int v2), (3, .int v3), (4, .int v4)] [] h t := by
  unfold jX11_bestSwap_143 at H
  replace H := bs H; obtain ⟨x23, x23e, H⟩ := H
  refine v_iinc (v := x23) (L' := [(4, .int x23), (0, .ref u0), (1, .int u1), (2, .int v2), (3, .int v3)]) (q := 146) 4 dX11_bestSwap_143 rfl (Option.some.inj x23e) (by decide) rfl rfl ?_
  refine v_goto (q := 53) dX11_bestSwap_146 (by decide) ?_
  exact V.sub [1, 2, 3, 4, 0] rfl (kI (v2, v3, x23, h) (Option.some.inj H).symm)
def bX11_bestSwap_53 (u0 : Nat) (u1 : Int32) (s53 : Int32 × Int32 × Int32 × Hp) : Option ((Int32 × Int32 × Int32 × Hp) ⊕ (Int32 × Int32 × Hp)) :=
(gR s53.2.2.2 11 u0 12).bind fun x16 =>
(aL s53.2.2.2 .int x16).bind fun x17 =>
if x17 ≤ s53.2.2.1 then (
some (.inr (s53.1, s53.2.1, s53.2.2.2))) else (
(gR s53.2.2.2 11 u0 3).bind fun x19 =>
(gO s53.2.2.2 5 x19).bind fun _ =>
(fX5_hasPair s53.2.2.2 x19 (s53.2.2.1 / (12 : Int32)) (s53.2.2.1 - s53.2.2.1 / (12 : Int32) * (12 : Int32))).bind fun x21 =>
if x21 = 0 then (
jX11_bestSwap_143 u0 u1 s53.1 s53.2.1 s53.2.2.1 s53.2.2.2) else (
(gR s53.2.2.2 11 u0 12).bind fun x24 =>
(fX11_exchange s53.2.2.2 x24 (s53.2.2.1 / (12 : Int32)) (s53.2.2.1 - s53.2.2.1 / (12 : Int32) * (12 : Int32))).bind fun x25 =>
(gR x25 11 u0 12).bind fun x26 =>
(gO x25 11 u0).bind fun _ =>
(fX11_runEveryone x25 u0 x26).bind fun x28 =>
(gO x28.2 7 x28.1).bind fun _ =>
(fX7_countOf x28.2 x28.1 (3 : Int32)).bind fun x30 =>
(gR x28.2 11 u0 12).bind fun x31 =>
(fX11_exchange x28.2 x31 (s53.2.2.1 / (12 : Int32)) (s53.2.2.1 - s53.2.2.1 / (12 : Int32) * (12 : Int32))).bind fun x32 =>
if s53.1 ≤ x30 then (
jX11_bestSwap_143 u0 u1 s53.1 s53.2.1 s53.2.2.1 x32) else (
jX11_bestSwap_143 u0 u1 x30 s53.2.2.1 s53.2.2.1 x32)))
set_option maxRecDepth 20000 in
set_option maxHeartbeats 4000000 in
theorem sbX11_bestSwap_53 {Γ : Gm} {d : Nat} (hd : 8 ≤ d) {u0 : Nat} {u1 : Int32} {s53 : Int32 × Int32 × Int32 × Hp} {r : (Int32 × Int32 × Int32 × Hp) ⊕ (Int32 × Int32 × Hp)} {t : Option Value × Hp} (H : bX11_bestSwap_53 u0 u1 s53 = some r) (kI : ∀ s, r = .inl s → (fun s53 => V Γ d mX11_bestSwap 53 [(0, .ref u0), (1, .int u1), (2, .int s53.1), (3, .int s53.2.1), (4, .int s53.2.2.1)] [] s53.2.2.2 t) s) (kE : ∀ e, r = .inr e → (fun e => V Γ d mX11_bestSwap 149 [(1, .int u1), (2, .int e.1), (3, .int e.2.1)] [] e.2.2 t) e) : V Γ d mX11_bestSwap 53 [(0, .ref u0), (1, .int u1), (2, .int s53.1), (3, .int s53.2.1), (4, .int s53.2.2.1)] [] s53.2.2.2 t := by
  unfold bX11_bestSwap_53 at H
  refine v_iload (q := 55) 4 dX11_bestSwap_53 rfl rfl ?_
  refine v_aload_n (q := 56) 0 dX11_bestSwap_55 rfl rfl rfl ?_
  replace H := bs H; obtain ⟨x16, x16e, H⟩ := H
  refine u_gR (q := 59) (r := (RX11, TX11, 14)) x16e dX11_bestSwap_56 w0533 rfl (by decide) rfl rfl ?_
  replace H := bs H; obtain ⟨x17, x17e, H⟩ := H
  refine u_aL (q := 60) (ty := .int) (by decide) x17e dX11_bestSwap_59 rfl ?_
  refine v_icmp_ge (q1 := 149) (q2 := 63) dX11_bestSwap_60 (by decide) rfl (fun c18 => ?_) (fun c18 => ?_)
  · replace H := ip c18 H
    exact V.sub [1, 2, 3] rfl (kE (s53.1, s53.2.1, s53.2.2.2) (Option.some.inj H).symm)
  · replace H := ine c18 H
    refine v_aload_n (q := 64) 0 dX11_bestSwap_63 rfl rfl rfl ?_
    replace H := bs H; obtain ⟨x19, x19e, H⟩ := H
    refine u_gR (q := 67) (r := (RX11, TX11, 14)) x19e dX11_bestSwap_64 w0524 rfl (by decide) rfl rfl ?_
    refine v_iload (q := 69) 4 dX11_bestSwap_67 rfl rfl ?_
    refine v_bipush (v := 12) (q := 71) dX11_bestSwap_69 (by decide) rfl ?_
    refine v_idiv (q := 72) dX11_bestSwap_71 (by decide) rfl ?_
    refine v_iload (q := 74) 4 dX11_bestSwap_72 rfl rfl ?_
    refine v_bipush (v := 12) (q := 76) dX11_bestSwap_74 (by decide) rfl ?_
    refine v_irem (q := 77) dX11_bestSwap_76 (by decide) rfl ?_
    replace H := bs H; obtain ⟨_, o20, H⟩ := H
    replace H := bs H; obtain ⟨x21, x21e, H⟩ := H
    refine u_callV1 (M' := mX5_hasPair) (d' := 2) (rc := (RX5, TX5, 7)) (As := [.int (s53.2.2.1 / (12 : Int32)), .int (s53.2.2.1 - s53.2.2.1 / (12 : Int32) * (12 : Int32))]) (st := []) (q := 80) oX5_hasPair dX11_bestSwap_77 w0915 w0916 w0917 rfl rfl (gO_sp o20).1 (gO_sp o20).2 rfl (Nat.le_of_ble_eq_true rfl) (Nat.le_of_ble_eq_true rfl) (Nat.lt_of_lt_of_le (by decide) hd) rfl (sX5_hasPair (Nat.le_refl _) x21e) rfl ?_
    refine v_if_eq (q1 := 143) (q2 := 83) dX11_bestSwap_80 (by decide) rfl (fun c22 => ?_) (fun c22 => ?_)
    · replace H := ip c22 H
      exact V.sub [0, 1, 2, 3, 4] rfl (sjX11_bestSwap_143 hd H kI kE)
    · replace H := ine c22 H
      refine v_aload_n (q := 84) 0 dX11_bestSwap_83 rfl rfl rfl ?_
      replace H := bs H; obtain ⟨x24, x24e, H⟩ := H
      refine u_gR (q := 87) (r := (RX11, TX11, 14)) x24e dX11_bestSwap_84 w0533 rfl (by decide) rfl rfl ?_
      refine v_iload (q := 89) 4 dX11_bestSwap_87 rfl rfl ?_
      refine v_bipush (v := 12) (q := 91) dX11_bestSwap_89 (by decide) rfl ?_
      refine v_idiv (q := 92) dX11_bestSwap_91 (by decide) rfl ?_
      refine v_iload (q := 94) 4 dX11_bestSwap_92 rfl rfl ?_
      refine v_bipush (v := 12) (q := 96) dX11_bestSwap_94 (by decide) rfl ?_
      refine v_irem (q := 97) dX11_bestSwap_96 (by decide) rfl ?_
      replace H := bs H; obtain ⟨x25, x25e, H⟩ := H
      refine u_callS0 (M' := mX11_exchange) (d' := 1) (As := [.ref x24, .int (s53.2.2.1 / (12 : Int32)), .int (s53.2.2.1 - s53.2.2.1 / (12 : Int32) * (12 : Int32))]) (st := []) (q := 100) oX11_exchange dX11_bestSwap_97 w0920 w0921 rfl (Nat.le_of_ble_eq_true rfl) (Nat.le_of_ble_eq_true rfl) (Nat.lt_of_lt_of_le (by decide) hd) rfl (sX11_exchange (Nat.le_refl _) x25e) rfl ?_
      refine v_aload_n (q := 101) 0 dX11_bestSwap_100 rfl rfl rfl ?_
      refine v_aload_n (q := 102) 0 dX11_bestSwap_101 rfl rfl rfl ?_
      replace H := bs H; obtain ⟨x26, x26e, H⟩ := H
      refine u_gR (q := 105) (r := (RX11, TX11, 14)) x26e dX11_bestSwap_102 w0533 rfl (by decide) rfl rfl ?_
      replace H := bs H; obtain ⟨_, o27, H⟩ := H
      replace H := bs H; obtain ⟨x28, x28e, H⟩ := H
      refine u_callV1 (M' := mX11_runEveryone) (d' := 7) (rc := (RX11, TX11, 14)) (As := [.ref x26]) (st := []) (q := 108) oX11_runEveryone dX11_bestSwap_105 w1047 w1049 w0033 rfl rfl (gO_sp o27).1 (gO_sp o27).2 rfl (Nat.le_of_ble_eq_true rfl) (Nat.le_of_ble_eq_true rfl) (Nat.lt_of_lt_of_le (by decide) hd) rfl (sX11_runEveryone (Nat.le_refl _) x28e) rfl ?_
      refine v_iconst (v := 3) (q := 109) dX11_bestSwap_108 (by decide) rfl ?_
      replace H := bs H; obtain ⟨_, o29, H⟩ := H
      replace H := bs H; obtain ⟨x30, x30e, H⟩ := H
      refine u_callV1 (M' := mX7_countOf) (d' := 1) (rc := (RX7, TX7, 7)) (As := [.int (3 : Int32)]) (st := []) (q := 112) oX7_countOf dX11_bestSwap_109 w1051 w1052 w1053 rfl rfl (gO_sp o29).1 (gO_sp o29).2 rfl (Nat.le_of_ble_eq_true rfl) (Nat.le_of_ble_eq_true rfl) (Nat.lt_of_lt_of_le (by decide) hd) rfl (sX7_countOf (Nat.le_refl _) x30e) rfl ?_
      refine v_istore (L' := [(5, .int x30), (0, .ref u0), (1, .int u1), (2, .int s53.1), (3, .int s53.2.1), (4, .int s53.2.2.1)]) (q := 114) dX11_bestSwap_112 (by decide) rfl rfl ?_
      refine v_aload_n (q := 115) 1 dX11_bestSwap_114 rfl rfl rfl ?_
      replace H := bs H; obtain ⟨x31, x31e, H⟩ := H
      refine u_gR (q := 118) (r := (RX11, TX11, 14)) x31e dX11_bestSwap_115 w0533 rfl (by decide) rfl rfl ?_
      refine v_iload (q := 120) 5 dX11_bestSwap_118 rfl rfl ?_
      refine v_bipush (v := 12) (q := 122) dX11_bestSwap_120 (by decide) rfl ?_
      refine v_idiv (q := 123) dX11_bestSwap_122 (by decide) rfl ?_
      refine v_iload (q := 125) 5 dX11_bestSwap_123 rfl rfl ?_
      refine v_bipush (v := 12) (q := 127) dX11_bestSwap_125 (by decide) rfl ?_
      refine v_irem (q := 128) dX11_bestSwap_127 (by decide) rfl ?_
      replace H := bs H; obtain ⟨x32, x32e, H⟩ := H
      refine u_callS0 (M' := mX11_exchange) (d' := 1) (As := [.ref x31, .int (s53.2.2.1 / (12 : Int32)), .int (s53.2.2.1 - s53.2.2.1 / (12 : Int32) * (12 : Int32))]) (st := []) (q := 131) oX11_exchange dX11_bestSwap_128 w0920 w0921 rfl (Nat.le_of_ble_eq_true rfl) (Nat.le_of_ble_eq_true rfl) (Nat.lt_of_lt_of_le (by decide) hd) rfl (sX11_exchange (Nat.le_refl _) x32e) rfl ?_
      refine v_iload (q := 133) 0 dX11_bestSwap_131 rfl rfl ?_
      refine v_iload_n (q := 134) 3 dX11_bestSwap_133 rfl rfl rfl ?_
      refine v_icmp_ge (q1 := 143) (q2 := 137) dX11_bestSwap_134 (by decide) rfl (fun c33 => ?_) (fun c33 => ?_)
      · replace H := ip c33 H
        exact V.sub [1, 2, 3, 4, 5] rfl (sjX11_bestSwap_143 hd H kI kE)
      · replace H := ine c33 H
        refine v_iload (q := 139) 0 dX11_bestSwap_137 rfl rfl ?_
        refine v_istore_n (L' := [(2, .int x30), (5, .int x30), (0, .ref u0), (1, .int u1), (3, .int s53.2.1), (4, .int s53.2.2.1)]) (q := 140) dX11_bestSwap_139 rfl (by decide) rfl rfl ?_
        refine v_iload (q := 142) 5 dX11_bestSwap_140 rfl rfl ?_
        refine v_istore_n (L' := [(3, .int s53.2.2.1), (2, .int x30), (5, .int x30), (0, .ref u0), (1, .int u1), (4, .int s53.2.2.1)]) (q := 143) dX11_bestSwap_142 rfl (by decide) rfl rfl ?_
        exact V.sub [3, 4, 1, 0, 5] rfl (sjX11_bestSwap_143 hd H kI kE)
def fX11_bestSwap (h : Hp) (v0 : Nat) (v1 : Int32) : Option (Int32 × Hp) :=
if v1 < 0 then (
jX11_bestSwap_9 h) else (
if v1 ≤ (2 : Int32) then (
(gR h 11 v0 5).bind fun x3 =>
(gO h 2 x3).bind fun _ =>
(fX2_present h x3).bind fun x5 =>
(gR h 3 x5 0).bind fun x6 =>
(gR h 11 v0 12).bind fun x7 =>
(gR h 11 v0 12).bind fun x8 =>
(aL h .int x8).bind fun x9 =>
(kI h .int x6 (0 : Int32) x7 (0 : Int32) x9).bind fun h10 =>
(gR h10 11 v0 12).bind fun x11 =>
(gO h10 11 v0).bind fun _ =>
(fX11_runEveryone h10 v0 x11).bind fun x13 =>
(gO x13.2 7 x13.1).bind fun _ =>
(fX7_countOf x13.2 x13.1 (3 : Int32)).bind fun x15 =>
(lp (bX11_bestSwap_53 v0 v1) FU (x15, (-1 : Int32), (0 : Int32), x13.2)).bind fun e34 =>
if e34.2.1 = (-1 : Int32) then (
some (((-1 : Int32), e34.2.2))) else (
if v1 = (0 : Int32) then (
some (e34.1, e34.2.2)) else (
if v1 = (1 : Int32) then (
some ((e34.2.1 / (12 : Int32), e34.2.2))) else (
some ((e34.2.1 - e34.2.1 / (12 : Int32) * (12 : Int32), e34.2.2)))))) else (
jX11_bestSwap_9 h))
set_option maxRecDepth 20000 in
set_option maxHeartbeats 4000000 in
theorem sX11_bestSwap {Γ : Gm} {d : Nat} (hd : 8 ≤ d) {h : Hp} {v0 : Nat} {v1 : Int32} {r : Int32 × Hp} (H : fX11_bestSwap h v0 v1 = some r) : V Γ d mX11_bestSwap 0 [(0, .ref v0), (1, .int v1)] [] h (some (.int r.1), r.2) := by
  unfold fX11_bestSwap at H
  refine v_iload_n (q := 1) 1 dX11_bestSwap_0 rfl rfl rfl ?_
  refine v_if_lt (q1 := 9) (q2 := 4) dX11_bestSwap_1 (by decide) rfl (fun c1 => ?_) (fun c1 => ?_)
  · replace H := ip c1 H
    exact V.sub [] rfl (sjX11_bestSwap_9 hd H)
  · replace H := ine c1 H
    refine v_iload_n (q := 5) 1 dX11_bestSwap_4 rfl rfl rfl ?_
    refine v_iconst (v := 2) (q := 6) dX11_bestSwap_5 (by decide) rfl ?_
    refine v_icmp_le (q1 := 11) (q2 := 9) dX11_bestSwap_6 (by decide) rfl (fun c2 => ?_) (fun c2 => ?_)
    · replace H := ip c2 H
      refine v_aload_n (q := 12) 0 dX11_bestSwap_11 rfl rfl rfl ?_
      replace H := bs H; obtain ⟨x3, x3e, H⟩ := H
      refine u_gR (q := 15) (r := (RX11, TX11, 14)) x3e dX11_bestSwap_12 w0526 rfl (by decide) rfl rfl ?_
      replace H := bs H; obtain ⟨_, o4, H⟩ := H
      replace H := bs H; obtain ⟨x5, x5e, H⟩ := H
      refine u_callV1 (M' := mX2_present) (d' := 1) (rc := (RX2, TX2, 3)) (As := []) (st := []) (q := 18) oX2_present dX11_bestSwap_15 w0701 w0702 w0703 rfl rfl (gO_sp o4).1 (gO_sp o4).2 rfl (Nat.le_of_ble_eq_true rfl) (Nat.le_of_ble_eq_true rfl) (Nat.lt_of_lt_of_le (by decide) hd) rfl (sX2_present (Nat.le_refl _) x5e) rfl ?_
      replace H := bs H; obtain ⟨x6, x6e, H⟩ := H
      refine u_gR (q := 21) (r := (RX3, TX3, 8)) x6e dX11_bestSwap_18 w0341 rfl (by decide) rfl rfl ?_
      refine v_iconst (v := 0) (q := 22) dX11_bestSwap_21 (by decide) rfl ?_
      refine v_aload_n (q := 23) 0 dX11_bestSwap_22 rfl rfl rfl ?_
      replace H := bs H; obtain ⟨x7, x7e, H⟩ := H
      refine u_gR (q := 26) (r := (RX11, TX11, 14)) x7e dX11_bestSwap_23 w0533 rfl (by decide) rfl rfl ?_
      refine v_iconst (v := 0) (q := 27) dX11_bestSwap_26 (by decide) rfl ?_
      refine v_aload_n (q := 28) 0 dX11_bestSwap_27 rfl rfl rfl ?_
      replace H := bs H; obtain ⟨x8, x8e, H⟩ := H
      refine u_gR (q := 31) (r := (RX11, TX11, 14)) x8e dX11_bestSwap_28 w0533 rfl (by decide) rfl rfl ?_
      replace H := bs H; obtain ⟨x9, x9e, H⟩ := H
      refine u_aL (q := 32) (ty := .int) (by decide) x9e dX11_bestSwap_31 rfl ?_
      replace H := bs H; obtain ⟨h10, h10e, H⟩ := H
      refine u_kI (q := 35) (ty := .int) rfl rfl (by decide) h10e dX11_bestSwap_32 w1293 w0711 w0710 w0157 (Nat.le_of_ble_eq_true rfl) (Nat.lt_of_lt_of_le (by decide) hd) rfl ?_
      refine v_aload_n (q := 36) 0 dX11_bestSwap_35 rfl rfl rfl ?_
      refine v_aload_n (q := 37) 0 dX11_bestSwap_36 rfl rfl rfl ?_
      replace H := bs H; obtain ⟨x11, x11e, H⟩ := H
      refine u_gR (q := 40) (r := (RX11, TX11, 14)) x11e dX11_bestSwap_37 w0533 rfl (by decide) rfl rfl ?_
      replace H := bs H; obtain ⟨_, o12, H⟩ := H
      replace H := bs H; obtain ⟨x13, x13e, H⟩ := H
      refine u_callV1 (M' := mX11_runEveryone) (d' := 7) (rc := (RX11, TX11, 14)) (As := [.ref x11]) (st := []) (q := 43) oX11_runEveryone dX11_bestSwap_40 w1047 w1049 w0033 rfl rfl (gO_sp o12).1 (gO_sp o12).2 rfl (Nat.le_of_ble_eq_true rfl) (Nat.le_of_ble_eq_true rfl) (Nat.lt_of_lt_of_le (by decide) hd) rfl (sX11_runEveryone (Nat.le_refl _) x13e) rfl ?_
      refine v_iconst (v := 3) (q := 44) dX11_bestSwap_43 (by decide) rfl ?_
      replace H := bs H; obtain ⟨_, o14, H⟩ := H
      replace H := bs H; obtain ⟨x15, x15e, H⟩ := H
      refine u_callV1 (M' := mX7_countOf) (d' := 1) (rc := (RX7, TX7, 7)) (As := [.int (3 : Int32)]) (st := []) (q := 47) oX7_countOf dX11_bestSwap_44 w1051 w1052 w1053 rfl rfl (gO_sp o14).1 (gO_sp o14).2 rfl (Nat.le_of_ble_eq_true rfl) (Nat.le_of_ble_eq_true rfl) (Nat.lt_of_lt_of_le (by decide) hd) rfl (sX7_countOf (Nat.le_refl _) x15e) rfl ?_
      refine v_istore_n (L' := [(2, .int x15), (0, .ref v0), (1, .int v1)]) (q := 48) dX11_bestSwap_47 rfl (by decide) rfl rfl ?_
      refine v_iconst (v := -1) (q := 49) dX11_bestSwap_48 (by decide) rfl ?_
      refine v_istore_n (L' := [(3, .int (-1 : Int32)), (2, .int x15), (0, .ref v0), (1, .int v1)]) (q := 50) dX11_bestSwap_49 rfl (by decide) rfl rfl ?_
      refine v_iconst (v := 0) (q := 51) dX11_bestSwap_50 (by decide) rfl ?_
      refine v_istore (L' := [(4, .int (0 : Int32)), (3, .int (-1 : Int32)), (2, .int x15), (0, .ref v0), (1, .int v1)]) (q := 53) dX11_bestSwap_51 (by decide) rfl rfl ?_
      replace H := bs H; obtain ⟨e34, e34L, H⟩ := H
      refine V.sub [3, 4, 2, 1, 0] rfl ?_
      refine lp_V (P := (fun s53 => V Γ d mX11_bestSwap 53 [(0, .ref v0), (1, .int v1), (2, .int s53.1), (3, .int s53.2.1), (4, .int s53.2.2.1)] [] s53.2.2.2 (some (.int r.1), r.2))) (E := (fun e => V Γ d mX11_bestSwap 149 [(1, .int v1), (2, .int e.1), (3, .int e.2.1)] [] e.2.2 (some (.int r.1), r.2))) (fun s r hb kI kE => sbX11_bestSwap_53 hd (s53 := s) (r := r) hb kI kE) FU (x15, (-1 : Int32), (0 : Int32), x13.2) e34 e34L ?_
      refine v_iload_n (q := 150) 2 dX11_bestSwap_149 rfl rfl rfl ?_
      refine v_iconst (v := -1) (q := 151) dX11_bestSwap_150 (by decide) rfl ?_
      refine v_icmp_ne (q1 := 156) (q2 := 154) dX11_bestSwap_151 (by decide) rfl (fun c35 => ?_) (fun c35 => ?_)
      · replace H := ine c35 H
        refine v_iload_n (q := 157) 0 dX11_bestSwap_156 rfl rfl rfl ?_
        by_cases c36 : v1 = (0 : Int32)
        · replace H := ip c36 H
          rw [c36]
          refine v_lookup (off := 27) (q := 184) dX11_bestSwap_157 (by decide) (by decide) (by decide) ?_
          refine v_iload_n (q := 185) 1 dX11_bestSwap_184 rfl rfl rfl ?_
          cases H
          exact v_ireturn rfl dX11_bestSwap_185
        · replace H := ine c36 H
          by_cases c37 : v1 = (1 : Int32)
          · replace H := ip c37 H
            rw [c37]
            refine v_lookup (off := 29) (q := 186) dX11_bestSwap_157 (by decide) (by decide) (by decide) ?_
            refine v_iload_n (q := 187) 2 dX11_bestSwap_186 rfl rfl rfl ?_
            refine v_bipush (v := 12) (q := 189) dX11_bestSwap_187 (by decide) rfl ?_
            refine v_idiv (q := 190) dX11_bestSwap_189 (by decide) rfl ?_
            cases H
            exact v_ireturn rfl dX11_bestSwap_190
          · replace H := ine c37 H
            refine v_lookup (off := 34) (q := 191) dX11_bestSwap_157 (by decide) ((lv_osw c36 (by decide)).trans ((lv_osw c37 (by decide)).trans (rfl))) (by decide) ?_
            refine v_iload_n (q := 192) 2 dX11_bestSwap_191 rfl rfl rfl ?_
            refine v_bipush (v := 12) (q := 194) dX11_bestSwap_192 (by decide) rfl ?_
            refine v_irem (q := 195) dX11_bestSwap_194 (by decide) rfl ?_
            cases H
            exact v_ireturn rfl dX11_bestSwap_195
      · replace H := ip c35 H
        refine v_iconst (v := -1) (q := 155) dX11_bestSwap_154 (by decide) rfl ?_
        cases H
        exact v_ireturn rfl dX11_bestSwap_155
    · replace H := ine c2 H
      exact V.sub [] rfl (sjX11_bestSwap_9 hd H)
def mX7_nodeAt : MI := (yX7_nodeAt, cX7_nodeAt, 3, some .int)
theorem oX7_nodeAt : mOK mX7_nodeAt 2 := ⟨by decide +kernel, by decide +kernel, by decide +kernel, by decide, w0989, w0145⟩
def jX7_nodeAt_26 (h : Hp) : Option (Int32) :=
some (-1 : Int32)
set_option maxRecDepth 20000 in
set_option maxHeartbeats 4000000 in
theorem sjX7_nodeAt_26 {Γ : Gm} {d : Nat} (hd : 1 ≤ d) {h : Hp} {r : Int32} (H : jX7_nodeAt_26 h = some r) : V Γ d mX7_nodeAt 26 [] [] h (some (.int r), h) := by
  unfold jX7_nodeAt_26 at H
  refine v_iconst (v := -1) (q := 27) dX7_nodeAt_26 (by decide) rfl ?_
  cases H
  exact v_ireturn rfl dX7_nodeAt_27
def fX7_nodeAt (h : Hp) (v0 : Nat) (v1 : Int32) (v2 : Int32) : Option (Int32) :=
if v1 < 0 then (
jX7_nodeAt_26 h) else (
(gI h 7 v0 0).bind fun x2 =>
if x2 ≤ v1 then (
jX7_nodeAt_26 h) else (
if v2 < 0 then (
jX7_nodeAt_26 h) else (
(gR h 7 v0 4).bind fun x5 =>
(lI h .int x5 v1).bind fun x6 =>
if v2 < x6 then (
(gR h 7 v0 5).bind fun x8 =>
(lI h .byte x8 ((v1 * (17 : Int32)) + v2)).bind fun x9 =>
some x9) else (
jX7_nodeAt_26 h))))
set_option maxRecDepth 20000 in
set_option maxHeartbeats 4000000 in
theorem sX7_nodeAt {Γ : Gm} {d : Nat} (hd : 1 ≤ d) {h : Hp} {v0 : Nat} {v1 : Int32} {v2 : Int32} {r : Int32} (H : fX7_nodeAt h v0 v1 v2 = some r) : V Γ d mX7_nodeAt 0 [(0, .ref v0), (1, .int v1), (2, .int v2)] [] h (some (.int r), h) := by
  unfold fX7_nodeAt at H
  refine v_iload_n (q := 1) 1 dX7_nodeAt_0 rfl rfl rfl ?_
  refine v_if_lt (q1 := 26) (q2 := 4) dX7_nodeAt_1 (by decide) rfl (fun c1 => ?_) (fun c1 => ?_)
  · replace H := ip c1 H
    exact V.sub [] rfl (sjX7_nodeAt_26 hd H)
  · replace H := ine c1 H
    refine v_iload_n (q := 5) 1 dX7_nodeAt_4 rfl rfl rfl ?_
    refine v_aload_n (q := 6) 0 dX7_nodeAt_5 rfl rfl rfl ?_
    replace H := bs H; obtain ⟨x2, x2e, H⟩ := H
    refine u_gI (q := 9) (r := (RX7, TX7, 7)) x2e dX7_nodeAt_6 w0311 rfl (by decide) rfl rfl ?_
    refine v_icmp_ge (q1 := 26) (q2 := 12) dX7_nodeAt_9 (by decide) rfl (fun c3 => ?_) (fun c3 => ?_)
    · replace H := ip c3 H
      exact V.sub [] rfl (sjX7_nodeAt_26 hd H)
    · replace H := ine c3 H
      refine v_iload_n (q := 13) 2 dX7_nodeAt_12 rfl rfl rfl ?_
      refine v_if_lt (q1 := 26) (q2 := 16) dX7_nodeAt_13 (by decide) rfl (fun c4 => ?_) (fun c4 => ?_)
      · replace H := ip c4 H
        exact V.sub [] rfl (sjX7_nodeAt_26 hd H)
      · replace H := ine c4 H
        refine v_iload_n (q := 17) 2 dX7_nodeAt_16 rfl rfl rfl ?_
        refine v_aload_n (q := 18) 0 dX7_nodeAt_17 rfl rfl rfl ?_
        replace H := bs H; obtain ⟨x5, x5e, H⟩ := H
        refine u_gR (q := 21) (r := (RX7, TX7, 7)) x5e dX7_nodeAt_18 w0320 rfl (by decide) rfl rfl ?_
        refine v_iload_n (q := 22) 1 dX7_nodeAt_21 rfl rfl rfl ?_
        replace H := bs H; obtain ⟨x6, x6e, H⟩ := H
        refine u_lI (q := 23) x6e dX7_nodeAt_22 rfl ?_
        refine v_icmp_lt (q1 := 28) (q2 := 26) dX7_nodeAt_23 (by decide) rfl (fun c7 => ?_) (fun c7 => ?_)
        · replace H := ip c7 H
          refine v_aload_n (q := 29) 0 dX7_nodeAt_28 rfl rfl rfl ?_
          replace H := bs H; obtain ⟨x8, x8e, H⟩ := H
          refine u_gR (q := 32) (r := (RX7, TX7, 7)) x8e dX7_nodeAt_29 w0322 rfl (by decide) rfl rfl ?_
          refine v_iload_n (q := 33) 1 dX7_nodeAt_32 rfl rfl rfl ?_
          refine v_bipush (v := 17) (q := 35) dX7_nodeAt_33 (by decide) rfl ?_
          refine v_imul (q := 36) dX7_nodeAt_35 rfl ?_
          refine v_iload_n (q := 37) 2 dX7_nodeAt_36 rfl rfl rfl ?_
          refine v_iadd (q := 38) dX7_nodeAt_37 rfl ?_
          replace H := bs H; obtain ⟨x9, x9e, H⟩ := H
          refine u_lB (q := 39) x9e dX7_nodeAt_38 rfl ?_
          cases H
          exact v_ireturn rfl dX7_nodeAt_39
        · replace H := ine c7 H
          exact V.sub [] rfl (sjX7_nodeAt_26 hd H)
def mX11_chain : MI := (yX11_chain, cX11_chain, 3, some .int)
theorem oX11_chain : mOK mX11_chain 2 := ⟨by decide +kernel, by decide +kernel, by decide +kernel, by decide, w0993, w0139⟩
def fX11_chain (h : Hp) (v0 : Nat) (v1 : Int32) (v2 : Int32) : Option (Int32) :=
(gR h 11 v0 5).bind fun x1 =>
(gO h 2 x1).bind fun _ =>
(fX2_present h x1).bind fun x3 =>
(gR h 3 x3 4).bind fun x4 =>
(gO h 7 x4).bind fun _ =>
(fX7_nodeAt h x4 v1 v2).bind fun x6 =>
some x6
set_option maxRecDepth 20000 in
set_option maxHeartbeats 4000000 in
theorem sX11_chain {Γ : Gm} {d : Nat} (hd : 2 ≤ d) {h : Hp} {v0 : Nat} {v1 : Int32} {v2 : Int32} {r : Int32} (H : fX11_chain h v0 v1 v2 = some r) : V Γ d mX11_chain 0 [(0, .ref v0), (1, .int v1), (2, .int v2)] [] h (some (.int r), h) := by
  unfold fX11_chain at H
  refine v_aload_n (q := 1) 0 dX11_chain_0 rfl rfl rfl ?_
  replace H := bs H; obtain ⟨x1, x1e, H⟩ := H
  refine u_gR (q := 4) (r := (RX11, TX11, 14)) x1e dX11_chain_1 w0526 rfl (by decide) rfl rfl ?_
  replace H := bs H; obtain ⟨_, o2, H⟩ := H
  replace H := bs H; obtain ⟨x3, x3e, H⟩ := H
  refine u_callV1 (M' := mX2_present) (d' := 1) (rc := (RX2, TX2, 3)) (As := []) (st := []) (q := 7) oX2_present dX11_chain_4 w0701 w0702 w0703 rfl rfl (gO_sp o2).1 (gO_sp o2).2 rfl (Nat.le_of_ble_eq_true rfl) (Nat.le_of_ble_eq_true rfl) (Nat.lt_of_lt_of_le (by decide) hd) rfl (sX2_present (Nat.le_refl _) x3e) rfl ?_
  replace H := bs H; obtain ⟨x4, x4e, H⟩ := H
  refine u_gR (q := 10) (r := (RX3, TX3, 8)) x4e dX11_chain_7 w0353 rfl (by decide) rfl rfl ?_
  refine v_iload_n (q := 11) 1 dX11_chain_10 rfl rfl rfl ?_
  refine v_iload_n (q := 12) 2 dX11_chain_11 rfl rfl rfl ?_
  replace H := bs H; obtain ⟨_, o5, H⟩ := H
  replace H := bs H; obtain ⟨x6, x6e, H⟩ := H
  refine u_callV1 (M' := mX7_nodeAt) (d' := 1) (rc := (RX7, TX7, 7)) (As := [.int v1, .int v2]) (st := []) (q := 15) oX7_nodeAt dX11_chain_12 w0986 w0987 w0988 rfl rfl (gO_sp o5).1 (gO_sp o5).2 rfl (Nat.le_of_ble_eq_true rfl) (Nat.le_of_ble_eq_true rfl) (Nat.lt_of_lt_of_le (by decide) hd) rfl (sX7_nodeAt (Nat.le_refl _) x6e) rfl ?_
  cases H
  exact v_ireturn rfl dX11_chain_15
def mX5_isTask : MI := (yX5_isTask, cX5_isTask, 2, some .boolean)
theorem oX5_isTask : mOK mX5_isTask 1 := ⟨by decide +kernel, by decide +kernel, by decide +kernel, by decide, w1253, w0141⟩
def jX5_isTask_22 (y0 : Int32) (h : Hp) : Option (Int32) :=
(bz y0).bind fun x4 =>
some x4
set_option maxRecDepth 20000 in
set_option maxHeartbeats 4000000 in
theorem sjX5_isTask_22 {Γ : Gm} {d : Nat} (hd : 2 ≤ d) {y0 : Int32} {h : Hp} {r : Int32} (H : jX5_isTask_22 y0 h = some r) : V Γ d mX5_isTask 22 [] [.int y0] h (some (.int r), h) := by
  unfold jX5_isTask_22 at H
  replace H := bs H; obtain ⟨x4, x4e, H⟩ := H
  obtain ⟨x4q, x4z⟩ := bz_sp x4e
  refine v_topi x4q.symm ?_
  cases H
  exact v_zreturn rfl (by rw [x4q]; exact x4z) dX5_isTask_22
def jX5_isTask_21 (h : Hp) : Option (Int32) :=
jX5_isTask_22 (0 : Int32) h
set_option maxRecDepth 20000 in
set_option maxHeartbeats 4000000 in
theorem sjX5_isTask_21 {Γ : Gm} {d : Nat} (hd : 2 ≤ d) {h : Hp} {r : Int32} (H : jX5_isTask_21 h = some r) : V Γ d mX5_isTask 21 [] [] h (some (.int r), h) := by
  unfold jX5_isTask_21 at H
  refine v_iconst (v := 0) (q := 22) dX5_isTask_21 (by decide) rfl ?_
  exact V.sub [] rfl (sjX5_isTask_22 hd H)
def fX5_isTask (h : Hp) (v0 : Nat) (v1 : Int32) : Option (Int32) :=
(gO h 5 v0).bind fun _ =>
(fX5_hasProgram h v0 v1).bind fun x2 =>
if x2 = 0 then (
jX5_isTask_21 h) else (
(gR h 5 v0 4).bind fun x5 =>
(lI h .int x5 v1).bind fun x6 =>
if x6 = 0 then (
jX5_isTask_22 (1 : Int32) h) else (
jX5_isTask_21 h))
set_option maxRecDepth 20000 in
set_option maxHeartbeats 4000000 in
theorem sX5_isTask {Γ : Gm} {d : Nat} (hd : 2 ≤ d) {h : Hp} {v0 : Nat} {v1 : Int32} {r : Int32} (H : fX5_isTask h v0 v1 = some r) : V Γ d mX5_isTask 0 [(0, .ref v0), (1, .int v1)] [] h (some (.int r), h) := by
  unfold fX5_isTask at H
  refine v_aload_n (q := 1) 0 dX5_isTask_0 rfl rfl rfl ?_
  refine v_iload_n (q := 2) 1 dX5_isTask_1 rfl rfl rfl ?_
  replace H := bs H; obtain ⟨_, o1, H⟩ := H
  replace H := bs H; obtain ⟨x2, x2e, H⟩ := H
  refine u_callV1 (M' := mX5_hasProgram) (d' := 1) (rc := (RX5, TX5, 7)) (As := [.int v1]) (st := []) (q := 5) oX5_hasProgram dX5_isTask_2 w0919 w0740 w0741 rfl rfl (gO_sp o1).1 (gO_sp o1).2 rfl (Nat.le_of_ble_eq_true rfl) (Nat.le_of_ble_eq_true rfl) (Nat.lt_of_lt_of_le (by decide) hd) rfl (sX5_hasProgram (Nat.le_refl _) x2e) rfl ?_
  refine v_if_eq (q1 := 21) (q2 := 8) dX5_isTask_5 (by decide) rfl (fun c3 => ?_) (fun c3 => ?_)
  · replace H := ip c3 H
    exact V.sub [] rfl (sjX5_isTask_21 hd H)
  · replace H := ine c3 H
    refine v_aload_n (q := 9) 0 dX5_isTask_8 rfl rfl rfl ?_
    replace H := bs H; obtain ⟨x5, x5e, H⟩ := H
    refine u_gR (q := 12) (r := (RX5, TX5, 7)) x5e dX5_isTask_9 w0239 rfl (by decide) rfl rfl ?_
    refine v_iload_n (q := 13) 1 dX5_isTask_12 rfl rfl rfl ?_
    replace H := bs H; obtain ⟨x6, x6e, H⟩ := H
    refine u_lI (q := 14) x6e dX5_isTask_13 rfl ?_
    refine v_if_ne (q1 := 21) (q2 := 17) dX5_isTask_14 (by decide) rfl (fun c7 => ?_) (fun c7 => ?_)
    · replace H := ine c7 H
      exact V.sub [] rfl (sjX5_isTask_21 hd H)
    · replace H := ip c7 H
      refine v_iconst (v := 1) (q := 18) dX5_isTask_17 (by decide) rfl ?_
      refine v_goto (q := 22) dX5_isTask_18 (by decide) ?_
      exact V.sub [] rfl (sjX5_isTask_22 hd H)
def mX11_clash : MI := (yX11_clash, cX11_clash, 5, some .int)
theorem oX11_clash : mOK mX11_clash 2 := ⟨by decide +kernel, by decide +kernel, by decide +kernel, by decide, w1249, w0139⟩
def jX11_clash_27 (h : Hp) : Option (Int32 × Hp) :=
some (((-1 : Int32), h))
set_option maxRecDepth 20000 in
set_option maxHeartbeats 4000000 in
theorem sjX11_clash_27 {Γ : Gm} {d : Nat} (hd : 8 ≤ d) {h : Hp} {r : Int32 × Hp} (H : jX11_clash_27 h = some r) : V Γ d mX11_clash 27 [] [] h (some (.int r.1), r.2) := by
  unfold jX11_clash_27 at H
  refine v_iconst (v := -1) (q := 28) dX11_clash_27 (by decide) rfl ?_
  cases H
  exact v_ireturn rfl dX11_clash_28
def jX11_clash_98 (y0 : Int32) (h : Hp) : Option (Int32 × Hp) :=
some (y0, h)
set_option maxRecDepth 20000 in
set_option maxHeartbeats 4000000 in
theorem sjX11_clash_98 {Γ : Gm} {d : Nat} (hd : 8 ≤ d) {y0 : Int32} {h : Hp} {r : Int32 × Hp} (H : jX11_clash_98 y0 h = some r) : V Γ d mX11_clash 98 [] [.int y0] h (some (.int r.1), r.2) := by
  unfold jX11_clash_98 at H
  cases H
  exact v_ireturn rfl dX11_clash_98
def fX11_clash (h : Hp) (v0 : Nat) (v1 : Int32) (v2 : Int32) : Option (Int32 × Hp) :=
if v1 = v2 then (
jX11_clash_27 h) else (
(gR h 11 v0 3).bind fun x2 =>
(gO h 5 x2).bind fun _ =>
(fX5_isTask h x2 v1).bind fun x4 =>
if x4 = 0 then (
jX11_clash_27 h) else (
(gR h 11 v0 3).bind fun x6 =>
(gO h 5 x6).bind fun _ =>
(fX5_isTask h x6 v2).bind fun x8 =>
if x8 = 0 then (
jX11_clash_27 h) else (
(gR h 11 v0 3).bind fun x10 =>
(gO h 5 x10).bind fun _ =>
(fX5_everyone h x10).bind fun x12 =>
(gR h 11 v0 3).bind fun x13 =>
(gO h 5 x13).bind fun _ =>
(fX5_tasks h x13).bind fun x15 =>
(some (((x12 &&& (x15 ^^^ (-1 : Int32))) ||| ((1 : Int32) <<< (v1 &&& 31))) ||| ((1 : Int32) <<< (v2 &&& 31)))).bind fun x16 =>
(gR h 11 v0 13).bind fun x17 =>
(gR h 11 v0 3).bind fun x18 =>
(gR h 11 v0 5).bind fun x19 =>
(gO h 2 x19).bind fun _ =>
(fX2_present h x19).bind fun x21 =>
(gR h 3 x21 0).bind fun x22 =>
(gO h 0 x17).bind fun _ =>
(fX0_outcomeOf h x17 x18 x22 x16).bind fun x24 =>
if x24.1 = (2 : Int32) then (
some (((-1 : Int32), x24.2))) else (
if x24.1 = (1 : Int32) then (
jX11_clash_98 (1 : Int32) x24.2) else (
jX11_clash_98 (0 : Int32) x24.2)))))
set_option maxRecDepth 20000 in
set_option maxHeartbeats 4000000 in
theorem sX11_clash {Γ : Gm} {d : Nat} (hd : 8 ≤ d) {h : Hp} {v0 : Nat} {v1 : Int32} {v2 : Int32} {r : Int32 × Hp} (H : fX11_clash h v0 v1 v2 = some r) : V Γ d mX11_clash 0 [(0, .ref v0), (1, .int v1), (2, .int v2)] [] h (some (.int r.1), r.2) := by
  unfold fX11_clash at H
  refine v_iload_n (q := 1) 1 dX11_clash_0 rfl rfl rfl ?_
  refine v_iload_n (q := 2) 2 dX11_clash_1 rfl rfl rfl ?_
  refine v_icmp_eq (q1 := 27) (q2 := 5) dX11_clash_2 (by decide) rfl (fun c1 => ?_) (fun c1 => ?_)
  · replace H := ip c1 H
    exact V.sub [] rfl (sjX11_clash_27 hd H)
  · replace H := ine c1 H
    refine v_aload_n (q := 6) 0 dX11_clash_5 rfl rfl rfl ?_
    replace H := bs H; obtain ⟨x2, x2e, H⟩ := H
    refine u_gR (q := 9) (r := (RX11, TX11, 14)) x2e dX11_clash_6 w0524 rfl (by decide) rfl rfl ?_
    refine v_iload_n (q := 10) 1 dX11_clash_9 rfl rfl rfl ?_
    replace H := bs H; obtain ⟨_, o3, H⟩ := H
    replace H := bs H; obtain ⟨x4, x4e, H⟩ := H
    refine u_callV1 (M' := mX5_isTask) (d' := 2) (rc := (RX5, TX5, 7)) (As := [.int v1]) (st := []) (q := 13) oX5_isTask dX11_clash_10 w1250 w1251 w1252 rfl rfl (gO_sp o3).1 (gO_sp o3).2 rfl (Nat.le_of_ble_eq_true rfl) (Nat.le_of_ble_eq_true rfl) (Nat.lt_of_lt_of_le (by decide) hd) rfl (sX5_isTask (Nat.le_refl _) x4e) rfl ?_
    refine v_if_eq (q1 := 27) (q2 := 16) dX11_clash_13 (by decide) rfl (fun c5 => ?_) (fun c5 => ?_)
    · replace H := ip c5 H
      exact V.sub [] rfl (sjX11_clash_27 hd H)
    · replace H := ine c5 H
      refine v_aload_n (q := 17) 0 dX11_clash_16 rfl rfl rfl ?_
      replace H := bs H; obtain ⟨x6, x6e, H⟩ := H
      refine u_gR (q := 20) (r := (RX11, TX11, 14)) x6e dX11_clash_17 w0524 rfl (by decide) rfl rfl ?_
      refine v_iload_n (q := 21) 2 dX11_clash_20 rfl rfl rfl ?_
      replace H := bs H; obtain ⟨_, o7, H⟩ := H
      replace H := bs H; obtain ⟨x8, x8e, H⟩ := H
      refine u_callV1 (M' := mX5_isTask) (d' := 2) (rc := (RX5, TX5, 7)) (As := [.int v2]) (st := []) (q := 24) oX5_isTask dX11_clash_21 w1250 w1251 w1252 rfl rfl (gO_sp o7).1 (gO_sp o7).2 rfl (Nat.le_of_ble_eq_true rfl) (Nat.le_of_ble_eq_true rfl) (Nat.lt_of_lt_of_le (by decide) hd) rfl (sX5_isTask (Nat.le_refl _) x8e) rfl ?_
      refine v_if_ne (q1 := 29) (q2 := 27) dX11_clash_24 (by decide) rfl (fun c9 => ?_) (fun c9 => ?_)
      · replace H := ine c9 H
        refine v_aload_n (q := 30) 0 dX11_clash_29 rfl rfl rfl ?_
        replace H := bs H; obtain ⟨x10, x10e, H⟩ := H
        refine u_gR (q := 33) (r := (RX11, TX11, 14)) x10e dX11_clash_30 w0524 rfl (by decide) rfl rfl ?_
        replace H := bs H; obtain ⟨_, o11, H⟩ := H
        replace H := bs H; obtain ⟨x12, x12e, H⟩ := H
        refine u_callV1 (M' := mX5_everyone) (d' := 1) (rc := (RX5, TX5, 7)) (As := []) (st := []) (q := 36) oX5_everyone dX11_clash_33 w1254 w1064 w1065 rfl rfl (gO_sp o11).1 (gO_sp o11).2 rfl (Nat.le_of_ble_eq_true rfl) (Nat.le_of_ble_eq_true rfl) (Nat.lt_of_lt_of_le (by decide) hd) rfl (sX5_everyone (Nat.le_refl _) x12e) rfl ?_
        refine v_aload_n (q := 37) 0 dX11_clash_36 rfl rfl rfl ?_
        replace H := bs H; obtain ⟨x13, x13e, H⟩ := H
        refine u_gR (q := 40) (r := (RX11, TX11, 14)) x13e dX11_clash_37 w0524 rfl (by decide) rfl rfl ?_
        replace H := bs H; obtain ⟨_, o14, H⟩ := H
        replace H := bs H; obtain ⟨x15, x15e, H⟩ := H
        refine u_callV1 (M' := mX5_tasks) (d' := 1) (rc := (RX5, TX5, 7)) (As := []) (st := [.int x12]) (q := 43) oX5_tasks dX11_clash_40 w1255 w1068 w1069 rfl rfl (gO_sp o14).1 (gO_sp o14).2 rfl (Nat.le_of_ble_eq_true rfl) (Nat.le_of_ble_eq_true rfl) (Nat.lt_of_lt_of_le (by decide) hd) rfl (sX5_tasks (Nat.le_refl _) x15e) rfl ?_
        refine v_iconst (v := -1) (q := 44) dX11_clash_43 (by decide) rfl ?_
        refine v_ixor (q := 45) dX11_clash_44 rfl ?_
        refine v_iand (q := 46) dX11_clash_45 rfl ?_
        refine v_iconst (v := 1) (q := 47) dX11_clash_46 (by decide) rfl ?_
        refine v_iload_n (q := 48) 1 dX11_clash_47 rfl rfl rfl ?_
        refine v_ishl (q := 49) dX11_clash_48 rfl ?_
        refine v_ior (q := 50) dX11_clash_49 rfl ?_
        refine v_iconst (v := 1) (q := 51) dX11_clash_50 (by decide) rfl ?_
        refine v_iload_n (q := 52) 2 dX11_clash_51 rfl rfl rfl ?_
        refine v_ishl (q := 53) dX11_clash_52 rfl ?_
        refine v_ior (q := 54) dX11_clash_53 rfl ?_
        replace H := bs H; obtain ⟨x16, x16e, H⟩ := H
        refine v_topi (Option.some.inj x16e) ?_
        refine v_istore_n (L' := [(3, .int x16), (0, .ref v0), (1, .int v1), (2, .int v2)]) (q := 55) dX11_clash_54 rfl (by decide) rfl rfl ?_
        refine v_aload_n (q := 56) 1 dX11_clash_55 rfl rfl rfl ?_
        replace H := bs H; obtain ⟨x17, x17e, H⟩ := H
        refine u_gR (q := 59) (r := (RX11, TX11, 14)) x17e dX11_clash_56 w0534 rfl (by decide) rfl rfl ?_
        refine v_aload_n (q := 60) 1 dX11_clash_59 rfl rfl rfl ?_
        replace H := bs H; obtain ⟨x18, x18e, H⟩ := H
        refine u_gR (q := 63) (r := (RX11, TX11, 14)) x18e dX11_clash_60 w0524 rfl (by decide) rfl rfl ?_
        refine v_aload_n (q := 64) 1 dX11_clash_63 rfl rfl rfl ?_
        replace H := bs H; obtain ⟨x19, x19e, H⟩ := H
        refine u_gR (q := 67) (r := (RX11, TX11, 14)) x19e dX11_clash_64 w0526 rfl (by decide) rfl rfl ?_
        replace H := bs H; obtain ⟨_, o20, H⟩ := H
        replace H := bs H; obtain ⟨x21, x21e, H⟩ := H
        refine u_callV1 (M' := mX2_present) (d' := 1) (rc := (RX2, TX2, 3)) (As := []) (st := [.ref x18, .ref x17]) (q := 70) oX2_present dX11_clash_67 w0701 w0702 w0703 rfl rfl (gO_sp o20).1 (gO_sp o20).2 rfl (Nat.le_of_ble_eq_true rfl) (Nat.le_of_ble_eq_true rfl) (Nat.lt_of_lt_of_le (by decide) hd) rfl (sX2_present (Nat.le_refl _) x21e) rfl ?_
        replace H := bs H; obtain ⟨x22, x22e, H⟩ := H
        refine u_gR (q := 73) (r := (RX3, TX3, 8)) x22e dX11_clash_70 w0341 rfl (by decide) rfl rfl ?_
        refine v_iload_n (q := 74) 0 dX11_clash_73 rfl rfl rfl ?_
        replace H := bs H; obtain ⟨_, o23, H⟩ := H
        replace H := bs H; obtain ⟨x24, x24e, H⟩ := H
        refine u_callV1 (M' := mX0_outcomeOf) (d' := 7) (rc := (RX0, TX0, 9)) (As := [.ref x18, .ref x22, .int x16]) (st := []) (q := 77) oX0_outcomeOf dX11_clash_74 w1071 w1072 w1073 rfl rfl (gO_sp o23).1 (gO_sp o23).2 rfl (Nat.le_of_ble_eq_true rfl) (Nat.le_of_ble_eq_true rfl) (Nat.lt_of_lt_of_le (by decide) hd) rfl (sX0_outcomeOf (Nat.le_refl _) x24e) rfl ?_
        refine v_istore (L' := [(4, .int x24.1), (3, .int x16), (0, .ref v0), (1, .int v1), (2, .int v2)]) (q := 79) dX11_clash_77 (by decide) rfl rfl ?_
        refine v_iload (q := 81) 0 dX11_clash_79 rfl rfl ?_
        refine v_iconst (v := 2) (q := 82) dX11_clash_81 (by decide) rfl ?_
        refine v_icmp_ne (q1 := 87) (q2 := 85) dX11_clash_82 (by decide) rfl (fun c25 => ?_) (fun c25 => ?_)
        · replace H := ine c25 H
          refine v_iload (q := 89) 0 dX11_clash_87 rfl rfl ?_
          refine v_iconst (v := 1) (q := 90) dX11_clash_89 (by decide) rfl ?_
          refine v_icmp_ne (q1 := 97) (q2 := 93) dX11_clash_90 (by decide) rfl (fun c26 => ?_) (fun c26 => ?_)
          · replace H := ine c26 H
            refine v_iconst (v := 0) (q := 98) dX11_clash_97 (by decide) rfl ?_
            exact V.sub [] rfl (sjX11_clash_98 hd H)
          · replace H := ip c26 H
            refine v_iconst (v := 1) (q := 94) dX11_clash_93 (by decide) rfl ?_
            refine v_goto (q := 98) dX11_clash_94 (by decide) ?_
            exact V.sub [] rfl (sjX11_clash_98 hd H)
        · replace H := ip c25 H
          refine v_iconst (v := -1) (q := 86) dX11_clash_85 (by decide) rfl ?_
          cases H
          exact v_ireturn rfl dX11_clash_86
      · replace H := ip c9 H
        exact V.sub [] rfl (sjX11_clash_27 hd H)
def mX9_depthOf : MI := (yX9_depthOf, cX9_depthOf, 9, some .int)
theorem oX9_depthOf : mOK mX9_depthOf 4 := ⟨by decide +kernel, by decide +kernel, by decide +kernel, by decide, w1320, w0147⟩
def jX9_depthOf_89 (u0 : Nat) (u2 : Nat) (u4 : Int32) (v5 : Int32) (v6 : Int32) (v7 : Int32) (v8 : Int32) (h : Hp) : Option ((Int32 × Int32 × Int32 × Int32 × Hp) ⊕ (Int32 × Int32 × Int32 × Hp)) :=
(some (v8 + (1 : Int32))).bind fun x17 =>
some (.inl (v5, v6, v7, x17, h))
set_option maxRecDepth 20000 in
set_option maxHeartbeats 4000000 in
theorem sjX9_depthOf_89 {Γ : Gm} {d : Nat} (hd : 4 ≤ d) {u0 : Nat} {u2 : Nat} {u4 : Int32} {v5 : Int32} {v6 : Int32} {v7 : Int32} {v8 : Int32} {h : Hp} {r : (Int32 × Int32 × Int32 × Int32 × Hp) ⊕ (Int32 × Int32 × Int32 × Hp)} {t : Option Value × Hp} (H : jX9_depthOf_89 u0 u2 u4 v5 v6 v7 v8 h = some r) (kI : ∀ s, r = .inl s → (fun s18 => V Γ d mX9_depthOf 18 [(0, .ref u0), (2, .ref u2), (4, .int u4), (5, .int s18.1), (6, .int s18.2.1), (7, .int s18.2.2.1), (8, .int s18.2.2.2.1)] [] s18.2.2.2.2 t) s) (kE : ∀ e, r = .inr e → (fun e => V Γ d mX9_depthOf 95 [(4, .int u4), (5, .int e.1), (6, .int e.2.1), (7, .int e.2.2.1)] [] e.2.2.2 t) e) : V Γ d mX9_depthOf 89 [(0, .ref u0), (2, .ref u2), (4, .int u4), (5, .int v5), (6, .int v6), (7, .int v7), (8, .int v8)] [] h t := by
  unfold jX9_depthOf_89 at H
  replace H := bs H; obtain ⟨x17, x17e, H⟩ := H
  refine v_iinc (v := x17) (L' := [(8, .int x17), (0, .ref u0), (2, .ref u2), (4, .int u4), (5, .int v5), (6, .int v6), (7, .int v7)]) (q := 92) 6 dX9_depthOf_89 rfl (Option.some.inj x17e) (by decide) rfl rfl ?_
  refine v_goto (q := 18) dX9_depthOf_92 (by decide) ?_
  exact V.sub [1, 2, 3, 4, 5, 6, 0] rfl (kI (v5, v6, v7, x17, h) (Option.some.inj H).symm)
def jX9_depthOf_51 (u0 : Nat) (u2 : Nat) (u4 : Int32) (v5 : Int32) (v6 : Int32) (v8 : Int32) (y0 : Int32) (y1 : Int32) (h : Hp) : Option ((Int32 × Int32 × Int32 × Int32 × Hp) ⊕ (Int32 × Int32 × Int32 × Hp)) :=
(some (y1 + y0)).bind fun x10 =>
(gI h 9 u0 3).bind fun x11 =>
(lI h .int u2 ((x11 * (12 : Int32)) + v8)).bind fun x12 =>
(gO h 9 u0).bind fun _ =>
(fX9_follow h u0 x12).bind fun x14 =>
(gI x14 9 u0 6).bind fun x15 =>
if x15 ≤ v5 then (
jX9_depthOf_89 u0 u2 u4 v5 v6 x10 v8 x14) else (
(gI x14 9 u0 6).bind fun x18 =>
jX9_depthOf_89 u0 u2 u4 x18 v8 x10 v8 x14)
set_option maxRecDepth 20000 in
set_option maxHeartbeats 4000000 in
theorem sjX9_depthOf_51 {Γ : Gm} {d : Nat} (hd : 4 ≤ d) {u0 : Nat} {u2 : Nat} {u4 : Int32} {v5 : Int32} {v6 : Int32} {v8 : Int32} {y0 : Int32} {y1 : Int32} {h : Hp} {r : (Int32 × Int32 × Int32 × Int32 × Hp) ⊕ (Int32 × Int32 × Int32 × Hp)} {t : Option Value × Hp} (H : jX9_depthOf_51 u0 u2 u4 v5 v6 v8 y0 y1 h = some r) (kI : ∀ s, r = .inl s → (fun s18 => V Γ d mX9_depthOf 18 [(0, .ref u0), (2, .ref u2), (4, .int u4), (5, .int s18.1), (6, .int s18.2.1), (7, .int s18.2.2.1), (8, .int s18.2.2.2.1)] [] s18.2.2.2.2 t) s) (kE : ∀ e, r = .inr e → (fun e => V Γ d mX9_depthOf 95 [(4, .int u4), (5, .int e.1), (6, .int e.2.1), (7, .int e.2.2.1)] [] e.2.2.2 t) e) : V Γ d mX9_depthOf 51 [(0, .ref u0), (2, .ref u2), (4, .int u4), (5, .int v5), (6, .int v6), (8, .int v8)] [.int y0, .int y1] h t := by
  unfold jX9_depthOf_51 at H
  refine v_iadd (q := 52) dX9_depthOf_51 rfl ?_
  replace H := bs H; obtain ⟨x10, x10e, H⟩ := H
  refine v_topi (Option.some.inj x10e) ?_
  refine v_istore (L' := [(7, .int x10), (0, .ref u0), (2, .ref u2), (4, .int u4), (5, .int v5), (6, .int v6), (8, .int v8)]) (q := 54) dX9_depthOf_52 (by decide) rfl rfl ?_
  refine v_aload_n (q := 55) 1 dX9_depthOf_54 rfl rfl rfl ?_
  refine v_aload_n (q := 56) 2 dX9_depthOf_55 rfl rfl rfl ?_
  refine v_aload_n (q := 57) 1 dX9_depthOf_56 rfl rfl rfl ?_
  replace H := bs H; obtain ⟨x11, x11e, H⟩ := H
  refine u_gI (q := 60) (r := (RX9, TX9, 10)) x11e dX9_depthOf_57 w0426 rfl (by decide) rfl rfl ?_
  refine v_bipush (v := 12) (q := 62) dX9_depthOf_60 (by decide) rfl ?_
  refine v_imul (q := 63) dX9_depthOf_62 rfl ?_
  refine v_iload (q := 65) 6 dX9_depthOf_63 rfl rfl ?_
  refine v_iadd (q := 66) dX9_depthOf_65 rfl ?_
  replace H := bs H; obtain ⟨x12, x12e, H⟩ := H
  refine u_lI (q := 67) x12e dX9_depthOf_66 rfl ?_
  replace H := bs H; obtain ⟨_, o13, H⟩ := H
  replace H := bs H; obtain ⟨x14, x14e, H⟩ := H
  refine u_callV0 (M' := mX9_follow) (d' := 3) (rc := (RX9, TX9, 10)) (As := [.int x12]) (st := []) (q := 70) oX9_follow dX9_depthOf_67 w0894 w0896 w0026 rfl rfl (gO_sp o13).1 (gO_sp o13).2 rfl (Nat.le_of_ble_eq_true rfl) (Nat.le_of_ble_eq_true rfl) (Nat.lt_of_lt_of_le (by decide) hd) rfl (sX9_follow (Nat.le_refl _) x14e) rfl ?_
  refine v_aload_n (q := 71) 1 dX9_depthOf_70 rfl rfl rfl ?_
  replace H := bs H; obtain ⟨x15, x15e, H⟩ := H
  refine u_gI (q := 74) (r := (RX9, TX9, 10)) x15e dX9_depthOf_71 w0429 rfl (by decide) rfl rfl ?_
  refine v_iload (q := 76) 4 dX9_depthOf_74 rfl rfl ?_
  refine v_icmp_le (q1 := 89) (q2 := 79) dX9_depthOf_76 (by decide) rfl (fun c16 => ?_) (fun c16 => ?_)
  · replace H := ip c16 H
    exact V.sub [1, 2, 3, 4, 5, 0, 6] rfl (sjX9_depthOf_89 hd H kI kE)
  · replace H := ine c16 H
    refine v_aload_n (q := 80) 1 dX9_depthOf_79 rfl rfl rfl ?_
    replace H := bs H; obtain ⟨x18, x18e, H⟩ := H
    refine u_gI (q := 83) (r := (RX9, TX9, 10)) x18e dX9_depthOf_80 w0429 rfl (by decide) rfl rfl ?_
    refine v_istore (L' := [(5, .int x18), (7, .int x10), (0, .ref u0), (2, .ref u2), (4, .int u4), (6, .int v6), (8, .int v8)]) (q := 85) dX9_depthOf_83 (by decide) rfl rfl ?_
    refine v_iload (q := 87) 6 dX9_depthOf_85 rfl rfl ?_
    refine v_istore (L' := [(6, .int v8), (5, .int x18), (7, .int x10), (0, .ref u0), (2, .ref u2), (4, .int u4), (8, .int v8)]) (q := 89) dX9_depthOf_87 (by decide) rfl rfl ?_
    exact V.sub [3, 4, 5, 1, 0, 2, 6] rfl (sjX9_depthOf_89 hd H kI kE)
def bX9_depthOf_18 (u0 : Nat) (u2 : Nat) (u4 : Int32) (s18 : Int32 × Int32 × Int32 × Int32 × Hp) : Option ((Int32 × Int32 × Int32 × Int32 × Hp) ⊕ (Int32 × Int32 × Int32 × Hp)) :=
(gR s18.2.2.2.2 9 u0 1).bind fun x3 =>
(gR s18.2.2.2.2 5 x3 5).bind fun x4 =>
(gI s18.2.2.2.2 9 u0 3).bind fun x5 =>
(lI s18.2.2.2.2 .int x4 x5).bind fun x6 =>
if x6 ≤ s18.2.2.2.1 then (
some (.inr (s18.1, s18.2.1, s18.2.2.1, s18.2.2.2.2))) else (
(gI s18.2.2.2.2 9 u0 5).bind fun x8 =>
if (x8 &&& (4 : Int32)) = 0 then (
jX9_depthOf_51 u0 u2 u4 s18.1 s18.2.1 s18.2.2.2.1 (1 : Int32) s18.2.2.1 s18.2.2.2.2) else (
jX9_depthOf_51 u0 u2 u4 s18.1 s18.2.1 s18.2.2.2.1 (0 : Int32) s18.2.2.1 s18.2.2.2.2))
set_option maxRecDepth 20000 in
set_option maxHeartbeats 4000000 in
theorem sbX9_depthOf_18 {Γ : Gm} {d : Nat} (hd : 4 ≤ d) {u0 : Nat} {u2 : Nat} {u4 : Int32} {s18 : Int32 × Int32 × Int32 × Int32 × Hp} {r : (Int32 × Int32 × Int32 × Int32 × Hp) ⊕ (Int32 × Int32 × Int32 × Hp)} {t : Option Value × Hp} (H : bX9_depthOf_18 u0 u2 u4 s18 = some r) (kI : ∀ s, r = .inl s → (fun s18 => V Γ d mX9_depthOf 18 [(0, .ref u0), (2, .ref u2), (4, .int u4), (5, .int s18.1), (6, .int s18.2.1), (7, .int s18.2.2.1), (8, .int s18.2.2.2.1)] [] s18.2.2.2.2 t) s) (kE : ∀ e, r = .inr e → (fun e => V Γ d mX9_depthOf 95 [(4, .int u4), (5, .int e.1), (6, .int e.2.1), (7, .int e.2.2.1)] [] e.2.2.2 t) e) : V Γ d mX9_depthOf 18 [(0, .ref u0), (2, .ref u2), (4, .int u4), (5, .int s18.1), (6, .int s18.2.1), (7, .int s18.2.2.1), (8, .int s18.2.2.2.1)] [] s18.2.2.2.2 t := by
  unfold bX9_depthOf_18 at H
  refine v_iload (q := 20) 6 dX9_depthOf_18 rfl rfl ?_
  refine v_aload_n (q := 21) 0 dX9_depthOf_20 rfl rfl rfl ?_
  replace H := bs H; obtain ⟨x3, x3e, H⟩ := H
  refine u_gR (q := 24) (r := (RX9, TX9, 10)) x3e dX9_depthOf_21 w0424 rfl (by decide) rfl rfl ?_
  replace H := bs H; obtain ⟨x4, x4e, H⟩ := H
  refine u_gR (q := 27) (r := (RX5, TX5, 7)) x4e dX9_depthOf_24 w0245 rfl (by decide) rfl rfl ?_
  refine v_aload_n (q := 28) 0 dX9_depthOf_27 rfl rfl rfl ?_
  replace H := bs H; obtain ⟨x5, x5e, H⟩ := H
  refine u_gI (q := 31) (r := (RX9, TX9, 10)) x5e dX9_depthOf_28 w0426 rfl (by decide) rfl rfl ?_
  replace H := bs H; obtain ⟨x6, x6e, H⟩ := H
  refine u_lI (q := 32) x6e dX9_depthOf_31 rfl ?_
  refine v_icmp_ge (q1 := 95) (q2 := 35) dX9_depthOf_32 (by decide) rfl (fun c7 => ?_) (fun c7 => ?_)
  · replace H := ip c7 H
    exact V.sub [2, 3, 4, 5] rfl (kE (s18.1, s18.2.1, s18.2.2.1, s18.2.2.2.2) (Option.some.inj H).symm)
  · replace H := ine c7 H
    refine v_iload (q := 37) 5 dX9_depthOf_35 rfl rfl ?_
    refine v_aload_n (q := 38) 0 dX9_depthOf_37 rfl rfl rfl ?_
    replace H := bs H; obtain ⟨x8, x8e, H⟩ := H
    refine u_gI (q := 41) (r := (RX9, TX9, 10)) x8e dX9_depthOf_38 w0428 rfl (by decide) rfl rfl ?_
    refine v_iconst (v := 4) (q := 42) dX9_depthOf_41 (by decide) rfl ?_
    refine v_iand (q := 43) dX9_depthOf_42 rfl ?_
    refine v_if_ne (q1 := 50) (q2 := 46) dX9_depthOf_43 (by decide) rfl (fun c9 => ?_) (fun c9 => ?_)
    · replace H := ine c9 H
      refine v_iconst (v := 0) (q := 51) dX9_depthOf_50 (by decide) rfl ?_
      exact V.sub [0, 1, 2, 3, 4, 6] rfl (sjX9_depthOf_51 hd H kI kE)
    · replace H := ip c9 H
      refine v_iconst (v := 1) (q := 47) dX9_depthOf_46 (by decide) rfl ?_
      refine v_goto (q := 51) dX9_depthOf_47 (by decide) ?_
      exact V.sub [0, 1, 2, 3, 4, 6] rfl (sjX9_depthOf_51 hd H kI kE)
def fX9_depthOf (h : Hp) (v0 : Nat) (v1 : Nat) (v2 : Nat) (v3 : Int32) (v4 : Int32) : Option (Int32 × Hp) :=
(gO h 9 v0).bind fun _ =>
(fX9_begin h v0 v1 v3).bind fun x2 =>
(lp (bX9_depthOf_18 v0 v2 v4) FU ((0 : Int32), (-1 : Int32), (0 : Int32), (0 : Int32), x2)).bind fun e19 =>
if v4 = (0 : Int32) then (
some (e19.1, e19.2.2.2)) else (
if v4 = (1 : Int32) then (
some (e19.2.1, e19.2.2.2)) else (
if v4 = (2 : Int32) then (
some (e19.2.2.1, e19.2.2.2)) else (
some (((-1 : Int32), e19.2.2.2)))))
set_option maxRecDepth 20000 in
set_option maxHeartbeats 4000000 in
theorem sX9_depthOf {Γ : Gm} {d : Nat} (hd : 4 ≤ d) {h : Hp} {v0 : Nat} {v1 : Nat} {v2 : Nat} {v3 : Int32} {v4 : Int32} {r : Int32 × Hp} (H : fX9_depthOf h v0 v1 v2 v3 v4 = some r) : V Γ d mX9_depthOf 0 [(0, .ref v0), (1, .ref v1), (2, .ref v2), (3, .int v3), (4, .int v4)] [] h (some (.int r.1), r.2) := by
  unfold fX9_depthOf at H
  refine v_iconst (v := 0) (q := 1) dX9_depthOf_0 (by decide) rfl ?_
  refine v_istore (L' := [(5, .int (0 : Int32)), (0, .ref v0), (1, .ref v1), (2, .ref v2), (3, .int v3), (4, .int v4)]) (q := 3) dX9_depthOf_1 (by decide) rfl rfl ?_
  refine v_iconst (v := -1) (q := 4) dX9_depthOf_3 (by decide) rfl ?_
  refine v_istore (L' := [(6, .int (-1 : Int32)), (5, .int (0 : Int32)), (0, .ref v0), (1, .ref v1), (2, .ref v2), (3, .int v3), (4, .int v4)]) (q := 6) dX9_depthOf_4 (by decide) rfl rfl ?_
  refine v_iconst (v := 0) (q := 7) dX9_depthOf_6 (by decide) rfl ?_
  refine v_istore (L' := [(7, .int (0 : Int32)), (6, .int (-1 : Int32)), (5, .int (0 : Int32)), (0, .ref v0), (1, .ref v1), (2, .ref v2), (3, .int v3), (4, .int v4)]) (q := 9) dX9_depthOf_7 (by decide) rfl rfl ?_
  refine v_aload_n (q := 10) 3 dX9_depthOf_9 rfl rfl rfl ?_
  refine v_aload_n (q := 11) 4 dX9_depthOf_10 rfl rfl rfl ?_
  refine v_iload_n (q := 12) 6 dX9_depthOf_11 rfl rfl rfl ?_
  replace H := bs H; obtain ⟨_, o1, H⟩ := H
  replace H := bs H; obtain ⟨x2, x2e, H⟩ := H
  refine u_callV0 (M' := mX9_begin) (d' := 2) (rc := (RX9, TX9, 10)) (As := [.ref v1, .int v3]) (st := []) (q := 15) oX9_begin dX9_depthOf_12 w0769 w0771 w0014 rfl rfl (gO_sp o1).1 (gO_sp o1).2 rfl (Nat.le_of_ble_eq_true rfl) (Nat.le_of_ble_eq_true rfl) (Nat.lt_of_lt_of_le (by decide) hd) rfl (sX9_begin (Nat.le_refl _) x2e) rfl ?_
  refine v_iconst (v := 0) (q := 16) dX9_depthOf_15 (by decide) rfl ?_
  refine v_istore (L' := [(8, .int (0 : Int32)), (7, .int (0 : Int32)), (6, .int (-1 : Int32)), (5, .int (0 : Int32)), (0, .ref v0), (1, .ref v1), (2, .ref v2), (3, .int v3), (4, .int v4)]) (q := 18) dX9_depthOf_16 (by decide) rfl rfl ?_
  replace H := bs H; obtain ⟨e19, e19L, H⟩ := H
  refine V.sub [4, 6, 8, 3, 2, 1, 0] rfl ?_
  refine lp_V (P := (fun s18 => V Γ d mX9_depthOf 18 [(0, .ref v0), (2, .ref v2), (4, .int v4), (5, .int s18.1), (6, .int s18.2.1), (7, .int s18.2.2.1), (8, .int s18.2.2.2.1)] [] s18.2.2.2.2 (some (.int r.1), r.2))) (E := (fun e => V Γ d mX9_depthOf 95 [(4, .int v4), (5, .int e.1), (6, .int e.2.1), (7, .int e.2.2.1)] [] e.2.2.2 (some (.int r.1), r.2))) (fun s r hb kI kE => sbX9_depthOf_18 hd (s18 := s) (r := r) hb kI kE) FU ((0 : Int32), (-1 : Int32), (0 : Int32), (0 : Int32), x2) e19 e19L ?_
  refine v_iload (q := 97) 0 dX9_depthOf_95 rfl rfl ?_
  by_cases c20 : v4 = (0 : Int32)
  · replace H := ip c20 H
    rw [c20]
    refine v_tabIn (off := 27) (q := 124) dX9_depthOf_97 (by decide) (by decide) (by decide) (by decide) ?_
    refine v_iload (q := 126) 1 dX9_depthOf_124 rfl rfl ?_
    cases H
    exact v_ireturn rfl dX9_depthOf_126
  · replace H := ine c20 H
    by_cases c21 : v4 = (1 : Int32)
    · replace H := ip c21 H
      rw [c21]
      refine v_tabIn (off := 30) (q := 127) dX9_depthOf_97 (by decide) (by decide) (by decide) (by decide) ?_
      refine v_iload (q := 129) 2 dX9_depthOf_127 rfl rfl ?_
      cases H
      exact v_ireturn rfl dX9_depthOf_129
    · replace H := ine c21 H
      by_cases c22 : v4 = (2 : Int32)
      · replace H := ip c22 H
        rw [c22]
        refine v_tabIn (off := 33) (q := 130) dX9_depthOf_97 (by decide) (by decide) (by decide) (by decide) ?_
        refine v_iload (q := 132) 3 dX9_depthOf_130 rfl rfl ?_
        cases H
        exact v_ireturn rfl dX9_depthOf_132
      · replace H := ine c22 H
        have c20t := lv_neT (a := 0) c20 (by decide)
        have c21t := lv_neT (a := 1) c21 (by decide)
        have c22t := lv_neT (a := 2) c22 (by decide)
        refine v_tabOut (q := 133) dX9_depthOf_97 (by omega) (by decide) ?_
        refine v_iconst (v := -1) (q := 134) dX9_depthOf_133 (by decide) rfl ?_
        cases H
        exact v_ireturn rfl dX9_depthOf_134
def mX11_depth : MI := (yX11_depth, cX11_depth, 3, some .int)
theorem oX11_depth : mOK mX11_depth 2 := ⟨by decide +kernel, by decide +kernel, by decide +kernel, by decide, w1316, w0139⟩
def fX11_depth (h : Hp) (v0 : Nat) (v1 : Int32) (v2 : Int32) : Option (Int32 × Hp) :=
(gR h 11 v0 3).bind fun x1 =>
(gO h 5 x1).bind fun _ =>
(fX5_hasProgram h x1 v1).bind fun x3 =>
if x3 = 0 then (
some (((-1 : Int32), h))) else (
(gR h 11 v0 9).bind fun x5 =>
(gR h 11 v0 3).bind fun x6 =>
(gR h 11 v0 5).bind fun x7 =>
(gO h 2 x7).bind fun _ =>
(fX2_present h x7).bind fun x9 =>
(gR h 3 x9 0).bind fun x10 =>
(gO h 9 x5).bind fun _ =>
(fX9_depthOf h x5 x6 x10 v1 v2).bind fun x12 =>
some (x12.1, x12.2))
set_option maxRecDepth 20000 in
set_option maxHeartbeats 4000000 in
theorem sX11_depth {Γ : Gm} {d : Nat} (hd : 5 ≤ d) {h : Hp} {v0 : Nat} {v1 : Int32} {v2 : Int32} {r : Int32 × Hp} (H : fX11_depth h v0 v1 v2 = some r) : V Γ d mX11_depth 0 [(0, .ref v0), (1, .int v1), (2, .int v2)] [] h (some (.int r.1), r.2) := by
  unfold fX11_depth at H
  refine v_aload_n (q := 1) 0 dX11_depth_0 rfl rfl rfl ?_
  replace H := bs H; obtain ⟨x1, x1e, H⟩ := H
  refine u_gR (q := 4) (r := (RX11, TX11, 14)) x1e dX11_depth_1 w0524 rfl (by decide) rfl rfl ?_
  refine v_iload_n (q := 5) 1 dX11_depth_4 rfl rfl rfl ?_
  replace H := bs H; obtain ⟨_, o2, H⟩ := H
  replace H := bs H; obtain ⟨x3, x3e, H⟩ := H
  refine u_callV1 (M' := mX5_hasProgram) (d' := 1) (rc := (RX5, TX5, 7)) (As := [.int v1]) (st := []) (q := 8) oX5_hasProgram dX11_depth_5 w0739 w0740 w0741 rfl rfl (gO_sp o2).1 (gO_sp o2).2 rfl (Nat.le_of_ble_eq_true rfl) (Nat.le_of_ble_eq_true rfl) (Nat.lt_of_lt_of_le (by decide) hd) rfl (sX5_hasProgram (Nat.le_refl _) x3e) rfl ?_
  refine v_if_ne (q1 := 13) (q2 := 11) dX11_depth_8 (by decide) rfl (fun c4 => ?_) (fun c4 => ?_)
  · replace H := ine c4 H
    refine v_aload_n (q := 14) 0 dX11_depth_13 rfl rfl rfl ?_
    replace H := bs H; obtain ⟨x5, x5e, H⟩ := H
    refine u_gR (q := 17) (r := (RX11, TX11, 14)) x5e dX11_depth_14 w0530 rfl (by decide) rfl rfl ?_
    refine v_aload_n (q := 18) 0 dX11_depth_17 rfl rfl rfl ?_
    replace H := bs H; obtain ⟨x6, x6e, H⟩ := H
    refine u_gR (q := 21) (r := (RX11, TX11, 14)) x6e dX11_depth_18 w0524 rfl (by decide) rfl rfl ?_
    refine v_aload_n (q := 22) 0 dX11_depth_21 rfl rfl rfl ?_
    replace H := bs H; obtain ⟨x7, x7e, H⟩ := H
    refine u_gR (q := 25) (r := (RX11, TX11, 14)) x7e dX11_depth_22 w0526 rfl (by decide) rfl rfl ?_
    replace H := bs H; obtain ⟨_, o8, H⟩ := H
    replace H := bs H; obtain ⟨x9, x9e, H⟩ := H
    refine u_callV1 (M' := mX2_present) (d' := 1) (rc := (RX2, TX2, 3)) (As := []) (st := [.ref x6, .ref x5]) (q := 28) oX2_present dX11_depth_25 w0701 w0702 w0703 rfl rfl (gO_sp o8).1 (gO_sp o8).2 rfl (Nat.le_of_ble_eq_true rfl) (Nat.le_of_ble_eq_true rfl) (Nat.lt_of_lt_of_le (by decide) hd) rfl (sX2_present (Nat.le_refl _) x9e) rfl ?_
    replace H := bs H; obtain ⟨x10, x10e, H⟩ := H
    refine u_gR (q := 31) (r := (RX3, TX3, 8)) x10e dX11_depth_28 w0341 rfl (by decide) rfl rfl ?_
    refine v_iload_n (q := 32) 1 dX11_depth_31 rfl rfl rfl ?_
    refine v_iload_n (q := 33) 2 dX11_depth_32 rfl rfl rfl ?_
    replace H := bs H; obtain ⟨_, o11, H⟩ := H
    replace H := bs H; obtain ⟨x12, x12e, H⟩ := H
    refine u_callV1 (M' := mX9_depthOf) (d' := 4) (rc := (RX9, TX9, 10)) (As := [.ref x6, .ref x10, .int v1, .int v2]) (st := []) (q := 36) oX9_depthOf dX11_depth_33 w1317 w1318 w1319 rfl rfl (gO_sp o11).1 (gO_sp o11).2 rfl (Nat.le_of_ble_eq_true rfl) (Nat.le_of_ble_eq_true rfl) (Nat.lt_of_lt_of_le (by decide) hd) rfl (sX9_depthOf (Nat.le_refl _) x12e) rfl ?_
    cases H
    exact v_ireturn rfl dX11_depth_36
  · replace H := ip c4 H
    refine v_iconst (v := -1) (q := 12) dX11_depth_11 (by decide) rfl ?_
    cases H
    exact v_ireturn rfl dX11_depth_12
def mX11_eased : MI := (yX11_eased, cX11_eased, 5, some .int)
theorem oX11_eased : mOK mX11_eased 2 := ⟨by decide +kernel, by decide +kernel, by decide +kernel, by decide, w1297, w0139⟩
def jX11_eased_22 (h : Hp) : Option (Int32 × Hp) :=
some (((-1 : Int32), h))
set_option maxRecDepth 20000 in
set_option maxHeartbeats 4000000 in
theorem sjX11_eased_22 {Γ : Gm} {d : Nat} (hd : 8 ≤ d) {h : Hp} {r : Int32 × Hp} (H : jX11_eased_22 h = some r) : V Γ d mX11_eased 22 [] [] h (some (.int r.1), r.2) := by
  unfold jX11_eased_22 at H
  refine v_iconst (v := -1) (q := 23) dX11_eased_22 (by decide) rfl ?_
  cases H
  exact v_ireturn rfl dX11_eased_23
def jX11_eased_140 (y0 : Int32) (h : Hp) : Option (Int32 × Hp) :=
some (y0, h)
set_option maxRecDepth 20000 in
set_option maxHeartbeats 4000000 in
theorem sjX11_eased_140 {Γ : Gm} {d : Nat} (hd : 8 ≤ d) {y0 : Int32} {h : Hp} {r : Int32 × Hp} (H : jX11_eased_140 y0 h = some r) : V Γ d mX11_eased 140 [] [.int y0] h (some (.int r.1), r.2) := by
  unfold jX11_eased_140 at H
  cases H
  exact v_ireturn rfl dX11_eased_140
def jX11_eased_139 (h : Hp) : Option (Int32 × Hp) :=
jX11_eased_140 (0 : Int32) h
set_option maxRecDepth 20000 in
set_option maxHeartbeats 4000000 in
theorem sjX11_eased_139 {Γ : Gm} {d : Nat} (hd : 8 ≤ d) {h : Hp} {r : Int32 × Hp} (H : jX11_eased_139 h = some r) : V Γ d mX11_eased 139 [] [] h (some (.int r.1), r.2) := by
  unfold jX11_eased_139 at H
  refine v_iconst (v := 0) (q := 140) dX11_eased_139 (by decide) rfl ?_
  exact V.sub [] rfl (sjX11_eased_140 hd H)
def fX11_eased (h : Hp) (v0 : Nat) (v1 : Int32) (v2 : Int32) : Option (Int32 × Hp) :=
(gR h 11 v0 3).bind fun x1 =>
(gO h 5 x1).bind fun _ =>
(fX5_hasPair h x1 v1 v2).bind fun x3 =>
if x3 = 0 then (
jX11_eased_22 h) else (
(gR h 11 v0 3).bind fun x5 =>
(gO h 5 x5).bind fun _ =>
(fX5_tasks h x5).bind fun x7 =>
if x7 = 0 then (
jX11_eased_22 h) else (
(gR h 11 v0 13).bind fun x9 =>
(gR h 11 v0 3).bind fun x10 =>
(gR h 11 v0 5).bind fun x11 =>
(gO h 2 x11).bind fun _ =>
(fX2_present h x11).bind fun x13 =>
(gR h 3 x13 0).bind fun x14 =>
(gR h 11 v0 3).bind fun x15 =>
(gO h 5 x15).bind fun _ =>
(fX5_everyone h x15).bind fun x17 =>
(gO h 0 x9).bind fun _ =>
(fX0_outcomeOf h x9 x10 x14 x17).bind fun x19 =>
if x19.1 = (2 : Int32) then (
some (((-1 : Int32), x19.2))) else (
(gR x19.2 11 v0 5).bind fun x21 =>
(gO x19.2 2 x21).bind fun _ =>
(fX2_present x19.2 x21).bind fun x23 =>
(gR x19.2 3 x23 0).bind fun x24 =>
(gR x19.2 11 v0 12).bind fun x25 =>
(gR x19.2 11 v0 12).bind fun x26 =>
(aL x19.2 .int x26).bind fun x27 =>
(kI x19.2 .int x24 (0 : Int32) x25 (0 : Int32) x27).bind fun h28 =>
(gR h28 11 v0 12).bind fun x29 =>
(fX11_exchange h28 x29 v1 v2).bind fun x30 =>
(gR x30 11 v0 13).bind fun x31 =>
(gR x30 11 v0 3).bind fun x32 =>
(gR x30 11 v0 12).bind fun x33 =>
(gR x30 11 v0 3).bind fun x34 =>
(gO x30 5 x34).bind fun _ =>
(fX5_everyone x30 x34).bind fun x36 =>
(gO x30 0 x31).bind fun _ =>
(fX0_tryOut x30 x31 x32 x33 x36).bind fun x38 =>
if x38.1 = (2 : Int32) then (
some (((-1 : Int32), x38.2))) else (
if x19.1 = (1 : Int32) then (
if x38.1 = 0 then (
jX11_eased_140 (1 : Int32) x38.2) else (
jX11_eased_139 x38.2)) else (
jX11_eased_139 x38.2)))))
set_option maxRecDepth 20000 in
set_option maxHeartbeats 4000000 in
theorem sX11_eased {Γ : Gm} {d : Nat} (hd : 8 ≤ d) {h : Hp} {v0 : Nat} {v1 : Int32} {v2 : Int32} {r : Int32 × Hp} (H : fX11_eased h v0 v1 v2 = some r) : V Γ d mX11_eased 0 [(0, .ref v0), (1, .int v1), (2, .int v2)] [] h (some (.int r.1), r.2) := by
  unfold fX11_eased at H
  refine v_aload_n (q := 1) 0 dX11_eased_0 rfl rfl rfl ?_
  replace H := bs H; obtain ⟨x1, x1e, H⟩ := H
  refine u_gR (q := 4) (r := (RX11, TX11, 14)) x1e dX11_eased_1 w0524 rfl (by decide) rfl rfl ?_
  refine v_iload_n (q := 5) 1 dX11_eased_4 rfl rfl rfl ?_
  refine v_iload_n (q := 6) 2 dX11_eased_5 rfl rfl rfl ?_
  replace H := bs H; obtain ⟨_, o2, H⟩ := H
  replace H := bs H; obtain ⟨x3, x3e, H⟩ := H
  refine u_callV1 (M' := mX5_hasPair) (d' := 2) (rc := (RX5, TX5, 7)) (As := [.int v1, .int v2]) (st := []) (q := 9) oX5_hasPair dX11_eased_6 w0915 w0916 w0917 rfl rfl (gO_sp o2).1 (gO_sp o2).2 rfl (Nat.le_of_ble_eq_true rfl) (Nat.le_of_ble_eq_true rfl) (Nat.lt_of_lt_of_le (by decide) hd) rfl (sX5_hasPair (Nat.le_refl _) x3e) rfl ?_
  refine v_if_eq (q1 := 22) (q2 := 12) dX11_eased_9 (by decide) rfl (fun c4 => ?_) (fun c4 => ?_)
  · replace H := ip c4 H
    exact V.sub [] rfl (sjX11_eased_22 hd H)
  · replace H := ine c4 H
    refine v_aload_n (q := 13) 0 dX11_eased_12 rfl rfl rfl ?_
    replace H := bs H; obtain ⟨x5, x5e, H⟩ := H
    refine u_gR (q := 16) (r := (RX11, TX11, 14)) x5e dX11_eased_13 w0524 rfl (by decide) rfl rfl ?_
    replace H := bs H; obtain ⟨_, o6, H⟩ := H
    replace H := bs H; obtain ⟨x7, x7e, H⟩ := H
    refine u_callV1 (M' := mX5_tasks) (d' := 1) (rc := (RX5, TX5, 7)) (As := []) (st := []) (q := 19) oX5_tasks dX11_eased_16 w1255 w1068 w1069 rfl rfl (gO_sp o6).1 (gO_sp o6).2 rfl (Nat.le_of_ble_eq_true rfl) (Nat.le_of_ble_eq_true rfl) (Nat.lt_of_lt_of_le (by decide) hd) rfl (sX5_tasks (Nat.le_refl _) x7e) rfl ?_
    refine v_if_ne (q1 := 24) (q2 := 22) dX11_eased_19 (by decide) rfl (fun c8 => ?_) (fun c8 => ?_)
    · replace H := ine c8 H
      refine v_aload_n (q := 25) 0 dX11_eased_24 rfl rfl rfl ?_
      replace H := bs H; obtain ⟨x9, x9e, H⟩ := H
      refine u_gR (q := 28) (r := (RX11, TX11, 14)) x9e dX11_eased_25 w0534 rfl (by decide) rfl rfl ?_
      refine v_aload_n (q := 29) 0 dX11_eased_28 rfl rfl rfl ?_
      replace H := bs H; obtain ⟨x10, x10e, H⟩ := H
      refine u_gR (q := 32) (r := (RX11, TX11, 14)) x10e dX11_eased_29 w0524 rfl (by decide) rfl rfl ?_
      refine v_aload_n (q := 33) 0 dX11_eased_32 rfl rfl rfl ?_
      replace H := bs H; obtain ⟨x11, x11e, H⟩ := H
      refine u_gR (q := 36) (r := (RX11, TX11, 14)) x11e dX11_eased_33 w0526 rfl (by decide) rfl rfl ?_
      replace H := bs H; obtain ⟨_, o12, H⟩ := H
      replace H := bs H; obtain ⟨x13, x13e, H⟩ := H
      refine u_callV1 (M' := mX2_present) (d' := 1) (rc := (RX2, TX2, 3)) (As := []) (st := [.ref x10, .ref x9]) (q := 39) oX2_present dX11_eased_36 w0701 w0702 w0703 rfl rfl (gO_sp o12).1 (gO_sp o12).2 rfl (Nat.le_of_ble_eq_true rfl) (Nat.le_of_ble_eq_true rfl) (Nat.lt_of_lt_of_le (by decide) hd) rfl (sX2_present (Nat.le_refl _) x13e) rfl ?_
      replace H := bs H; obtain ⟨x14, x14e, H⟩ := H
      refine u_gR (q := 42) (r := (RX3, TX3, 8)) x14e dX11_eased_39 w0341 rfl (by decide) rfl rfl ?_
      refine v_aload_n (q := 43) 0 dX11_eased_42 rfl rfl rfl ?_
      replace H := bs H; obtain ⟨x15, x15e, H⟩ := H
      refine u_gR (q := 46) (r := (RX11, TX11, 14)) x15e dX11_eased_43 w0524 rfl (by decide) rfl rfl ?_
      replace H := bs H; obtain ⟨_, o16, H⟩ := H
      replace H := bs H; obtain ⟨x17, x17e, H⟩ := H
      refine u_callV1 (M' := mX5_everyone) (d' := 1) (rc := (RX5, TX5, 7)) (As := []) (st := [.ref x14, .ref x10, .ref x9]) (q := 49) oX5_everyone dX11_eased_46 w1254 w1064 w1065 rfl rfl (gO_sp o16).1 (gO_sp o16).2 rfl (Nat.le_of_ble_eq_true rfl) (Nat.le_of_ble_eq_true rfl) (Nat.lt_of_lt_of_le (by decide) hd) rfl (sX5_everyone (Nat.le_refl _) x17e) rfl ?_
      replace H := bs H; obtain ⟨_, o18, H⟩ := H
      replace H := bs H; obtain ⟨x19, x19e, H⟩ := H
      refine u_callV1 (M' := mX0_outcomeOf) (d' := 7) (rc := (RX0, TX0, 9)) (As := [.ref x10, .ref x14, .int x17]) (st := []) (q := 52) oX0_outcomeOf dX11_eased_49 w1071 w1072 w1073 rfl rfl (gO_sp o18).1 (gO_sp o18).2 rfl (Nat.le_of_ble_eq_true rfl) (Nat.le_of_ble_eq_true rfl) (Nat.lt_of_lt_of_le (by decide) hd) rfl (sX0_outcomeOf (Nat.le_refl _) x19e) rfl ?_
      refine v_istore_n (L' := [(3, .int x19.1), (0, .ref v0), (1, .int v1), (2, .int v2)]) (q := 53) dX11_eased_52 rfl (by decide) rfl rfl ?_
      refine v_iload_n (q := 54) 0 dX11_eased_53 rfl rfl rfl ?_
      refine v_iconst (v := 2) (q := 55) dX11_eased_54 (by decide) rfl ?_
      refine v_icmp_ne (q1 := 60) (q2 := 58) dX11_eased_55 (by decide) rfl (fun c20 => ?_) (fun c20 => ?_)
      · replace H := ine c20 H
        refine v_aload_n (q := 61) 1 dX11_eased_60 rfl rfl rfl ?_
        replace H := bs H; obtain ⟨x21, x21e, H⟩ := H
        refine u_gR (q := 64) (r := (RX11, TX11, 14)) x21e dX11_eased_61 w0526 rfl (by decide) rfl rfl ?_
        replace H := bs H; obtain ⟨_, o22, H⟩ := H
        replace H := bs H; obtain ⟨x23, x23e, H⟩ := H
        refine u_callV1 (M' := mX2_present) (d' := 1) (rc := (RX2, TX2, 3)) (As := []) (st := []) (q := 67) oX2_present dX11_eased_64 w0701 w0702 w0703 rfl rfl (gO_sp o22).1 (gO_sp o22).2 rfl (Nat.le_of_ble_eq_true rfl) (Nat.le_of_ble_eq_true rfl) (Nat.lt_of_lt_of_le (by decide) hd) rfl (sX2_present (Nat.le_refl _) x23e) rfl ?_
        replace H := bs H; obtain ⟨x24, x24e, H⟩ := H
        refine u_gR (q := 70) (r := (RX3, TX3, 8)) x24e dX11_eased_67 w0341 rfl (by decide) rfl rfl ?_
        refine v_iconst (v := 0) (q := 71) dX11_eased_70 (by decide) rfl ?_
        refine v_aload_n (q := 72) 1 dX11_eased_71 rfl rfl rfl ?_
        replace H := bs H; obtain ⟨x25, x25e, H⟩ := H
        refine u_gR (q := 75) (r := (RX11, TX11, 14)) x25e dX11_eased_72 w0533 rfl (by decide) rfl rfl ?_
        refine v_iconst (v := 0) (q := 76) dX11_eased_75 (by decide) rfl ?_
        refine v_aload_n (q := 77) 1 dX11_eased_76 rfl rfl rfl ?_
        replace H := bs H; obtain ⟨x26, x26e, H⟩ := H
        refine u_gR (q := 80) (r := (RX11, TX11, 14)) x26e dX11_eased_77 w0533 rfl (by decide) rfl rfl ?_
        replace H := bs H; obtain ⟨x27, x27e, H⟩ := H
        refine u_aL (q := 81) (ty := .int) (by decide) x27e dX11_eased_80 rfl ?_
        replace H := bs H; obtain ⟨h28, h28e, H⟩ := H
        refine u_kI (q := 84) (ty := .int) rfl rfl (by decide) h28e dX11_eased_81 w1293 w0711 w0710 w0157 (Nat.le_of_ble_eq_true rfl) (Nat.lt_of_lt_of_le (by decide) hd) rfl ?_
        refine v_aload_n (q := 85) 1 dX11_eased_84 rfl rfl rfl ?_
        replace H := bs H; obtain ⟨x29, x29e, H⟩ := H
        refine u_gR (q := 88) (r := (RX11, TX11, 14)) x29e dX11_eased_85 w0533 rfl (by decide) rfl rfl ?_
        refine v_iload_n (q := 89) 2 dX11_eased_88 rfl rfl rfl ?_
        refine v_iload_n (q := 90) 3 dX11_eased_89 rfl rfl rfl ?_
        replace H := bs H; obtain ⟨x30, x30e, H⟩ := H
        refine u_callS0 (M' := mX11_exchange) (d' := 1) (As := [.ref x29, .int v1, .int v2]) (st := []) (q := 93) oX11_exchange dX11_eased_90 w0920 w0921 rfl (Nat.le_of_ble_eq_true rfl) (Nat.le_of_ble_eq_true rfl) (Nat.lt_of_lt_of_le (by decide) hd) rfl (sX11_exchange (Nat.le_refl _) x30e) rfl ?_
        refine v_aload_n (q := 94) 1 dX11_eased_93 rfl rfl rfl ?_
        replace H := bs H; obtain ⟨x31, x31e, H⟩ := H
        refine u_gR (q := 97) (r := (RX11, TX11, 14)) x31e dX11_eased_94 w0534 rfl (by decide) rfl rfl ?_
        refine v_aload_n (q := 98) 1 dX11_eased_97 rfl rfl rfl ?_
        replace H := bs H; obtain ⟨x32, x32e, H⟩ := H
        refine u_gR (q := 101) (r := (RX11, TX11, 14)) x32e dX11_eased_98 w0524 rfl (by decide) rfl rfl ?_
        refine v_aload_n (q := 102) 1 dX11_eased_101 rfl rfl rfl ?_
        replace H := bs H; obtain ⟨x33, x33e, H⟩ := H
        refine u_gR (q := 105) (r := (RX11, TX11, 14)) x33e dX11_eased_102 w0533 rfl (by decide) rfl rfl ?_
        refine v_aload_n (q := 106) 1 dX11_eased_105 rfl rfl rfl ?_
        replace H := bs H; obtain ⟨x34, x34e, H⟩ := H
        refine u_gR (q := 109) (r := (RX11, TX11, 14)) x34e dX11_eased_106 w0524 rfl (by decide) rfl rfl ?_
        replace H := bs H; obtain ⟨_, o35, H⟩ := H
        replace H := bs H; obtain ⟨x36, x36e, H⟩ := H
        refine u_callV1 (M' := mX5_everyone) (d' := 1) (rc := (RX5, TX5, 7)) (As := []) (st := [.ref x33, .ref x32, .ref x31]) (q := 112) oX5_everyone dX11_eased_109 w1254 w1064 w1065 rfl rfl (gO_sp o35).1 (gO_sp o35).2 rfl (Nat.le_of_ble_eq_true rfl) (Nat.le_of_ble_eq_true rfl) (Nat.lt_of_lt_of_le (by decide) hd) rfl (sX5_everyone (Nat.le_refl _) x36e) rfl ?_
        replace H := bs H; obtain ⟨_, o37, H⟩ := H
        replace H := bs H; obtain ⟨x38, x38e, H⟩ := H
        refine u_callV1 (M' := mX0_tryOut) (d' := 6) (rc := (RX0, TX0, 9)) (As := [.ref x32, .ref x33, .int x36]) (st := []) (q := 115) oX0_tryOut dX11_eased_112 w1298 w1299 w1300 rfl rfl (gO_sp o37).1 (gO_sp o37).2 rfl (Nat.le_of_ble_eq_true rfl) (Nat.le_of_ble_eq_true rfl) (Nat.lt_of_lt_of_le (by decide) hd) rfl (sX0_tryOut (Nat.le_refl _) x38e) rfl ?_
        refine v_istore (L' := [(4, .int x38.1), (3, .int x19.1), (0, .ref v0), (1, .int v1), (2, .int v2)]) (q := 117) dX11_eased_115 (by decide) rfl rfl ?_
        refine v_iload (q := 119) 0 dX11_eased_117 rfl rfl ?_
        refine v_iconst (v := 2) (q := 120) dX11_eased_119 (by decide) rfl ?_
        refine v_icmp_ne (q1 := 125) (q2 := 123) dX11_eased_120 (by decide) rfl (fun c39 => ?_) (fun c39 => ?_)
        · replace H := ine c39 H
          refine v_iload_n (q := 126) 1 dX11_eased_125 rfl rfl rfl ?_
          refine v_iconst (v := 1) (q := 127) dX11_eased_126 (by decide) rfl ?_
          refine v_icmp_ne (q1 := 139) (q2 := 130) dX11_eased_127 (by decide) rfl (fun c40 => ?_) (fun c40 => ?_)
          · replace H := ine c40 H
            exact V.sub [] rfl (sjX11_eased_139 hd H)
          · replace H := ip c40 H
            refine v_iload (q := 132) 0 dX11_eased_130 rfl rfl ?_
            refine v_if_ne (q1 := 139) (q2 := 135) dX11_eased_132 (by decide) rfl (fun c41 => ?_) (fun c41 => ?_)
            · replace H := ine c41 H
              exact V.sub [] rfl (sjX11_eased_139 hd H)
            · replace H := ip c41 H
              refine v_iconst (v := 1) (q := 136) dX11_eased_135 (by decide) rfl ?_
              refine v_goto (q := 140) dX11_eased_136 (by decide) ?_
              exact V.sub [] rfl (sjX11_eased_140 hd H)
        · replace H := ip c39 H
          refine v_iconst (v := -1) (q := 124) dX11_eased_123 (by decide) rfl ?_
          cases H
          exact v_ireturn rfl dX11_eased_124
      · replace H := ip c20 H
        refine v_iconst (v := -1) (q := 59) dX11_eased_58 (by decide) rfl ?_
        cases H
        exact v_ireturn rfl dX11_eased_59
    · replace H := ip c8 H
      exact V.sub [] rfl (sjX11_eased_22 hd H)
def mX11_isNode : MI := (yX11_isNode, cX11_isNode, 1, some .boolean)
theorem oX11_isNode : mOK mX11_isNode 1 := ⟨by decide +kernel, by decide +kernel, by decide +kernel, by decide, w0967, w0139⟩
def jX11_isNode_15 (y0 : Int32) (h : Hp) : Option (Int32) :=
(bz y0).bind fun x2 =>
some x2
set_option maxRecDepth 20000 in
set_option maxHeartbeats 4000000 in
theorem sjX11_isNode_15 {Γ : Gm} {d : Nat} (hd : 1 ≤ d) {y0 : Int32} {h : Hp} {r : Int32} (H : jX11_isNode_15 y0 h = some r) : V Γ d mX11_isNode 15 [] [.int y0] h (some (.int r), h) := by
  unfold jX11_isNode_15 at H
  replace H := bs H; obtain ⟨x2, x2e, H⟩ := H
  obtain ⟨x2q, x2z⟩ := bz_sp x2e
  refine v_topi x2q.symm ?_
  cases H
  exact v_zreturn rfl (by rw [x2q]; exact x2z) dX11_isNode_15
def jX11_isNode_14 (h : Hp) : Option (Int32) :=
jX11_isNode_15 (0 : Int32) h
set_option maxRecDepth 20000 in
set_option maxHeartbeats 4000000 in
theorem sjX11_isNode_14 {Γ : Gm} {d : Nat} (hd : 1 ≤ d) {h : Hp} {r : Int32} (H : jX11_isNode_14 h = some r) : V Γ d mX11_isNode 14 [] [] h (some (.int r), h) := by
  unfold jX11_isNode_14 at H
  refine v_iconst (v := 0) (q := 15) dX11_isNode_14 (by decide) rfl ?_
  exact V.sub [] rfl (sjX11_isNode_15 hd H)
def fX11_isNode (h : Hp) (v0 : Int32) : Option (Int32) :=
if v0 < 0 then (
jX11_isNode_14 h) else (
if (16 : Int32) ≤ v0 then (
jX11_isNode_14 h) else (
jX11_isNode_15 (1 : Int32) h))
set_option maxRecDepth 20000 in
set_option maxHeartbeats 4000000 in
theorem sX11_isNode {Γ : Gm} {d : Nat} (hd : 1 ≤ d) {h : Hp} {v0 : Int32} {r : Int32} (H : fX11_isNode h v0 = some r) : V Γ d mX11_isNode 0 [(0, .int v0)] [] h (some (.int r), h) := by
  unfold fX11_isNode at H
  refine v_iload_n (q := 1) 0 dX11_isNode_0 rfl rfl rfl ?_
  refine v_if_lt (q1 := 14) (q2 := 4) dX11_isNode_1 (by decide) rfl (fun c1 => ?_) (fun c1 => ?_)
  · replace H := ip c1 H
    exact V.sub [] rfl (sjX11_isNode_14 hd H)
  · replace H := ine c1 H
    refine v_iload_n (q := 5) 0 dX11_isNode_4 rfl rfl rfl ?_
    refine v_bipush (v := 16) (q := 7) dX11_isNode_5 (by decide) rfl ?_
    refine v_icmp_ge (q1 := 14) (q2 := 10) dX11_isNode_7 (by decide) rfl (fun c3 => ?_) (fun c3 => ?_)
    · replace H := ip c3 H
      exact V.sub [] rfl (sjX11_isNode_14 hd H)
    · replace H := ine c3 H
      refine v_iconst (v := 1) (q := 11) dX11_isNode_10 (by decide) rfl ?_
      refine v_goto (q := 15) dX11_isNode_11 (by decide) ?_
      exact V.sub [] rfl (sjX11_isNode_15 hd H)
def mX11_edge : MI := (yX11_edge, cX11_edge, 6, some .int)
theorem oX11_edge : mOK mX11_edge 3 := ⟨by decide +kernel, by decide +kernel, by decide +kernel, by decide, w0964, w0139⟩
def jX11_edge_36 (h : Hp) : Option (Int32) :=
some (-1 : Int32)
set_option maxRecDepth 20000 in
set_option maxHeartbeats 4000000 in
theorem sjX11_edge_36 {Γ : Gm} {d : Nat} (hd : 3 ≤ d) {h : Hp} {r : Int32} (H : jX11_edge_36 h = some r) : V Γ d mX11_edge 36 [] [] h (some (.int r), h) := by
  unfold jX11_edge_36 at H
  refine v_iconst (v := -1) (q := 37) dX11_edge_36 (by decide) rfl ?_
  cases H
  exact v_ireturn rfl dX11_edge_37
def fX11_edge (h : Hp) (v0 : Nat) (v1 : Int32) (v2 : Int32) (v3 : Int32) : Option (Int32) :=
(gR h 11 v0 5).bind fun x1 =>
(gO h 2 x1).bind fun _ =>
(fX2_present h x1).bind fun x3 =>
(gR h 3 x3 3).bind fun x4 =>
(fX11_isNode h v1).bind fun x5 =>
if x5 = 0 then (
jX11_edge_36 h) else (
(fX11_isNode h v2).bind fun x7 =>
if x7 = 0 then (
jX11_edge_36 h) else (
(gO h 1 x4).bind fun _ =>
(fX1_leads h x4 v1 v2).bind fun x10 =>
if x10 = 0 then (
jX11_edge_36 h) else (
(gR h 1 x4 3).bind fun x12 =>
(lI h .int x12 ((v1 * (16 : Int32)) + v2)).bind fun x13 =>
if v3 = (0 : Int32) then (
some (x13 / (12 : Int32))) else (
if v3 = (1 : Int32) then (
some (x13 - x13 / (12 : Int32) * (12 : Int32))) else (
some (-1 : Int32))))))
set_option maxRecDepth 20000 in
set_option maxHeartbeats 4000000 in
theorem sX11_edge {Γ : Gm} {d : Nat} (hd : 3 ≤ d) {h : Hp} {v0 : Nat} {v1 : Int32} {v2 : Int32} {v3 : Int32} {r : Int32} (H : fX11_edge h v0 v1 v2 v3 = some r) : V Γ d mX11_edge 0 [(0, .ref v0), (1, .int v1), (2, .int v2), (3, .int v3)] [] h (some (.int r), h) := by
  unfold fX11_edge at H
  refine v_aload_n (q := 1) 0 dX11_edge_0 rfl rfl rfl ?_
  replace H := bs H; obtain ⟨x1, x1e, H⟩ := H
  refine u_gR (q := 4) (r := (RX11, TX11, 14)) x1e dX11_edge_1 w0526 rfl (by decide) rfl rfl ?_
  replace H := bs H; obtain ⟨_, o2, H⟩ := H
  replace H := bs H; obtain ⟨x3, x3e, H⟩ := H
  refine u_callV1 (M' := mX2_present) (d' := 1) (rc := (RX2, TX2, 3)) (As := []) (st := []) (q := 7) oX2_present dX11_edge_4 w0701 w0702 w0703 rfl rfl (gO_sp o2).1 (gO_sp o2).2 rfl (Nat.le_of_ble_eq_true rfl) (Nat.le_of_ble_eq_true rfl) (Nat.lt_of_lt_of_le (by decide) hd) rfl (sX2_present (Nat.le_refl _) x3e) rfl ?_
  replace H := bs H; obtain ⟨x4, x4e, H⟩ := H
  refine u_gR (q := 10) (r := (RX3, TX3, 8)) x4e dX11_edge_7 w0350 rfl (by decide) rfl rfl ?_
  refine v_astore (L' := [(4, .ref x4), (0, .ref v0), (1, .int v1), (2, .int v2), (3, .int v3)]) (q := 12) dX11_edge_10 (by decide) rfl rfl ?_
  refine v_iload_n (q := 13) 2 dX11_edge_12 rfl rfl rfl ?_
  replace H := bs H; obtain ⟨x5, x5e, H⟩ := H
  refine u_callS1 (M' := mX11_isNode) (d' := 1) (As := [.int v1]) (st := []) (q := 16) oX11_isNode dX11_edge_13 w0965 w0966 rfl (Nat.le_of_ble_eq_true rfl) (Nat.le_of_ble_eq_true rfl) (Nat.lt_of_lt_of_le (by decide) hd) rfl (sX11_isNode (Nat.le_refl _) x5e) rfl ?_
  refine v_if_eq (q1 := 36) (q2 := 19) dX11_edge_16 (by decide) rfl (fun c6 => ?_) (fun c6 => ?_)
  · replace H := ip c6 H
    exact V.sub [] rfl (sjX11_edge_36 hd H)
  · replace H := ine c6 H
    refine v_iload_n (q := 20) 3 dX11_edge_19 rfl rfl rfl ?_
    replace H := bs H; obtain ⟨x7, x7e, H⟩ := H
    refine u_callS1 (M' := mX11_isNode) (d' := 1) (As := [.int v2]) (st := []) (q := 23) oX11_isNode dX11_edge_20 w0965 w0966 rfl (Nat.le_of_ble_eq_true rfl) (Nat.le_of_ble_eq_true rfl) (Nat.lt_of_lt_of_le (by decide) hd) rfl (sX11_isNode (Nat.le_refl _) x7e) rfl ?_
    refine v_if_eq (q1 := 36) (q2 := 26) dX11_edge_23 (by decide) rfl (fun c8 => ?_) (fun c8 => ?_)
    · replace H := ip c8 H
      exact V.sub [] rfl (sjX11_edge_36 hd H)
    · replace H := ine c8 H
      refine v_aload (q := 28) 0 dX11_edge_26 rfl rfl ?_
      refine v_iload_n (q := 29) 2 dX11_edge_28 rfl rfl rfl ?_
      refine v_iload_n (q := 30) 3 dX11_edge_29 rfl rfl rfl ?_
      replace H := bs H; obtain ⟨_, o9, H⟩ := H
      replace H := bs H; obtain ⟨x10, x10e, H⟩ := H
      refine u_callV1 (M' := mX1_leads) (d' := 2) (rc := (RX1, TX1, 4)) (As := [.int v1, .int v2]) (st := []) (q := 33) oX1_leads dX11_edge_30 w0968 w0846 w0847 rfl rfl (gO_sp o9).1 (gO_sp o9).2 rfl (Nat.le_of_ble_eq_true rfl) (Nat.le_of_ble_eq_true rfl) (Nat.lt_of_lt_of_le (by decide) hd) rfl (sX1_leads (Nat.le_refl _) x10e) rfl ?_
      refine v_if_ne (q1 := 38) (q2 := 36) dX11_edge_33 (by decide) rfl (fun c11 => ?_) (fun c11 => ?_)
      · replace H := ine c11 H
        refine v_aload (q := 40) 0 dX11_edge_38 rfl rfl ?_
        replace H := bs H; obtain ⟨x12, x12e, H⟩ := H
        refine u_gR (q := 43) (r := (RX1, TX1, 4)) x12e dX11_edge_40 w0295 rfl (by decide) rfl rfl ?_
        refine v_iload_n (q := 44) 2 dX11_edge_43 rfl rfl rfl ?_
        refine v_bipush (v := 16) (q := 46) dX11_edge_44 (by decide) rfl ?_
        refine v_imul (q := 47) dX11_edge_46 rfl ?_
        refine v_iload_n (q := 48) 3 dX11_edge_47 rfl rfl rfl ?_
        refine v_iadd (q := 49) dX11_edge_48 rfl ?_
        replace H := bs H; obtain ⟨x13, x13e, H⟩ := H
        refine u_lI (q := 50) x13e dX11_edge_49 rfl ?_
        refine v_istore (L' := [(5, .int x13), (4, .ref x4), (0, .ref v0), (1, .int v1), (2, .int v2), (3, .int v3)]) (q := 52) dX11_edge_50 (by decide) rfl rfl ?_
        refine v_iload_n (q := 53) 5 dX11_edge_52 rfl rfl rfl ?_
        by_cases c14 : v3 = (0 : Int32)
        · replace H := ip c14 H
          rw [c14]
          refine v_lookup (off := 27) (q := 80) dX11_edge_53 (by decide) (by decide) (by decide) ?_
          refine v_iload (q := 82) 0 dX11_edge_80 rfl rfl ?_
          refine v_bipush (v := 12) (q := 84) dX11_edge_82 (by decide) rfl ?_
          refine v_idiv (q := 85) dX11_edge_84 (by decide) rfl ?_
          cases H
          exact v_ireturn rfl dX11_edge_85
        · replace H := ine c14 H
          by_cases c15 : v3 = (1 : Int32)
          · replace H := ip c15 H
            rw [c15]
            refine v_lookup (off := 33) (q := 86) dX11_edge_53 (by decide) (by decide) (by decide) ?_
            refine v_iload (q := 88) 0 dX11_edge_86 rfl rfl ?_
            refine v_bipush (v := 12) (q := 90) dX11_edge_88 (by decide) rfl ?_
            refine v_irem (q := 91) dX11_edge_90 (by decide) rfl ?_
            cases H
            exact v_ireturn rfl dX11_edge_91
          · replace H := ine c15 H
            refine v_lookup (off := 39) (q := 92) dX11_edge_53 (by decide) ((lv_osw c14 (by decide)).trans ((lv_osw c15 (by decide)).trans (rfl))) (by decide) ?_
            refine v_iconst (v := -1) (q := 93) dX11_edge_92 (by decide) rfl ?_
            cases H
            exact v_ireturn rfl dX11_edge_93
      · replace H := ip c11 H
        exact V.sub [] rfl (sjX11_edge_36 hd H)
def mX11_end : MI := (yX11_end, cX11_end, 2, some .int)
theorem oX11_end : mOK mX11_end 1 := ⟨by decide +kernel, by decide +kernel, by decide +kernel, by decide, w0575, w0139⟩
def jX11_end_12 (h : Hp) : Option (Int32 × Hp) :=
some (((-1 : Int32), h))
set_option maxRecDepth 20000 in
set_option maxHeartbeats 4000000 in
theorem sjX11_end_12 {Γ : Gm} {d : Nat} (hd : 1 ≤ d) {h : Hp} {r : Int32 × Hp} (H : jX11_end_12 h = some r) : V Γ d mX11_end 12 [] [] h (some (.int r.1), r.2) := by
  unfold jX11_end_12 at H
  refine v_iconst (v := -1) (q := 13) dX11_end_12 (by decide) rfl ?_
  cases H
  exact v_ireturn rfl dX11_end_13
def fX11_end (h : Hp) (v0 : Nat) (v1 : Int32) : Option (Int32 × Hp) :=
if v1 < 0 then (
jX11_end_12 h) else (
(gI h 11 v0 1).bind fun x2 =>
if v1 ≤ x2 then (
(pI h 11 v0 1 v1).bind fun h4 =>
some (v1, h4)) else (
jX11_end_12 h))
set_option maxRecDepth 20000 in
set_option maxHeartbeats 4000000 in
theorem sX11_end {Γ : Gm} {d : Nat} (hd : 1 ≤ d) {h : Hp} {v0 : Nat} {v1 : Int32} {r : Int32 × Hp} (H : fX11_end h v0 v1 = some r) : V Γ d mX11_end 0 [(0, .ref v0), (1, .int v1)] [] h (some (.int r.1), r.2) := by
  unfold fX11_end at H
  refine v_iload_n (q := 1) 1 dX11_end_0 rfl rfl rfl ?_
  refine v_if_lt (q1 := 12) (q2 := 4) dX11_end_1 (by decide) rfl (fun c1 => ?_) (fun c1 => ?_)
  · replace H := ip c1 H
    exact V.sub [] rfl (sjX11_end_12 hd H)
  · replace H := ine c1 H
    refine v_iload_n (q := 5) 1 dX11_end_4 rfl rfl rfl ?_
    refine v_aload_n (q := 6) 0 dX11_end_5 rfl rfl rfl ?_
    replace H := bs H; obtain ⟨x2, x2e, H⟩ := H
    refine u_gI (q := 9) (r := (RX11, TX11, 14)) x2e dX11_end_6 w0522 rfl (by decide) rfl rfl ?_
    refine v_icmp_le (q1 := 14) (q2 := 12) dX11_end_9 (by decide) rfl (fun c3 => ?_) (fun c3 => ?_)
    · replace H := ip c3 H
      refine v_aload_n (q := 15) 0 dX11_end_14 rfl rfl rfl ?_
      refine v_iload_n (q := 16) 1 dX11_end_15 rfl rfl rfl ?_
      replace H := bs H; obtain ⟨h4, h4e, H⟩ := H
      refine u_pI (q := 19) (r := (RX11, TX11, 14)) h4e dX11_end_16 w0522 rfl (by decide) (Or.inl rfl) rfl rfl ?_
      refine v_iload_n (q := 20) 1 dX11_end_19 rfl rfl rfl ?_
      cases H
      exact v_ireturn rfl dX11_end_20
    · replace H := ine c3 H
      exact V.sub [] rfl (sjX11_end_12 hd H)
def mX11_fault : MI := (yX11_fault, cX11_fault, 2, some .int)
theorem oX11_fault : mOK mX11_fault 1 := ⟨by decide +kernel, by decide +kernel, by decide +kernel, by decide, w0734, w0139⟩
def fX11_fault (h : Hp) (v0 : Nat) (v1 : Int32) : Option (Int32) :=
if v1 = (0 : Int32) then (
(gR h 11 v0 2).bind fun x2 =>
(gI h 6 x2 0).bind fun x3 =>
some x3) else (
if v1 = (1 : Int32) then (
(gR h 11 v0 2).bind fun x5 =>
(gI h 6 x5 1).bind fun x6 =>
some x6) else (
some (-1 : Int32)))
set_option maxRecDepth 20000 in
set_option maxHeartbeats 4000000 in
theorem sX11_fault {Γ : Gm} {d : Nat} (hd : 1 ≤ d) {h : Hp} {v0 : Nat} {v1 : Int32} {r : Int32} (H : fX11_fault h v0 v1 = some r) : V Γ d mX11_fault 0 [(0, .ref v0), (1, .int v1)] [] h (some (.int r), h) := by
  unfold fX11_fault at H
  refine v_iload_n (q := 1) 1 dX11_fault_0 rfl rfl rfl ?_
  by_cases c1 : v1 = (0 : Int32)
  · replace H := ip c1 H
    rw [c1]
    refine v_lookup (off := 27) (q := 28) dX11_fault_1 (by decide) (by decide) (by decide) ?_
    refine v_aload_n (q := 29) 0 dX11_fault_28 rfl rfl rfl ?_
    replace H := bs H; obtain ⟨x2, x2e, H⟩ := H
    refine u_gR (q := 32) (r := (RX11, TX11, 14)) x2e dX11_fault_29 w0523 rfl (by decide) rfl rfl ?_
    replace H := bs H; obtain ⟨x3, x3e, H⟩ := H
    refine u_gI (q := 35) (r := (RX6, TX6, 13)) x3e dX11_fault_32 w0175 rfl (by decide) rfl rfl ?_
    cases H
    exact v_ireturn rfl dX11_fault_35
  · replace H := ine c1 H
    by_cases c4 : v1 = (1 : Int32)
    · replace H := ip c4 H
      rw [c4]
      refine v_lookup (off := 35) (q := 36) dX11_fault_1 (by decide) (by decide) (by decide) ?_
      refine v_aload_n (q := 37) 0 dX11_fault_36 rfl rfl rfl ?_
      replace H := bs H; obtain ⟨x5, x5e, H⟩ := H
      refine u_gR (q := 40) (r := (RX11, TX11, 14)) x5e dX11_fault_37 w0523 rfl (by decide) rfl rfl ?_
      replace H := bs H; obtain ⟨x6, x6e, H⟩ := H
      refine u_gI (q := 43) (r := (RX6, TX6, 13)) x6e dX11_fault_40 w0177 rfl (by decide) rfl rfl ?_
      cases H
      exact v_ireturn rfl dX11_fault_43
    · replace H := ine c4 H
      refine v_lookup (off := 43) (q := 44) dX11_fault_1 (by decide) ((lv_osw c1 (by decide)).trans ((lv_osw c4 (by decide)).trans (rfl))) (by decide) ?_
      refine v_iconst (v := -1) (q := 45) dX11_fault_44 (by decide) rfl ?_
      cases H
      exact v_ireturn rfl dX11_fault_45
def mX11_putNumber : MI := (yX11_putNumber, cX11_putNumber, 3, none)
theorem oX11_putNumber : mOK mX11_putNumber 1 := ⟨by decide +kernel, by decide +kernel, by decide +kernel, by decide, w0571, w0139⟩
def bX11_putNumber_3 (u0 : Nat) (u1 : Int32) (s3 : Int32 × Hp) : Option ((Int32 × Hp) ⊕ (Hp)) :=
if s3.1 < 0 then (
some (.inr s3.2)) else (
(gR s3.2 11 u0 0).bind fun x2 =>
(gI s3.2 11 u0 1).bind fun x3 =>
(tB s3.2 x2 x3 (((u1.toUInt32 >>> (s3.1.toUInt32 &&& Int32.toUInt32 31)).toInt32).toInt8.toInt32)).bind fun h4 =>
(gI h4 11 u0 1).bind fun x5 =>
(pI h4 11 u0 1 (x5 + (1 : Int32))).bind fun h6 =>
(some (s3.1 + (-8 : Int32))).bind fun x7 =>
some (.inl (x7, h6)))
set_option maxRecDepth 20000 in
set_option maxHeartbeats 4000000 in
theorem sbX11_putNumber_3 {Γ : Gm} {d : Nat} (hd : 1 ≤ d) {u0 : Nat} {u1 : Int32} {s3 : Int32 × Hp} {r : (Int32 × Hp) ⊕ (Hp)} {t : Option Value × Hp} (H : bX11_putNumber_3 u0 u1 s3 = some r) (kI : ∀ s, r = .inl s → (fun s3 => V Γ d mX11_putNumber 3 [(0, .ref u0), (1, .int u1), (2, .int s3.1)] [] s3.2 t) s) (kE : ∀ e, r = .inr e → (fun e => V Γ d mX11_putNumber 36 [] [] e t) e) : V Γ d mX11_putNumber 3 [(0, .ref u0), (1, .int u1), (2, .int s3.1)] [] s3.2 t := by
  unfold bX11_putNumber_3 at H
  refine v_iload_n (q := 4) 2 dX11_putNumber_3 rfl rfl rfl ?_
  refine v_if_lt (q1 := 36) (q2 := 7) dX11_putNumber_4 (by decide) rfl (fun c1 => ?_) (fun c1 => ?_)
  · replace H := ip c1 H
    exact V.sub [] rfl (kE s3.2 (Option.some.inj H).symm)
  · replace H := ine c1 H
    refine v_aload_n (q := 8) 0 dX11_putNumber_7 rfl rfl rfl ?_
    replace H := bs H; obtain ⟨x2, x2e, H⟩ := H
    refine u_gR (q := 11) (r := (RX11, TX11, 14)) x2e dX11_putNumber_8 w0521 rfl (by decide) rfl rfl ?_
    refine v_aload_n (q := 12) 0 dX11_putNumber_11 rfl rfl rfl ?_
    replace H := bs H; obtain ⟨x3, x3e, H⟩ := H
    refine u_gI (q := 15) (r := (RX11, TX11, 14)) x3e dX11_putNumber_12 w0522 rfl (by decide) rfl rfl ?_
    refine v_iload_n (q := 16) 1 dX11_putNumber_15 rfl rfl rfl ?_
    refine v_iload_n (q := 17) 2 dX11_putNumber_16 rfl rfl rfl ?_
    refine v_iushr (q := 18) dX11_putNumber_17 rfl ?_
    refine v_i2b (q := 19) dX11_putNumber_18 rfl ?_
    replace H := bs H; obtain ⟨h4, h4e, H⟩ := H
    refine u_tB (q := 20) h4e dX11_putNumber_19 rfl ?_
    refine v_aload_n (q := 21) 0 dX11_putNumber_20 rfl rfl rfl ?_
    refine v_dup (q := 22) dX11_putNumber_21 rfl rfl ?_
    replace H := bs H; obtain ⟨x5, x5e, H⟩ := H
    refine u_gI (q := 25) (r := (RX11, TX11, 14)) x5e dX11_putNumber_22 w0522 rfl (by decide) rfl rfl ?_
    refine v_iconst (v := 1) (q := 26) dX11_putNumber_25 (by decide) rfl ?_
    refine v_iadd (q := 27) dX11_putNumber_26 rfl ?_
    replace H := bs H; obtain ⟨h6, h6e, H⟩ := H
    refine u_pI (q := 30) (r := (RX11, TX11, 14)) h6e dX11_putNumber_27 w0522 rfl (by decide) (Or.inl rfl) rfl rfl ?_
    replace H := bs H; obtain ⟨x7, x7e, H⟩ := H
    refine v_iinc (v := x7) (L' := [(2, .int x7), (0, .ref u0), (1, .int u1)]) (q := 33) 2 dX11_putNumber_30 rfl (Option.some.inj x7e) (by decide) rfl rfl ?_
    refine v_goto (q := 3) dX11_putNumber_33 (by decide) ?_
    exact V.sub [1, 2, 0] rfl (kI (x7, h6) (Option.some.inj H).symm)
def fX11_putNumber (h : Hp) (v0 : Nat) (v1 : Int32) : Option (Hp) :=
(lp (bX11_putNumber_3 v0 v1) FU ((24 : Int32), h)).bind fun e8 =>
some e8
set_option maxRecDepth 20000 in
set_option maxHeartbeats 4000000 in
theorem sX11_putNumber {Γ : Gm} {d : Nat} (hd : 1 ≤ d) {h : Hp} {v0 : Nat} {v1 : Int32} {r : Hp} (H : fX11_putNumber h v0 v1 = some r) : V Γ d mX11_putNumber 0 [(0, .ref v0), (1, .int v1)] [] h (none, r) := by
  unfold fX11_putNumber at H
  refine v_bipush (v := 24) (q := 2) dX11_putNumber_0 (by decide) rfl ?_
  refine v_istore_n (L' := [(2, .int (24 : Int32)), (0, .ref v0), (1, .int v1)]) (q := 3) dX11_putNumber_2 rfl (by decide) rfl rfl ?_
  replace H := bs H; obtain ⟨e8, e8L, H⟩ := H
  refine V.sub [1, 2, 0] rfl ?_
  refine lp_V (P := (fun s3 => V Γ d mX11_putNumber 3 [(0, .ref v0), (1, .int v1), (2, .int s3.1)] [] s3.2 (none, r))) (E := (fun e => V Γ d mX11_putNumber 36 [] [] e (none, r))) (fun s r hb kI kE => sbX11_putNumber_3 hd (s3 := s) (r := r) hb kI kE) FU ((24 : Int32), h) e8 e8L ?_
  cases H
  exact v_return rfl dX11_putNumber_36
def mX11_feed : MI := (yX11_feed, cX11_feed, 6, some .int)
theorem oX11_feed : mOK mX11_feed 5 := ⟨by decide +kernel, by decide +kernel, by decide +kernel, by decide, w0567, w0139⟩
def fX11_feed (h : Hp) (v0 : Nat) (v1 : Int32) (v2 : Int32) (v3 : Int32) (v4 : Int32) (v5 : Int32) : Option (Int32 × Hp) :=
(gI h 11 v0 1).bind fun x1 =>
if (x1 + (20 : Int32)) ≤ (900 : Int32) then (
(gO h 11 v0).bind fun _ =>
(fX11_putNumber h v0 v1).bind fun x4 =>
(gO x4 11 v0).bind fun _ =>
(fX11_putNumber x4 v0 v2).bind fun x6 =>
(gO x6 11 v0).bind fun _ =>
(fX11_putNumber x6 v0 v3).bind fun x8 =>
(gO x8 11 v0).bind fun _ =>
(fX11_putNumber x8 v0 v4).bind fun x10 =>
(gO x10 11 v0).bind fun _ =>
(fX11_putNumber x10 v0 v5).bind fun x12 =>
(gI x12 11 v0 1).bind fun x13 =>
some (x13, x12)) else (
some (((-1 : Int32), h)))
set_option maxRecDepth 20000 in
set_option maxHeartbeats 4000000 in
theorem sX11_feed {Γ : Gm} {d : Nat} (hd : 2 ≤ d) {h : Hp} {v0 : Nat} {v1 : Int32} {v2 : Int32} {v3 : Int32} {v4 : Int32} {v5 : Int32} {r : Int32 × Hp} (H : fX11_feed h v0 v1 v2 v3 v4 v5 = some r) : V Γ d mX11_feed 0 [(0, .ref v0), (1, .int v1), (2, .int v2), (3, .int v3), (4, .int v4), (5, .int v5)] [] h (some (.int r.1), r.2) := by
  unfold fX11_feed at H
  refine v_aload_n (q := 1) 0 dX11_feed_0 rfl rfl rfl ?_
  replace H := bs H; obtain ⟨x1, x1e, H⟩ := H
  refine u_gI (q := 4) (r := (RX11, TX11, 14)) x1e dX11_feed_1 w0522 rfl (by decide) rfl rfl ?_
  refine v_bipush (v := 20) (q := 6) dX11_feed_4 (by decide) rfl ?_
  refine v_iadd (q := 7) dX11_feed_6 rfl ?_
  refine v_sipush (v := 900) (q := 10) dX11_feed_7 (by decide) rfl ?_
  refine v_icmp_le (q1 := 15) (q2 := 13) dX11_feed_10 (by decide) rfl (fun c2 => ?_) (fun c2 => ?_)
  · replace H := ip c2 H
    refine v_aload_n (q := 16) 0 dX11_feed_15 rfl rfl rfl ?_
    refine v_iload_n (q := 17) 1 dX11_feed_16 rfl rfl rfl ?_
    replace H := bs H; obtain ⟨_, o3, H⟩ := H
    replace H := bs H; obtain ⟨x4, x4e, H⟩ := H
    refine u_callV0 (M' := mX11_putNumber) (d' := 1) (rc := (RX11, TX11, 14)) (As := [.int v1]) (st := []) (q := 20) oX11_putNumber dX11_feed_17 w0568 w0570 w0000 rfl rfl (gO_sp o3).1 (gO_sp o3).2 rfl (Nat.le_of_ble_eq_true rfl) (Nat.le_of_ble_eq_true rfl) (Nat.lt_of_lt_of_le (by decide) hd) rfl (sX11_putNumber (Nat.le_refl _) x4e) rfl ?_
    refine v_aload_n (q := 21) 0 dX11_feed_20 rfl rfl rfl ?_
    refine v_iload_n (q := 22) 2 dX11_feed_21 rfl rfl rfl ?_
    replace H := bs H; obtain ⟨_, o5, H⟩ := H
    replace H := bs H; obtain ⟨x6, x6e, H⟩ := H
    refine u_callV0 (M' := mX11_putNumber) (d' := 1) (rc := (RX11, TX11, 14)) (As := [.int v2]) (st := []) (q := 25) oX11_putNumber dX11_feed_22 w0568 w0570 w0000 rfl rfl (gO_sp o5).1 (gO_sp o5).2 rfl (Nat.le_of_ble_eq_true rfl) (Nat.le_of_ble_eq_true rfl) (Nat.lt_of_lt_of_le (by decide) hd) rfl (sX11_putNumber (Nat.le_refl _) x6e) rfl ?_
    refine v_aload_n (q := 26) 0 dX11_feed_25 rfl rfl rfl ?_
    refine v_iload_n (q := 27) 3 dX11_feed_26 rfl rfl rfl ?_
    replace H := bs H; obtain ⟨_, o7, H⟩ := H
    replace H := bs H; obtain ⟨x8, x8e, H⟩ := H
    refine u_callV0 (M' := mX11_putNumber) (d' := 1) (rc := (RX11, TX11, 14)) (As := [.int v3]) (st := []) (q := 30) oX11_putNumber dX11_feed_27 w0568 w0570 w0000 rfl rfl (gO_sp o7).1 (gO_sp o7).2 rfl (Nat.le_of_ble_eq_true rfl) (Nat.le_of_ble_eq_true rfl) (Nat.lt_of_lt_of_le (by decide) hd) rfl (sX11_putNumber (Nat.le_refl _) x8e) rfl ?_
    refine v_aload_n (q := 31) 0 dX11_feed_30 rfl rfl rfl ?_
    refine v_iload (q := 33) 4 dX11_feed_31 rfl rfl ?_
    replace H := bs H; obtain ⟨_, o9, H⟩ := H
    replace H := bs H; obtain ⟨x10, x10e, H⟩ := H
    refine u_callV0 (M' := mX11_putNumber) (d' := 1) (rc := (RX11, TX11, 14)) (As := [.int v4]) (st := []) (q := 36) oX11_putNumber dX11_feed_33 w0568 w0570 w0000 rfl rfl (gO_sp o9).1 (gO_sp o9).2 rfl (Nat.le_of_ble_eq_true rfl) (Nat.le_of_ble_eq_true rfl) (Nat.lt_of_lt_of_le (by decide) hd) rfl (sX11_putNumber (Nat.le_refl _) x10e) rfl ?_
    refine v_aload_n (q := 37) 0 dX11_feed_36 rfl rfl rfl ?_
    refine v_iload (q := 39) 5 dX11_feed_37 rfl rfl ?_
    replace H := bs H; obtain ⟨_, o11, H⟩ := H
    replace H := bs H; obtain ⟨x12, x12e, H⟩ := H
    refine u_callV0 (M' := mX11_putNumber) (d' := 1) (rc := (RX11, TX11, 14)) (As := [.int v5]) (st := []) (q := 42) oX11_putNumber dX11_feed_39 w0568 w0570 w0000 rfl rfl (gO_sp o11).1 (gO_sp o11).2 rfl (Nat.le_of_ble_eq_true rfl) (Nat.le_of_ble_eq_true rfl) (Nat.lt_of_lt_of_le (by decide) hd) rfl (sX11_putNumber (Nat.le_refl _) x12e) rfl ?_
    refine v_aload_n (q := 43) 0 dX11_feed_42 rfl rfl rfl ?_
    replace H := bs H; obtain ⟨x13, x13e, H⟩ := H
    refine u_gI (q := 46) (r := (RX11, TX11, 14)) x13e dX11_feed_43 w0522 rfl (by decide) rfl rfl ?_
    cases H
    exact v_ireturn rfl dX11_feed_46
  · replace H := ine c2 H
    refine v_iconst (v := -1) (q := 14) dX11_feed_13 (by decide) rfl ?_
    cases H
    exact v_ireturn rfl dX11_feed_14
def mX2_dropOldest : MI := (yX2_dropOldest, cX2_dropOldest, 3, none)
theorem oX2_dropOldest : mOK mX2_dropOldest 0 := ⟨by decide +kernel, by decide +kernel, by decide +kernel, by decide, w0750, w0142⟩
def bX2_dropOldest_9 (u0 : Nat) (u1 : Nat) (s9 : Int32 × Hp) : Option ((Int32 × Hp) ⊕ (Hp)) :=
if (12 : Int32) ≤ s9.1 then (
some (.inr s9.2)) else (
(gR s9.2 2 u0 2).bind fun x4 =>
(gR s9.2 2 u0 2).bind fun x5 =>
(lR s9.2 (.object RX3) x5 (s9.1 + (1 : Int32))).bind fun x6 =>
(tR s9.2 x4 s9.1 x6).bind fun h7 =>
(some (s9.1 + (1 : Int32))).bind fun x8 =>
some (.inl (x8, h7)))
set_option maxRecDepth 20000 in
set_option maxHeartbeats 4000000 in
theorem sbX2_dropOldest_9 {Γ : Gm} {d : Nat} (hd : 1 ≤ d) {u0 : Nat} {u1 : Nat} {s9 : Int32 × Hp} {r : (Int32 × Hp) ⊕ (Hp)} {t : Option Value × Hp} (H : bX2_dropOldest_9 u0 u1 s9 = some r) (kI : ∀ s, r = .inl s → (fun s9 => V Γ d mX2_dropOldest 9 [(0, .ref u0), (1, .ref u1), (2, .int s9.1)] [] s9.2 t) s) (kE : ∀ e, r = .inr e → (fun e => V Γ d mX2_dropOldest 35 [(0, .ref u0), (1, .ref u1)] [] e t) e) : V Γ d mX2_dropOldest 9 [(0, .ref u0), (1, .ref u1), (2, .int s9.1)] [] s9.2 t := by
  unfold bX2_dropOldest_9 at H
  refine v_iload_n (q := 10) 2 dX2_dropOldest_9 rfl rfl rfl ?_
  refine v_bipush (v := 12) (q := 12) dX2_dropOldest_10 (by decide) rfl ?_
  refine v_icmp_ge (q1 := 35) (q2 := 15) dX2_dropOldest_12 (by decide) rfl (fun c3 => ?_) (fun c3 => ?_)
  · replace H := ip c3 H
    exact V.sub [0, 1] rfl (kE s9.2 (Option.some.inj H).symm)
  · replace H := ine c3 H
    refine v_aload_n (q := 16) 0 dX2_dropOldest_15 rfl rfl rfl ?_
    replace H := bs H; obtain ⟨x4, x4e, H⟩ := H
    refine u_gR (q := 19) (r := (RX2, TX2, 3)) x4e dX2_dropOldest_16 w0381 rfl (by decide) rfl rfl ?_
    refine v_iload_n (q := 20) 2 dX2_dropOldest_19 rfl rfl rfl ?_
    refine v_aload_n (q := 21) 0 dX2_dropOldest_20 rfl rfl rfl ?_
    replace H := bs H; obtain ⟨x5, x5e, H⟩ := H
    refine u_gR (q := 24) (r := (RX2, TX2, 3)) x5e dX2_dropOldest_21 w0381 rfl (by decide) rfl rfl ?_
    refine v_iload_n (q := 25) 2 dX2_dropOldest_24 rfl rfl rfl ?_
    refine v_iconst (v := 1) (q := 26) dX2_dropOldest_25 (by decide) rfl ?_
    refine v_iadd (q := 27) dX2_dropOldest_26 rfl ?_
    replace H := bs H; obtain ⟨x6, x6e, H⟩ := H
    refine u_lR (q := 28) (ty := (.object RX3)) (by decide) rfl rfl x6e dX2_dropOldest_27 rfl ?_
    replace H := bs H; obtain ⟨h7, h7e, H⟩ := H
    refine u_tR (q := 29) h7e dX2_dropOldest_28 rfl ?_
    replace H := bs H; obtain ⟨x8, x8e, H⟩ := H
    refine v_iinc (v := x8) (L' := [(2, .int x8), (0, .ref u0), (1, .ref u1)]) (q := 32) 2 dX2_dropOldest_29 rfl (Option.some.inj x8e) (by decide) rfl rfl ?_
    refine v_goto (q := 9) dX2_dropOldest_32 (by decide) ?_
    exact V.sub [1, 2, 0] rfl (kI (x8, h7) (Option.some.inj H).symm)
def fX2_dropOldest (h : Hp) (v0 : Nat) : Option (Hp) :=
(gR h 2 v0 2).bind fun x1 =>
(lR h (.object RX3) x1 (0 : Int32)).bind fun x2 =>
(lp (bX2_dropOldest_9 v0 x2) FU ((0 : Int32), h)).bind fun e9 =>
(gR e9 2 v0 2).bind fun x10 =>
(tR e9 x10 (12 : Int32) x2).bind fun h11 =>
(gI h11 2 v0 0).bind fun x12 =>
(pI h11 2 v0 0 (x12 - (1 : Int32))).bind fun h13 =>
some h13
set_option maxRecDepth 20000 in
set_option maxHeartbeats 4000000 in
theorem sX2_dropOldest {Γ : Gm} {d : Nat} (hd : 1 ≤ d) {h : Hp} {v0 : Nat} {r : Hp} (H : fX2_dropOldest h v0 = some r) : V Γ d mX2_dropOldest 0 [(0, .ref v0)] [] h (none, r) := by
  unfold fX2_dropOldest at H
  refine v_aload_n (q := 1) 0 dX2_dropOldest_0 rfl rfl rfl ?_
  replace H := bs H; obtain ⟨x1, x1e, H⟩ := H
  refine u_gR (q := 4) (r := (RX2, TX2, 3)) x1e dX2_dropOldest_1 w0381 rfl (by decide) rfl rfl ?_
  refine v_iconst (v := 0) (q := 5) dX2_dropOldest_4 (by decide) rfl ?_
  replace H := bs H; obtain ⟨x2, x2e, H⟩ := H
  refine u_lR (q := 6) (ty := (.object RX3)) (by decide) rfl rfl x2e dX2_dropOldest_5 rfl ?_
  refine v_astore_n (L' := [(1, .ref x2), (0, .ref v0)]) (q := 7) dX2_dropOldest_6 rfl (by decide) rfl rfl ?_
  refine v_iconst (v := 0) (q := 8) dX2_dropOldest_7 (by decide) rfl ?_
  refine v_istore_n (L' := [(2, .int (0 : Int32)), (1, .ref x2), (0, .ref v0)]) (q := 9) dX2_dropOldest_8 rfl (by decide) rfl rfl ?_
  replace H := bs H; obtain ⟨e9, e9L, H⟩ := H
  refine V.sub [2, 1, 0] rfl ?_
  refine lp_V (P := (fun s9 => V Γ d mX2_dropOldest 9 [(0, .ref v0), (1, .ref x2), (2, .int s9.1)] [] s9.2 (none, r))) (E := (fun e => V Γ d mX2_dropOldest 35 [(0, .ref v0), (1, .ref x2)] [] e (none, r))) (fun s r hb kI kE => sbX2_dropOldest_9 hd (s9 := s) (r := r) hb kI kE) FU ((0 : Int32), h) e9 e9L ?_
  refine v_aload_n (q := 36) 0 dX2_dropOldest_35 rfl rfl rfl ?_
  replace H := bs H; obtain ⟨x10, x10e, H⟩ := H
  refine u_gR (q := 39) (r := (RX2, TX2, 3)) x10e dX2_dropOldest_36 w0381 rfl (by decide) rfl rfl ?_
  refine v_bipush (v := 12) (q := 41) dX2_dropOldest_39 (by decide) rfl ?_
  refine v_aload_n (q := 42) 1 dX2_dropOldest_41 rfl rfl rfl ?_
  replace H := bs H; obtain ⟨h11, h11e, H⟩ := H
  refine u_tR (q := 43) h11e dX2_dropOldest_42 rfl ?_
  refine v_aload_n (q := 44) 0 dX2_dropOldest_43 rfl rfl rfl ?_
  refine v_dup (q := 45) dX2_dropOldest_44 rfl rfl ?_
  replace H := bs H; obtain ⟨x12, x12e, H⟩ := H
  refine u_gI (q := 48) (r := (RX2, TX2, 3)) x12e dX2_dropOldest_45 w0377 rfl (by decide) rfl rfl ?_
  refine v_iconst (v := 1) (q := 49) dX2_dropOldest_48 (by decide) rfl ?_
  refine v_isub (q := 50) dX2_dropOldest_49 rfl ?_
  replace H := bs H; obtain ⟨h13, h13e, H⟩ := H
  refine u_pI (q := 53) (r := (RX2, TX2, 3)) h13e dX2_dropOldest_50 w0377 rfl (by decide) (Or.inl rfl) rfl rfl ?_
  cases H
  exact v_return rfl dX2_dropOldest_53
def mX1_init : MI := (yX1_init, cX1_init, 1, none)
theorem oX1_init : mOK mX1_init 0 := ⟨by decide +kernel, by decide +kernel, by decide +kernel, by decide, w0284, w0144⟩
def fX1_init (h : Hp) (v0 : Nat) : Option (Hp) :=
(nA h .int (16 : Int32)).bind fun h1 =>
(pR h1 1 v0 1 (hN h)).bind fun h2 =>
(nA h2 .int (16 : Int32)).bind fun h3 =>
(pR h3 1 v0 2 (hN h2)).bind fun h4 =>
(nA h4 .int (256 : Int32)).bind fun h5 =>
(pR h5 1 v0 3 (hN h4)).bind fun h6 =>
some h6
set_option maxRecDepth 20000 in
set_option maxHeartbeats 4000000 in
theorem sX1_init {Γ : Gm} {d : Nat} (hd : 1 ≤ d) {h : Hp} {v0 : Nat} {r : Hp} (H : fX1_init h v0 = some r) : V Γ d mX1_init 0 [(0, .ref v0)] [] h (none, r) := by
  unfold fX1_init at H
  refine v_aload_n (q := 1) 0 dX1_init_0 rfl rfl rfl ?_
  refine v_obj (q := 4) dX1_init_1 w0285 w0166 w0167 (Nat.le_of_ble_eq_true rfl) (Nat.lt_of_lt_of_le (by decide) hd) rfl ?_
  refine v_aload_n (q := 5) 0 dX1_init_4 rfl rfl rfl ?_
  refine v_bipush (v := 16) (q := 7) dX1_init_5 (by decide) rfl ?_
  replace H := bs H; obtain ⟨h1, h1e, H⟩ := H
  refine u_nA (q := 9) (ty := .int) rfl (by decide) w0217 h1e dX1_init_7 rfl ?_
  replace H := bs H; obtain ⟨h2, h2e, H⟩ := H
  refine u_pR (q := 12) (r := (RX1, TX1, 4)) h2e dX1_init_9 w0288 rfl (by decide) (Or.inr ⟨rfl, rfl, rfl⟩) rfl rfl ?_
  refine v_aload_n (q := 13) 0 dX1_init_12 rfl rfl rfl ?_
  refine v_bipush (v := 16) (q := 15) dX1_init_13 (by decide) rfl ?_
  replace H := bs H; obtain ⟨h3, h3e, H⟩ := H
  refine u_nA (q := 17) (ty := .int) rfl (by decide) w0217 h3e dX1_init_15 rfl ?_
  replace H := bs H; obtain ⟨h4, h4e, H⟩ := H
  refine u_pR (q := 20) (r := (RX1, TX1, 4)) h4e dX1_init_17 w0291 rfl (by decide) (Or.inr ⟨rfl, rfl, rfl⟩) rfl rfl ?_
  refine v_aload_n (q := 21) 0 dX1_init_20 rfl rfl rfl ?_
  refine v_sipush (v := 256) (q := 24) dX1_init_21 (by decide) rfl ?_
  replace H := bs H; obtain ⟨h5, h5e, H⟩ := H
  refine u_nA (q := 26) (ty := .int) rfl (by decide) w0217 h5e dX1_init_24 rfl ?_
  replace H := bs H; obtain ⟨h6, h6e, H⟩ := H
  refine u_pR (q := 29) (r := (RX1, TX1, 4)) h6e dX1_init_26 w0294 rfl (by decide) (Or.inr ⟨rfl, rfl, rfl⟩) rfl rfl ?_
  cases H
  exact v_return rfl dX1_init_29
def mX7_init : MI := (yX7_init, cX7_init, 1, none)
theorem oX7_init : mOK mX7_init 0 := ⟨by decide +kernel, by decide +kernel, by decide +kernel, by decide, w0309, w0145⟩
def fX7_init (h : Hp) (v0 : Nat) : Option (Hp) :=
(nA h .int (60 : Int32)).bind fun h1 =>
(pR h1 7 v0 1 (hN h)).bind fun h2 =>
(nA h2 .int (60 : Int32)).bind fun h3 =>
(pR h3 7 v0 2 (hN h2)).bind fun h4 =>
(nA h4 .int (60 : Int32)).bind fun h5 =>
(pR h5 7 v0 3 (hN h4)).bind fun h6 =>
(nA h6 .int (60 : Int32)).bind fun h7 =>
(pR h7 7 v0 4 (hN h6)).bind fun h8 =>
(nA h8 .byte (1020 : Int32)).bind fun h9 =>
(pR h9 7 v0 5 (hN h8)).bind fun h10 =>
(nA h10 .int (160 : Int32)).bind fun h11 =>
(pR h11 7 v0 6 (hN h10)).bind fun h12 =>
some h12
set_option maxRecDepth 20000 in
set_option maxHeartbeats 4000000 in
theorem sX7_init {Γ : Gm} {d : Nat} (hd : 1 ≤ d) {h : Hp} {v0 : Nat} {r : Hp} (H : fX7_init h v0 = some r) : V Γ d mX7_init 0 [(0, .ref v0)] [] h (none, r) := by
  unfold fX7_init at H
  refine v_aload_n (q := 1) 0 dX7_init_0 rfl rfl rfl ?_
  refine v_obj (q := 4) dX7_init_1 w0310 w0166 w0167 (Nat.le_of_ble_eq_true rfl) (Nat.lt_of_lt_of_le (by decide) hd) rfl ?_
  refine v_aload_n (q := 5) 0 dX7_init_4 rfl rfl rfl ?_
  refine v_bipush (v := 60) (q := 7) dX7_init_5 (by decide) rfl ?_
  replace H := bs H; obtain ⟨h1, h1e, H⟩ := H
  refine u_nA (q := 9) (ty := .int) rfl (by decide) w0217 h1e dX7_init_7 rfl ?_
  replace H := bs H; obtain ⟨h2, h2e, H⟩ := H
  refine u_pR (q := 12) (r := (RX7, TX7, 7)) h2e dX7_init_9 w0314 rfl (by decide) (Or.inr ⟨rfl, rfl, rfl⟩) rfl rfl ?_
  refine v_aload_n (q := 13) 0 dX7_init_12 rfl rfl rfl ?_
  refine v_bipush (v := 60) (q := 15) dX7_init_13 (by decide) rfl ?_
  replace H := bs H; obtain ⟨h3, h3e, H⟩ := H
  refine u_nA (q := 17) (ty := .int) rfl (by decide) w0217 h3e dX7_init_15 rfl ?_
  replace H := bs H; obtain ⟨h4, h4e, H⟩ := H
  refine u_pR (q := 20) (r := (RX7, TX7, 7)) h4e dX7_init_17 w0316 rfl (by decide) (Or.inr ⟨rfl, rfl, rfl⟩) rfl rfl ?_
  refine v_aload_n (q := 21) 0 dX7_init_20 rfl rfl rfl ?_
  refine v_bipush (v := 60) (q := 23) dX7_init_21 (by decide) rfl ?_
  replace H := bs H; obtain ⟨h5, h5e, H⟩ := H
  refine u_nA (q := 25) (ty := .int) rfl (by decide) w0217 h5e dX7_init_23 rfl ?_
  replace H := bs H; obtain ⟨h6, h6e, H⟩ := H
  refine u_pR (q := 28) (r := (RX7, TX7, 7)) h6e dX7_init_25 w0318 rfl (by decide) (Or.inr ⟨rfl, rfl, rfl⟩) rfl rfl ?_
  refine v_aload_n (q := 29) 0 dX7_init_28 rfl rfl rfl ?_
  refine v_bipush (v := 60) (q := 31) dX7_init_29 (by decide) rfl ?_
  replace H := bs H; obtain ⟨h7, h7e, H⟩ := H
  refine u_nA (q := 33) (ty := .int) rfl (by decide) w0217 h7e dX7_init_31 rfl ?_
  replace H := bs H; obtain ⟨h8, h8e, H⟩ := H
  refine u_pR (q := 36) (r := (RX7, TX7, 7)) h8e dX7_init_33 w0320 rfl (by decide) (Or.inr ⟨rfl, rfl, rfl⟩) rfl rfl ?_
  refine v_aload_n (q := 37) 0 dX7_init_36 rfl rfl rfl ?_
  refine v_sipush (v := 1020) (q := 40) dX7_init_37 (by decide) rfl ?_
  replace H := bs H; obtain ⟨h9, h9e, H⟩ := H
  refine u_nA (q := 42) (ty := .byte) rfl (by decide) w0216 h9e dX7_init_40 rfl ?_
  replace H := bs H; obtain ⟨h10, h10e, H⟩ := H
  refine u_pR (q := 45) (r := (RX7, TX7, 7)) h10e dX7_init_42 w0322 rfl (by decide) (Or.inr ⟨rfl, rfl, rfl⟩) rfl rfl ?_
  refine v_aload_n (q := 46) 0 dX7_init_45 rfl rfl rfl ?_
  refine v_sipush (v := 160) (q := 49) dX7_init_46 (by decide) rfl ?_
  replace H := bs H; obtain ⟨h11, h11e, H⟩ := H
  refine u_nA (q := 51) (ty := .int) rfl (by decide) w0217 h11e dX7_init_49 rfl ?_
  replace H := bs H; obtain ⟨h12, h12e, H⟩ := H
  refine u_pR (q := 54) (r := (RX7, TX7, 7)) h12e dX7_init_51 w0323 rfl (by decide) (Or.inr ⟨rfl, rfl, rfl⟩) rfl rfl ?_
  cases H
  exact v_return rfl dX7_init_54
def mX3_init : MI := (yX3_init, cX3_init, 1, none)
theorem oX3_init : mOK mX3_init 0 := ⟨by decide +kernel, by decide +kernel, by decide +kernel, by decide, w0278, w0143⟩
def fX3_init (h : Hp) (v0 : Nat) : Option (Hp) :=
(nA h .int (72 : Int32)).bind fun h1 =>
(pR h1 3 v0 0 (hN h)).bind fun h2 =>
(nA h2 .int (6 : Int32)).bind fun h3 =>
(pR h3 3 v0 1 (hN h2)).bind fun h4 =>
(nA h4 .int (16 : Int32)).bind fun h5 =>
(pR h5 3 v0 2 (hN h4)).bind fun h6 =>
(some (nw h6 (.inl 1))).bind fun h7 =>
(fX1_init h7 (hN h6)).bind fun x8 =>
(pR x8 3 v0 3 (hN h6)).bind fun h9 =>
(some (nw h9 (.inl 7))).bind fun h10 =>
(fX7_init h10 (hN h9)).bind fun x11 =>
(pR x11 3 v0 4 (hN h9)).bind fun h12 =>
(nA h12 .long (32 : Int32)).bind fun h13 =>
(pR h13 3 v0 7 (hN h12)).bind fun h14 =>
some h14
set_option maxRecDepth 20000 in
set_option maxHeartbeats 4000000 in
theorem sX3_init {Γ : Gm} {d : Nat} (hd : 2 ≤ d) {h : Hp} {v0 : Nat} {r : Hp} (H : fX3_init h v0 = some r) : V Γ d mX3_init 0 [(0, .ref v0)] [] h (none, r) := by
  unfold fX3_init at H
  refine v_aload_n (q := 1) 0 dX3_init_0 rfl rfl rfl ?_
  refine v_obj (q := 4) dX3_init_1 w0279 w0166 w0167 (Nat.le_of_ble_eq_true rfl) (Nat.lt_of_lt_of_le (by decide) hd) rfl ?_
  refine v_aload_n (q := 5) 0 dX3_init_4 rfl rfl rfl ?_
  refine v_bipush (v := 72) (q := 7) dX3_init_5 (by decide) rfl ?_
  replace H := bs H; obtain ⟨h1, h1e, H⟩ := H
  refine u_nA (q := 9) (ty := .int) rfl (by decide) w0217 h1e dX3_init_7 rfl ?_
  replace H := bs H; obtain ⟨h2, h2e, H⟩ := H
  refine u_pR (q := 12) (r := (RX3, TX3, 8)) h2e dX3_init_9 w0339 rfl (by decide) (Or.inr ⟨rfl, rfl, rfl⟩) rfl rfl ?_
  refine v_aload_n (q := 13) 0 dX3_init_12 rfl rfl rfl ?_
  refine v_bipush (v := 6) (q := 15) dX3_init_13 (by decide) rfl ?_
  replace H := bs H; obtain ⟨h3, h3e, H⟩ := H
  refine u_nA (q := 17) (ty := .int) rfl (by decide) w0217 h3e dX3_init_15 rfl ?_
  replace H := bs H; obtain ⟨h4, h4e, H⟩ := H
  refine u_pR (q := 20) (r := (RX3, TX3, 8)) h4e dX3_init_17 w0342 rfl (by decide) (Or.inr ⟨rfl, rfl, rfl⟩) rfl rfl ?_
  refine v_aload_n (q := 21) 0 dX3_init_20 rfl rfl rfl ?_
  refine v_bipush (v := 16) (q := 23) dX3_init_21 (by decide) rfl ?_
  replace H := bs H; obtain ⟨h5, h5e, H⟩ := H
  refine u_nA (q := 25) (ty := .int) rfl (by decide) w0217 h5e dX3_init_23 rfl ?_
  replace H := bs H; obtain ⟨h6, h6e, H⟩ := H
  refine u_pR (q := 28) (r := (RX3, TX3, 8)) h6e dX3_init_25 w0345 rfl (by decide) (Or.inr ⟨rfl, rfl, rfl⟩) rfl rfl ?_
  refine v_aload_n (q := 29) 0 dX3_init_28 rfl rfl rfl ?_
  replace H := bs H; obtain ⟨h7, h7e, H⟩ := H
  refine v_new (r := (RX1, TX1, 4)) (ci := 1) (q := 32) dX3_init_29 rfl w0280 w0281 w0144 rfl ?_
  rw [Option.some.inj h7e]
  refine v_dup (q := 33) dX3_init_32 rfl rfl ?_
  replace H := bs H; obtain ⟨x8, x8e, H⟩ := H
  refine u_callI (M' := mX1_init) (d' := 1) (As := []) (st := [.ref (hN h6), .ref v0]) (q := 36) oX1_init dX3_init_33 rfl rfl w0282 w0283 rfl (Nat.le_of_ble_eq_true rfl) (Nat.le_of_ble_eq_true rfl) (Nat.lt_of_lt_of_le (by decide) hd) rfl (sX1_init (Nat.le_refl _) x8e) rfl ?_
  replace H := bs H; obtain ⟨h9, h9e, H⟩ := H
  refine u_pR (q := 39) (r := (RX3, TX3, 8)) h9e dX3_init_36 w0348 rfl (by decide) (Or.inr ⟨rfl, rfl, rfl⟩) rfl rfl ?_
  refine v_aload_n (q := 40) 0 dX3_init_39 rfl rfl rfl ?_
  replace H := bs H; obtain ⟨h10, h10e, H⟩ := H
  refine v_new (r := (RX7, TX7, 7)) (ci := 7) (q := 43) dX3_init_40 rfl w0305 w0306 w0145 rfl ?_
  rw [Option.some.inj h10e]
  refine v_dup (q := 44) dX3_init_43 rfl rfl ?_
  replace H := bs H; obtain ⟨x11, x11e, H⟩ := H
  refine u_callI (M' := mX7_init) (d' := 1) (As := []) (st := [.ref (hN h9), .ref v0]) (q := 47) oX7_init dX3_init_44 rfl rfl w0307 w0308 rfl (Nat.le_of_ble_eq_true rfl) (Nat.le_of_ble_eq_true rfl) (Nat.lt_of_lt_of_le (by decide) hd) rfl (sX7_init (Nat.le_refl _) x11e) rfl ?_
  replace H := bs H; obtain ⟨h12, h12e, H⟩ := H
  refine u_pR (q := 50) (r := (RX3, TX3, 8)) h12e dX3_init_47 w0351 rfl (by decide) (Or.inr ⟨rfl, rfl, rfl⟩) rfl rfl ?_
  refine v_aload_n (q := 51) 0 dX3_init_50 rfl rfl rfl ?_
  refine v_bipush (v := 32) (q := 53) dX3_init_51 (by decide) rfl ?_
  replace H := bs H; obtain ⟨h13, h13e, H⟩ := H
  refine u_nA (q := 55) (ty := .long) rfl (by decide) w0376 h13e dX3_init_53 rfl ?_
  replace H := bs H; obtain ⟨h14, h14e, H⟩ := H
  refine u_pR (q := 58) (r := (RX3, TX3, 8)) h14e dX3_init_55 w0358 rfl (by decide) (Or.inl rfl) rfl rfl ?_
  cases H
  exact v_return rfl dX3_init_58
def mX2_act : MI := (yX2_act, cX2_act, 1, some (.object "LockWatch$Learnt"))
theorem oX2_act : mOK mX2_act 0 := ⟨by decide +kernel, by decide +kernel, by decide +kernel, by decide, w0746, w0142⟩
def jX2_act_45 (v0 : Nat) (h : Hp) : Option (Nat × Hp) :=
(gR h 2 v0 2).bind fun x12 =>
(gI h 2 v0 0).bind fun x13 =>
(lR h (.object RX3) x12 (x13 + (1 : Int32))).bind fun x14 =>
(gR h 2 v0 2).bind fun x15 =>
(gI h 2 v0 0).bind fun x16 =>
(lR h (.object RX3) x15 x16).bind fun x17 =>
(gO h 3 x14).bind fun _ =>
(fX3_copyFrom h x14 x17).bind fun x19 =>
(gI x19 2 v0 0).bind fun x20 =>
(pI x19 2 v0 0 (x20 + (1 : Int32))).bind fun h21 =>
(gI h21 2 v0 0).bind fun x22 =>
(pI h21 2 v0 1 x22).bind fun h23 =>
(gR h23 2 v0 2).bind fun x24 =>
(gI h23 2 v0 0).bind fun x25 =>
(lR h23 (.object RX3) x24 x25).bind fun x26 =>
some (x26, h23)
set_option maxRecDepth 20000 in
set_option maxHeartbeats 4000000 in
theorem sjX2_act_45 {Γ : Gm} {d : Nat} (hd : 3 ≤ d) {v0 : Nat} {h : Hp} {r : Nat × Hp} (H : jX2_act_45 v0 h = some r) : V Γ d mX2_act 45 [(0, .ref v0)] [] h (some (.ref r.1), r.2) := by
  unfold jX2_act_45 at H
  refine v_aload_n (q := 46) 0 dX2_act_45 rfl rfl rfl ?_
  replace H := bs H; obtain ⟨x12, x12e, H⟩ := H
  refine u_gR (q := 49) (r := (RX2, TX2, 3)) x12e dX2_act_46 w0381 rfl (by decide) rfl rfl ?_
  refine v_aload_n (q := 50) 0 dX2_act_49 rfl rfl rfl ?_
  replace H := bs H; obtain ⟨x13, x13e, H⟩ := H
  refine u_gI (q := 53) (r := (RX2, TX2, 3)) x13e dX2_act_50 w0377 rfl (by decide) rfl rfl ?_
  refine v_iconst (v := 1) (q := 54) dX2_act_53 (by decide) rfl ?_
  refine v_iadd (q := 55) dX2_act_54 rfl ?_
  replace H := bs H; obtain ⟨x14, x14e, H⟩ := H
  refine u_lR (q := 56) (ty := (.object RX3)) (by decide) rfl rfl x14e dX2_act_55 rfl ?_
  refine v_aload_n (q := 57) 0 dX2_act_56 rfl rfl rfl ?_
  replace H := bs H; obtain ⟨x15, x15e, H⟩ := H
  refine u_gR (q := 60) (r := (RX2, TX2, 3)) x15e dX2_act_57 w0381 rfl (by decide) rfl rfl ?_
  refine v_aload_n (q := 61) 0 dX2_act_60 rfl rfl rfl ?_
  replace H := bs H; obtain ⟨x16, x16e, H⟩ := H
  refine u_gI (q := 64) (r := (RX2, TX2, 3)) x16e dX2_act_61 w0377 rfl (by decide) rfl rfl ?_
  replace H := bs H; obtain ⟨x17, x17e, H⟩ := H
  refine u_lR (q := 65) (ty := (.object RX3)) (by decide) rfl rfl x17e dX2_act_64 rfl ?_
  replace H := bs H; obtain ⟨_, o18, H⟩ := H
  replace H := bs H; obtain ⟨x19, x19e, H⟩ := H
  refine u_callV0 (M' := mX3_copyFrom) (d' := 2) (rc := (RX3, TX3, 8)) (As := [.ref x17]) (st := []) (q := 68) oX3_copyFrom dX2_act_65 w0751 w0752 w0753 rfl rfl (gO_sp o18).1 (gO_sp o18).2 rfl (Nat.le_of_ble_eq_true rfl) (Nat.le_of_ble_eq_true rfl) (Nat.lt_of_lt_of_le (by decide) hd) rfl (sX3_copyFrom (Nat.le_refl _) x19e) rfl ?_
  refine v_aload_n (q := 69) 0 dX2_act_68 rfl rfl rfl ?_
  refine v_dup (q := 70) dX2_act_69 rfl rfl ?_
  replace H := bs H; obtain ⟨x20, x20e, H⟩ := H
  refine u_gI (q := 73) (r := (RX2, TX2, 3)) x20e dX2_act_70 w0377 rfl (by decide) rfl rfl ?_
  refine v_iconst (v := 1) (q := 74) dX2_act_73 (by decide) rfl ?_
  refine v_iadd (q := 75) dX2_act_74 rfl ?_
  replace H := bs H; obtain ⟨h21, h21e, H⟩ := H
  refine u_pI (q := 78) (r := (RX2, TX2, 3)) h21e dX2_act_75 w0377 rfl (by decide) (Or.inl rfl) rfl rfl ?_
  refine v_aload_n (q := 79) 0 dX2_act_78 rfl rfl rfl ?_
  refine v_aload_n (q := 80) 0 dX2_act_79 rfl rfl rfl ?_
  replace H := bs H; obtain ⟨x22, x22e, H⟩ := H
  refine u_gI (q := 83) (r := (RX2, TX2, 3)) x22e dX2_act_80 w0377 rfl (by decide) rfl rfl ?_
  replace H := bs H; obtain ⟨h23, h23e, H⟩ := H
  refine u_pI (q := 86) (r := (RX2, TX2, 3)) h23e dX2_act_83 w0379 rfl (by decide) (Or.inl rfl) rfl rfl ?_
  refine v_aload_n (q := 87) 0 dX2_act_86 rfl rfl rfl ?_
  replace H := bs H; obtain ⟨x24, x24e, H⟩ := H
  refine u_gR (q := 90) (r := (RX2, TX2, 3)) x24e dX2_act_87 w0381 rfl (by decide) rfl rfl ?_
  refine v_aload_n (q := 91) 0 dX2_act_90 rfl rfl rfl ?_
  replace H := bs H; obtain ⟨x25, x25e, H⟩ := H
  refine u_gI (q := 94) (r := (RX2, TX2, 3)) x25e dX2_act_91 w0377 rfl (by decide) rfl rfl ?_
  replace H := bs H; obtain ⟨x26, x26e, H⟩ := H
  refine u_lR (q := 95) (ty := (.object RX3)) (by decide) rfl rfl x26e dX2_act_94 rfl ?_
  cases H
  exact v_areturn rfl (by first | exact Or.inl ⟨_, rfl⟩ | exact Or.inr ⟨_, rfl⟩) dX2_act_95
def jX2_act_13 (v0 : Nat) (h : Hp) : Option (Nat × Hp) :=
(gR h 2 v0 2).bind fun x3 =>
(gI h 2 v0 0).bind fun x4 =>
(lQ h (.object RX3) x3 (x4 + (1 : Int32))).bind fun x5 =>
(match x5 with
| none => (
(gR h 2 v0 2).bind fun x7 =>
(gI h 2 v0 0).bind fun x8 =>
(some (nw h (.inl 3))).bind fun h9 =>
(fX3_init h9 (hN h)).bind fun x10 =>
(tR x10 x7 (x8 + (1 : Int32)) (hN h)).bind fun h11 =>
jX2_act_45 v0 h11)
| some _ => (
jX2_act_45 v0 h))
set_option maxRecDepth 20000 in
set_option maxHeartbeats 4000000 in
theorem sjX2_act_13 {Γ : Gm} {d : Nat} (hd : 3 ≤ d) {v0 : Nat} {h : Hp} {r : Nat × Hp} (H : jX2_act_13 v0 h = some r) : V Γ d mX2_act 13 [(0, .ref v0)] [] h (some (.ref r.1), r.2) := by
  unfold jX2_act_13 at H
  refine v_aload_n (q := 14) 0 dX2_act_13 rfl rfl rfl ?_
  replace H := bs H; obtain ⟨x3, x3e, H⟩ := H
  refine u_gR (q := 17) (r := (RX2, TX2, 3)) x3e dX2_act_14 w0381 rfl (by decide) rfl rfl ?_
  refine v_aload_n (q := 18) 0 dX2_act_17 rfl rfl rfl ?_
  replace H := bs H; obtain ⟨x4, x4e, H⟩ := H
  refine u_gI (q := 21) (r := (RX2, TX2, 3)) x4e dX2_act_18 w0377 rfl (by decide) rfl rfl ?_
  refine v_iconst (v := 1) (q := 22) dX2_act_21 (by decide) rfl ?_
  refine v_iadd (q := 23) dX2_act_22 rfl ?_
  replace H := bs H; obtain ⟨x5, x5e, H⟩ := H
  refine u_lQ (q := 24) (ty := (.object RX3)) (by decide) rfl rfl x5e dX2_act_23 rfl ?_
  rcases x5 with _ | x6
  · refine v_ifnonnullN (q := 27) dX2_act_24 rfl ?_
    refine v_aload_n (q := 28) 0 dX2_act_27 rfl rfl rfl ?_
    replace H := bs H; obtain ⟨x7, x7e, H⟩ := H
    refine u_gR (q := 31) (r := (RX2, TX2, 3)) x7e dX2_act_28 w0381 rfl (by decide) rfl rfl ?_
    refine v_aload_n (q := 32) 0 dX2_act_31 rfl rfl rfl ?_
    replace H := bs H; obtain ⟨x8, x8e, H⟩ := H
    refine u_gI (q := 35) (r := (RX2, TX2, 3)) x8e dX2_act_32 w0377 rfl (by decide) rfl rfl ?_
    refine v_iconst (v := 1) (q := 36) dX2_act_35 (by decide) rfl ?_
    refine v_iadd (q := 37) dX2_act_36 rfl ?_
    replace H := bs H; obtain ⟨h9, h9e, H⟩ := H
    refine v_new (r := (RX3, TX3, 8)) (ci := 3) (q := 40) dX2_act_37 rfl w0273 w0275 w0143 rfl ?_
    rw [Option.some.inj h9e]
    refine v_dup (q := 41) dX2_act_40 rfl rfl ?_
    replace H := bs H; obtain ⟨x10, x10e, H⟩ := H
    refine u_callI (M' := mX3_init) (d' := 2) (As := []) (st := [.ref (hN h), .int (x8 + (1 : Int32)), .ref x7]) (q := 44) oX3_init dX2_act_41 rfl rfl w0276 w0277 rfl (Nat.le_of_ble_eq_true rfl) (Nat.le_of_ble_eq_true rfl) (Nat.lt_of_lt_of_le (by decide) hd) rfl (sX3_init (Nat.le_refl _) x10e) rfl ?_
    replace H := bs H; obtain ⟨h11, h11e, H⟩ := H
    refine u_tR (q := 45) h11e dX2_act_44 rfl ?_
    exact V.sub [0] rfl (sjX2_act_45 hd H)
  · refine v_ifnonnull (q := 45) dX2_act_24 (by decide) ?_
    exact V.sub [0] rfl (sjX2_act_45 hd H)
def fX2_act (h : Hp) (v0 : Nat) : Option (Nat × Hp) :=
(gI h 2 v0 0).bind fun x1 =>
if x1 = (12 : Int32) then (
(gO h 2 v0).bind fun _ =>
(fX2_dropOldest h v0).bind fun x28 =>
jX2_act_13 v0 x28) else (
jX2_act_13 v0 h)
set_option maxRecDepth 20000 in
set_option maxHeartbeats 4000000 in
theorem sX2_act {Γ : Gm} {d : Nat} (hd : 3 ≤ d) {h : Hp} {v0 : Nat} {r : Nat × Hp} (H : fX2_act h v0 = some r) : V Γ d mX2_act 0 [(0, .ref v0)] [] h (some (.ref r.1), r.2) := by
  unfold fX2_act at H
  refine v_aload_n (q := 1) 0 dX2_act_0 rfl rfl rfl ?_
  replace H := bs H; obtain ⟨x1, x1e, H⟩ := H
  refine u_gI (q := 4) (r := (RX2, TX2, 3)) x1e dX2_act_1 w0377 rfl (by decide) rfl rfl ?_
  refine v_bipush (v := 12) (q := 6) dX2_act_4 (by decide) rfl ?_
  refine v_icmp_ne (q1 := 13) (q2 := 9) dX2_act_6 (by decide) rfl (fun c2 => ?_) (fun c2 => ?_)
  · replace H := ine c2 H
    exact V.sub [0] rfl (sjX2_act_13 hd H)
  · replace H := ip c2 H
    refine v_aload_n (q := 10) 0 dX2_act_9 rfl rfl rfl ?_
    replace H := bs H; obtain ⟨_, o27, H⟩ := H
    replace H := bs H; obtain ⟨x28, x28e, H⟩ := H
    refine u_callV0 (M' := mX2_dropOldest) (d' := 1) (rc := (RX2, TX2, 3)) (As := []) (st := []) (q := 13) oX2_dropOldest dX2_act_10 w0747 w0749 w0013 rfl rfl (gO_sp o27).1 (gO_sp o27).2 rfl (Nat.le_of_ble_eq_true rfl) (Nat.le_of_ble_eq_true rfl) (Nat.lt_of_lt_of_le (by decide) hd) rfl (sX2_dropOldest (Nat.le_refl _) x28e) rfl ?_
    exact V.sub [0] rfl (sjX2_act_13 hd H)

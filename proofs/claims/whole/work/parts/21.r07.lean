def mX12_would : MI := (yX12_would, cX12_would, 5, some .int)
theorem oX12_would : mOK mX12_would 2 := ⟨by decide +kernel, by decide +kernel, by decide +kernel, by decide, w1808, w0150⟩
def gjX12_would_17 (m : Mem) : Option (Int32 × Mem) :=
some (((-1 : Int32), m))
set_option maxRecDepth 20000 in
set_option maxHeartbeats 4000000 in
theorem sgjX12_would_17 {Γ : Gm} {d : Nat} (hd : 8 ≤ d) {T : Nat} {h : Hp} (rs : RS T h) {m : Mem} {r : Int32 × Mem} (H : gjX12_would_17 m = some r) : V Γ d mX12_would 17 [] [] (hm T h m) (some (.int r.1), (hm T h r.2)) := by
  unfold gjX12_would_17 at H
  refine v_iconst (v := -1) (q := 18) dX12_would_17 (by decide) rfl ?_
  cases H
  exact v_ireturn rfl dX12_would_18
def gjX12_would_99 (v3 : Int32) (y0 : Int32) (m : Mem) : Option (Int32 × Mem) :=
(some (y0 - v3)).bind fun x13 =>
(gX12_bringBack m).bind fun x14 =>
some (x13, x14)
set_option maxRecDepth 20000 in
set_option maxHeartbeats 4000000 in
theorem sgjX12_would_99 {Γ : Gm} {d : Nat} (hd : 8 ≤ d) {T : Nat} {h : Hp} (rs : RS T h) {v3 : Int32} {y0 : Int32} {m : Mem} {r : Int32 × Mem} (H : gjX12_would_99 v3 y0 m = some r) : V Γ d mX12_would 99 [(0, .ref T), (3, .int v3)] [.int y0] (hm T h m) (some (.int r.1), (hm T h r.2)) := by
  unfold gjX12_would_99 at H
  refine v_iload_n (q := 100) 1 dX12_would_99 rfl rfl rfl ?_
  refine v_isub (q := 101) dX12_would_100 rfl ?_
  replace H := bs H; obtain ⟨x13, x13e, H⟩ := H
  refine v_topi (Option.some.inj x13e) ?_
  refine v_istore (L' := [(4, .int x13), (0, .ref T), (3, .int v3)]) (q := 103) dX12_would_101 (by decide) rfl rfl ?_
  refine v_aload_n (q := 104) 1 dX12_would_103 rfl rfl rfl ?_
  replace H := bs H; obtain ⟨x14, x14e, H⟩ := H
  refine u_callV0 (M' := mX12_bringBack) (d' := 1) (rc := (RX12, TX12, 58)) (As := []) (st := []) (q := 107) oX12_bringBack dX12_would_104 w1817 w1819 w0104 rfl rfl (RS.rc rs).1 (RS.rc rs).2 rfl (Nat.le_of_ble_eq_true rfl) (Nat.le_of_ble_eq_true rfl) (Nat.lt_of_lt_of_le (by decide) hd) rfl (sgX12_bringBack (Nat.le_refl _) rs x14e) rfl ?_
  refine v_iload (q := 109) 0 dX12_would_107 rfl rfl ?_
  cases H
  exact v_ireturn rfl dX12_would_109
def gjX12_would_58 (v1 : Int32) (v2 : Int32) (y0 : Int32) (m : Mem) : Option (Int32 × Mem) :=
(gX12_goRun m v1).bind fun x9 =>
if v2 = 0 then (
(rd x9 1 9685 (272 : Int32)).bind fun x16 =>
gjX12_would_99 y0 x16 x9) else (
if v2 = (1 : Int32) then (
(gX12_edges x9).bind fun x15 =>
gjX12_would_99 y0 x15 x9) else (
(rd x9 1 9685 (1539 : Int32)).bind fun x12 =>
gjX12_would_99 y0 x12 x9))
set_option maxRecDepth 20000 in
set_option maxHeartbeats 4000000 in
theorem sgjX12_would_58 {Γ : Gm} {d : Nat} (hd : 8 ≤ d) {T : Nat} {h : Hp} (rs : RS T h) {v1 : Int32} {v2 : Int32} {y0 : Int32} {m : Mem} {r : Int32 × Mem} (H : gjX12_would_58 v1 v2 y0 m = some r) : V Γ d mX12_would 58 [(0, .ref T), (1, .int v1), (2, .int v2)] [.int y0] (hm T h m) (some (.int r.1), (hm T h r.2)) := by
  unfold gjX12_would_58 at H
  refine v_istore_n (L' := [(3, .int y0), (0, .ref T), (1, .int v1), (2, .int v2)]) (q := 59) dX12_would_58 rfl (by decide) rfl rfl ?_
  refine v_aload_n (q := 60) 1 dX12_would_59 rfl rfl rfl ?_
  refine v_iload_n (q := 61) 2 dX12_would_60 rfl rfl rfl ?_
  replace H := bs H; obtain ⟨x9, x9e, H⟩ := H
  refine u_callV0 (M' := mX12_goRun) (d' := 7) (rc := (RX12, TX12, 58)) (As := [.int v1]) (st := []) (q := 64) oX12_goRun dX12_would_61 w1638 w1640 w0073 rfl rfl (RS.rc rs).1 (RS.rc rs).2 rfl (Nat.le_of_ble_eq_true rfl) (Nat.le_of_ble_eq_true rfl) (Nat.lt_of_lt_of_le (by decide) hd) rfl (sgX12_goRun (Nat.le_refl _) rs x9e) rfl ?_
  refine v_iload_n (q := 65) 3 dX12_would_64 rfl rfl rfl ?_
  refine v_if_ne (q1 := 79) (q2 := 68) dX12_would_65 (by decide) rfl (fun c10 => ?_) (fun c10 => ?_)
  · replace H := ine c10 H
    refine v_iload_n (q := 80) 3 dX12_would_79 rfl rfl rfl ?_
    refine v_iconst (v := 1) (q := 81) dX12_would_80 (by decide) rfl ?_
    refine v_icmp_ne (q1 := 91) (q2 := 84) dX12_would_81 (by decide) rfl (fun c11 => ?_) (fun c11 => ?_)
    · replace H := ine c11 H
      refine v_aload_n (q := 92) 1 dX12_would_91 rfl rfl rfl ?_
      refine ur_arr (q := 95) rs rt0 dX12_would_92 w1356 (Nat.le_of_ble_eq_true rfl) rfl rfl ?_
      refine v_sipush (v := 1539) (q := 98) dX12_would_95 (by decide) rfl ?_
      replace H := bs H; obtain ⟨x12, x12e, H⟩ := H
      refine ur_rd (q := 99) rs rt0 x12e dX12_would_98 rfl ?_
      exact V.sub [1, 0] rfl (sgjX12_would_99 hd rs H)
    · replace H := ip c11 H
      refine v_aload_n (q := 85) 1 dX12_would_84 rfl rfl rfl ?_
      replace H := bs H; obtain ⟨x15, x15e, H⟩ := H
      refine u_callV1 (M' := mX12_edges) (d' := 1) (rc := (RX12, TX12, 58)) (As := []) (st := []) (q := 88) oX12_edges dX12_would_85 w1813 w1815 w0103 rfl rfl (RS.rc rs).1 (RS.rc rs).2 rfl (Nat.le_of_ble_eq_true rfl) (Nat.le_of_ble_eq_true rfl) (Nat.lt_of_lt_of_le (by decide) hd) rfl (sgX12_edges (Nat.le_refl _) rs x15e) rfl ?_
      refine v_goto (q := 99) dX12_would_88 (by decide) ?_
      exact V.sub [1, 0] rfl (sgjX12_would_99 hd rs H)
  · replace H := ip c10 H
    refine v_aload_n (q := 69) 1 dX12_would_68 rfl rfl rfl ?_
    refine ur_arr (q := 72) rs rt0 dX12_would_69 w1356 (Nat.le_of_ble_eq_true rfl) rfl rfl ?_
    refine v_sipush (v := 272) (q := 75) dX12_would_72 (by decide) rfl ?_
    replace H := bs H; obtain ⟨x16, x16e, H⟩ := H
    refine ur_rd (q := 76) rs rt0 x16e dX12_would_75 rfl ?_
    refine v_goto (q := 99) dX12_would_76 (by decide) ?_
    exact V.sub [1, 0] rfl (sgjX12_would_99 hd rs H)
def gX12_would (m : Mem) (v1 : Int32) (v2 : Int32) : Option (Int32 × Mem) :=
(gX12_isProgram m v1).bind fun x1 =>
if x1 = 0 then (
gjX12_would_17 m) else (
(gX12_isIn v2 (0 : Int32) (2 : Int32)).bind fun x3 =>
if x3 = 0 then (
gjX12_would_17 m) else (
(gX12_putAside m).bind fun x5 =>
if v2 = 0 then (
(rd x5 1 9685 (272 : Int32)).bind fun x18 =>
gjX12_would_58 v1 v2 x18 x5) else (
if v2 = (1 : Int32) then (
(gX12_edges x5).bind fun x17 =>
gjX12_would_58 v1 v2 x17 x5) else (
(rd x5 1 9685 (1539 : Int32)).bind fun x8 =>
gjX12_would_58 v1 v2 x8 x5))))
set_option maxRecDepth 20000 in
set_option maxHeartbeats 4000000 in
theorem sgX12_would {Γ : Gm} {d : Nat} (hd : 8 ≤ d) {T : Nat} {h : Hp} (rs : RS T h) {m : Mem} {v1 : Int32} {v2 : Int32} {r : Int32 × Mem} (H : gX12_would m v1 v2 = some r) : V Γ d mX12_would 0 [(0, .ref T), (1, .int v1), (2, .int v2)] [] (hm T h m) (some (.int r.1), (hm T h r.2)) := by
  unfold gX12_would at H
  refine v_aload_n (q := 1) 0 dX12_would_0 rfl rfl rfl ?_
  refine v_iload_n (q := 2) 1 dX12_would_1 rfl rfl rfl ?_
  replace H := bs H; obtain ⟨x1, x1e, H⟩ := H
  refine u_callV1 (M' := mX12_isProgram) (d' := 2) (rc := (RX12, TX12, 58)) (As := [.int v1]) (st := []) (q := 5) oX12_isProgram dX12_would_2 w1629 w1631 w0071 rfl rfl (RS.rc rs).1 (RS.rc rs).2 rfl (Nat.le_of_ble_eq_true rfl) (Nat.le_of_ble_eq_true rfl) (Nat.lt_of_lt_of_le (by decide) hd) rfl (sgX12_isProgram (Nat.le_refl _) rs x1e) rfl ?_
  refine v_if_eq (q1 := 17) (q2 := 8) dX12_would_5 (by decide) rfl (fun c2 => ?_) (fun c2 => ?_)
  · replace H := ip c2 H
    exact V.sub [] rfl (sgjX12_would_17 hd rs H)
  · replace H := ine c2 H
    refine v_iload_n (q := 9) 2 dX12_would_8 rfl rfl rfl ?_
    refine v_iconst (v := 0) (q := 10) dX12_would_9 (by decide) rfl ?_
    refine v_iconst (v := 2) (q := 11) dX12_would_10 (by decide) rfl ?_
    replace H := bs H; obtain ⟨x3, x3e, H⟩ := H
    refine u_callS1 (M' := mX12_isIn) (d' := 1) (As := [.int v2, .int (0 : Int32), .int (2 : Int32)]) (st := []) (q := 14) oX12_isIn dX12_would_11 w1618 w1619 rfl (Nat.le_of_ble_eq_true rfl) (Nat.le_of_ble_eq_true rfl) (Nat.lt_of_lt_of_le (by decide) hd) rfl (sgX12_isIn (Nat.le_refl _) x3e) rfl ?_
    refine v_if_ne (q1 := 19) (q2 := 17) dX12_would_14 (by decide) rfl (fun c4 => ?_) (fun c4 => ?_)
    · replace H := ine c4 H
      refine v_aload_n (q := 20) 0 dX12_would_19 rfl rfl rfl ?_
      replace H := bs H; obtain ⟨x5, x5e, H⟩ := H
      refine u_callV0 (M' := mX12_putAside) (d' := 1) (rc := (RX12, TX12, 58)) (As := []) (st := []) (q := 23) oX12_putAside dX12_would_20 w1809 w1811 w0102 rfl rfl (RS.rc rs).1 (RS.rc rs).2 rfl (Nat.le_of_ble_eq_true rfl) (Nat.le_of_ble_eq_true rfl) (Nat.lt_of_lt_of_le (by decide) hd) rfl (sgX12_putAside (Nat.le_refl _) rs x5e) rfl ?_
      refine v_iload_n (q := 24) 2 dX12_would_23 rfl rfl rfl ?_
      refine v_if_ne (q1 := 38) (q2 := 27) dX12_would_24 (by decide) rfl (fun c6 => ?_) (fun c6 => ?_)
      · replace H := ine c6 H
        refine v_iload_n (q := 39) 2 dX12_would_38 rfl rfl rfl ?_
        refine v_iconst (v := 1) (q := 40) dX12_would_39 (by decide) rfl ?_
        refine v_icmp_ne (q1 := 50) (q2 := 43) dX12_would_40 (by decide) rfl (fun c7 => ?_) (fun c7 => ?_)
        · replace H := ine c7 H
          refine v_aload_n (q := 51) 0 dX12_would_50 rfl rfl rfl ?_
          refine ur_arr (q := 54) rs rt0 dX12_would_51 w1356 (Nat.le_of_ble_eq_true rfl) rfl rfl ?_
          refine v_sipush (v := 1539) (q := 57) dX12_would_54 (by decide) rfl ?_
          replace H := bs H; obtain ⟨x8, x8e, H⟩ := H
          refine ur_rd (q := 58) rs rt0 x8e dX12_would_57 rfl ?_
          exact V.sub [0, 1, 2] rfl (sgjX12_would_58 hd rs H)
        · replace H := ip c7 H
          refine v_aload_n (q := 44) 0 dX12_would_43 rfl rfl rfl ?_
          replace H := bs H; obtain ⟨x17, x17e, H⟩ := H
          refine u_callV1 (M' := mX12_edges) (d' := 1) (rc := (RX12, TX12, 58)) (As := []) (st := []) (q := 47) oX12_edges dX12_would_44 w1813 w1815 w0103 rfl rfl (RS.rc rs).1 (RS.rc rs).2 rfl (Nat.le_of_ble_eq_true rfl) (Nat.le_of_ble_eq_true rfl) (Nat.lt_of_lt_of_le (by decide) hd) rfl (sgX12_edges (Nat.le_refl _) rs x17e) rfl ?_
          refine v_goto (q := 58) dX12_would_47 (by decide) ?_
          exact V.sub [0, 1, 2] rfl (sgjX12_would_58 hd rs H)
      · replace H := ip c6 H
        refine v_aload_n (q := 28) 0 dX12_would_27 rfl rfl rfl ?_
        refine ur_arr (q := 31) rs rt0 dX12_would_28 w1356 (Nat.le_of_ble_eq_true rfl) rfl rfl ?_
        refine v_sipush (v := 272) (q := 34) dX12_would_31 (by decide) rfl ?_
        replace H := bs H; obtain ⟨x18, x18e, H⟩ := H
        refine ur_rd (q := 35) rs rt0 x18e dX12_would_34 rfl ?_
        refine v_goto (q := 58) dX12_would_35 (by decide) ?_
        exact V.sub [0, 1, 2] rfl (sgjX12_would_58 hd rs H)
    · replace H := ip c4 H
      exact V.sub [] rfl (sgjX12_would_17 hd rs H)

def mX12_readLock : MI := (yX12_readLock, cX12_readLock, 3, none)
theorem oX12_readLock : mOK mX12_readLock 1 := ⟨by decide +kernel, by decide +kernel, by decide +kernel, by decide, w1601, w0150⟩
def gjX12_readLock_60 (v1 : Int32) (m : Mem) : Option (Mem) :=
(gX12_oldName m (0 : Int32)).bind fun x10 =>
if (x10.2 0 17) ≤ 0 then (
(rd x10.2 3 2 v1).bind fun x12 =>
(wr x10.2 5 20 (((10 : Int32) * v1) + x12) x10.1).bind fun m13 =>
(rd m13 3 2 v1).bind fun x14 =>
(wr m13 3 2 v1 (x14 + (1 : Int32))).bind fun m15 =>
some m15) else (
some x10.2)
set_option maxRecDepth 20000 in
set_option maxHeartbeats 4000000 in
theorem sgjX12_readLock_60 {Γ : Gm} {d : Nat} (hd : 5 ≤ d) {T : Nat} {h : Hp} (rs : RS T h) {v1 : Int32} {m : Mem} {r : Mem} (H : gjX12_readLock_60 v1 m = some r) : V Γ d mX12_readLock 60 [(0, .ref T), (1, .int v1)] [] (hm T h m) (none, (hm T h r)) := by
  unfold gjX12_readLock_60 at H
  refine v_aload_n (q := 61) 0 dX12_readLock_60 rfl rfl rfl ?_
  refine v_iconst (v := 0) (q := 62) dX12_readLock_61 (by decide) rfl ?_
  replace H := bs H; obtain ⟨x10, x10e, H⟩ := H
  refine u_callV1 (M' := mX12_oldName) (d' := 4) (rc := (RX12, TX12, 58)) (As := [.int (0 : Int32)]) (st := []) (q := 65) oX12_oldName dX12_readLock_62 w1602 w1604 w0067 rfl rfl (RS.rc rs).1 (RS.rc rs).2 rfl (Nat.le_of_ble_eq_true rfl) (Nat.le_of_ble_eq_true rfl) (Nat.lt_of_lt_of_le (by decide) hd) rfl (sgX12_oldName (Nat.le_refl _) rs x10e) rfl ?_
  refine v_istore_n (L' := [(2, .int x10.1), (0, .ref T), (1, .int v1)]) (q := 66) dX12_readLock_65 rfl (by decide) rfl rfl ?_
  refine v_aload_n (q := 67) 1 dX12_readLock_66 rfl rfl rfl ?_
  refine ur_gI (q := 70) (x := 0) (k := 17) rs dX12_readLock_67 w1373 (Nat.le_of_ble_eq_true rfl) rfl rfl ?_
  refine v_if_le (q1 := 74) (q2 := 73) dX12_readLock_70 (by decide) rfl (fun c11 => ?_) (fun c11 => ?_)
  · replace H := ip c11 H
    refine v_aload_n (q := 75) 1 dX12_readLock_74 rfl rfl rfl ?_
    refine ur_arr (q := 78) rs rt4 dX12_readLock_75 w1360 (Nat.le_of_ble_eq_true rfl) rfl rfl ?_
    refine v_bipush (v := 10) (q := 80) dX12_readLock_78 (by decide) rfl ?_
    refine v_iload_n (q := 81) 2 dX12_readLock_80 rfl rfl rfl ?_
    refine v_imul (q := 82) dX12_readLock_81 rfl ?_
    refine v_aload_n (q := 83) 1 dX12_readLock_82 rfl rfl rfl ?_
    refine ur_arr (q := 86) rs rt2 dX12_readLock_83 w1358 (Nat.le_of_ble_eq_true rfl) rfl rfl ?_
    refine v_iload_n (q := 87) 2 dX12_readLock_86 rfl rfl rfl ?_
    replace H := bs H; obtain ⟨x12, x12e, H⟩ := H
    refine ur_rd (q := 88) rs rt2 x12e dX12_readLock_87 rfl ?_
    refine v_iadd (q := 89) dX12_readLock_88 rfl ?_
    refine v_iload_n (q := 90) 0 dX12_readLock_89 rfl rfl rfl ?_
    replace H := bs H; obtain ⟨m13, m13e, H⟩ := H
    refine ur_wr (q := 91) rs rt4 m13e dX12_readLock_90 rfl ?_
    refine v_aload_n (q := 92) 1 dX12_readLock_91 rfl rfl rfl ?_
    refine ur_arr (q := 95) rs rt2 dX12_readLock_92 w1358 (Nat.le_of_ble_eq_true rfl) rfl rfl ?_
    refine v_iload_n (q := 96) 2 dX12_readLock_95 rfl rfl rfl ?_
    refine v_dup2 (q := 97) dX12_readLock_96 rfl rfl rfl ?_
    replace H := bs H; obtain ⟨x14, x14e, H⟩ := H
    refine ur_rd (q := 98) rs rt2 x14e dX12_readLock_97 rfl ?_
    refine v_iconst (v := 1) (q := 99) dX12_readLock_98 (by decide) rfl ?_
    refine v_iadd (q := 100) dX12_readLock_99 rfl ?_
    replace H := bs H; obtain ⟨m15, m15e, H⟩ := H
    refine ur_wr (q := 101) rs rt2 m15e dX12_readLock_100 rfl ?_
    cases H
    exact v_return rfl dX12_readLock_101
  · replace H := ine c11 H
    cases H
    exact v_return rfl dX12_readLock_73
def gjX12_readLock_16 (v1 : Int32) (m : Mem) : Option (Mem) :=
if (m 0 17) ≤ 0 then (
(gX12_scan m).bind fun x4 =>
(rd x4 3 2 v1).bind fun x5 =>
(gX12_newName x4 (1 : Int32) x5).bind fun x6 =>
(gX12_isWord x6 (11 : Int32)).bind fun x7 =>
if x7 = 0 then (
(gX12_fail x6 (1 : Int32)).bind fun x9 =>
gjX12_readLock_60 v1 x9) else (
(gX12_scan x6).bind fun x16 =>
gjX12_readLock_60 v1 x16)) else (
some m)
set_option maxRecDepth 20000 in
set_option maxHeartbeats 4000000 in
theorem sgjX12_readLock_16 {Γ : Gm} {d : Nat} (hd : 5 ≤ d) {T : Nat} {h : Hp} (rs : RS T h) {v1 : Int32} {m : Mem} {r : Mem} (H : gjX12_readLock_16 v1 m = some r) : V Γ d mX12_readLock 16 [(0, .ref T), (1, .int v1)] [] (hm T h m) (none, (hm T h r)) := by
  unfold gjX12_readLock_16 at H
  refine v_aload_n (q := 17) 0 dX12_readLock_16 rfl rfl rfl ?_
  refine ur_gI (q := 20) (x := 0) (k := 17) rs dX12_readLock_17 w1373 (Nat.le_of_ble_eq_true rfl) rfl rfl ?_
  refine v_if_le (q1 := 24) (q2 := 23) dX12_readLock_20 (by decide) rfl (fun c3 => ?_) (fun c3 => ?_)
  · replace H := ip c3 H
    refine v_aload_n (q := 25) 0 dX12_readLock_24 rfl rfl rfl ?_
    replace H := bs H; obtain ⟨x4, x4e, H⟩ := H
    refine u_callV0 (M' := mX12_scan) (d' := 3) (rc := (RX12, TX12, 58)) (As := []) (st := []) (q := 28) oX12_scan dX12_readLock_25 w1547 w1549 w0054 rfl rfl (RS.rc rs).1 (RS.rc rs).2 rfl (Nat.le_of_ble_eq_true rfl) (Nat.le_of_ble_eq_true rfl) (Nat.lt_of_lt_of_le (by decide) hd) rfl (sgX12_scan (Nat.le_refl _) rs x4e) rfl ?_
    refine v_aload_n (q := 29) 0 dX12_readLock_28 rfl rfl rfl ?_
    refine v_iconst (v := 1) (q := 30) dX12_readLock_29 (by decide) rfl ?_
    refine v_aload_n (q := 31) 0 dX12_readLock_30 rfl rfl rfl ?_
    refine ur_arr (q := 34) rs rt2 dX12_readLock_31 w1358 (Nat.le_of_ble_eq_true rfl) rfl rfl ?_
    refine v_iload_n (q := 35) 1 dX12_readLock_34 rfl rfl rfl ?_
    replace H := bs H; obtain ⟨x5, x5e, H⟩ := H
    refine ur_rd (q := 36) rs rt2 x5e dX12_readLock_35 rfl ?_
    replace H := bs H; obtain ⟨x6, x6e, H⟩ := H
    refine u_callV0 (M' := mX12_newName) (d' := 4) (rc := (RX12, TX12, 58)) (As := [.int (1 : Int32), .int x5]) (st := []) (q := 39) oX12_newName dX12_readLock_36 w1582 w1584 w0062 rfl rfl (RS.rc rs).1 (RS.rc rs).2 rfl (Nat.le_of_ble_eq_true rfl) (Nat.le_of_ble_eq_true rfl) (Nat.lt_of_lt_of_le (by decide) hd) rfl (sgX12_newName (Nat.le_refl _) rs x6e) rfl ?_
    refine v_aload_n (q := 40) 0 dX12_readLock_39 rfl rfl rfl ?_
    refine v_bipush (v := 11) (q := 42) dX12_readLock_40 (by decide) rfl ?_
    replace H := bs H; obtain ⟨x7, x7e, H⟩ := H
    refine u_callV1 (M' := mX12_isWord) (d' := 1) (rc := (RX12, TX12, 58)) (As := [.int (11 : Int32)]) (st := []) (q := 45) oX12_isWord dX12_readLock_42 w1574 w1576 w0060 rfl rfl (RS.rc rs).1 (RS.rc rs).2 rfl (Nat.le_of_ble_eq_true rfl) (Nat.le_of_ble_eq_true rfl) (Nat.lt_of_lt_of_le (by decide) hd) rfl (sgX12_isWord (Nat.le_refl _) rs x7e) rfl ?_
    refine v_if_eq (q1 := 55) (q2 := 48) dX12_readLock_45 (by decide) rfl (fun c8 => ?_) (fun c8 => ?_)
    · replace H := ip c8 H
      refine v_aload_n (q := 56) 0 dX12_readLock_55 rfl rfl rfl ?_
      refine v_iconst (v := 1) (q := 57) dX12_readLock_56 (by decide) rfl ?_
      replace H := bs H; obtain ⟨x9, x9e, H⟩ := H
      refine u_callV0 (M' := mX12_fail) (d' := 1) (rc := (RX12, TX12, 58)) (As := [.int (1 : Int32)]) (st := []) (q := 60) oX12_fail dX12_readLock_57 w1578 w1580 w0061 rfl rfl (RS.rc rs).1 (RS.rc rs).2 rfl (Nat.le_of_ble_eq_true rfl) (Nat.le_of_ble_eq_true rfl) (Nat.lt_of_lt_of_le (by decide) hd) rfl (sgX12_fail (Nat.le_refl _) rs x9e) rfl ?_
      exact V.sub [0, 1] rfl (sgjX12_readLock_60 hd rs H)
    · replace H := ine c8 H
      refine v_aload_n (q := 49) 0 dX12_readLock_48 rfl rfl rfl ?_
      replace H := bs H; obtain ⟨x16, x16e, H⟩ := H
      refine u_callV0 (M' := mX12_scan) (d' := 3) (rc := (RX12, TX12, 58)) (As := []) (st := []) (q := 52) oX12_scan dX12_readLock_49 w1547 w1549 w0054 rfl rfl (RS.rc rs).1 (RS.rc rs).2 rfl (Nat.le_of_ble_eq_true rfl) (Nat.le_of_ble_eq_true rfl) (Nat.lt_of_lt_of_le (by decide) hd) rfl (sgX12_scan (Nat.le_refl _) rs x16e) rfl ?_
      refine v_goto (q := 60) dX12_readLock_52 (by decide) ?_
      exact V.sub [0, 1] rfl (sgjX12_readLock_60 hd rs H)
  · replace H := ine c3 H
    cases H
    exact v_return rfl dX12_readLock_23
def gX12_readLock (m : Mem) (v1 : Int32) : Option (Mem) :=
(rd m 3 2 v1).bind fun x1 =>
if x1 = (10 : Int32) then (
(gX12_fail m (4 : Int32)).bind fun x17 =>
gjX12_readLock_16 v1 x17) else (
gjX12_readLock_16 v1 m)
set_option maxRecDepth 20000 in
set_option maxHeartbeats 4000000 in
theorem sgX12_readLock {Γ : Gm} {d : Nat} (hd : 5 ≤ d) {T : Nat} {h : Hp} (rs : RS T h) {m : Mem} {v1 : Int32} {r : Mem} (H : gX12_readLock m v1 = some r) : V Γ d mX12_readLock 0 [(0, .ref T), (1, .int v1)] [] (hm T h m) (none, (hm T h r)) := by
  unfold gX12_readLock at H
  refine v_aload_n (q := 1) 0 dX12_readLock_0 rfl rfl rfl ?_
  refine ur_arr (q := 4) rs rt2 dX12_readLock_1 w1358 (Nat.le_of_ble_eq_true rfl) rfl rfl ?_
  refine v_iload_n (q := 5) 1 dX12_readLock_4 rfl rfl rfl ?_
  replace H := bs H; obtain ⟨x1, x1e, H⟩ := H
  refine ur_rd (q := 6) rs rt2 x1e dX12_readLock_5 rfl ?_
  refine v_bipush (v := 10) (q := 8) dX12_readLock_6 (by decide) rfl ?_
  refine v_icmp_ne (q1 := 16) (q2 := 11) dX12_readLock_8 (by decide) rfl (fun c2 => ?_) (fun c2 => ?_)
  · replace H := ine c2 H
    exact V.sub [0, 1] rfl (sgjX12_readLock_16 hd rs H)
  · replace H := ip c2 H
    refine v_aload_n (q := 12) 0 dX12_readLock_11 rfl rfl rfl ?_
    refine v_iconst (v := 4) (q := 13) dX12_readLock_12 (by decide) rfl ?_
    replace H := bs H; obtain ⟨x17, x17e, H⟩ := H
    refine u_callV0 (M' := mX12_fail) (d' := 1) (rc := (RX12, TX12, 58)) (As := [.int (4 : Int32)]) (st := []) (q := 16) oX12_fail dX12_readLock_13 w1578 w1580 w0061 rfl rfl (RS.rc rs).1 (RS.rc rs).2 rfl (Nat.le_of_ble_eq_true rfl) (Nat.le_of_ble_eq_true rfl) (Nat.lt_of_lt_of_le (by decide) hd) rfl (sgX12_fail (Nat.le_refl _) rs x17e) rfl ?_
    exact V.sub [0, 1] rfl (sgjX12_readLock_16 hd rs H)
def mX12_readStep : MI := (yX12_readStep, cX12_readStep, 4, none)
theorem oX12_readStep : mOK mX12_readStep 1 := ⟨by decide +kernel, by decide +kernel, by decide +kernel, by decide, w1617, w0150⟩
def gjX12_readStep_117 (v1 : Int32) (m : Mem) : Option (Mem) :=
(rd m 7 12 v1).bind fun x13 =>
(wr m 7 12 v1 (x13 + (1 : Int32))).bind fun m14 =>
some m14
set_option maxRecDepth 20000 in
set_option maxHeartbeats 4000000 in
theorem sgjX12_readStep_117 {Γ : Gm} {d : Nat} (hd : 5 ≤ d) {T : Nat} {h : Hp} (rs : RS T h) {v1 : Int32} {m : Mem} {r : Mem} (H : gjX12_readStep_117 v1 m = some r) : V Γ d mX12_readStep 117 [(0, .ref T), (1, .int v1)] [] (hm T h m) (none, (hm T h r)) := by
  unfold gjX12_readStep_117 at H
  refine v_aload_n (q := 118) 0 dX12_readStep_117 rfl rfl rfl ?_
  refine ur_arr (q := 121) rs rt6 dX12_readStep_118 w1362 (Nat.le_of_ble_eq_true rfl) rfl rfl ?_
  refine v_iload_n (q := 122) 1 dX12_readStep_121 rfl rfl rfl ?_
  refine v_dup2 (q := 123) dX12_readStep_122 rfl rfl rfl ?_
  replace H := bs H; obtain ⟨x13, x13e, H⟩ := H
  refine ur_rd (q := 124) rs rt6 x13e dX12_readStep_123 rfl ?_
  refine v_iconst (v := 1) (q := 125) dX12_readStep_124 (by decide) rfl ?_
  refine v_iadd (q := 126) dX12_readStep_125 rfl ?_
  replace H := bs H; obtain ⟨m14, m14e, H⟩ := H
  refine ur_wr (q := 127) rs rt6 m14e dX12_readStep_126 rfl ?_
  cases H
  exact v_return rfl dX12_readStep_127
def gjX12_readStep_55 (v1 : Int32) (m : Mem) : Option (Mem) :=
if (m 0 17) ≤ 0 then (
(rd m 7 12 v1).bind fun x6 =>
(some (((12 : Int32) * v1) + x6)).bind fun x7 =>
(wr m 8 144 x7 (m 0 16)).bind fun m8 =>
(wr m8 9 144 x7 (-1 : Int32)).bind fun m9 =>
(gX12_scan m9).bind fun x10 =>
(rd x10 8 144 x7).bind fun x11 =>
if (4 : Int32) < x11 then (
gjX12_readStep_117 v1 x10) else (
(gX12_oldName x10 (1 : Int32)).bind fun x15 =>
(wr x15.2 9 144 x7 x15.1).bind fun m16 =>
gjX12_readStep_117 v1 m16)) else (
some m)
set_option maxRecDepth 20000 in
set_option maxHeartbeats 4000000 in
theorem sgjX12_readStep_55 {Γ : Gm} {d : Nat} (hd : 5 ≤ d) {T : Nat} {h : Hp} (rs : RS T h) {v1 : Int32} {m : Mem} {r : Mem} (H : gjX12_readStep_55 v1 m = some r) : V Γ d mX12_readStep 55 [(0, .ref T), (1, .int v1)] [] (hm T h m) (none, (hm T h r)) := by
  unfold gjX12_readStep_55 at H
  refine v_aload_n (q := 56) 0 dX12_readStep_55 rfl rfl rfl ?_
  refine ur_gI (q := 59) (x := 0) (k := 17) rs dX12_readStep_56 w1373 (Nat.le_of_ble_eq_true rfl) rfl rfl ?_
  refine v_if_le (q1 := 63) (q2 := 62) dX12_readStep_59 (by decide) rfl (fun c5 => ?_) (fun c5 => ?_)
  · replace H := ip c5 H
    refine v_bipush (v := 12) (q := 65) dX12_readStep_63 (by decide) rfl ?_
    refine v_iload_n (q := 66) 1 dX12_readStep_65 rfl rfl rfl ?_
    refine v_imul (q := 67) dX12_readStep_66 rfl ?_
    refine v_aload_n (q := 68) 0 dX12_readStep_67 rfl rfl rfl ?_
    refine ur_arr (q := 71) rs rt6 dX12_readStep_68 w1362 (Nat.le_of_ble_eq_true rfl) rfl rfl ?_
    refine v_iload_n (q := 72) 1 dX12_readStep_71 rfl rfl rfl ?_
    replace H := bs H; obtain ⟨x6, x6e, H⟩ := H
    refine ur_rd (q := 73) rs rt6 x6e dX12_readStep_72 rfl ?_
    refine v_iadd (q := 74) dX12_readStep_73 rfl ?_
    replace H := bs H; obtain ⟨x7, x7e, H⟩ := H
    refine v_topi (Option.some.inj x7e) ?_
    refine v_istore_n (L' := [(3, .int x7), (0, .ref T), (1, .int v1)]) (q := 75) dX12_readStep_74 rfl (by decide) rfl rfl ?_
    refine v_aload_n (q := 76) 1 dX12_readStep_75 rfl rfl rfl ?_
    refine ur_arr (q := 79) rs rt7 dX12_readStep_76 w1363 (Nat.le_of_ble_eq_true rfl) rfl rfl ?_
    refine v_iload_n (q := 80) 0 dX12_readStep_79 rfl rfl rfl ?_
    refine v_aload_n (q := 81) 1 dX12_readStep_80 rfl rfl rfl ?_
    refine ur_gI (q := 84) (x := 0) (k := 16) rs dX12_readStep_81 w1372 (Nat.le_of_ble_eq_true rfl) rfl rfl ?_
    replace H := bs H; obtain ⟨m8, m8e, H⟩ := H
    refine ur_wr (q := 85) rs rt7 m8e dX12_readStep_84 rfl ?_
    refine v_aload_n (q := 86) 1 dX12_readStep_85 rfl rfl rfl ?_
    refine ur_arr (q := 89) rs rt8 dX12_readStep_86 w1364 (Nat.le_of_ble_eq_true rfl) rfl rfl ?_
    refine v_iload_n (q := 90) 0 dX12_readStep_89 rfl rfl rfl ?_
    refine v_iconst (v := -1) (q := 91) dX12_readStep_90 (by decide) rfl ?_
    replace H := bs H; obtain ⟨m9, m9e, H⟩ := H
    refine ur_wr (q := 92) rs rt8 m9e dX12_readStep_91 rfl ?_
    refine v_aload_n (q := 93) 1 dX12_readStep_92 rfl rfl rfl ?_
    replace H := bs H; obtain ⟨x10, x10e, H⟩ := H
    refine u_callV0 (M' := mX12_scan) (d' := 3) (rc := (RX12, TX12, 58)) (As := []) (st := []) (q := 96) oX12_scan dX12_readStep_93 w1547 w1549 w0054 rfl rfl (RS.rc rs).1 (RS.rc rs).2 rfl (Nat.le_of_ble_eq_true rfl) (Nat.le_of_ble_eq_true rfl) (Nat.lt_of_lt_of_le (by decide) hd) rfl (sgX12_scan (Nat.le_refl _) rs x10e) rfl ?_
    refine v_aload_n (q := 97) 1 dX12_readStep_96 rfl rfl rfl ?_
    refine ur_arr (q := 100) rs rt7 dX12_readStep_97 w1363 (Nat.le_of_ble_eq_true rfl) rfl rfl ?_
    refine v_iload_n (q := 101) 0 dX12_readStep_100 rfl rfl rfl ?_
    replace H := bs H; obtain ⟨x11, x11e, H⟩ := H
    refine ur_rd (q := 102) rs rt7 x11e dX12_readStep_101 rfl ?_
    refine v_iconst (v := 4) (q := 103) dX12_readStep_102 (by decide) rfl ?_
    refine v_icmp_gt (q1 := 117) (q2 := 106) dX12_readStep_103 (by decide) rfl (fun c12 => ?_) (fun c12 => ?_)
    · replace H := ip c12 H
      exact V.sub [1, 2] rfl (sgjX12_readStep_117 hd rs H)
    · replace H := ine c12 H
      refine v_aload_n (q := 107) 1 dX12_readStep_106 rfl rfl rfl ?_
      refine ur_arr (q := 110) rs rt8 dX12_readStep_107 w1364 (Nat.le_of_ble_eq_true rfl) rfl rfl ?_
      refine v_iload_n (q := 111) 0 dX12_readStep_110 rfl rfl rfl ?_
      refine v_aload_n (q := 112) 1 dX12_readStep_111 rfl rfl rfl ?_
      refine v_iconst (v := 1) (q := 113) dX12_readStep_112 (by decide) rfl ?_
      replace H := bs H; obtain ⟨x15, x15e, H⟩ := H
      refine u_callV1 (M' := mX12_oldName) (d' := 4) (rc := (RX12, TX12, 58)) (As := [.int (1 : Int32)]) (st := [.int x7, .ref (T + 9)]) (q := 116) oX12_oldName dX12_readStep_113 w1602 w1604 w0067 rfl rfl (RS.rc rs).1 (RS.rc rs).2 rfl (Nat.le_of_ble_eq_true rfl) (Nat.le_of_ble_eq_true rfl) (Nat.lt_of_lt_of_le (by decide) hd) rfl (sgX12_oldName (Nat.le_refl _) rs x15e) rfl ?_
      replace H := bs H; obtain ⟨m16, m16e, H⟩ := H
      refine ur_wr (q := 117) rs rt8 m16e dX12_readStep_116 rfl ?_
      exact V.sub [1, 2] rfl (sgjX12_readStep_117 hd rs H)
  · replace H := ine c5 H
    cases H
    exact v_return rfl dX12_readStep_62
def gjX12_readStep_26 (v1 : Int32) (y0 : Int32) (m : Mem) : Option (Mem) :=
if y0 = 0 then (
(gX12_fail m (1 : Int32)).bind fun x18 =>
gjX12_readStep_55 v1 x18) else (
(rd m 7 12 v1).bind fun x3 =>
if x3 = (12 : Int32) then (
(gX12_fail m (4 : Int32)).bind fun x17 =>
gjX12_readStep_55 v1 x17) else (
gjX12_readStep_55 v1 m))
set_option maxRecDepth 20000 in
set_option maxHeartbeats 4000000 in
theorem sgjX12_readStep_26 {Γ : Gm} {d : Nat} (hd : 5 ≤ d) {T : Nat} {h : Hp} (rs : RS T h) {v1 : Int32} {y0 : Int32} {m : Mem} {r : Mem} (H : gjX12_readStep_26 v1 y0 m = some r) : V Γ d mX12_readStep 26 [(0, .ref T), (1, .int v1)] [.int y0] (hm T h m) (none, (hm T h r)) := by
  unfold gjX12_readStep_26 at H
  refine v_istore_n (L' := [(2, .int y0), (0, .ref T), (1, .int v1)]) (q := 27) dX12_readStep_26 rfl (by decide) rfl rfl ?_
  refine v_iload_n (q := 28) 0 dX12_readStep_27 rfl rfl rfl ?_
  refine v_if_ne (q1 := 39) (q2 := 31) dX12_readStep_28 (by decide) rfl (fun c2 => ?_) (fun c2 => ?_)
  · replace H := ine c2 H
    refine v_aload_n (q := 40) 1 dX12_readStep_39 rfl rfl rfl ?_
    refine ur_arr (q := 43) rs rt6 dX12_readStep_40 w1362 (Nat.le_of_ble_eq_true rfl) rfl rfl ?_
    refine v_iload_n (q := 44) 2 dX12_readStep_43 rfl rfl rfl ?_
    replace H := bs H; obtain ⟨x3, x3e, H⟩ := H
    refine ur_rd (q := 45) rs rt6 x3e dX12_readStep_44 rfl ?_
    refine v_bipush (v := 12) (q := 47) dX12_readStep_45 (by decide) rfl ?_
    refine v_icmp_ne (q1 := 55) (q2 := 50) dX12_readStep_47 (by decide) rfl (fun c4 => ?_) (fun c4 => ?_)
    · replace H := ine c4 H
      exact V.sub [1, 2] rfl (sgjX12_readStep_55 hd rs H)
    · replace H := ip c4 H
      refine v_aload_n (q := 51) 1 dX12_readStep_50 rfl rfl rfl ?_
      refine v_iconst (v := 4) (q := 52) dX12_readStep_51 (by decide) rfl ?_
      replace H := bs H; obtain ⟨x17, x17e, H⟩ := H
      refine u_callV0 (M' := mX12_fail) (d' := 1) (rc := (RX12, TX12, 58)) (As := [.int (4 : Int32)]) (st := []) (q := 55) oX12_fail dX12_readStep_52 w1578 w1580 w0061 rfl rfl (RS.rc rs).1 (RS.rc rs).2 rfl (Nat.le_of_ble_eq_true rfl) (Nat.le_of_ble_eq_true rfl) (Nat.lt_of_lt_of_le (by decide) hd) rfl (sgX12_fail (Nat.le_refl _) rs x17e) rfl ?_
      exact V.sub [1, 2] rfl (sgjX12_readStep_55 hd rs H)
  · replace H := ip c2 H
    refine v_aload_n (q := 32) 1 dX12_readStep_31 rfl rfl rfl ?_
    refine v_iconst (v := 1) (q := 33) dX12_readStep_32 (by decide) rfl ?_
    replace H := bs H; obtain ⟨x18, x18e, H⟩ := H
    refine u_callV0 (M' := mX12_fail) (d' := 1) (rc := (RX12, TX12, 58)) (As := [.int (1 : Int32)]) (st := []) (q := 36) oX12_fail dX12_readStep_33 w1578 w1580 w0061 rfl rfl (RS.rc rs).1 (RS.rc rs).2 rfl (Nat.le_of_ble_eq_true rfl) (Nat.le_of_ble_eq_true rfl) (Nat.lt_of_lt_of_le (by decide) hd) rfl (sgX12_fail (Nat.le_refl _) rs x18e) rfl ?_
    refine v_goto (q := 55) dX12_readStep_36 (by decide) ?_
    exact V.sub [1, 2] rfl (sgjX12_readStep_55 hd rs H)
def gjX12_readStep_25 (v1 : Int32) (m : Mem) : Option (Mem) :=
gjX12_readStep_26 v1 (0 : Int32) m
set_option maxRecDepth 20000 in
set_option maxHeartbeats 4000000 in
theorem sgjX12_readStep_25 {Γ : Gm} {d : Nat} (hd : 5 ≤ d) {T : Nat} {h : Hp} (rs : RS T h) {v1 : Int32} {m : Mem} {r : Mem} (H : gjX12_readStep_25 v1 m = some r) : V Γ d mX12_readStep 25 [(0, .ref T), (1, .int v1)] [] (hm T h m) (none, (hm T h r)) := by
  unfold gjX12_readStep_25 at H
  refine v_iconst (v := 0) (q := 26) dX12_readStep_25 (by decide) rfl ?_
  exact V.sub [0, 1] rfl (sgjX12_readStep_26 hd rs H)
def gX12_readStep (m : Mem) (v1 : Int32) : Option (Mem) :=
if (m 0 15) = (2 : Int32) then (
(gX12_isIn (m 0 16) (0 : Int32) (8 : Int32)).bind fun x19 =>
if x19 = 0 then (
gjX12_readStep_25 v1 m) else (
gjX12_readStep_26 v1 (1 : Int32) m)) else (
gjX12_readStep_25 v1 m)
set_option maxRecDepth 20000 in
set_option maxHeartbeats 4000000 in
theorem sgX12_readStep {Γ : Gm} {d : Nat} (hd : 5 ≤ d) {T : Nat} {h : Hp} (rs : RS T h) {m : Mem} {v1 : Int32} {r : Mem} (H : gX12_readStep m v1 = some r) : V Γ d mX12_readStep 0 [(0, .ref T), (1, .int v1)] [] (hm T h m) (none, (hm T h r)) := by
  unfold gX12_readStep at H
  refine v_aload_n (q := 1) 0 dX12_readStep_0 rfl rfl rfl ?_
  refine ur_gI (q := 4) (x := 0) (k := 15) rs dX12_readStep_1 w1371 (Nat.le_of_ble_eq_true rfl) rfl rfl ?_
  refine v_iconst (v := 2) (q := 5) dX12_readStep_4 (by decide) rfl ?_
  refine v_icmp_ne (q1 := 25) (q2 := 8) dX12_readStep_5 (by decide) rfl (fun c1 => ?_) (fun c1 => ?_)
  · replace H := ine c1 H
    exact V.sub [0, 1] rfl (sgjX12_readStep_25 hd rs H)
  · replace H := ip c1 H
    refine v_aload_n (q := 9) 0 dX12_readStep_8 rfl rfl rfl ?_
    refine ur_gI (q := 12) (x := 0) (k := 16) rs dX12_readStep_9 w1372 (Nat.le_of_ble_eq_true rfl) rfl rfl ?_
    refine v_iconst (v := 0) (q := 13) dX12_readStep_12 (by decide) rfl ?_
    refine v_bipush (v := 8) (q := 15) dX12_readStep_13 (by decide) rfl ?_
    replace H := bs H; obtain ⟨x19, x19e, H⟩ := H
    refine u_callS1 (M' := mX12_isIn) (d' := 1) (As := [.int (m 0 16), .int (0 : Int32), .int (8 : Int32)]) (st := []) (q := 18) oX12_isIn dX12_readStep_15 w1618 w1619 rfl (Nat.le_of_ble_eq_true rfl) (Nat.le_of_ble_eq_true rfl) (Nat.lt_of_lt_of_le (by decide) hd) rfl (sgX12_isIn (Nat.le_refl _) x19e) rfl ?_
    refine v_if_eq (q1 := 25) (q2 := 21) dX12_readStep_18 (by decide) rfl (fun c20 => ?_) (fun c20 => ?_)
    · replace H := ip c20 H
      exact V.sub [0, 1] rfl (sgjX12_readStep_25 hd rs H)
    · replace H := ine c20 H
      refine v_iconst (v := 1) (q := 22) dX12_readStep_21 (by decide) rfl ?_
      refine v_goto (q := 26) dX12_readStep_22 (by decide) ?_
      exact V.sub [0, 1] rfl (sgjX12_readStep_26 hd rs H)
def mX12_readProgram : MI := (yX12_readProgram, cX12_readProgram, 4, none)
theorem oX12_readProgram : mOK mX12_readProgram 2 := ⟨by decide +kernel, by decide +kernel, by decide +kernel, by decide, w1609, w0150⟩
def gjX12_readProgram_88 (u1 : Int32) (u3 : Int32) (m : Mem) : Option ((Mem) ⊕ (Mem)) :=
(gX12_readStep m u3).bind fun x14 =>
some (.inl x14)
set_option maxRecDepth 20000 in
set_option maxHeartbeats 4000000 in
theorem sgjX12_readProgram_88 {Γ : Gm} {d : Nat} (hd : 6 ≤ d) {T : Nat} {h : Hp} (rs : RS T h) {u1 : Int32} {u3 : Int32} {m : Mem} {r : (Mem) ⊕ (Mem)} {t : Option Value × Hp} (H : gjX12_readProgram_88 u1 u3 m = some r) (kI : ∀ s, r = .inl s → (fun s65 => V Γ d mX12_readProgram 65 [(0, .ref T), (1, .int u1), (3, .int u3)] [] (hm T h s65) t) s) (kE : ∀ e, r = .inr e → (fun e => V Γ d mX12_readProgram 96 [(0, .ref T), (1, .int u1)] [] (hm T h e) t) e) : V Γ d mX12_readProgram 88 [(0, .ref T), (1, .int u1), (3, .int u3)] [] (hm T h m) t := by
  unfold gjX12_readProgram_88 at H
  refine v_aload_n (q := 89) 0 dX12_readProgram_88 rfl rfl rfl ?_
  refine v_iload_n (q := 90) 2 dX12_readProgram_89 rfl rfl rfl ?_
  replace H := bs H; obtain ⟨x14, x14e, H⟩ := H
  refine u_callV0 (M' := mX12_readStep) (d' := 5) (rc := (RX12, TX12, 58)) (As := [.int u3]) (st := []) (q := 93) oX12_readStep dX12_readProgram_90 w1614 w1616 w0070 rfl rfl (RS.rc rs).1 (RS.rc rs).2 rfl (Nat.le_of_ble_eq_true rfl) (Nat.le_of_ble_eq_true rfl) (Nat.lt_of_lt_of_le (by decide) hd) rfl (sgX12_readStep (Nat.le_refl _) rs x14e) rfl ?_
  refine v_goto (q := 65) dX12_readProgram_93 (by decide) ?_
  exact V.sub [0, 1, 2] rfl (kI x14 (Option.some.inj H).symm)
def gbX12_readProgram_65 (u1 : Int32) (u3 : Int32) (s65 : Mem) : Option ((Mem) ⊕ (Mem)) :=
if (s65 0 17) = 0 then (
(rd s65 7 12 u3).bind fun x12 =>
if x12 = 0 then (
gjX12_readProgram_88 u1 u3 s65) else (
(gX12_isStop s65).bind fun x15 =>
if x15 = 0 then (
gjX12_readProgram_88 u1 u3 s65) else (
some (.inr s65)))) else (
some (.inr s65))
set_option maxRecDepth 20000 in
set_option maxHeartbeats 4000000 in
theorem sgbX12_readProgram_65 {Γ : Gm} {d : Nat} (hd : 6 ≤ d) {T : Nat} {h : Hp} (rs : RS T h) {u1 : Int32} {u3 : Int32} {s65 : Mem} {r : (Mem) ⊕ (Mem)} {t : Option Value × Hp} (H : gbX12_readProgram_65 u1 u3 s65 = some r) (kI : ∀ s, r = .inl s → (fun s65 => V Γ d mX12_readProgram 65 [(0, .ref T), (1, .int u1), (3, .int u3)] [] (hm T h s65) t) s) (kE : ∀ e, r = .inr e → (fun e => V Γ d mX12_readProgram 96 [(0, .ref T), (1, .int u1)] [] (hm T h e) t) e) : V Γ d mX12_readProgram 65 [(0, .ref T), (1, .int u1), (3, .int u3)] [] (hm T h s65) t := by
  unfold gbX12_readProgram_65 at H
  refine v_aload_n (q := 66) 0 dX12_readProgram_65 rfl rfl rfl ?_
  refine ur_gI (q := 69) (x := 0) (k := 17) rs dX12_readProgram_66 w1373 (Nat.le_of_ble_eq_true rfl) rfl rfl ?_
  refine v_if_ne (q1 := 96) (q2 := 72) dX12_readProgram_69 (by decide) rfl (fun c11 => ?_) (fun c11 => ?_)
  · replace H := ine c11 H
    exact V.sub [0, 1] rfl (kE s65 (Option.some.inj H).symm)
  · replace H := ip c11 H
    refine v_aload_n (q := 73) 0 dX12_readProgram_72 rfl rfl rfl ?_
    refine ur_arr (q := 76) rs rt6 dX12_readProgram_73 w1362 (Nat.le_of_ble_eq_true rfl) rfl rfl ?_
    refine v_iload_n (q := 77) 2 dX12_readProgram_76 rfl rfl rfl ?_
    replace H := bs H; obtain ⟨x12, x12e, H⟩ := H
    refine ur_rd (q := 78) rs rt6 x12e dX12_readProgram_77 rfl ?_
    refine v_if_eq (q1 := 88) (q2 := 81) dX12_readProgram_78 (by decide) rfl (fun c13 => ?_) (fun c13 => ?_)
    · replace H := ip c13 H
      exact V.sub [0, 1, 2] rfl (sgjX12_readProgram_88 hd rs H kI kE)
    · replace H := ine c13 H
      refine v_aload_n (q := 82) 0 dX12_readProgram_81 rfl rfl rfl ?_
      replace H := bs H; obtain ⟨x15, x15e, H⟩ := H
      refine u_callV1 (M' := mX12_isStop) (d' := 1) (rc := (RX12, TX12, 58)) (As := []) (st := []) (q := 85) oX12_isStop dX12_readProgram_82 w1610 w1612 w0069 rfl rfl (RS.rc rs).1 (RS.rc rs).2 rfl (Nat.le_of_ble_eq_true rfl) (Nat.le_of_ble_eq_true rfl) (Nat.lt_of_lt_of_le (by decide) hd) rfl (sgX12_isStop (Nat.le_refl _) rs x15e) rfl ?_
      refine v_if_ne (q1 := 96) (q2 := 88) dX12_readProgram_85 (by decide) rfl (fun c16 => ?_) (fun c16 => ?_)
      · replace H := ine c16 H
        exact V.sub [0, 1] rfl (kE s65 (Option.some.inj H).symm)
      · replace H := ip c16 H
        exact V.sub [0, 1, 2] rfl (sgjX12_readProgram_88 hd rs H kI kE)
def gjX12_readProgram_113 (m : Mem) : Option (Mem) :=
some m
set_option maxRecDepth 20000 in
set_option maxHeartbeats 4000000 in
theorem sgjX12_readProgram_113 {Γ : Gm} {d : Nat} (hd : 6 ≤ d) {T : Nat} {h : Hp} (rs : RS T h) {m : Mem} {r : Mem} (H : gjX12_readProgram_113 m = some r) : V Γ d mX12_readProgram 113 [] [] (hm T h m) (none, (hm T h r)) := by
  unfold gjX12_readProgram_113 at H
  cases H
  exact v_return rfl dX12_readProgram_113
def gjX12_readProgram_16 (v1 : Int32) (v2 : Int32) (m : Mem) : Option (Mem) :=
if (m 0 17) ≤ 0 then (
(gX12_scan m).bind fun x4 =>
(rd x4 4 2 v1).bind fun x5 =>
(some (((6 : Int32) * v1) + x5)).bind fun x6 =>
(rd x4 4 2 v1).bind fun x7 =>
(gX12_newName x4 (2 : Int32) x7).bind fun x8 =>
(wr x8 6 12 x6 v2).bind fun m9 =>
(wr m9 7 12 x6 (0 : Int32)).bind fun m10 =>
(lp (gbX12_readProgram_65 v1 x6) FU m10).bind fun e17 =>
if (e17 0 17) = 0 then (
(rd e17 4 2 v1).bind fun x19 =>
(wr e17 4 2 v1 (x19 + (1 : Int32))).bind fun m20 =>
gjX12_readProgram_113 m20) else (
gjX12_readProgram_113 e17)) else (
some m)
set_option maxRecDepth 20000 in
set_option maxHeartbeats 4000000 in
theorem sgjX12_readProgram_16 {Γ : Gm} {d : Nat} (hd : 6 ≤ d) {T : Nat} {h : Hp} (rs : RS T h) {v1 : Int32} {v2 : Int32} {m : Mem} {r : Mem} (H : gjX12_readProgram_16 v1 v2 m = some r) : V Γ d mX12_readProgram 16 [(0, .ref T), (1, .int v1), (2, .int v2)] [] (hm T h m) (none, (hm T h r)) := by
  unfold gjX12_readProgram_16 at H
  refine v_aload_n (q := 17) 0 dX12_readProgram_16 rfl rfl rfl ?_
  refine ur_gI (q := 20) (x := 0) (k := 17) rs dX12_readProgram_17 w1373 (Nat.le_of_ble_eq_true rfl) rfl rfl ?_
  refine v_if_le (q1 := 24) (q2 := 23) dX12_readProgram_20 (by decide) rfl (fun c3 => ?_) (fun c3 => ?_)
  · replace H := ip c3 H
    refine v_aload_n (q := 25) 0 dX12_readProgram_24 rfl rfl rfl ?_
    replace H := bs H; obtain ⟨x4, x4e, H⟩ := H
    refine u_callV0 (M' := mX12_scan) (d' := 3) (rc := (RX12, TX12, 58)) (As := []) (st := []) (q := 28) oX12_scan dX12_readProgram_25 w1547 w1549 w0054 rfl rfl (RS.rc rs).1 (RS.rc rs).2 rfl (Nat.le_of_ble_eq_true rfl) (Nat.le_of_ble_eq_true rfl) (Nat.lt_of_lt_of_le (by decide) hd) rfl (sgX12_scan (Nat.le_refl _) rs x4e) rfl ?_
    refine v_bipush (v := 6) (q := 30) dX12_readProgram_28 (by decide) rfl ?_
    refine v_iload_n (q := 31) 1 dX12_readProgram_30 rfl rfl rfl ?_
    refine v_imul (q := 32) dX12_readProgram_31 rfl ?_
    refine v_aload_n (q := 33) 0 dX12_readProgram_32 rfl rfl rfl ?_
    refine ur_arr (q := 36) rs rt3 dX12_readProgram_33 w1359 (Nat.le_of_ble_eq_true rfl) rfl rfl ?_
    refine v_iload_n (q := 37) 1 dX12_readProgram_36 rfl rfl rfl ?_
    replace H := bs H; obtain ⟨x5, x5e, H⟩ := H
    refine ur_rd (q := 38) rs rt3 x5e dX12_readProgram_37 rfl ?_
    refine v_iadd (q := 39) dX12_readProgram_38 rfl ?_
    replace H := bs H; obtain ⟨x6, x6e, H⟩ := H
    refine v_topi (Option.some.inj x6e) ?_
    refine v_istore_n (L' := [(3, .int x6), (0, .ref T), (1, .int v1), (2, .int v2)]) (q := 40) dX12_readProgram_39 rfl (by decide) rfl rfl ?_
    refine v_aload_n (q := 41) 1 dX12_readProgram_40 rfl rfl rfl ?_
    refine v_iconst (v := 2) (q := 42) dX12_readProgram_41 (by decide) rfl ?_
    refine v_aload_n (q := 43) 1 dX12_readProgram_42 rfl rfl rfl ?_
    refine ur_arr (q := 46) rs rt3 dX12_readProgram_43 w1359 (Nat.le_of_ble_eq_true rfl) rfl rfl ?_
    refine v_iload_n (q := 47) 2 dX12_readProgram_46 rfl rfl rfl ?_
    replace H := bs H; obtain ⟨x7, x7e, H⟩ := H
    refine ur_rd (q := 48) rs rt3 x7e dX12_readProgram_47 rfl ?_
    replace H := bs H; obtain ⟨x8, x8e, H⟩ := H
    refine u_callV0 (M' := mX12_newName) (d' := 4) (rc := (RX12, TX12, 58)) (As := [.int (2 : Int32), .int x7]) (st := []) (q := 51) oX12_newName dX12_readProgram_48 w1582 w1584 w0062 rfl rfl (RS.rc rs).1 (RS.rc rs).2 rfl (Nat.le_of_ble_eq_true rfl) (Nat.le_of_ble_eq_true rfl) (Nat.lt_of_lt_of_le (by decide) hd) rfl (sgX12_newName (Nat.le_refl _) rs x8e) rfl ?_
    refine v_aload_n (q := 52) 1 dX12_readProgram_51 rfl rfl rfl ?_
    refine ur_arr (q := 55) rs rt5 dX12_readProgram_52 w1361 (Nat.le_of_ble_eq_true rfl) rfl rfl ?_
    refine v_iload_n (q := 56) 0 dX12_readProgram_55 rfl rfl rfl ?_
    refine v_iload_n (q := 57) 3 dX12_readProgram_56 rfl rfl rfl ?_
    replace H := bs H; obtain ⟨m9, m9e, H⟩ := H
    refine ur_wr (q := 58) rs rt5 m9e dX12_readProgram_57 rfl ?_
    refine v_aload_n (q := 59) 1 dX12_readProgram_58 rfl rfl rfl ?_
    refine ur_arr (q := 62) rs rt6 dX12_readProgram_59 w1362 (Nat.le_of_ble_eq_true rfl) rfl rfl ?_
    refine v_iload_n (q := 63) 0 dX12_readProgram_62 rfl rfl rfl ?_
    refine v_iconst (v := 0) (q := 64) dX12_readProgram_63 (by decide) rfl ?_
    replace H := bs H; obtain ⟨m10, m10e, H⟩ := H
    refine ur_wr (q := 65) rs rt6 m10e dX12_readProgram_64 rfl ?_
    replace H := bs H; obtain ⟨e17, e17L, H⟩ := H
    refine V.sub [1, 2, 0] rfl ?_
    refine lp_V (P := (fun s65 => V Γ d mX12_readProgram 65 [(0, .ref T), (1, .int v1), (3, .int x6)] [] (hm T h s65) (none, (hm T h r)))) (E := (fun e => V Γ d mX12_readProgram 96 [(0, .ref T), (1, .int v1)] [] (hm T h e) (none, (hm T h r)))) (fun s r hb kI kE => sgbX12_readProgram_65 hd rs (s65 := s) (r := r) hb kI kE) FU m10 e17 e17L ?_
    refine v_aload_n (q := 97) 0 dX12_readProgram_96 rfl rfl rfl ?_
    refine ur_gI (q := 100) (x := 0) (k := 17) rs dX12_readProgram_97 w1373 (Nat.le_of_ble_eq_true rfl) rfl rfl ?_
    refine v_if_ne (q1 := 113) (q2 := 103) dX12_readProgram_100 (by decide) rfl (fun c18 => ?_) (fun c18 => ?_)
    · replace H := ine c18 H
      exact V.sub [] rfl (sgjX12_readProgram_113 hd rs H)
    · replace H := ip c18 H
      refine v_aload_n (q := 104) 0 dX12_readProgram_103 rfl rfl rfl ?_
      refine ur_arr (q := 107) rs rt3 dX12_readProgram_104 w1359 (Nat.le_of_ble_eq_true rfl) rfl rfl ?_
      refine v_iload_n (q := 108) 1 dX12_readProgram_107 rfl rfl rfl ?_
      refine v_dup2 (q := 109) dX12_readProgram_108 rfl rfl rfl ?_
      replace H := bs H; obtain ⟨x19, x19e, H⟩ := H
      refine ur_rd (q := 110) rs rt3 x19e dX12_readProgram_109 rfl ?_
      refine v_iconst (v := 1) (q := 111) dX12_readProgram_110 (by decide) rfl ?_
      refine v_iadd (q := 112) dX12_readProgram_111 rfl ?_
      replace H := bs H; obtain ⟨m20, m20e, H⟩ := H
      refine ur_wr (q := 113) rs rt3 m20e dX12_readProgram_112 rfl ?_
      exact V.sub [] rfl (sgjX12_readProgram_113 hd rs H)
  · replace H := ine c3 H
    cases H
    exact v_return rfl dX12_readProgram_23
def gX12_readProgram (m : Mem) (v1 : Int32) (v2 : Int32) : Option (Mem) :=
(rd m 4 2 v1).bind fun x1 =>
if x1 = (6 : Int32) then (
(gX12_fail m (4 : Int32)).bind fun x21 =>
gjX12_readProgram_16 v1 v2 x21) else (
gjX12_readProgram_16 v1 v2 m)
set_option maxRecDepth 20000 in
set_option maxHeartbeats 4000000 in
theorem sgX12_readProgram {Γ : Gm} {d : Nat} (hd : 6 ≤ d) {T : Nat} {h : Hp} (rs : RS T h) {m : Mem} {v1 : Int32} {v2 : Int32} {r : Mem} (H : gX12_readProgram m v1 v2 = some r) : V Γ d mX12_readProgram 0 [(0, .ref T), (1, .int v1), (2, .int v2)] [] (hm T h m) (none, (hm T h r)) := by
  unfold gX12_readProgram at H
  refine v_aload_n (q := 1) 0 dX12_readProgram_0 rfl rfl rfl ?_
  refine ur_arr (q := 4) rs rt3 dX12_readProgram_1 w1359 (Nat.le_of_ble_eq_true rfl) rfl rfl ?_
  refine v_iload_n (q := 5) 1 dX12_readProgram_4 rfl rfl rfl ?_
  replace H := bs H; obtain ⟨x1, x1e, H⟩ := H
  refine ur_rd (q := 6) rs rt3 x1e dX12_readProgram_5 rfl ?_
  refine v_bipush (v := 6) (q := 8) dX12_readProgram_6 (by decide) rfl ?_
  refine v_icmp_ne (q1 := 16) (q2 := 11) dX12_readProgram_8 (by decide) rfl (fun c2 => ?_) (fun c2 => ?_)
  · replace H := ine c2 H
    exact V.sub [0, 1, 2] rfl (sgjX12_readProgram_16 hd rs H)
  · replace H := ip c2 H
    refine v_aload_n (q := 12) 0 dX12_readProgram_11 rfl rfl rfl ?_
    refine v_iconst (v := 4) (q := 13) dX12_readProgram_12 (by decide) rfl ?_
    replace H := bs H; obtain ⟨x21, x21e, H⟩ := H
    refine u_callV0 (M' := mX12_fail) (d' := 1) (rc := (RX12, TX12, 58)) (As := [.int (4 : Int32)]) (st := []) (q := 16) oX12_fail dX12_readProgram_13 w1578 w1580 w0061 rfl rfl (RS.rc rs).1 (RS.rc rs).2 rfl (Nat.le_of_ble_eq_true rfl) (Nat.le_of_ble_eq_true rfl) (Nat.lt_of_lt_of_le (by decide) hd) rfl (sgX12_fail (Nat.le_refl _) rs x21e) rfl ?_
    exact V.sub [0, 1, 2] rfl (sgjX12_readProgram_16 hd rs H)
def mX12_readLine : MI := (yX12_readLine, cX12_readLine, 2, none)
theorem oX12_readLine : mOK mX12_readLine 1 := ⟨by decide +kernel, by decide +kernel, by decide +kernel, by decide, w1573, w0150⟩
def gjX12_readLine_124 (m : Mem) : Option (Mem) :=
some m
set_option maxRecDepth 20000 in
set_option maxHeartbeats 4000000 in
theorem sgjX12_readLine_124 {Γ : Gm} {d : Nat} (hd : 7 ≤ d) {T : Nat} {h : Hp} (rs : RS T h) {m : Mem} {r : Mem} (H : gjX12_readLine_124 m = some r) : V Γ d mX12_readLine 124 [] [] (hm T h m) (none, (hm T h r)) := by
  unfold gjX12_readLine_124 at H
  cases H
  exact v_return rfl dX12_readLine_124
def gjX12_readLine_104 (v1 : Int32) (m : Mem) : Option (Mem) :=
(gX12_readProgram m v1 ((m 0 16) - (12 : Int32))).bind fun x7 =>
gjX12_readLine_124 x7
set_option maxRecDepth 20000 in
set_option maxHeartbeats 4000000 in
theorem sgjX12_readLine_104 {Γ : Gm} {d : Nat} (hd : 7 ≤ d) {T : Nat} {h : Hp} (rs : RS T h) {v1 : Int32} {m : Mem} {r : Mem} (H : gjX12_readLine_104 v1 m = some r) : V Γ d mX12_readLine 104 [(0, .ref T), (1, .int v1)] [] (hm T h m) (none, (hm T h r)) := by
  unfold gjX12_readLine_104 at H
  refine v_aload_n (q := 105) 0 dX12_readLine_104 rfl rfl rfl ?_
  refine v_iload_n (q := 106) 1 dX12_readLine_105 rfl rfl rfl ?_
  refine v_aload_n (q := 107) 0 dX12_readLine_106 rfl rfl rfl ?_
  refine ur_gI (q := 110) (x := 0) (k := 16) rs dX12_readLine_107 w1372 (Nat.le_of_ble_eq_true rfl) rfl rfl ?_
  refine v_bipush (v := 12) (q := 112) dX12_readLine_110 (by decide) rfl ?_
  refine v_isub (q := 113) dX12_readLine_112 rfl ?_
  replace H := bs H; obtain ⟨x7, x7e, H⟩ := H
  refine u_callV0 (M' := mX12_readProgram) (d' := 6) (rc := (RX12, TX12, 58)) (As := [.int v1, .int ((m 0 16) - (12 : Int32))]) (st := []) (q := 116) oX12_readProgram dX12_readLine_113 w1606 w1608 w0068 rfl rfl (RS.rc rs).1 (RS.rc rs).2 rfl (Nat.le_of_ble_eq_true rfl) (Nat.le_of_ble_eq_true rfl) (Nat.lt_of_lt_of_le (by decide) hd) rfl (sgX12_readProgram (Nat.le_refl _) rs x7e) rfl ?_
  refine v_goto (q := 124) dX12_readLine_116 (by decide) ?_
  exact V.sub [] rfl (sgjX12_readLine_124 hd rs H)
def gjX12_readLine_36 (v1 : Int32) (m : Mem) : Option (Mem) :=
(rd m 2 2 v1).bind fun x17 =>
(gX12_newName m (0 : Int32) x17).bind fun x18 =>
(rd x18 2 2 v1).bind fun x19 =>
(wr x18 2 2 v1 (x19 + (1 : Int32))).bind fun m20 =>
gjX12_readLine_124 m20
set_option maxRecDepth 20000 in
set_option maxHeartbeats 4000000 in
theorem sgjX12_readLine_36 {Γ : Gm} {d : Nat} (hd : 7 ≤ d) {T : Nat} {h : Hp} (rs : RS T h) {v1 : Int32} {m : Mem} {r : Mem} (H : gjX12_readLine_36 v1 m = some r) : V Γ d mX12_readLine 36 [(0, .ref T), (1, .int v1)] [] (hm T h m) (none, (hm T h r)) := by
  unfold gjX12_readLine_36 at H
  refine v_aload_n (q := 37) 0 dX12_readLine_36 rfl rfl rfl ?_
  refine v_iconst (v := 0) (q := 38) dX12_readLine_37 (by decide) rfl ?_
  refine v_aload_n (q := 39) 0 dX12_readLine_38 rfl rfl rfl ?_
  refine ur_arr (q := 42) rs rt1 dX12_readLine_39 w1357 (Nat.le_of_ble_eq_true rfl) rfl rfl ?_
  refine v_iload_n (q := 43) 1 dX12_readLine_42 rfl rfl rfl ?_
  replace H := bs H; obtain ⟨x17, x17e, H⟩ := H
  refine ur_rd (q := 44) rs rt1 x17e dX12_readLine_43 rfl ?_
  replace H := bs H; obtain ⟨x18, x18e, H⟩ := H
  refine u_callV0 (M' := mX12_newName) (d' := 4) (rc := (RX12, TX12, 58)) (As := [.int (0 : Int32), .int x17]) (st := []) (q := 47) oX12_newName dX12_readLine_44 w1582 w1584 w0062 rfl rfl (RS.rc rs).1 (RS.rc rs).2 rfl (Nat.le_of_ble_eq_true rfl) (Nat.le_of_ble_eq_true rfl) (Nat.lt_of_lt_of_le (by decide) hd) rfl (sgX12_newName (Nat.le_refl _) rs x18e) rfl ?_
  refine v_aload_n (q := 48) 0 dX12_readLine_47 rfl rfl rfl ?_
  refine ur_arr (q := 51) rs rt1 dX12_readLine_48 w1357 (Nat.le_of_ble_eq_true rfl) rfl rfl ?_
  refine v_iload_n (q := 52) 1 dX12_readLine_51 rfl rfl rfl ?_
  refine v_dup2 (q := 53) dX12_readLine_52 rfl rfl rfl ?_
  replace H := bs H; obtain ⟨x19, x19e, H⟩ := H
  refine ur_rd (q := 54) rs rt1 x19e dX12_readLine_53 rfl ?_
  refine v_iconst (v := 1) (q := 55) dX12_readLine_54 (by decide) rfl ?_
  refine v_iadd (q := 56) dX12_readLine_55 rfl ?_
  replace H := bs H; obtain ⟨m20, m20e, H⟩ := H
  refine ur_wr (q := 57) rs rt1 m20e dX12_readLine_56 rfl ?_
  refine v_goto (q := 124) dX12_readLine_57 (by decide) ?_
  exact V.sub [] rfl (sgjX12_readLine_124 hd rs H)
def gjX12_readLine_25 (v1 : Int32) (m : Mem) : Option (Mem) :=
if (m 0 17) = 0 then (
(gX12_scan m).bind fun x21 =>
gjX12_readLine_36 v1 x21) else (
gjX12_readLine_36 v1 m)
set_option maxRecDepth 20000 in
set_option maxHeartbeats 4000000 in
theorem sgjX12_readLine_25 {Γ : Gm} {d : Nat} (hd : 7 ≤ d) {T : Nat} {h : Hp} (rs : RS T h) {v1 : Int32} {m : Mem} {r : Mem} (H : gjX12_readLine_25 v1 m = some r) : V Γ d mX12_readLine 25 [(0, .ref T), (1, .int v1)] [] (hm T h m) (none, (hm T h r)) := by
  unfold gjX12_readLine_25 at H
  refine v_aload_n (q := 26) 0 dX12_readLine_25 rfl rfl rfl ?_
  refine ur_gI (q := 29) (x := 0) (k := 17) rs dX12_readLine_26 w1373 (Nat.le_of_ble_eq_true rfl) rfl rfl ?_
  refine v_if_ne (q1 := 36) (q2 := 32) dX12_readLine_29 (by decide) rfl (fun c16 => ?_) (fun c16 => ?_)
  · replace H := ine c16 H
    exact V.sub [0, 1] rfl (sgjX12_readLine_36 hd rs H)
  · replace H := ip c16 H
    refine v_aload_n (q := 33) 0 dX12_readLine_32 rfl rfl rfl ?_
    replace H := bs H; obtain ⟨x21, x21e, H⟩ := H
    refine u_callV0 (M' := mX12_scan) (d' := 3) (rc := (RX12, TX12, 58)) (As := []) (st := []) (q := 36) oX12_scan dX12_readLine_33 w1547 w1549 w0054 rfl rfl (RS.rc rs).1 (RS.rc rs).2 rfl (Nat.le_of_ble_eq_true rfl) (Nat.le_of_ble_eq_true rfl) (Nat.lt_of_lt_of_le (by decide) hd) rfl (sgX12_scan (Nat.le_refl _) rs x21e) rfl ?_
    exact V.sub [0, 1] rfl (sgjX12_readLine_36 hd rs H)
def gX12_readLine (m : Mem) (v1 : Int32) : Option (Mem) :=
(gX12_isWord m (9 : Int32)).bind fun x1 =>
if x1 = 0 then (
(gX12_isWord m (10 : Int32)).bind fun x3 =>
if x3 = 0 then (
(gX12_isWord m (12 : Int32)).bind fun x5 =>
if x5 = 0 then (
(gX12_isWord m (13 : Int32)).bind fun x8 =>
if x8 = 0 then (
(gX12_isWord m (14 : Int32)).bind fun x10 =>
if x10 = 0 then (
(gX12_fail m (1 : Int32)).bind fun x12 =>
gjX12_readLine_124 x12) else (
gjX12_readLine_104 v1 m)) else (
gjX12_readLine_104 v1 m)) else (
gjX12_readLine_104 v1 m)) else (
(gX12_readLock m v1).bind fun x13 =>
gjX12_readLine_124 x13)) else (
(rd m 2 2 v1).bind fun x14 =>
if x14 = (8 : Int32) then (
(gX12_fail m (4 : Int32)).bind fun x22 =>
gjX12_readLine_25 v1 x22) else (
gjX12_readLine_25 v1 m))
set_option maxRecDepth 20000 in
set_option maxHeartbeats 4000000 in
theorem sgX12_readLine {Γ : Gm} {d : Nat} (hd : 7 ≤ d) {T : Nat} {h : Hp} (rs : RS T h) {m : Mem} {v1 : Int32} {r : Mem} (H : gX12_readLine m v1 = some r) : V Γ d mX12_readLine 0 [(0, .ref T), (1, .int v1)] [] (hm T h m) (none, (hm T h r)) := by
  unfold gX12_readLine at H
  refine v_aload_n (q := 1) 0 dX12_readLine_0 rfl rfl rfl ?_
  refine v_bipush (v := 9) (q := 3) dX12_readLine_1 (by decide) rfl ?_
  replace H := bs H; obtain ⟨x1, x1e, H⟩ := H
  refine u_callV1 (M' := mX12_isWord) (d' := 1) (rc := (RX12, TX12, 58)) (As := [.int (9 : Int32)]) (st := []) (q := 6) oX12_isWord dX12_readLine_3 w1574 w1576 w0060 rfl rfl (RS.rc rs).1 (RS.rc rs).2 rfl (Nat.le_of_ble_eq_true rfl) (Nat.le_of_ble_eq_true rfl) (Nat.lt_of_lt_of_le (by decide) hd) rfl (sgX12_isWord (Nat.le_refl _) rs x1e) rfl ?_
  refine v_if_eq (q1 := 60) (q2 := 9) dX12_readLine_6 (by decide) rfl (fun c2 => ?_) (fun c2 => ?_)
  · replace H := ip c2 H
    refine v_aload_n (q := 61) 0 dX12_readLine_60 rfl rfl rfl ?_
    refine v_bipush (v := 10) (q := 63) dX12_readLine_61 (by decide) rfl ?_
    replace H := bs H; obtain ⟨x3, x3e, H⟩ := H
    refine u_callV1 (M' := mX12_isWord) (d' := 1) (rc := (RX12, TX12, 58)) (As := [.int (10 : Int32)]) (st := []) (q := 66) oX12_isWord dX12_readLine_63 w1574 w1576 w0060 rfl rfl (RS.rc rs).1 (RS.rc rs).2 rfl (Nat.le_of_ble_eq_true rfl) (Nat.le_of_ble_eq_true rfl) (Nat.lt_of_lt_of_le (by decide) hd) rfl (sgX12_isWord (Nat.le_refl _) rs x3e) rfl ?_
    refine v_if_eq (q1 := 77) (q2 := 69) dX12_readLine_66 (by decide) rfl (fun c4 => ?_) (fun c4 => ?_)
    · replace H := ip c4 H
      refine v_aload_n (q := 78) 0 dX12_readLine_77 rfl rfl rfl ?_
      refine v_bipush (v := 12) (q := 80) dX12_readLine_78 (by decide) rfl ?_
      replace H := bs H; obtain ⟨x5, x5e, H⟩ := H
      refine u_callV1 (M' := mX12_isWord) (d' := 1) (rc := (RX12, TX12, 58)) (As := [.int (12 : Int32)]) (st := []) (q := 83) oX12_isWord dX12_readLine_80 w1574 w1576 w0060 rfl rfl (RS.rc rs).1 (RS.rc rs).2 rfl (Nat.le_of_ble_eq_true rfl) (Nat.le_of_ble_eq_true rfl) (Nat.lt_of_lt_of_le (by decide) hd) rfl (sgX12_isWord (Nat.le_refl _) rs x5e) rfl ?_
      refine v_if_ne (q1 := 104) (q2 := 86) dX12_readLine_83 (by decide) rfl (fun c6 => ?_) (fun c6 => ?_)
      · replace H := ine c6 H
        exact V.sub [0, 1] rfl (sgjX12_readLine_104 hd rs H)
      · replace H := ip c6 H
        refine v_aload_n (q := 87) 0 dX12_readLine_86 rfl rfl rfl ?_
        refine v_bipush (v := 13) (q := 89) dX12_readLine_87 (by decide) rfl ?_
        replace H := bs H; obtain ⟨x8, x8e, H⟩ := H
        refine u_callV1 (M' := mX12_isWord) (d' := 1) (rc := (RX12, TX12, 58)) (As := [.int (13 : Int32)]) (st := []) (q := 92) oX12_isWord dX12_readLine_89 w1574 w1576 w0060 rfl rfl (RS.rc rs).1 (RS.rc rs).2 rfl (Nat.le_of_ble_eq_true rfl) (Nat.le_of_ble_eq_true rfl) (Nat.lt_of_lt_of_le (by decide) hd) rfl (sgX12_isWord (Nat.le_refl _) rs x8e) rfl ?_
        refine v_if_ne (q1 := 104) (q2 := 95) dX12_readLine_92 (by decide) rfl (fun c9 => ?_) (fun c9 => ?_)
        · replace H := ine c9 H
          exact V.sub [0, 1] rfl (sgjX12_readLine_104 hd rs H)
        · replace H := ip c9 H
          refine v_aload_n (q := 96) 0 dX12_readLine_95 rfl rfl rfl ?_
          refine v_bipush (v := 14) (q := 98) dX12_readLine_96 (by decide) rfl ?_
          replace H := bs H; obtain ⟨x10, x10e, H⟩ := H
          refine u_callV1 (M' := mX12_isWord) (d' := 1) (rc := (RX12, TX12, 58)) (As := [.int (14 : Int32)]) (st := []) (q := 101) oX12_isWord dX12_readLine_98 w1574 w1576 w0060 rfl rfl (RS.rc rs).1 (RS.rc rs).2 rfl (Nat.le_of_ble_eq_true rfl) (Nat.le_of_ble_eq_true rfl) (Nat.lt_of_lt_of_le (by decide) hd) rfl (sgX12_isWord (Nat.le_refl _) rs x10e) rfl ?_
          refine v_if_eq (q1 := 119) (q2 := 104) dX12_readLine_101 (by decide) rfl (fun c11 => ?_) (fun c11 => ?_)
          · replace H := ip c11 H
            refine v_aload_n (q := 120) 0 dX12_readLine_119 rfl rfl rfl ?_
            refine v_iconst (v := 1) (q := 121) dX12_readLine_120 (by decide) rfl ?_
            replace H := bs H; obtain ⟨x12, x12e, H⟩ := H
            refine u_callV0 (M' := mX12_fail) (d' := 1) (rc := (RX12, TX12, 58)) (As := [.int (1 : Int32)]) (st := []) (q := 124) oX12_fail dX12_readLine_121 w1578 w1580 w0061 rfl rfl (RS.rc rs).1 (RS.rc rs).2 rfl (Nat.le_of_ble_eq_true rfl) (Nat.le_of_ble_eq_true rfl) (Nat.lt_of_lt_of_le (by decide) hd) rfl (sgX12_fail (Nat.le_refl _) rs x12e) rfl ?_
            exact V.sub [] rfl (sgjX12_readLine_124 hd rs H)
          · replace H := ine c11 H
            exact V.sub [0, 1] rfl (sgjX12_readLine_104 hd rs H)
    · replace H := ine c4 H
      refine v_aload_n (q := 70) 0 dX12_readLine_69 rfl rfl rfl ?_
      refine v_iload_n (q := 71) 1 dX12_readLine_70 rfl rfl rfl ?_
      replace H := bs H; obtain ⟨x13, x13e, H⟩ := H
      refine u_callV0 (M' := mX12_readLock) (d' := 5) (rc := (RX12, TX12, 58)) (As := [.int v1]) (st := []) (q := 74) oX12_readLock dX12_readLine_71 w1598 w1600 w0066 rfl rfl (RS.rc rs).1 (RS.rc rs).2 rfl (Nat.le_of_ble_eq_true rfl) (Nat.le_of_ble_eq_true rfl) (Nat.lt_of_lt_of_le (by decide) hd) rfl (sgX12_readLock (Nat.le_refl _) rs x13e) rfl ?_
      refine v_goto (q := 124) dX12_readLine_74 (by decide) ?_
      exact V.sub [] rfl (sgjX12_readLine_124 hd rs H)
  · replace H := ine c2 H
    refine v_aload_n (q := 10) 0 dX12_readLine_9 rfl rfl rfl ?_
    refine ur_arr (q := 13) rs rt1 dX12_readLine_10 w1357 (Nat.le_of_ble_eq_true rfl) rfl rfl ?_
    refine v_iload_n (q := 14) 1 dX12_readLine_13 rfl rfl rfl ?_
    replace H := bs H; obtain ⟨x14, x14e, H⟩ := H
    refine ur_rd (q := 15) rs rt1 x14e dX12_readLine_14 rfl ?_
    refine v_bipush (v := 8) (q := 17) dX12_readLine_15 (by decide) rfl ?_
    refine v_icmp_ne (q1 := 25) (q2 := 20) dX12_readLine_17 (by decide) rfl (fun c15 => ?_) (fun c15 => ?_)
    · replace H := ine c15 H
      exact V.sub [0, 1] rfl (sgjX12_readLine_25 hd rs H)
    · replace H := ip c15 H
      refine v_aload_n (q := 21) 0 dX12_readLine_20 rfl rfl rfl ?_
      refine v_iconst (v := 4) (q := 22) dX12_readLine_21 (by decide) rfl ?_
      replace H := bs H; obtain ⟨x22, x22e, H⟩ := H
      refine u_callV0 (M' := mX12_fail) (d' := 1) (rc := (RX12, TX12, 58)) (As := [.int (4 : Int32)]) (st := []) (q := 25) oX12_fail dX12_readLine_22 w1578 w1580 w0061 rfl rfl (RS.rc rs).1 (RS.rc rs).2 rfl (Nat.le_of_ble_eq_true rfl) (Nat.le_of_ble_eq_true rfl) (Nat.lt_of_lt_of_le (by decide) hd) rfl (sgX12_fail (Nat.le_refl _) rs x22e) rfl ?_
      exact V.sub [0, 1] rfl (sgjX12_readLine_25 hd rs H)
def mX12_readAll : MI := (yX12_readAll, cX12_readAll, 2, none)
theorem oX12_readAll : mOK mX12_readAll 1 := ⟨by decide +kernel, by decide +kernel, by decide +kernel, by decide, w1546, w0150⟩
def gbX12_readAll_4 (u1 : Int32) (s4 : Mem) : Option ((Mem) ⊕ (Mem)) :=
if (s4 0 17) = 0 then (
if (s4 0 15) = 0 then (
some (.inr s4)) else (
(gX12_readLine s4 u1).bind fun x4 =>
(gX12_isStop x4).bind fun x5 =>
if x5 = 0 then (
(gX12_fail x4 (1 : Int32)).bind fun x7 =>
some (.inl x7)) else (
(gX12_scan x4).bind fun x8 =>
some (.inl x8)))) else (
some (.inr s4))
set_option maxRecDepth 20000 in
set_option maxHeartbeats 4000000 in
theorem sgbX12_readAll_4 {Γ : Gm} {d : Nat} (hd : 8 ≤ d) {T : Nat} {h : Hp} (rs : RS T h) {u1 : Int32} {s4 : Mem} {r : (Mem) ⊕ (Mem)} {t : Option Value × Hp} (H : gbX12_readAll_4 u1 s4 = some r) (kI : ∀ s, r = .inl s → (fun s4 => V Γ d mX12_readAll 4 [(0, .ref T), (1, .int u1)] [] (hm T h s4) t) s) (kE : ∀ e, r = .inr e → (fun e => V Γ d mX12_readAll 45 [] [] (hm T h e) t) e) : V Γ d mX12_readAll 4 [(0, .ref T), (1, .int u1)] [] (hm T h s4) t := by
  unfold gbX12_readAll_4 at H
  refine v_aload_n (q := 5) 0 dX12_readAll_4 rfl rfl rfl ?_
  refine ur_gI (q := 8) (x := 0) (k := 17) rs dX12_readAll_5 w1373 (Nat.le_of_ble_eq_true rfl) rfl rfl ?_
  refine v_if_ne (q1 := 45) (q2 := 11) dX12_readAll_8 (by decide) rfl (fun c2 => ?_) (fun c2 => ?_)
  · replace H := ine c2 H
    exact V.sub [] rfl (kE s4 (Option.some.inj H).symm)
  · replace H := ip c2 H
    refine v_aload_n (q := 12) 0 dX12_readAll_11 rfl rfl rfl ?_
    refine ur_gI (q := 15) (x := 0) (k := 15) rs dX12_readAll_12 w1371 (Nat.le_of_ble_eq_true rfl) rfl rfl ?_
    refine v_if_eq (q1 := 45) (q2 := 18) dX12_readAll_15 (by decide) rfl (fun c3 => ?_) (fun c3 => ?_)
    · replace H := ip c3 H
      exact V.sub [] rfl (kE s4 (Option.some.inj H).symm)
    · replace H := ine c3 H
      refine v_aload_n (q := 19) 0 dX12_readAll_18 rfl rfl rfl ?_
      refine v_iload_n (q := 20) 1 dX12_readAll_19 rfl rfl rfl ?_
      replace H := bs H; obtain ⟨x4, x4e, H⟩ := H
      refine u_callV0 (M' := mX12_readLine) (d' := 7) (rc := (RX12, TX12, 58)) (As := [.int u1]) (st := []) (q := 23) oX12_readLine dX12_readAll_20 w1570 w1572 w0059 rfl rfl (RS.rc rs).1 (RS.rc rs).2 rfl (Nat.le_of_ble_eq_true rfl) (Nat.le_of_ble_eq_true rfl) (Nat.lt_of_lt_of_le (by decide) hd) rfl (sgX12_readLine (Nat.le_refl _) rs x4e) rfl ?_
      refine v_aload_n (q := 24) 0 dX12_readAll_23 rfl rfl rfl ?_
      replace H := bs H; obtain ⟨x5, x5e, H⟩ := H
      refine u_callV1 (M' := mX12_isStop) (d' := 1) (rc := (RX12, TX12, 58)) (As := []) (st := []) (q := 27) oX12_isStop dX12_readAll_24 w1610 w1612 w0069 rfl rfl (RS.rc rs).1 (RS.rc rs).2 rfl (Nat.le_of_ble_eq_true rfl) (Nat.le_of_ble_eq_true rfl) (Nat.lt_of_lt_of_le (by decide) hd) rfl (sgX12_isStop (Nat.le_refl _) rs x5e) rfl ?_
      refine v_if_eq (q1 := 37) (q2 := 30) dX12_readAll_27 (by decide) rfl (fun c6 => ?_) (fun c6 => ?_)
      · replace H := ip c6 H
        refine v_aload_n (q := 38) 0 dX12_readAll_37 rfl rfl rfl ?_
        refine v_iconst (v := 1) (q := 39) dX12_readAll_38 (by decide) rfl ?_
        replace H := bs H; obtain ⟨x7, x7e, H⟩ := H
        refine u_callV0 (M' := mX12_fail) (d' := 1) (rc := (RX12, TX12, 58)) (As := [.int (1 : Int32)]) (st := []) (q := 42) oX12_fail dX12_readAll_39 w1578 w1580 w0061 rfl rfl (RS.rc rs).1 (RS.rc rs).2 rfl (Nat.le_of_ble_eq_true rfl) (Nat.le_of_ble_eq_true rfl) (Nat.lt_of_lt_of_le (by decide) hd) rfl (sgX12_fail (Nat.le_refl _) rs x7e) rfl ?_
        refine v_goto (q := 4) dX12_readAll_42 (by decide) ?_
        exact V.sub [0, 1] rfl (kI x7 (Option.some.inj H).symm)
      · replace H := ine c6 H
        refine v_aload_n (q := 31) 0 dX12_readAll_30 rfl rfl rfl ?_
        replace H := bs H; obtain ⟨x8, x8e, H⟩ := H
        refine u_callV0 (M' := mX12_scan) (d' := 3) (rc := (RX12, TX12, 58)) (As := []) (st := []) (q := 34) oX12_scan dX12_readAll_31 w1547 w1549 w0054 rfl rfl (RS.rc rs).1 (RS.rc rs).2 rfl (Nat.le_of_ble_eq_true rfl) (Nat.le_of_ble_eq_true rfl) (Nat.lt_of_lt_of_le (by decide) hd) rfl (sgX12_scan (Nat.le_refl _) rs x8e) rfl ?_
        refine v_goto (q := 4) dX12_readAll_34 (by decide) ?_
        exact V.sub [0, 1] rfl (kI x8 (Option.some.inj H).symm)
def gX12_readAll (m : Mem) (v1 : Int32) : Option (Mem) :=
(gX12_scan m).bind fun x1 =>
(lp (gbX12_readAll_4 v1) FU x1).bind fun e9 =>
some e9
set_option maxRecDepth 20000 in
set_option maxHeartbeats 4000000 in
theorem sgX12_readAll {Γ : Gm} {d : Nat} (hd : 8 ≤ d) {T : Nat} {h : Hp} (rs : RS T h) {m : Mem} {v1 : Int32} {r : Mem} (H : gX12_readAll m v1 = some r) : V Γ d mX12_readAll 0 [(0, .ref T), (1, .int v1)] [] (hm T h m) (none, (hm T h r)) := by
  unfold gX12_readAll at H
  refine v_aload_n (q := 1) 0 dX12_readAll_0 rfl rfl rfl ?_
  replace H := bs H; obtain ⟨x1, x1e, H⟩ := H
  refine u_callV0 (M' := mX12_scan) (d' := 3) (rc := (RX12, TX12, 58)) (As := []) (st := []) (q := 4) oX12_scan dX12_readAll_1 w1547 w1549 w0054 rfl rfl (RS.rc rs).1 (RS.rc rs).2 rfl (Nat.le_of_ble_eq_true rfl) (Nat.le_of_ble_eq_true rfl) (Nat.lt_of_lt_of_le (by decide) hd) rfl (sgX12_scan (Nat.le_refl _) rs x1e) rfl ?_
  replace H := bs H; obtain ⟨e9, e9L, H⟩ := H
  refine V.sub [0, 1] rfl ?_
  refine lp_V (P := (fun s4 => V Γ d mX12_readAll 4 [(0, .ref T), (1, .int v1)] [] (hm T h s4) (none, (hm T h r)))) (E := (fun e => V Γ d mX12_readAll 45 [] [] (hm T h e) (none, (hm T h r)))) (fun s r hb kI kE => sgbX12_readAll_4 hd rs (s4 := s) (r := r) hb kI kE) FU x1 e9 e9L ?_
  cases H
  exact v_return rfl dX12_readAll_45
def mX12_swapAll : MI := (yX12_swapAll, cX12_swapAll, 3, none)
theorem oX12_swapAll : mOK mX12_swapAll 0 := ⟨by decide +kernel, by decide +kernel, by decide +kernel, by decide, w2015, w0150⟩
def gbX12_swapAll_2  (s2 : Int32 × Mem) : Option ((Int32 × Mem) ⊕ (Mem)) :=
if (9685 : Int32) ≤ s2.1 then (
some (.inr s2.2)) else (
(rd s2.2 36 125905 (((9685 : Int32) * (s2.2 0 56)) + s2.1)).bind fun x2 =>
(rd s2.2 1 9685 s2.1).bind fun x3 =>
(wr s2.2 36 125905 (((9685 : Int32) * (s2.2 0 56)) + s2.1) x3).bind fun m4 =>
(wr m4 1 9685 s2.1 x2).bind fun m5 =>
(some (s2.1 + (1 : Int32))).bind fun x6 =>
some (.inl (x6, m5)))
set_option maxRecDepth 20000 in
set_option maxHeartbeats 4000000 in
theorem sgbX12_swapAll_2 {Γ : Gm} {d : Nat} (hd : 1 ≤ d) {T : Nat} {h : Hp} (rs : RS T h)  {s2 : Int32 × Mem} {r : (Int32 × Mem) ⊕ (Mem)} {t : Option Value × Hp} (H : gbX12_swapAll_2  s2 = some r) (kI : ∀ s, r = .inl s → (fun s2 => V Γ d mX12_swapAll 2 [(0, .ref T), (1, .int s2.1)] [] (hm T h s2.2) t) s) (kE : ∀ e, r = .inr e → (fun e => V Γ d mX12_swapAll 59 [] [] (hm T h e) t) e) : V Γ d mX12_swapAll 2 [(0, .ref T), (1, .int s2.1)] [] (hm T h s2.2) t := by
  unfold gbX12_swapAll_2 at H
  refine v_iload_n (q := 3) 1 dX12_swapAll_2 rfl rfl rfl ?_
  refine v_sipush (v := 9685) (q := 6) dX12_swapAll_3 (by decide) rfl ?_
  refine v_icmp_ge (q1 := 59) (q2 := 9) dX12_swapAll_6 (by decide) rfl (fun c1 => ?_) (fun c1 => ?_)
  · replace H := ip c1 H
    exact V.sub [] rfl (kE s2.2 (Option.some.inj H).symm)
  · replace H := ine c1 H
    refine v_aload_n (q := 10) 0 dX12_swapAll_9 rfl rfl rfl ?_
    refine ur_arr (q := 13) rs rt53 dX12_swapAll_10 w1409 (Nat.le_of_ble_eq_true rfl) rfl rfl ?_
    refine v_sipush (v := 9685) (q := 16) dX12_swapAll_13 (by decide) rfl ?_
    refine v_aload_n (q := 17) 0 dX12_swapAll_16 rfl rfl rfl ?_
    refine ur_gI (q := 20) (x := 0) (k := 56) rs dX12_swapAll_17 w1412 (Nat.le_of_ble_eq_true rfl) rfl rfl ?_
    refine v_imul (q := 21) dX12_swapAll_20 rfl ?_
    refine v_iload_n (q := 22) 1 dX12_swapAll_21 rfl rfl rfl ?_
    refine v_iadd (q := 23) dX12_swapAll_22 rfl ?_
    replace H := bs H; obtain ⟨x2, x2e, H⟩ := H
    refine ur_rd (q := 24) rs rt53 x2e dX12_swapAll_23 rfl ?_
    refine v_istore_n (L' := [(2, .int x2), (0, .ref T), (1, .int s2.1)]) (q := 25) dX12_swapAll_24 rfl (by decide) rfl rfl ?_
    refine v_aload_n (q := 26) 1 dX12_swapAll_25 rfl rfl rfl ?_
    refine ur_arr (q := 29) rs rt53 dX12_swapAll_26 w1409 (Nat.le_of_ble_eq_true rfl) rfl rfl ?_
    refine v_sipush (v := 9685) (q := 32) dX12_swapAll_29 (by decide) rfl ?_
    refine v_aload_n (q := 33) 1 dX12_swapAll_32 rfl rfl rfl ?_
    refine ur_gI (q := 36) (x := 0) (k := 56) rs dX12_swapAll_33 w1412 (Nat.le_of_ble_eq_true rfl) rfl rfl ?_
    refine v_imul (q := 37) dX12_swapAll_36 rfl ?_
    refine v_iload_n (q := 38) 2 dX12_swapAll_37 rfl rfl rfl ?_
    refine v_iadd (q := 39) dX12_swapAll_38 rfl ?_
    refine v_aload_n (q := 40) 1 dX12_swapAll_39 rfl rfl rfl ?_
    refine ur_arr (q := 43) rs rt0 dX12_swapAll_40 w1356 (Nat.le_of_ble_eq_true rfl) rfl rfl ?_
    refine v_iload_n (q := 44) 2 dX12_swapAll_43 rfl rfl rfl ?_
    replace H := bs H; obtain ⟨x3, x3e, H⟩ := H
    refine ur_rd (q := 45) rs rt0 x3e dX12_swapAll_44 rfl ?_
    replace H := bs H; obtain ⟨m4, m4e, H⟩ := H
    refine ur_wr (q := 46) rs rt53 m4e dX12_swapAll_45 rfl ?_
    refine v_aload_n (q := 47) 1 dX12_swapAll_46 rfl rfl rfl ?_
    refine ur_arr (q := 50) rs rt0 dX12_swapAll_47 w1356 (Nat.le_of_ble_eq_true rfl) rfl rfl ?_
    refine v_iload_n (q := 51) 2 dX12_swapAll_50 rfl rfl rfl ?_
    refine v_iload_n (q := 52) 0 dX12_swapAll_51 rfl rfl rfl ?_
    replace H := bs H; obtain ⟨m5, m5e, H⟩ := H
    refine ur_wr (q := 53) rs rt0 m5e dX12_swapAll_52 rfl ?_
    replace H := bs H; obtain ⟨x6, x6e, H⟩ := H
    refine v_iinc (v := x6) (L' := [(1, .int x6), (2, .int x2), (0, .ref T)]) (q := 56) 2 dX12_swapAll_53 rfl (Option.some.inj x6e) (by decide) rfl rfl ?_
    refine v_goto (q := 2) dX12_swapAll_56 (by decide) ?_
    exact V.sub [2, 0] rfl (kI (x6, m5) (Option.some.inj H).symm)
def gX12_swapAll (m : Mem)  : Option (Mem) :=
(lp (gbX12_swapAll_2) FU ((0 : Int32), m)).bind fun e7 =>
some e7
set_option maxRecDepth 20000 in
set_option maxHeartbeats 4000000 in
theorem sgX12_swapAll {Γ : Gm} {d : Nat} (hd : 1 ≤ d) {T : Nat} {h : Hp} (rs : RS T h) {m : Mem}  {r : Mem} (H : gX12_swapAll m  = some r) : V Γ d mX12_swapAll 0 [(0, .ref T)] [] (hm T h m) (none, (hm T h r)) := by
  unfold gX12_swapAll at H
  refine v_iconst (v := 0) (q := 1) dX12_swapAll_0 (by decide) rfl ?_
  refine v_istore_n (L' := [(1, .int (0 : Int32)), (0, .ref T)]) (q := 2) dX12_swapAll_1 rfl (by decide) rfl rfl ?_
  replace H := bs H; obtain ⟨e7, e7L, H⟩ := H
  refine V.sub [1, 0] rfl ?_
  refine lp_V (P := (fun s2 => V Γ d mX12_swapAll 2 [(0, .ref T), (1, .int s2.1)] [] (hm T h s2.2) (none, (hm T h r)))) (E := (fun e => V Γ d mX12_swapAll 59 [] [] (hm T h e) (none, (hm T h r)))) (fun s r hb kI kE => sgbX12_swapAll_2 hd rs (s2 := s) (r := r) hb kI kE) FU ((0 : Int32), m) e7 e7L ?_
  cases H
  exact v_return rfl dX12_swapAll_59
def mX12_redo : MI := (yX12_redo, cX12_redo, 1, some .boolean)
theorem oX12_redo : mOK mX12_redo 0 := ⟨by decide +kernel, by decide +kernel, by decide +kernel, by decide, w2019, w0150⟩
def gX12_redo (m : Mem)  : Option (Int32 × Mem) :=
if (m 0 57) = 0 then (
some (((0 : Int32), m))) else (
(gX12_swapAll m).bind fun x2 =>
(some (up x2 0 56 ((x2 0 56) + (1 : Int32)))).bind fun m3 =>
(some (up m3 0 57 ((m3 0 57) - (1 : Int32)))).bind fun m4 =>
some (((1 : Int32), m4)))
set_option maxRecDepth 20000 in
set_option maxHeartbeats 4000000 in
theorem sgX12_redo {Γ : Gm} {d : Nat} (hd : 2 ≤ d) {T : Nat} {h : Hp} (rs : RS T h) {m : Mem}  {r : Int32 × Mem} (H : gX12_redo m  = some r) : V Γ d mX12_redo 0 [(0, .ref T)] [] (hm T h m) (some (.int r.1), (hm T h r.2)) := by
  unfold gX12_redo at H
  refine v_aload_n (q := 1) 0 dX12_redo_0 rfl rfl rfl ?_
  refine ur_gI (q := 4) (x := 0) (k := 57) rs dX12_redo_1 w1413 (Nat.le_of_ble_eq_true rfl) rfl rfl ?_
  refine v_if_ne (q1 := 9) (q2 := 7) dX12_redo_4 (by decide) rfl (fun c1 => ?_) (fun c1 => ?_)
  · replace H := ine c1 H
    refine v_aload_n (q := 10) 0 dX12_redo_9 rfl rfl rfl ?_
    replace H := bs H; obtain ⟨x2, x2e, H⟩ := H
    refine u_callV0 (M' := mX12_swapAll) (d' := 1) (rc := (RX12, TX12, 58)) (As := []) (st := []) (q := 13) oX12_swapAll dX12_redo_10 w2012 w2014 w0136 rfl rfl (RS.rc rs).1 (RS.rc rs).2 rfl (Nat.le_of_ble_eq_true rfl) (Nat.le_of_ble_eq_true rfl) (Nat.lt_of_lt_of_le (by decide) hd) rfl (sgX12_swapAll (Nat.le_refl _) rs x2e) rfl ?_
    refine v_aload_n (q := 14) 0 dX12_redo_13 rfl rfl rfl ?_
    refine v_dup (q := 15) dX12_redo_14 rfl rfl ?_
    refine ur_gI (q := 18) (x := 0) (k := 56) rs dX12_redo_15 w1412 (Nat.le_of_ble_eq_true rfl) rfl rfl ?_
    refine v_iconst (v := 1) (q := 19) dX12_redo_18 (by decide) rfl ?_
    refine v_iadd (q := 20) dX12_redo_19 rfl ?_
    replace H := bs H; obtain ⟨m3, m3e, H⟩ := H
    refine ur_pI (q := 23) (k := 56) rs m3e dX12_redo_20 w1412 (Nat.le_of_ble_eq_true rfl) rfl rfl rfl ?_
    refine v_aload_n (q := 24) 0 dX12_redo_23 rfl rfl rfl ?_
    refine v_dup (q := 25) dX12_redo_24 rfl rfl ?_
    refine ur_gI (q := 28) (x := 0) (k := 57) rs dX12_redo_25 w1413 (Nat.le_of_ble_eq_true rfl) rfl rfl ?_
    refine v_iconst (v := 1) (q := 29) dX12_redo_28 (by decide) rfl ?_
    refine v_isub (q := 30) dX12_redo_29 rfl ?_
    replace H := bs H; obtain ⟨m4, m4e, H⟩ := H
    refine ur_pI (q := 33) (k := 57) rs m4e dX12_redo_30 w1413 (Nat.le_of_ble_eq_true rfl) rfl rfl rfl ?_
    refine v_iconst (v := 1) (q := 34) dX12_redo_33 (by decide) rfl ?_
    cases H
    exact v_zreturn rfl (by decide) dX12_redo_34
  · replace H := ip c1 H
    refine v_iconst (v := 0) (q := 8) dX12_redo_7 (by decide) rfl ?_
    cases H
    exact v_zreturn rfl (by decide) dX12_redo_8
def mX12_report_ : MI := (yX12_report_, cX12_report_, 3, some .int)
theorem oX12_report_ : mOK mX12_report_ 2 := ⟨by decide +kernel, by decide +kernel, by decide +kernel, by decide, w1796, w0150⟩
def gjX12_report__57 (y0 : Int32) (m : Mem) : Option (Int32) :=
some y0
set_option maxRecDepth 20000 in
set_option maxHeartbeats 4000000 in
theorem sgjX12_report__57 {Γ : Gm} {d : Nat} (hd : 3 ≤ d) {T : Nat} {h : Hp} (rs : RS T h) {y0 : Int32} {m : Mem} {r : Int32} (H : gjX12_report__57 y0 m = some r) : V Γ d mX12_report_ 57 [] [.int y0] (hm T h m) (some (.int r), (hm T h m)) := by
  unfold gjX12_report__57 at H
  cases H
  exact v_ireturn rfl dX12_report__57
def gX12_report_ (m : Mem) (v1 : Int32) (v2 : Int32) : Option (Int32) :=
(gX12_isReport m v1).bind fun x1 =>
if x1 = 0 then (
some (-1 : Int32)) else (
(gX12_isIn v2 (0 : Int32) (3 : Int32)).bind fun x3 =>
if x3 = 0 then (
if v2 = (4 : Int32) then (
(gX12_firstOf m v1).bind fun x8 =>
gjX12_report__57 x8 m) else (
if v2 = (5 : Int32) then (
(gX12_lastOf m v1).bind fun x7 =>
gjX12_report__57 x7 m) else (
gjX12_report__57 (-1 : Int32) m))) else (
(gX12_atReport v1 v2).bind fun x9 =>
(rd m 1 9685 x9).bind fun x10 =>
some x10))
set_option maxRecDepth 20000 in
set_option maxHeartbeats 4000000 in
theorem sgX12_report_ {Γ : Gm} {d : Nat} (hd : 3 ≤ d) {T : Nat} {h : Hp} (rs : RS T h) {m : Mem} {v1 : Int32} {v2 : Int32} {r : Int32} (H : gX12_report_ m v1 v2 = some r) : V Γ d mX12_report_ 0 [(0, .ref T), (1, .int v1), (2, .int v2)] [] (hm T h m) (some (.int r), (hm T h m)) := by
  unfold gX12_report_ at H
  refine v_aload_n (q := 1) 0 dX12_report__0 rfl rfl rfl ?_
  refine v_iload_n (q := 2) 1 dX12_report__1 rfl rfl rfl ?_
  replace H := bs H; obtain ⟨x1, x1e, H⟩ := H
  refine u_callV1 (M' := mX12_isReport) (d' := 2) (rc := (RX12, TX12, 58)) (As := [.int v1]) (st := []) (q := 5) oX12_isReport dX12_report__2 w1797 w1799 w0101 rfl rfl (RS.rc rs).1 (RS.rc rs).2 rfl (Nat.le_of_ble_eq_true rfl) (Nat.le_of_ble_eq_true rfl) (Nat.lt_of_lt_of_le (by decide) hd) rfl (sgX12_isReport (Nat.le_refl _) rs x1e) rfl ?_
  refine v_if_ne (q1 := 10) (q2 := 8) dX12_report__5 (by decide) rfl (fun c2 => ?_) (fun c2 => ?_)
  · replace H := ine c2 H
    refine v_iload_n (q := 11) 2 dX12_report__10 rfl rfl rfl ?_
    refine v_iconst (v := 0) (q := 12) dX12_report__11 (by decide) rfl ?_
    refine v_iconst (v := 3) (q := 13) dX12_report__12 (by decide) rfl ?_
    replace H := bs H; obtain ⟨x3, x3e, H⟩ := H
    refine u_callS1 (M' := mX12_isIn) (d' := 1) (As := [.int v2, .int (0 : Int32), .int (3 : Int32)]) (st := []) (q := 16) oX12_isIn dX12_report__13 w1618 w1619 rfl (Nat.le_of_ble_eq_true rfl) (Nat.le_of_ble_eq_true rfl) (Nat.lt_of_lt_of_le (by decide) hd) rfl (sgX12_isIn (Nat.le_refl _) x3e) rfl ?_
    refine v_if_eq (q1 := 30) (q2 := 19) dX12_report__16 (by decide) rfl (fun c4 => ?_) (fun c4 => ?_)
    · replace H := ip c4 H
      refine v_iload_n (q := 31) 2 dX12_report__30 rfl rfl rfl ?_
      refine v_iconst (v := 4) (q := 32) dX12_report__31 (by decide) rfl ?_
      refine v_icmp_ne (q1 := 43) (q2 := 35) dX12_report__32 (by decide) rfl (fun c5 => ?_) (fun c5 => ?_)
      · replace H := ine c5 H
        refine v_iload_n (q := 44) 2 dX12_report__43 rfl rfl rfl ?_
        refine v_iconst (v := 5) (q := 45) dX12_report__44 (by decide) rfl ?_
        refine v_icmp_ne (q1 := 56) (q2 := 48) dX12_report__45 (by decide) rfl (fun c6 => ?_) (fun c6 => ?_)
        · replace H := ine c6 H
          refine v_iconst (v := -1) (q := 57) dX12_report__56 (by decide) rfl ?_
          exact V.sub [] rfl (sgjX12_report__57 hd rs H)
        · replace H := ip c6 H
          refine v_aload_n (q := 49) 0 dX12_report__48 rfl rfl rfl ?_
          refine v_iload_n (q := 50) 1 dX12_report__49 rfl rfl rfl ?_
          replace H := bs H; obtain ⟨x7, x7e, H⟩ := H
          refine u_callV1 (M' := mX12_lastOf) (d' := 2) (rc := (RX12, TX12, 58)) (As := [.int v1]) (st := []) (q := 53) oX12_lastOf dX12_report__50 w1697 w1699 w0087 rfl rfl (RS.rc rs).1 (RS.rc rs).2 rfl (Nat.le_of_ble_eq_true rfl) (Nat.le_of_ble_eq_true rfl) (Nat.lt_of_lt_of_le (by decide) hd) rfl (sgX12_lastOf (Nat.le_refl _) rs x7e) rfl ?_
          refine v_goto (q := 57) dX12_report__53 (by decide) ?_
          exact V.sub [] rfl (sgjX12_report__57 hd rs H)
      · replace H := ip c5 H
        refine v_aload_n (q := 36) 0 dX12_report__35 rfl rfl rfl ?_
        refine v_iload_n (q := 37) 1 dX12_report__36 rfl rfl rfl ?_
        replace H := bs H; obtain ⟨x8, x8e, H⟩ := H
        refine u_callV1 (M' := mX12_firstOf) (d' := 2) (rc := (RX12, TX12, 58)) (As := [.int v1]) (st := []) (q := 40) oX12_firstOf dX12_report__37 w1693 w1695 w0086 rfl rfl (RS.rc rs).1 (RS.rc rs).2 rfl (Nat.le_of_ble_eq_true rfl) (Nat.le_of_ble_eq_true rfl) (Nat.lt_of_lt_of_le (by decide) hd) rfl (sgX12_firstOf (Nat.le_refl _) rs x8e) rfl ?_
        refine v_goto (q := 57) dX12_report__40 (by decide) ?_
        exact V.sub [] rfl (sgjX12_report__57 hd rs H)
    · replace H := ine c4 H
      refine v_aload_n (q := 20) 0 dX12_report__19 rfl rfl rfl ?_
      refine ur_arr (q := 23) rs rt0 dX12_report__20 w1356 (Nat.le_of_ble_eq_true rfl) rfl rfl ?_
      refine v_iload_n (q := 24) 1 dX12_report__23 rfl rfl rfl ?_
      refine v_iload_n (q := 25) 2 dX12_report__24 rfl rfl rfl ?_
      replace H := bs H; obtain ⟨x9, x9e, H⟩ := H
      refine u_callS1 (M' := mX12_atReport) (d' := 1) (As := [.int v1, .int v2]) (st := [.ref (T + 1)]) (q := 28) oX12_atReport dX12_report__25 w1670 w1671 rfl (Nat.le_of_ble_eq_true rfl) (Nat.le_of_ble_eq_true rfl) (Nat.lt_of_lt_of_le (by decide) hd) rfl (sgX12_atReport (Nat.le_refl _) x9e) rfl ?_
      replace H := bs H; obtain ⟨x10, x10e, H⟩ := H
      refine ur_rd (q := 29) rs rt0 x10e dX12_report__28 rfl ?_
      cases H
      exact v_ireturn rfl dX12_report__29
  · replace H := ip c2 H
    refine v_iconst (v := -1) (q := 9) dX12_report__8 (by decide) rfl ?_
    cases H
    exact v_ireturn rfl dX12_report__9
def mX12_runs : MI := (yX12_runs, cX12_runs, 3, some .int)
theorem oX12_runs : mOK mX12_runs 1 := ⟨by decide +kernel, by decide +kernel, by decide +kernel, by decide, w1628, w0150⟩
def gX12_runs (m : Mem) (v1 : Int32) : Option (Int32 × Mem) :=
(gX12_isProgram m v1).bind fun x1 =>
if x1 = 0 then (
some (((-1 : Int32), m))) else (
(gX12_keepAct m).bind fun x3 =>
(rd x3 1 9685 (272 : Int32)).bind fun x4 =>
(gX12_goRun x3 v1).bind fun x5 =>
(rd x5 1 9685 (272 : Int32)).bind fun x6 =>
some (x6 - x4, x5))
set_option maxRecDepth 20000 in
set_option maxHeartbeats 4000000 in
theorem sgX12_runs {Γ : Gm} {d : Nat} (hd : 8 ≤ d) {T : Nat} {h : Hp} (rs : RS T h) {m : Mem} {v1 : Int32} {r : Int32 × Mem} (H : gX12_runs m v1 = some r) : V Γ d mX12_runs 0 [(0, .ref T), (1, .int v1)] [] (hm T h m) (some (.int r.1), (hm T h r.2)) := by
  unfold gX12_runs at H
  refine v_aload_n (q := 1) 0 dX12_runs_0 rfl rfl rfl ?_
  refine v_iload_n (q := 2) 1 dX12_runs_1 rfl rfl rfl ?_
  replace H := bs H; obtain ⟨x1, x1e, H⟩ := H
  refine u_callV1 (M' := mX12_isProgram) (d' := 2) (rc := (RX12, TX12, 58)) (As := [.int v1]) (st := []) (q := 5) oX12_isProgram dX12_runs_2 w1629 w1631 w0071 rfl rfl (RS.rc rs).1 (RS.rc rs).2 rfl (Nat.le_of_ble_eq_true rfl) (Nat.le_of_ble_eq_true rfl) (Nat.lt_of_lt_of_le (by decide) hd) rfl (sgX12_isProgram (Nat.le_refl _) rs x1e) rfl ?_
  refine v_if_ne (q1 := 10) (q2 := 8) dX12_runs_5 (by decide) rfl (fun c2 => ?_) (fun c2 => ?_)
  · replace H := ine c2 H
    refine v_aload_n (q := 11) 0 dX12_runs_10 rfl rfl rfl ?_
    replace H := bs H; obtain ⟨x3, x3e, H⟩ := H
    refine u_callV0 (M' := mX12_keepAct) (d' := 1) (rc := (RX12, TX12, 58)) (As := []) (st := []) (q := 14) oX12_keepAct dX12_runs_11 w1633 w1635 w0072 rfl rfl (RS.rc rs).1 (RS.rc rs).2 rfl (Nat.le_of_ble_eq_true rfl) (Nat.le_of_ble_eq_true rfl) (Nat.lt_of_lt_of_le (by decide) hd) rfl (sgX12_keepAct (Nat.le_refl _) rs x3e) rfl ?_
    refine v_aload_n (q := 15) 0 dX12_runs_14 rfl rfl rfl ?_
    refine ur_arr (q := 18) rs rt0 dX12_runs_15 w1356 (Nat.le_of_ble_eq_true rfl) rfl rfl ?_
    refine v_sipush (v := 272) (q := 21) dX12_runs_18 (by decide) rfl ?_
    replace H := bs H; obtain ⟨x4, x4e, H⟩ := H
    refine ur_rd (q := 22) rs rt0 x4e dX12_runs_21 rfl ?_
    refine v_istore_n (L' := [(2, .int x4), (0, .ref T), (1, .int v1)]) (q := 23) dX12_runs_22 rfl (by decide) rfl rfl ?_
    refine v_aload_n (q := 24) 1 dX12_runs_23 rfl rfl rfl ?_
    refine v_iload_n (q := 25) 2 dX12_runs_24 rfl rfl rfl ?_
    replace H := bs H; obtain ⟨x5, x5e, H⟩ := H
    refine u_callV0 (M' := mX12_goRun) (d' := 7) (rc := (RX12, TX12, 58)) (As := [.int v1]) (st := []) (q := 28) oX12_goRun dX12_runs_25 w1638 w1640 w0073 rfl rfl (RS.rc rs).1 (RS.rc rs).2 rfl (Nat.le_of_ble_eq_true rfl) (Nat.le_of_ble_eq_true rfl) (Nat.lt_of_lt_of_le (by decide) hd) rfl (sgX12_goRun (Nat.le_refl _) rs x5e) rfl ?_
    refine v_aload_n (q := 29) 1 dX12_runs_28 rfl rfl rfl ?_
    refine ur_arr (q := 32) rs rt0 dX12_runs_29 w1356 (Nat.le_of_ble_eq_true rfl) rfl rfl ?_
    refine v_sipush (v := 272) (q := 35) dX12_runs_32 (by decide) rfl ?_
    replace H := bs H; obtain ⟨x6, x6e, H⟩ := H
    refine ur_rd (q := 36) rs rt0 x6e dX12_runs_35 rfl ?_
    refine v_iload_n (q := 37) 0 dX12_runs_36 rfl rfl rfl ?_
    refine v_isub (q := 38) dX12_runs_37 rfl ?_
    cases H
    exact v_ireturn rfl dX12_runs_38
  · replace H := ip c2 H
    refine v_iconst (v := -1) (q := 9) dX12_runs_8 (by decide) rfl ?_
    cases H
    exact v_ireturn rfl dX12_runs_9
def mX12_spell : MI := (yX12_spell, cX12_spell, 12, some .int)
theorem oX12_spell : mOK mX12_spell 3 := ⟨by decide +kernel, by decide +kernel, by decide +kernel, by decide, w1932, w0150⟩
def gjX12_spell_36 (m : Mem) : Option (Int32) :=
some (-1 : Int32)
set_option maxRecDepth 20000 in
set_option maxHeartbeats 4000000 in
theorem sgjX12_spell_36 {Γ : Gm} {d : Nat} (hd : 3 ≤ d) {T : Nat} {h : Hp} (rs : RS T h) {m : Mem} {r : Int32} (H : gjX12_spell_36 m = some r) : V Γ d mX12_spell 36 [] [] (hm T h m) (some (.int r), (hm T h m)) := by
  unfold gjX12_spell_36 at H
  refine v_iconst (v := -1) (q := 37) dX12_spell_36 (by decide) rfl ?_
  cases H
  exact v_ireturn rfl dX12_spell_37
def gjX12_spell_220 (u1 : Int32) (u2 : Int32) (u3 : Int32) (v4 : Int32) (v5 : Int32) (v6 : Int32) (v7 : Int32) (v8 : Int32) (v9 : Int32) (m : Mem) : Option ((Int32 × Int32 × Int32 × Int32 × Int32 × Int32) ⊕ (Int32 × Int32 × Int32 × Int32)) :=
(some (v9 + (1 : Int32))).bind fun x20 =>
some (.inl (v4, v5, v6, v7, v8, x20))
set_option maxRecDepth 20000 in
set_option maxHeartbeats 4000000 in
theorem sgjX12_spell_220 {Γ : Gm} {d : Nat} (hd : 3 ≤ d) {T : Nat} {h : Hp} (rs : RS T h) {u1 : Int32} {u2 : Int32} {u3 : Int32} {v4 : Int32} {v5 : Int32} {v6 : Int32} {v7 : Int32} {v8 : Int32} {v9 : Int32} {m : Mem} {r : (Int32 × Int32 × Int32 × Int32 × Int32 × Int32) ⊕ (Int32 × Int32 × Int32 × Int32)} {t : Option Value × Hp} (H : gjX12_spell_220 u1 u2 u3 v4 v5 v6 v7 v8 v9 m = some r) (kI : ∀ s, r = .inl s → (fun s56 => V Γ d mX12_spell 56 [(0, .ref T), (1, .int u1), (2, .int u2), (3, .int u3), (4, .int s56.1), (5, .int s56.2.1), (6, .int s56.2.2.1), (7, .int s56.2.2.2.1), (8, .int s56.2.2.2.2.1), (9, .int s56.2.2.2.2.2)] [] (hm T h m) t) s) (kE : ∀ e, r = .inr e → (fun e => V Γ d mX12_spell 226 [(0, .ref T), (1, .int u1), (3, .int u3), (4, .int e.1), (5, .int e.2.1), (6, .int e.2.2.1), (8, .int e.2.2.2)] [] (hm T h m) t) e) : V Γ d mX12_spell 220 [(0, .ref T), (1, .int u1), (2, .int u2), (3, .int u3), (4, .int v4), (5, .int v5), (6, .int v6), (7, .int v7), (8, .int v8), (9, .int v9)] [] (hm T h m) t := by
  unfold gjX12_spell_220 at H
  replace H := bs H; obtain ⟨x20, x20e, H⟩ := H
  refine v_iinc (v := x20) (L' := [(9, .int x20), (0, .ref T), (1, .int u1), (2, .int u2), (3, .int u3), (4, .int v4), (5, .int v5), (6, .int v6), (7, .int v7), (8, .int v8)]) (q := 223) 9 dX12_spell_220 rfl (Option.some.inj x20e) (by decide) rfl rfl ?_
  refine v_goto (q := 56) dX12_spell_223 (by decide) ?_
  exact V.sub [1, 2, 3, 4, 5, 6, 7, 8, 9, 0] rfl (kI (v4, v5, v6, v7, v8, x20) (Option.some.inj H).symm)
def gjX12_spell_218 (u1 : Int32) (u2 : Int32) (u3 : Int32) (v4 : Int32) (v5 : Int32) (v6 : Int32) (v8 : Int32) (v9 : Int32) (y0 : Int32) (m : Mem) : Option ((Int32 × Int32 × Int32 × Int32 × Int32 × Int32) ⊕ (Int32 × Int32 × Int32 × Int32)) :=
gjX12_spell_220 u1 u2 u3 v4 v5 v6 y0 v8 v9 m
set_option maxRecDepth 20000 in
set_option maxHeartbeats 4000000 in
theorem sgjX12_spell_218 {Γ : Gm} {d : Nat} (hd : 3 ≤ d) {T : Nat} {h : Hp} (rs : RS T h) {u1 : Int32} {u2 : Int32} {u3 : Int32} {v4 : Int32} {v5 : Int32} {v6 : Int32} {v8 : Int32} {v9 : Int32} {y0 : Int32} {m : Mem} {r : (Int32 × Int32 × Int32 × Int32 × Int32 × Int32) ⊕ (Int32 × Int32 × Int32 × Int32)} {t : Option Value × Hp} (H : gjX12_spell_218 u1 u2 u3 v4 v5 v6 v8 v9 y0 m = some r) (kI : ∀ s, r = .inl s → (fun s56 => V Γ d mX12_spell 56 [(0, .ref T), (1, .int u1), (2, .int u2), (3, .int u3), (4, .int s56.1), (5, .int s56.2.1), (6, .int s56.2.2.1), (7, .int s56.2.2.2.1), (8, .int s56.2.2.2.2.1), (9, .int s56.2.2.2.2.2)] [] (hm T h m) t) s) (kE : ∀ e, r = .inr e → (fun e => V Γ d mX12_spell 226 [(0, .ref T), (1, .int u1), (3, .int u3), (4, .int e.1), (5, .int e.2.1), (6, .int e.2.2.1), (8, .int e.2.2.2)] [] (hm T h m) t) e) : V Γ d mX12_spell 218 [(0, .ref T), (1, .int u1), (2, .int u2), (3, .int u3), (4, .int v4), (5, .int v5), (6, .int v6), (8, .int v8), (9, .int v9)] [.int y0] (hm T h m) t := by
  unfold gjX12_spell_218 at H
  refine v_istore (L' := [(7, .int y0), (0, .ref T), (1, .int u1), (2, .int u2), (3, .int u3), (4, .int v4), (5, .int v5), (6, .int v6), (8, .int v8), (9, .int v9)]) (q := 220) dX12_spell_218 (by decide) rfl rfl ?_
  exact V.sub [1, 2, 3, 4, 5, 6, 7, 0, 8, 9] rfl (sgjX12_spell_220 hd rs H kI kE)
def gjX12_spell_188 (u1 : Int32) (u2 : Int32) (u3 : Int32) (v4 : Int32) (v5 : Int32) (v6 : Int32) (v7 : Int32) (v8 : Int32) (v9 : Int32) (v10 : Int32) (m : Mem) : Option ((Int32 × Int32 × Int32 × Int32 × Int32 × Int32) ⊕ (Int32 × Int32 × Int32 × Int32)) :=
(gX12_opOf m u1 v9).bind fun x18 =>
if x18 = (4 : Int32) then (
gjX12_spell_218 u1 u2 u3 v4 v5 v6 v8 v9 (v7 &&& (((1 : Int32) <<< (v10 &&& 31)) ^^^ (-1 : Int32))) m) else (
gjX12_spell_218 u1 u2 u3 v4 v5 v6 v8 v9 (v7 ||| ((1 : Int32) <<< (v10 &&& 31))) m)
set_option maxRecDepth 20000 in
set_option maxHeartbeats 4000000 in
theorem sgjX12_spell_188 {Γ : Gm} {d : Nat} (hd : 3 ≤ d) {T : Nat} {h : Hp} (rs : RS T h) {u1 : Int32} {u2 : Int32} {u3 : Int32} {v4 : Int32} {v5 : Int32} {v6 : Int32} {v7 : Int32} {v8 : Int32} {v9 : Int32} {v10 : Int32} {m : Mem} {r : (Int32 × Int32 × Int32 × Int32 × Int32 × Int32) ⊕ (Int32 × Int32 × Int32 × Int32)} {t : Option Value × Hp} (H : gjX12_spell_188 u1 u2 u3 v4 v5 v6 v7 v8 v9 v10 m = some r) (kI : ∀ s, r = .inl s → (fun s56 => V Γ d mX12_spell 56 [(0, .ref T), (1, .int u1), (2, .int u2), (3, .int u3), (4, .int s56.1), (5, .int s56.2.1), (6, .int s56.2.2.1), (7, .int s56.2.2.2.1), (8, .int s56.2.2.2.2.1), (9, .int s56.2.2.2.2.2)] [] (hm T h m) t) s) (kE : ∀ e, r = .inr e → (fun e => V Γ d mX12_spell 226 [(0, .ref T), (1, .int u1), (3, .int u3), (4, .int e.1), (5, .int e.2.1), (6, .int e.2.2.1), (8, .int e.2.2.2)] [] (hm T h m) t) e) : V Γ d mX12_spell 188 [(0, .ref T), (1, .int u1), (2, .int u2), (3, .int u3), (4, .int v4), (5, .int v5), (6, .int v6), (7, .int v7), (8, .int v8), (9, .int v9), (10, .int v10)] [] (hm T h m) t := by
  unfold gjX12_spell_188 at H
  refine v_aload_n (q := 189) 0 dX12_spell_188 rfl rfl rfl ?_
  refine v_iload_n (q := 190) 1 dX12_spell_189 rfl rfl rfl ?_
  refine v_iload (q := 192) 9 dX12_spell_190 rfl rfl ?_
  replace H := bs H; obtain ⟨x18, x18e, H⟩ := H
  refine u_callV1 (M' := mX12_opOf) (d' := 1) (rc := (RX12, TX12, 58)) (As := [.int u1, .int v9]) (st := []) (q := 195) oX12_opOf dX12_spell_192 w1646 w1648 w0075 rfl rfl (RS.rc rs).1 (RS.rc rs).2 rfl (Nat.le_of_ble_eq_true rfl) (Nat.le_of_ble_eq_true rfl) (Nat.lt_of_lt_of_le (by decide) hd) rfl (sgX12_opOf (Nat.le_refl _) rs x18e) rfl ?_
  refine v_iconst (v := 4) (q := 196) dX12_spell_195 (by decide) rfl ?_
  refine v_icmp_ne (q1 := 211) (q2 := 199) dX12_spell_196 (by decide) rfl (fun c19 => ?_) (fun c19 => ?_)
  · replace H := ine c19 H
    refine v_iload (q := 213) 7 dX12_spell_211 rfl rfl ?_
    refine v_iconst (v := 1) (q := 214) dX12_spell_213 (by decide) rfl ?_
    refine v_iload (q := 216) 10 dX12_spell_214 rfl rfl ?_
    refine v_ishl (q := 217) dX12_spell_216 rfl ?_
    refine v_ior (q := 218) dX12_spell_217 rfl ?_
    exact V.sub [0, 1, 2, 3, 4, 5, 6, 8, 9] rfl (sgjX12_spell_218 hd rs H kI kE)
  · replace H := ip c19 H
    refine v_iload (q := 201) 7 dX12_spell_199 rfl rfl ?_
    refine v_iconst (v := 1) (q := 202) dX12_spell_201 (by decide) rfl ?_
    refine v_iload (q := 204) 10 dX12_spell_202 rfl rfl ?_
    refine v_ishl (q := 205) dX12_spell_204 rfl ?_
    refine v_iconst (v := -1) (q := 206) dX12_spell_205 (by decide) rfl ?_
    refine v_ixor (q := 207) dX12_spell_206 rfl ?_
    refine v_iand (q := 208) dX12_spell_207 rfl ?_
    refine v_goto (q := 218) dX12_spell_208 (by decide) ?_
    exact V.sub [0, 1, 2, 3, 4, 5, 6, 8, 9] rfl (sgjX12_spell_218 hd rs H kI kE)
def gjX12_spell_149 (u1 : Int32) (u2 : Int32) (u3 : Int32) (v4 : Int32) (v5 : Int32) (v6 : Int32) (v7 : Int32) (v8 : Int32) (v9 : Int32) (v10 : Int32) (m : Mem) : Option ((Int32 × Int32 × Int32 × Int32 × Int32 × Int32) ⊕ (Int32 × Int32 × Int32 × Int32)) :=
(gX12_opOf m u1 v9).bind fun x16 =>
if x16 = (4 : Int32) then (
if v10 = u2 then (
if v6 < 0 then (
gjX12_spell_188 u1 u2 u3 v4 v5 v6 v7 v8 v9 v10 m) else (
(gX12_more v5 ((v9 - v6) + (1 : Int32))).bind fun x23 =>
gjX12_spell_188 u1 u2 u3 v4 x23 (-1 : Int32) v7 v8 v9 v10 m)) else (
gjX12_spell_188 u1 u2 u3 v4 v5 v6 v7 v8 v9 v10 m)) else (
gjX12_spell_188 u1 u2 u3 v4 v5 v6 v7 v8 v9 v10 m)
set_option maxRecDepth 20000 in
set_option maxHeartbeats 4000000 in
theorem sgjX12_spell_149 {Γ : Gm} {d : Nat} (hd : 3 ≤ d) {T : Nat} {h : Hp} (rs : RS T h) {u1 : Int32} {u2 : Int32} {u3 : Int32} {v4 : Int32} {v5 : Int32} {v6 : Int32} {v7 : Int32} {v8 : Int32} {v9 : Int32} {v10 : Int32} {m : Mem} {r : (Int32 × Int32 × Int32 × Int32 × Int32 × Int32) ⊕ (Int32 × Int32 × Int32 × Int32)} {t : Option Value × Hp} (H : gjX12_spell_149 u1 u2 u3 v4 v5 v6 v7 v8 v9 v10 m = some r) (kI : ∀ s, r = .inl s → (fun s56 => V Γ d mX12_spell 56 [(0, .ref T), (1, .int u1), (2, .int u2), (3, .int u3), (4, .int s56.1), (5, .int s56.2.1), (6, .int s56.2.2.1), (7, .int s56.2.2.2.1), (8, .int s56.2.2.2.2.1), (9, .int s56.2.2.2.2.2)] [] (hm T h m) t) s) (kE : ∀ e, r = .inr e → (fun e => V Γ d mX12_spell 226 [(0, .ref T), (1, .int u1), (3, .int u3), (4, .int e.1), (5, .int e.2.1), (6, .int e.2.2.1), (8, .int e.2.2.2)] [] (hm T h m) t) e) : V Γ d mX12_spell 149 [(0, .ref T), (1, .int u1), (2, .int u2), (3, .int u3), (4, .int v4), (5, .int v5), (6, .int v6), (7, .int v7), (8, .int v8), (9, .int v9), (10, .int v10)] [] (hm T h m) t := by
  unfold gjX12_spell_149 at H
  refine v_aload_n (q := 150) 0 dX12_spell_149 rfl rfl rfl ?_
  refine v_iload_n (q := 151) 1 dX12_spell_150 rfl rfl rfl ?_
  refine v_iload (q := 153) 9 dX12_spell_151 rfl rfl ?_
  replace H := bs H; obtain ⟨x16, x16e, H⟩ := H
  refine u_callV1 (M' := mX12_opOf) (d' := 1) (rc := (RX12, TX12, 58)) (As := [.int u1, .int v9]) (st := []) (q := 156) oX12_opOf dX12_spell_153 w1646 w1648 w0075 rfl rfl (RS.rc rs).1 (RS.rc rs).2 rfl (Nat.le_of_ble_eq_true rfl) (Nat.le_of_ble_eq_true rfl) (Nat.lt_of_lt_of_le (by decide) hd) rfl (sgX12_opOf (Nat.le_refl _) rs x16e) rfl ?_
  refine v_iconst (v := 4) (q := 157) dX12_spell_156 (by decide) rfl ?_
  refine v_icmp_ne (q1 := 188) (q2 := 160) dX12_spell_157 (by decide) rfl (fun c17 => ?_) (fun c17 => ?_)
  · replace H := ine c17 H
    exact V.sub [0, 1, 2, 3, 4, 5, 6, 7, 8, 9, 10] rfl (sgjX12_spell_188 hd rs H kI kE)
  · replace H := ip c17 H
    refine v_iload (q := 162) 10 dX12_spell_160 rfl rfl ?_
    refine v_iload_n (q := 163) 2 dX12_spell_162 rfl rfl rfl ?_
    refine v_icmp_ne (q1 := 188) (q2 := 166) dX12_spell_163 (by decide) rfl (fun c21 => ?_) (fun c21 => ?_)
    · replace H := ine c21 H
      exact V.sub [0, 1, 2, 3, 4, 5, 6, 7, 8, 9, 10] rfl (sgjX12_spell_188 hd rs H kI kE)
    · replace H := ip c21 H
      refine v_iload (q := 168) 6 dX12_spell_166 rfl rfl ?_
      refine v_if_lt (q1 := 188) (q2 := 171) dX12_spell_168 (by decide) rfl (fun c22 => ?_) (fun c22 => ?_)
      · replace H := ip c22 H
        exact V.sub [0, 1, 2, 3, 4, 5, 6, 7, 8, 9, 10] rfl (sgjX12_spell_188 hd rs H kI kE)
      · replace H := ine c22 H
        refine v_iload (q := 173) 5 dX12_spell_171 rfl rfl ?_
        refine v_iload (q := 175) 9 dX12_spell_173 rfl rfl ?_
        refine v_iload (q := 177) 6 dX12_spell_175 rfl rfl ?_
        refine v_isub (q := 178) dX12_spell_177 rfl ?_
        refine v_iconst (v := 1) (q := 179) dX12_spell_178 (by decide) rfl ?_
        refine v_iadd (q := 180) dX12_spell_179 rfl ?_
        replace H := bs H; obtain ⟨x23, x23e, H⟩ := H
        refine u_callS1 (M' := mX12_more) (d' := 1) (As := [.int v5, .int ((v9 - v6) + (1 : Int32))]) (st := []) (q := 183) oX12_more dX12_spell_180 w1933 w1934 rfl (Nat.le_of_ble_eq_true rfl) (Nat.le_of_ble_eq_true rfl) (Nat.lt_of_lt_of_le (by decide) hd) rfl (sgX12_more (Nat.le_refl _) x23e) rfl ?_
        refine v_istore (L' := [(5, .int x23), (0, .ref T), (1, .int u1), (2, .int u2), (3, .int u3), (4, .int v4), (6, .int v6), (7, .int v7), (8, .int v8), (9, .int v9), (10, .int v10)]) (q := 185) dX12_spell_183 (by decide) rfl rfl ?_
        refine v_iconst (v := -1) (q := 186) dX12_spell_185 (by decide) rfl ?_
        refine v_istore (L' := [(6, .int (-1 : Int32)), (5, .int x23), (0, .ref T), (1, .int u1), (2, .int u2), (3, .int u3), (4, .int v4), (7, .int v7), (8, .int v8), (9, .int v9), (10, .int v10)]) (q := 188) dX12_spell_186 (by decide) rfl rfl ?_
        exact V.sub [2, 3, 4, 5, 6, 1, 0, 7, 8, 9, 10] rfl (sgjX12_spell_188 hd rs H kI kE)
def gjX12_spell_140 (u1 : Int32) (u2 : Int32) (u3 : Int32) (v4 : Int32) (v5 : Int32) (v7 : Int32) (v9 : Int32) (v10 : Int32) (y0 : Int32) (m : Mem) : Option ((Int32 × Int32 × Int32 × Int32 × Int32 × Int32) ⊕ (Int32 × Int32 × Int32 × Int32)) :=
(some (v4 + (1 : Int32))).bind fun x26 =>
gjX12_spell_149 u1 u2 u3 x26 v5 v9 v7 y0 v9 v10 m
set_option maxRecDepth 20000 in
set_option maxHeartbeats 4000000 in
theorem sgjX12_spell_140 {Γ : Gm} {d : Nat} (hd : 3 ≤ d) {T : Nat} {h : Hp} (rs : RS T h) {u1 : Int32} {u2 : Int32} {u3 : Int32} {v4 : Int32} {v5 : Int32} {v7 : Int32} {v9 : Int32} {v10 : Int32} {y0 : Int32} {m : Mem} {r : (Int32 × Int32 × Int32 × Int32 × Int32 × Int32) ⊕ (Int32 × Int32 × Int32 × Int32)} {t : Option Value × Hp} (H : gjX12_spell_140 u1 u2 u3 v4 v5 v7 v9 v10 y0 m = some r) (kI : ∀ s, r = .inl s → (fun s56 => V Γ d mX12_spell 56 [(0, .ref T), (1, .int u1), (2, .int u2), (3, .int u3), (4, .int s56.1), (5, .int s56.2.1), (6, .int s56.2.2.1), (7, .int s56.2.2.2.1), (8, .int s56.2.2.2.2.1), (9, .int s56.2.2.2.2.2)] [] (hm T h m) t) s) (kE : ∀ e, r = .inr e → (fun e => V Γ d mX12_spell 226 [(0, .ref T), (1, .int u1), (3, .int u3), (4, .int e.1), (5, .int e.2.1), (6, .int e.2.2.1), (8, .int e.2.2.2)] [] (hm T h m) t) e) : V Γ d mX12_spell 140 [(0, .ref T), (1, .int u1), (2, .int u2), (3, .int u3), (4, .int v4), (5, .int v5), (7, .int v7), (9, .int v9), (10, .int v10)] [.int y0] (hm T h m) t := by
  unfold gjX12_spell_140 at H
  refine v_istore (L' := [(8, .int y0), (0, .ref T), (1, .int u1), (2, .int u2), (3, .int u3), (4, .int v4), (5, .int v5), (7, .int v7), (9, .int v9), (10, .int v10)]) (q := 142) dX12_spell_140 (by decide) rfl rfl ?_
  replace H := bs H; obtain ⟨x26, x26e, H⟩ := H
  refine v_iinc (v := x26) (L' := [(4, .int x26), (8, .int y0), (0, .ref T), (1, .int u1), (2, .int u2), (3, .int u3), (5, .int v5), (7, .int v7), (9, .int v9), (10, .int v10)]) (q := 145) 5 dX12_spell_142 rfl (Option.some.inj x26e) (by decide) rfl rfl ?_
  refine v_iload (q := 147) 8 dX12_spell_145 rfl rfl ?_
  refine v_istore (L' := [(6, .int v9), (4, .int x26), (8, .int y0), (0, .ref T), (1, .int u1), (2, .int u2), (3, .int u3), (5, .int v5), (7, .int v7), (9, .int v9), (10, .int v10)]) (q := 149) dX12_spell_147 (by decide) rfl rfl ?_
  exact V.sub [3, 4, 5, 6, 1, 7, 0, 8, 2, 9, 10] rfl (sgjX12_spell_149 hd rs H kI kE)
def gjX12_spell_115 (u1 : Int32) (u2 : Int32) (u3 : Int32) (v4 : Int32) (v5 : Int32) (v6 : Int32) (v7 : Int32) (v8 : Int32) (v9 : Int32) (v10 : Int32) (y0 : Int32) (m : Mem) : Option ((Int32 × Int32 × Int32 × Int32 × Int32 × Int32) ⊕ (Int32 × Int32 × Int32 × Int32)) :=
if y0 = 0 then (
gjX12_spell_149 u1 u2 u3 v4 v5 v6 v7 v8 v9 v10 m) else (
if v10 = u2 then (
if v4 = 0 then (
gjX12_spell_140 u1 u2 u3 v4 v5 v7 v9 v10 v7 m) else (
gjX12_spell_140 u1 u2 u3 v4 v5 v7 v9 v10 v8 m)) else (
gjX12_spell_149 u1 u2 u3 v4 v5 v6 v7 v8 v9 v10 m))
set_option maxRecDepth 20000 in
set_option maxHeartbeats 4000000 in
theorem sgjX12_spell_115 {Γ : Gm} {d : Nat} (hd : 3 ≤ d) {T : Nat} {h : Hp} (rs : RS T h) {u1 : Int32} {u2 : Int32} {u3 : Int32} {v4 : Int32} {v5 : Int32} {v6 : Int32} {v7 : Int32} {v8 : Int32} {v9 : Int32} {v10 : Int32} {y0 : Int32} {m : Mem} {r : (Int32 × Int32 × Int32 × Int32 × Int32 × Int32) ⊕ (Int32 × Int32 × Int32 × Int32)} {t : Option Value × Hp} (H : gjX12_spell_115 u1 u2 u3 v4 v5 v6 v7 v8 v9 v10 y0 m = some r) (kI : ∀ s, r = .inl s → (fun s56 => V Γ d mX12_spell 56 [(0, .ref T), (1, .int u1), (2, .int u2), (3, .int u3), (4, .int s56.1), (5, .int s56.2.1), (6, .int s56.2.2.1), (7, .int s56.2.2.2.1), (8, .int s56.2.2.2.2.1), (9, .int s56.2.2.2.2.2)] [] (hm T h m) t) s) (kE : ∀ e, r = .inr e → (fun e => V Γ d mX12_spell 226 [(0, .ref T), (1, .int u1), (3, .int u3), (4, .int e.1), (5, .int e.2.1), (6, .int e.2.2.1), (8, .int e.2.2.2)] [] (hm T h m) t) e) : V Γ d mX12_spell 115 [(0, .ref T), (1, .int u1), (2, .int u2), (3, .int u3), (4, .int v4), (5, .int v5), (6, .int v6), (7, .int v7), (8, .int v8), (9, .int v9), (10, .int v10)] [.int y0] (hm T h m) t := by
  unfold gjX12_spell_115 at H
  refine v_istore (L' := [(11, .int y0), (0, .ref T), (1, .int u1), (2, .int u2), (3, .int u3), (4, .int v4), (5, .int v5), (6, .int v6), (7, .int v7), (8, .int v8), (9, .int v9), (10, .int v10)]) (q := 117) dX12_spell_115 (by decide) rfl rfl ?_
  refine v_iload (q := 119) 0 dX12_spell_117 rfl rfl ?_
  refine v_if_eq (q1 := 149) (q2 := 122) dX12_spell_119 (by decide) rfl (fun c15 => ?_) (fun c15 => ?_)
  · replace H := ip c15 H
    exact V.sub [1, 2, 3, 4, 5, 6, 7, 8, 9, 10, 11] rfl (sgjX12_spell_149 hd rs H kI kE)
  · replace H := ine c15 H
    refine v_iload (q := 124) 11 dX12_spell_122 rfl rfl ?_
    refine v_iload_n (q := 125) 3 dX12_spell_124 rfl rfl rfl ?_
    refine v_icmp_ne (q1 := 149) (q2 := 128) dX12_spell_125 (by decide) rfl (fun c24 => ?_) (fun c24 => ?_)
    · replace H := ine c24 H
      exact V.sub [1, 2, 3, 4, 5, 6, 7, 8, 9, 10, 11] rfl (sgjX12_spell_149 hd rs H kI kE)
    · replace H := ip c24 H
      refine v_iload (q := 130) 5 dX12_spell_128 rfl rfl ?_
      refine v_if_ne (q1 := 138) (q2 := 133) dX12_spell_130 (by decide) rfl (fun c25 => ?_) (fun c25 => ?_)
      · replace H := ine c25 H
        refine v_iload (q := 140) 9 dX12_spell_138 rfl rfl ?_
        exact V.sub [1, 2, 3, 4, 5, 6, 8, 10, 11] rfl (sgjX12_spell_140 hd rs H kI kE)
      · replace H := ip c25 H
        refine v_iload (q := 135) 8 dX12_spell_133 rfl rfl ?_
        refine v_goto (q := 140) dX12_spell_135 (by decide) ?_
        exact V.sub [1, 2, 3, 4, 5, 6, 8, 10, 11] rfl (sgjX12_spell_140 hd rs H kI kE)
def gjX12_spell_114 (u1 : Int32) (u2 : Int32) (u3 : Int32) (v4 : Int32) (v5 : Int32) (v6 : Int32) (v7 : Int32) (v8 : Int32) (v9 : Int32) (v10 : Int32) (m : Mem) : Option ((Int32 × Int32 × Int32 × Int32 × Int32 × Int32) ⊕ (Int32 × Int32 × Int32 × Int32)) :=
gjX12_spell_115 u1 u2 u3 v4 v5 v6 v7 v8 v9 v10 (0 : Int32) m
set_option maxRecDepth 20000 in
set_option maxHeartbeats 4000000 in
theorem sgjX12_spell_114 {Γ : Gm} {d : Nat} (hd : 3 ≤ d) {T : Nat} {h : Hp} (rs : RS T h) {u1 : Int32} {u2 : Int32} {u3 : Int32} {v4 : Int32} {v5 : Int32} {v6 : Int32} {v7 : Int32} {v8 : Int32} {v9 : Int32} {v10 : Int32} {m : Mem} {r : (Int32 × Int32 × Int32 × Int32 × Int32 × Int32) ⊕ (Int32 × Int32 × Int32 × Int32)} {t : Option Value × Hp} (H : gjX12_spell_114 u1 u2 u3 v4 v5 v6 v7 v8 v9 v10 m = some r) (kI : ∀ s, r = .inl s → (fun s56 => V Γ d mX12_spell 56 [(0, .ref T), (1, .int u1), (2, .int u2), (3, .int u3), (4, .int s56.1), (5, .int s56.2.1), (6, .int s56.2.2.1), (7, .int s56.2.2.2.1), (8, .int s56.2.2.2.2.1), (9, .int s56.2.2.2.2.2)] [] (hm T h m) t) s) (kE : ∀ e, r = .inr e → (fun e => V Γ d mX12_spell 226 [(0, .ref T), (1, .int u1), (3, .int u3), (4, .int e.1), (5, .int e.2.1), (6, .int e.2.2.1), (8, .int e.2.2.2)] [] (hm T h m) t) e) : V Γ d mX12_spell 114 [(0, .ref T), (1, .int u1), (2, .int u2), (3, .int u3), (4, .int v4), (5, .int v5), (6, .int v6), (7, .int v7), (8, .int v8), (9, .int v9), (10, .int v10)] [] (hm T h m) t := by
  unfold gjX12_spell_114 at H
  refine v_iconst (v := 0) (q := 115) dX12_spell_114 (by decide) rfl ?_
  exact V.sub [0, 1, 2, 3, 4, 5, 6, 7, 8, 9, 10] rfl (sgjX12_spell_115 hd rs H kI kE)
def gbX12_spell_56 (u1 : Int32) (u2 : Int32) (u3 : Int32) (m : Mem) (s56 : Int32 × Int32 × Int32 × Int32 × Int32 × Int32) : Option ((Int32 × Int32 × Int32 × Int32 × Int32 × Int32) ⊕ (Int32 × Int32 × Int32 × Int32)) :=
(gX12_stepsOf m u1).bind fun x8 =>
if x8 ≤ s56.2.2.2.2.2 then (
some (.inr (s56.1, s56.2.1, s56.2.2.1, s56.2.2.2.2.1))) else (
(gX12_lockOf m u1 s56.2.2.2.2.2).bind fun x10 =>
(gX12_opOf m u1 s56.2.2.2.2.2).bind fun x11 =>
if x11 ≤ (4 : Int32) then (
(gX12_opOf m u1 s56.2.2.2.2.2).bind fun x13 =>
if (4 : Int32) ≤ x13 then (
gjX12_spell_114 u1 u2 u3 s56.1 s56.2.1 s56.2.2.1 s56.2.2.2.1 s56.2.2.2.2.1 s56.2.2.2.2.2 x10 m) else (
(gX12_has s56.2.2.2.1 x10).bind fun x27 =>
if x27 = 0 then (
gjX12_spell_115 u1 u2 u3 s56.1 s56.2.1 s56.2.2.1 s56.2.2.2.1 s56.2.2.2.2.1 s56.2.2.2.2.2 x10 (1 : Int32) m) else (
gjX12_spell_114 u1 u2 u3 s56.1 s56.2.1 s56.2.2.1 s56.2.2.2.1 s56.2.2.2.2.1 s56.2.2.2.2.2 x10 m))) else (
gjX12_spell_220 u1 u2 u3 s56.1 s56.2.1 s56.2.2.1 s56.2.2.2.1 s56.2.2.2.2.1 s56.2.2.2.2.2 m))
set_option maxRecDepth 20000 in
set_option maxHeartbeats 4000000 in
theorem sgbX12_spell_56 {Γ : Gm} {d : Nat} (hd : 3 ≤ d) {T : Nat} {h : Hp} (rs : RS T h) {u1 : Int32} {u2 : Int32} {u3 : Int32} {m : Mem} {s56 : Int32 × Int32 × Int32 × Int32 × Int32 × Int32} {r : (Int32 × Int32 × Int32 × Int32 × Int32 × Int32) ⊕ (Int32 × Int32 × Int32 × Int32)} {t : Option Value × Hp} (H : gbX12_spell_56 u1 u2 u3 m s56 = some r) (kI : ∀ s, r = .inl s → (fun s56 => V Γ d mX12_spell 56 [(0, .ref T), (1, .int u1), (2, .int u2), (3, .int u3), (4, .int s56.1), (5, .int s56.2.1), (6, .int s56.2.2.1), (7, .int s56.2.2.2.1), (8, .int s56.2.2.2.2.1), (9, .int s56.2.2.2.2.2)] [] (hm T h m) t) s) (kE : ∀ e, r = .inr e → (fun e => V Γ d mX12_spell 226 [(0, .ref T), (1, .int u1), (3, .int u3), (4, .int e.1), (5, .int e.2.1), (6, .int e.2.2.1), (8, .int e.2.2.2)] [] (hm T h m) t) e) : V Γ d mX12_spell 56 [(0, .ref T), (1, .int u1), (2, .int u2), (3, .int u3), (4, .int s56.1), (5, .int s56.2.1), (6, .int s56.2.2.1), (7, .int s56.2.2.2.1), (8, .int s56.2.2.2.2.1), (9, .int s56.2.2.2.2.2)] [] (hm T h m) t := by
  unfold gbX12_spell_56 at H
  refine v_iload (q := 58) 9 dX12_spell_56 rfl rfl ?_
  refine v_aload_n (q := 59) 0 dX12_spell_58 rfl rfl rfl ?_
  refine v_iload_n (q := 60) 1 dX12_spell_59 rfl rfl rfl ?_
  replace H := bs H; obtain ⟨x8, x8e, H⟩ := H
  refine u_callV1 (M' := mX12_stepsOf) (d' := 1) (rc := (RX12, TX12, 58)) (As := [.int u1]) (st := [.int s56.2.2.2.2.2]) (q := 63) oX12_stepsOf dX12_spell_60 w1642 w1644 w0074 rfl rfl (RS.rc rs).1 (RS.rc rs).2 rfl (Nat.le_of_ble_eq_true rfl) (Nat.le_of_ble_eq_true rfl) (Nat.lt_of_lt_of_le (by decide) hd) rfl (sgX12_stepsOf (Nat.le_refl _) rs x8e) rfl ?_
  refine v_icmp_ge (q1 := 226) (q2 := 66) dX12_spell_63 (by decide) rfl (fun c9 => ?_) (fun c9 => ?_)
  · replace H := ip c9 H
    exact V.sub [0, 1, 3, 4, 5, 6, 8] rfl (kE (s56.1, s56.2.1, s56.2.2.1, s56.2.2.2.2.1) (Option.some.inj H).symm)
  · replace H := ine c9 H
    refine v_aload_n (q := 67) 0 dX12_spell_66 rfl rfl rfl ?_
    refine v_iload_n (q := 68) 1 dX12_spell_67 rfl rfl rfl ?_
    refine v_iload (q := 70) 9 dX12_spell_68 rfl rfl ?_
    replace H := bs H; obtain ⟨x10, x10e, H⟩ := H
    refine u_callV1 (M' := mX12_lockOf) (d' := 1) (rc := (RX12, TX12, 58)) (As := [.int u1, .int s56.2.2.2.2.2]) (st := []) (q := 73) oX12_lockOf dX12_spell_70 w1654 w1656 w0077 rfl rfl (RS.rc rs).1 (RS.rc rs).2 rfl (Nat.le_of_ble_eq_true rfl) (Nat.le_of_ble_eq_true rfl) (Nat.lt_of_lt_of_le (by decide) hd) rfl (sgX12_lockOf (Nat.le_refl _) rs x10e) rfl ?_
    refine v_istore (L' := [(10, .int x10), (0, .ref T), (1, .int u1), (2, .int u2), (3, .int u3), (4, .int s56.1), (5, .int s56.2.1), (6, .int s56.2.2.1), (7, .int s56.2.2.2.1), (8, .int s56.2.2.2.2.1), (9, .int s56.2.2.2.2.2)]) (q := 75) dX12_spell_73 (by decide) rfl rfl ?_
    refine v_aload_n (q := 76) 1 dX12_spell_75 rfl rfl rfl ?_
    refine v_iload_n (q := 77) 2 dX12_spell_76 rfl rfl rfl ?_
    refine v_iload (q := 79) 10 dX12_spell_77 rfl rfl ?_
    replace H := bs H; obtain ⟨x11, x11e, H⟩ := H
    refine u_callV1 (M' := mX12_opOf) (d' := 1) (rc := (RX12, TX12, 58)) (As := [.int u1, .int s56.2.2.2.2.2]) (st := []) (q := 82) oX12_opOf dX12_spell_79 w1646 w1648 w0075 rfl rfl (RS.rc rs).1 (RS.rc rs).2 rfl (Nat.le_of_ble_eq_true rfl) (Nat.le_of_ble_eq_true rfl) (Nat.lt_of_lt_of_le (by decide) hd) rfl (sgX12_opOf (Nat.le_refl _) rs x11e) rfl ?_
    refine v_iconst (v := 4) (q := 83) dX12_spell_82 (by decide) rfl ?_
    refine v_icmp_le (q1 := 89) (q2 := 86) dX12_spell_83 (by decide) rfl (fun c12 => ?_) (fun c12 => ?_)
    · replace H := ip c12 H
      refine v_aload_n (q := 90) 1 dX12_spell_89 rfl rfl rfl ?_
      refine v_iload_n (q := 91) 2 dX12_spell_90 rfl rfl rfl ?_
      refine v_iload (q := 93) 10 dX12_spell_91 rfl rfl ?_
      replace H := bs H; obtain ⟨x13, x13e, H⟩ := H
      refine u_callV1 (M' := mX12_opOf) (d' := 1) (rc := (RX12, TX12, 58)) (As := [.int u1, .int s56.2.2.2.2.2]) (st := []) (q := 96) oX12_opOf dX12_spell_93 w1646 w1648 w0075 rfl rfl (RS.rc rs).1 (RS.rc rs).2 rfl (Nat.le_of_ble_eq_true rfl) (Nat.le_of_ble_eq_true rfl) (Nat.lt_of_lt_of_le (by decide) hd) rfl (sgX12_opOf (Nat.le_refl _) rs x13e) rfl ?_
      refine v_iconst (v := 4) (q := 97) dX12_spell_96 (by decide) rfl ?_
      refine v_icmp_ge (q1 := 114) (q2 := 100) dX12_spell_97 (by decide) rfl (fun c14 => ?_) (fun c14 => ?_)
      · replace H := ip c14 H
        exact V.sub [1, 2, 3, 4, 5, 6, 7, 8, 9, 10, 0] rfl (sgjX12_spell_114 hd rs H kI kE)
      · replace H := ine c14 H
        refine v_iload (q := 102) 8 dX12_spell_100 rfl rfl ?_
        refine v_iload (q := 104) 0 dX12_spell_102 rfl rfl ?_
        replace H := bs H; obtain ⟨x27, x27e, H⟩ := H
        refine u_callS1 (M' := mX12_has) (d' := 1) (As := [.int s56.2.2.2.1, .int x10]) (st := []) (q := 107) oX12_has dX12_spell_104 w1846 w1847 rfl (Nat.le_of_ble_eq_true rfl) (Nat.le_of_ble_eq_true rfl) (Nat.lt_of_lt_of_le (by decide) hd) rfl (sgX12_has (Nat.le_refl _) x27e) rfl ?_
        refine v_if_ne (q1 := 114) (q2 := 110) dX12_spell_107 (by decide) rfl (fun c28 => ?_) (fun c28 => ?_)
        · replace H := ine c28 H
          exact V.sub [1, 2, 3, 4, 5, 6, 7, 8, 9, 10, 0] rfl (sgjX12_spell_114 hd rs H kI kE)
        · replace H := ip c28 H
          refine v_iconst (v := 1) (q := 111) dX12_spell_110 (by decide) rfl ?_
          refine v_goto (q := 115) dX12_spell_111 (by decide) ?_
          exact V.sub [1, 2, 3, 4, 5, 6, 7, 8, 9, 10, 0] rfl (sgjX12_spell_115 hd rs H kI kE)
    · replace H := ine c12 H
      refine v_goto (q := 220) dX12_spell_86 (by decide) ?_
      exact V.sub [1, 2, 3, 4, 5, 6, 7, 8, 9, 10] rfl (sgjX12_spell_220 hd rs H kI kE)
def gjX12_spell_267 (y0 : Int32) (m : Mem) : Option (Int32) :=
some y0
set_option maxRecDepth 20000 in
set_option maxHeartbeats 4000000 in
theorem sgjX12_spell_267 {Γ : Gm} {d : Nat} (hd : 3 ≤ d) {T : Nat} {h : Hp} (rs : RS T h) {y0 : Int32} {m : Mem} {r : Int32} (H : gjX12_spell_267 y0 m = some r) : V Γ d mX12_spell 267 [] [.int y0] (hm T h m) (some (.int r), (hm T h m)) := by
  unfold gjX12_spell_267 at H
  cases H
  exact v_ireturn rfl dX12_spell_267
def gjX12_spell_246 (v3 : Int32) (v4 : Int32) (v5 : Int32) (v8 : Int32) (m : Mem) : Option (Int32) :=
if v3 = 0 then (
gjX12_spell_267 v4 m) else (
if v3 = (1 : Int32) then (
gjX12_spell_267 v5 m) else (
gjX12_spell_267 v8 m))
set_option maxRecDepth 20000 in
set_option maxHeartbeats 4000000 in
theorem sgjX12_spell_246 {Γ : Gm} {d : Nat} (hd : 3 ≤ d) {T : Nat} {h : Hp} (rs : RS T h) {v3 : Int32} {v4 : Int32} {v5 : Int32} {v8 : Int32} {m : Mem} {r : Int32} (H : gjX12_spell_246 v3 v4 v5 v8 m = some r) : V Γ d mX12_spell 246 [(3, .int v3), (4, .int v4), (5, .int v5), (8, .int v8)] [] (hm T h m) (some (.int r), (hm T h m)) := by
  unfold gjX12_spell_246 at H
  refine v_iload_n (q := 247) 0 dX12_spell_246 rfl rfl rfl ?_
  refine v_if_ne (q1 := 255) (q2 := 250) dX12_spell_247 (by decide) rfl (fun c31 => ?_) (fun c31 => ?_)
  · replace H := ine c31 H
    refine v_iload_n (q := 256) 0 dX12_spell_255 rfl rfl rfl ?_
    refine v_iconst (v := 1) (q := 257) dX12_spell_256 (by decide) rfl ?_
    refine v_icmp_ne (q1 := 265) (q2 := 260) dX12_spell_257 (by decide) rfl (fun c32 => ?_) (fun c32 => ?_)
    · replace H := ine c32 H
      refine v_iload (q := 267) 3 dX12_spell_265 rfl rfl ?_
      exact V.sub [] rfl (sgjX12_spell_267 hd rs H)
    · replace H := ip c32 H
      refine v_iload (q := 262) 2 dX12_spell_260 rfl rfl ?_
      refine v_goto (q := 267) dX12_spell_262 (by decide) ?_
      exact V.sub [] rfl (sgjX12_spell_267 hd rs H)
  · replace H := ip c31 H
    refine v_iload (q := 252) 1 dX12_spell_250 rfl rfl ?_
    refine v_goto (q := 267) dX12_spell_252 (by decide) ?_
    exact V.sub [] rfl (sgjX12_spell_267 hd rs H)
def gX12_spell (m : Mem) (v1 : Int32) (v2 : Int32) (v3 : Int32) : Option (Int32) :=
(gX12_isProgram m v1).bind fun x1 =>
if x1 = 0 then (
gjX12_spell_36 m) else (
(rd m 3 2 (m 0 9)).bind fun x3 =>
(gX12_isIn v2 (0 : Int32) (x3 - (1 : Int32))).bind fun x4 =>
if x4 = 0 then (
gjX12_spell_36 m) else (
(gX12_isIn v3 (0 : Int32) (2 : Int32)).bind fun x6 =>
if x6 = 0 then (
gjX12_spell_36 m) else (
(lp (gbX12_spell_56 v1 v2 v3 m) FU ((0 : Int32), (0 : Int32), (-1 : Int32), (0 : Int32), (0 : Int32), (0 : Int32))).bind fun e29 =>
if e29.2.2.1 < 0 then (
gjX12_spell_246 v3 e29.1 e29.2.1 e29.2.2.2 m) else (
(gX12_stepsOf m v1).bind fun x33 =>
(gX12_more e29.2.1 (x33 - e29.2.2.1)).bind fun x34 =>
gjX12_spell_246 v3 e29.1 x34 e29.2.2.2 m))))
set_option maxRecDepth 20000 in
set_option maxHeartbeats 4000000 in
theorem sgX12_spell {Γ : Gm} {d : Nat} (hd : 3 ≤ d) {T : Nat} {h : Hp} (rs : RS T h) {m : Mem} {v1 : Int32} {v2 : Int32} {v3 : Int32} {r : Int32} (H : gX12_spell m v1 v2 v3 = some r) : V Γ d mX12_spell 0 [(0, .ref T), (1, .int v1), (2, .int v2), (3, .int v3)] [] (hm T h m) (some (.int r), (hm T h m)) := by
  unfold gX12_spell at H
  refine v_aload_n (q := 1) 0 dX12_spell_0 rfl rfl rfl ?_
  refine v_iload_n (q := 2) 1 dX12_spell_1 rfl rfl rfl ?_
  replace H := bs H; obtain ⟨x1, x1e, H⟩ := H
  refine u_callV1 (M' := mX12_isProgram) (d' := 2) (rc := (RX12, TX12, 58)) (As := [.int v1]) (st := []) (q := 5) oX12_isProgram dX12_spell_2 w1629 w1631 w0071 rfl rfl (RS.rc rs).1 (RS.rc rs).2 rfl (Nat.le_of_ble_eq_true rfl) (Nat.le_of_ble_eq_true rfl) (Nat.lt_of_lt_of_le (by decide) hd) rfl (sgX12_isProgram (Nat.le_refl _) rs x1e) rfl ?_
  refine v_if_eq (q1 := 36) (q2 := 8) dX12_spell_5 (by decide) rfl (fun c2 => ?_) (fun c2 => ?_)
  · replace H := ip c2 H
    exact V.sub [] rfl (sgjX12_spell_36 hd rs H)
  · replace H := ine c2 H
    refine v_iload_n (q := 9) 2 dX12_spell_8 rfl rfl rfl ?_
    refine v_iconst (v := 0) (q := 10) dX12_spell_9 (by decide) rfl ?_
    refine v_aload_n (q := 11) 0 dX12_spell_10 rfl rfl rfl ?_
    refine ur_arr (q := 14) rs rt2 dX12_spell_11 w1358 (Nat.le_of_ble_eq_true rfl) rfl rfl ?_
    refine v_aload_n (q := 15) 0 dX12_spell_14 rfl rfl rfl ?_
    refine ur_gI (q := 18) (x := 0) (k := 9) rs dX12_spell_15 w1365 (Nat.le_of_ble_eq_true rfl) rfl rfl ?_
    replace H := bs H; obtain ⟨x3, x3e, H⟩ := H
    refine ur_rd (q := 19) rs rt2 x3e dX12_spell_18 rfl ?_
    refine v_iconst (v := 1) (q := 20) dX12_spell_19 (by decide) rfl ?_
    refine v_isub (q := 21) dX12_spell_20 rfl ?_
    replace H := bs H; obtain ⟨x4, x4e, H⟩ := H
    refine u_callS1 (M' := mX12_isIn) (d' := 1) (As := [.int v2, .int (0 : Int32), .int (x3 - (1 : Int32))]) (st := []) (q := 24) oX12_isIn dX12_spell_21 w1618 w1619 rfl (Nat.le_of_ble_eq_true rfl) (Nat.le_of_ble_eq_true rfl) (Nat.lt_of_lt_of_le (by decide) hd) rfl (sgX12_isIn (Nat.le_refl _) x4e) rfl ?_
    refine v_if_eq (q1 := 36) (q2 := 27) dX12_spell_24 (by decide) rfl (fun c5 => ?_) (fun c5 => ?_)
    · replace H := ip c5 H
      exact V.sub [] rfl (sgjX12_spell_36 hd rs H)
    · replace H := ine c5 H
      refine v_iload_n (q := 28) 3 dX12_spell_27 rfl rfl rfl ?_
      refine v_iconst (v := 0) (q := 29) dX12_spell_28 (by decide) rfl ?_
      refine v_iconst (v := 2) (q := 30) dX12_spell_29 (by decide) rfl ?_
      replace H := bs H; obtain ⟨x6, x6e, H⟩ := H
      refine u_callS1 (M' := mX12_isIn) (d' := 1) (As := [.int v3, .int (0 : Int32), .int (2 : Int32)]) (st := []) (q := 33) oX12_isIn dX12_spell_30 w1618 w1619 rfl (Nat.le_of_ble_eq_true rfl) (Nat.le_of_ble_eq_true rfl) (Nat.lt_of_lt_of_le (by decide) hd) rfl (sgX12_isIn (Nat.le_refl _) x6e) rfl ?_
      refine v_if_ne (q1 := 38) (q2 := 36) dX12_spell_33 (by decide) rfl (fun c7 => ?_) (fun c7 => ?_)
      · replace H := ine c7 H
        refine v_iconst (v := 0) (q := 39) dX12_spell_38 (by decide) rfl ?_
        refine v_istore (L' := [(4, .int (0 : Int32)), (0, .ref T), (1, .int v1), (2, .int v2), (3, .int v3)]) (q := 41) dX12_spell_39 (by decide) rfl rfl ?_
        refine v_iconst (v := 0) (q := 42) dX12_spell_41 (by decide) rfl ?_
        refine v_istore (L' := [(5, .int (0 : Int32)), (4, .int (0 : Int32)), (0, .ref T), (1, .int v1), (2, .int v2), (3, .int v3)]) (q := 44) dX12_spell_42 (by decide) rfl rfl ?_
        refine v_iconst (v := -1) (q := 45) dX12_spell_44 (by decide) rfl ?_
        refine v_istore (L' := [(6, .int (-1 : Int32)), (5, .int (0 : Int32)), (4, .int (0 : Int32)), (0, .ref T), (1, .int v1), (2, .int v2), (3, .int v3)]) (q := 47) dX12_spell_45 (by decide) rfl rfl ?_
        refine v_iconst (v := 0) (q := 48) dX12_spell_47 (by decide) rfl ?_
        refine v_istore (L' := [(7, .int (0 : Int32)), (6, .int (-1 : Int32)), (5, .int (0 : Int32)), (4, .int (0 : Int32)), (0, .ref T), (1, .int v1), (2, .int v2), (3, .int v3)]) (q := 50) dX12_spell_48 (by decide) rfl rfl ?_
        refine v_iconst (v := 0) (q := 51) dX12_spell_50 (by decide) rfl ?_
        refine v_istore (L' := [(8, .int (0 : Int32)), (7, .int (0 : Int32)), (6, .int (-1 : Int32)), (5, .int (0 : Int32)), (4, .int (0 : Int32)), (0, .ref T), (1, .int v1), (2, .int v2), (3, .int v3)]) (q := 53) dX12_spell_51 (by decide) rfl rfl ?_
        refine v_iconst (v := 0) (q := 54) dX12_spell_53 (by decide) rfl ?_
        refine v_istore (L' := [(9, .int (0 : Int32)), (8, .int (0 : Int32)), (7, .int (0 : Int32)), (6, .int (-1 : Int32)), (5, .int (0 : Int32)), (4, .int (0 : Int32)), (0, .ref T), (1, .int v1), (2, .int v2), (3, .int v3)]) (q := 56) dX12_spell_54 (by decide) rfl rfl ?_
        replace H := bs H; obtain ⟨e29, e29L, H⟩ := H
        refine V.sub [6, 7, 8, 9, 5, 4, 3, 2, 1, 0] rfl ?_
        refine lp_V (P := (fun s56 => V Γ d mX12_spell 56 [(0, .ref T), (1, .int v1), (2, .int v2), (3, .int v3), (4, .int s56.1), (5, .int s56.2.1), (6, .int s56.2.2.1), (7, .int s56.2.2.2.1), (8, .int s56.2.2.2.2.1), (9, .int s56.2.2.2.2.2)] [] (hm T h m) (some (.int r), (hm T h m)))) (E := (fun e => V Γ d mX12_spell 226 [(0, .ref T), (1, .int v1), (3, .int v3), (4, .int e.1), (5, .int e.2.1), (6, .int e.2.2.1), (8, .int e.2.2.2)] [] (hm T h m) (some (.int r), (hm T h m)))) (fun s r hb kI kE => sgbX12_spell_56 hd rs (s56 := s) (r := r) hb kI kE) FU ((0 : Int32), (0 : Int32), (-1 : Int32), (0 : Int32), (0 : Int32), (0 : Int32)) e29 e29L ?_
        refine v_iload (q := 228) 5 dX12_spell_226 rfl rfl ?_
        refine v_if_lt (q1 := 246) (q2 := 231) dX12_spell_228 (by decide) rfl (fun c30 => ?_) (fun c30 => ?_)
        · replace H := ip c30 H
          exact V.sub [2, 3, 4, 6] rfl (sgjX12_spell_246 hd rs H)
        · replace H := ine c30 H
          refine v_iload (q := 233) 4 dX12_spell_231 rfl rfl ?_
          refine v_aload_n (q := 234) 0 dX12_spell_233 rfl rfl rfl ?_
          refine v_iload_n (q := 235) 1 dX12_spell_234 rfl rfl rfl ?_
          replace H := bs H; obtain ⟨x33, x33e, H⟩ := H
          refine u_callV1 (M' := mX12_stepsOf) (d' := 1) (rc := (RX12, TX12, 58)) (As := [.int v1]) (st := [.int e29.2.1]) (q := 238) oX12_stepsOf dX12_spell_235 w1642 w1644 w0074 rfl rfl (RS.rc rs).1 (RS.rc rs).2 rfl (Nat.le_of_ble_eq_true rfl) (Nat.le_of_ble_eq_true rfl) (Nat.lt_of_lt_of_le (by decide) hd) rfl (sgX12_stepsOf (Nat.le_refl _) rs x33e) rfl ?_
          refine v_iload (q := 240) 5 dX12_spell_238 rfl rfl ?_
          refine v_isub (q := 241) dX12_spell_240 rfl ?_
          replace H := bs H; obtain ⟨x34, x34e, H⟩ := H
          refine u_callS1 (M' := mX12_more) (d' := 1) (As := [.int e29.2.1, .int (x33 - e29.2.2.1)]) (st := []) (q := 244) oX12_more dX12_spell_241 w1933 w1934 rfl (Nat.le_of_ble_eq_true rfl) (Nat.le_of_ble_eq_true rfl) (Nat.lt_of_lt_of_le (by decide) hd) rfl (sgX12_more (Nat.le_refl _) x34e) rfl ?_
          refine v_istore (L' := [(5, .int x34), (0, .ref T), (1, .int v1), (3, .int v3), (4, .int e29.1), (6, .int e29.2.2.1), (8, .int e29.2.2.2)]) (q := 246) dX12_spell_244 (by decide) rfl rfl ?_
          exact V.sub [3, 4, 0, 6] rfl (sgjX12_spell_246 hd rs H)
      · replace H := ip c7 H
        exact V.sub [] rfl (sgjX12_spell_36 hd rs H)
def mX12_step : MI := (yX12_step, cX12_step, 4, some .int)
theorem oX12_step : mOK mX12_step 3 := ⟨by decide +kernel, by decide +kernel, by decide +kernel, by decide, w1769, w0150⟩
def gjX12_step_32 (m : Mem) : Option (Int32) :=
some (-2 : Int32)
set_option maxRecDepth 20000 in
set_option maxHeartbeats 4000000 in
theorem sgjX12_step_32 {Γ : Gm} {d : Nat} (hd : 3 ≤ d) {T : Nat} {h : Hp} (rs : RS T h) {m : Mem} {r : Int32} (H : gjX12_step_32 m = some r) : V Γ d mX12_step 32 [] [] (hm T h m) (some (.int r), (hm T h m)) := by
  unfold gjX12_step_32 at H
  refine v_bipush (v := -2) (q := 34) dX12_step_32 (by decide) rfl ?_
  cases H
  exact v_ireturn rfl dX12_step_34
def gjX12_step_54 (y0 : Int32) (m : Mem) : Option (Int32) :=
some y0
set_option maxRecDepth 20000 in
set_option maxHeartbeats 4000000 in
theorem sgjX12_step_54 {Γ : Gm} {d : Nat} (hd : 3 ≤ d) {T : Nat} {h : Hp} (rs : RS T h) {y0 : Int32} {m : Mem} {r : Int32} (H : gjX12_step_54 y0 m = some r) : V Γ d mX12_step 54 [] [.int y0] (hm T h m) (some (.int r), (hm T h m)) := by
  unfold gjX12_step_54 at H
  cases H
  exact v_ireturn rfl dX12_step_54
def gX12_step (m : Mem) (v1 : Int32) (v2 : Int32) (v3 : Int32) : Option (Int32) :=
(gX12_isProgram m v1).bind fun x1 =>
if x1 = 0 then (
gjX12_step_32 m) else (
(gX12_stepsOf m v1).bind fun x3 =>
(gX12_isIn v2 (0 : Int32) (x3 - (1 : Int32))).bind fun x4 =>
if x4 = 0 then (
gjX12_step_32 m) else (
(gX12_isIn v3 (0 : Int32) (1 : Int32)).bind fun x6 =>
if x6 = 0 then (
gjX12_step_32 m) else (
if v3 = 0 then (
(gX12_opOf m v1 v2).bind fun x10 =>
gjX12_step_54 x10 m) else (
(gX12_lockOf m v1 v2).bind fun x9 =>
gjX12_step_54 x9 m))))
set_option maxRecDepth 20000 in
set_option maxHeartbeats 4000000 in
theorem sgX12_step {Γ : Gm} {d : Nat} (hd : 3 ≤ d) {T : Nat} {h : Hp} (rs : RS T h) {m : Mem} {v1 : Int32} {v2 : Int32} {v3 : Int32} {r : Int32} (H : gX12_step m v1 v2 v3 = some r) : V Γ d mX12_step 0 [(0, .ref T), (1, .int v1), (2, .int v2), (3, .int v3)] [] (hm T h m) (some (.int r), (hm T h m)) := by
  unfold gX12_step at H
  refine v_aload_n (q := 1) 0 dX12_step_0 rfl rfl rfl ?_
  refine v_iload_n (q := 2) 1 dX12_step_1 rfl rfl rfl ?_
  replace H := bs H; obtain ⟨x1, x1e, H⟩ := H
  refine u_callV1 (M' := mX12_isProgram) (d' := 2) (rc := (RX12, TX12, 58)) (As := [.int v1]) (st := []) (q := 5) oX12_isProgram dX12_step_2 w1629 w1631 w0071 rfl rfl (RS.rc rs).1 (RS.rc rs).2 rfl (Nat.le_of_ble_eq_true rfl) (Nat.le_of_ble_eq_true rfl) (Nat.lt_of_lt_of_le (by decide) hd) rfl (sgX12_isProgram (Nat.le_refl _) rs x1e) rfl ?_
  refine v_if_eq (q1 := 32) (q2 := 8) dX12_step_5 (by decide) rfl (fun c2 => ?_) (fun c2 => ?_)
  · replace H := ip c2 H
    exact V.sub [] rfl (sgjX12_step_32 hd rs H)
  · replace H := ine c2 H
    refine v_iload_n (q := 9) 2 dX12_step_8 rfl rfl rfl ?_
    refine v_iconst (v := 0) (q := 10) dX12_step_9 (by decide) rfl ?_
    refine v_aload_n (q := 11) 0 dX12_step_10 rfl rfl rfl ?_
    refine v_iload_n (q := 12) 1 dX12_step_11 rfl rfl rfl ?_
    replace H := bs H; obtain ⟨x3, x3e, H⟩ := H
    refine u_callV1 (M' := mX12_stepsOf) (d' := 1) (rc := (RX12, TX12, 58)) (As := [.int v1]) (st := [.int (0 : Int32), .int v2]) (q := 15) oX12_stepsOf dX12_step_12 w1642 w1644 w0074 rfl rfl (RS.rc rs).1 (RS.rc rs).2 rfl (Nat.le_of_ble_eq_true rfl) (Nat.le_of_ble_eq_true rfl) (Nat.lt_of_lt_of_le (by decide) hd) rfl (sgX12_stepsOf (Nat.le_refl _) rs x3e) rfl ?_
    refine v_iconst (v := 1) (q := 16) dX12_step_15 (by decide) rfl ?_
    refine v_isub (q := 17) dX12_step_16 rfl ?_
    replace H := bs H; obtain ⟨x4, x4e, H⟩ := H
    refine u_callS1 (M' := mX12_isIn) (d' := 1) (As := [.int v2, .int (0 : Int32), .int (x3 - (1 : Int32))]) (st := []) (q := 20) oX12_isIn dX12_step_17 w1618 w1619 rfl (Nat.le_of_ble_eq_true rfl) (Nat.le_of_ble_eq_true rfl) (Nat.lt_of_lt_of_le (by decide) hd) rfl (sgX12_isIn (Nat.le_refl _) x4e) rfl ?_
    refine v_if_eq (q1 := 32) (q2 := 23) dX12_step_20 (by decide) rfl (fun c5 => ?_) (fun c5 => ?_)
    · replace H := ip c5 H
      exact V.sub [] rfl (sgjX12_step_32 hd rs H)
    · replace H := ine c5 H
      refine v_iload_n (q := 24) 3 dX12_step_23 rfl rfl rfl ?_
      refine v_iconst (v := 0) (q := 25) dX12_step_24 (by decide) rfl ?_
      refine v_iconst (v := 1) (q := 26) dX12_step_25 (by decide) rfl ?_
      replace H := bs H; obtain ⟨x6, x6e, H⟩ := H
      refine u_callS1 (M' := mX12_isIn) (d' := 1) (As := [.int v3, .int (0 : Int32), .int (1 : Int32)]) (st := []) (q := 29) oX12_isIn dX12_step_26 w1618 w1619 rfl (Nat.le_of_ble_eq_true rfl) (Nat.le_of_ble_eq_true rfl) (Nat.lt_of_lt_of_le (by decide) hd) rfl (sgX12_isIn (Nat.le_refl _) x6e) rfl ?_
      refine v_if_ne (q1 := 35) (q2 := 32) dX12_step_29 (by decide) rfl (fun c7 => ?_) (fun c7 => ?_)
      · replace H := ine c7 H
        refine v_iload_n (q := 36) 3 dX12_step_35 rfl rfl rfl ?_
        refine v_if_ne (q1 := 48) (q2 := 39) dX12_step_36 (by decide) rfl (fun c8 => ?_) (fun c8 => ?_)
        · replace H := ine c8 H
          refine v_aload_n (q := 49) 0 dX12_step_48 rfl rfl rfl ?_
          refine v_iload_n (q := 50) 1 dX12_step_49 rfl rfl rfl ?_
          refine v_iload_n (q := 51) 2 dX12_step_50 rfl rfl rfl ?_
          replace H := bs H; obtain ⟨x9, x9e, H⟩ := H
          refine u_callV1 (M' := mX12_lockOf) (d' := 1) (rc := (RX12, TX12, 58)) (As := [.int v1, .int v2]) (st := []) (q := 54) oX12_lockOf dX12_step_51 w1654 w1656 w0077 rfl rfl (RS.rc rs).1 (RS.rc rs).2 rfl (Nat.le_of_ble_eq_true rfl) (Nat.le_of_ble_eq_true rfl) (Nat.lt_of_lt_of_le (by decide) hd) rfl (sgX12_lockOf (Nat.le_refl _) rs x9e) rfl ?_
          exact V.sub [] rfl (sgjX12_step_54 hd rs H)
        · replace H := ip c8 H
          refine v_aload_n (q := 40) 0 dX12_step_39 rfl rfl rfl ?_
          refine v_iload_n (q := 41) 1 dX12_step_40 rfl rfl rfl ?_
          refine v_iload_n (q := 42) 2 dX12_step_41 rfl rfl rfl ?_
          replace H := bs H; obtain ⟨x10, x10e, H⟩ := H
          refine u_callV1 (M' := mX12_opOf) (d' := 1) (rc := (RX12, TX12, 58)) (As := [.int v1, .int v2]) (st := []) (q := 45) oX12_opOf dX12_step_42 w1646 w1648 w0075 rfl rfl (RS.rc rs).1 (RS.rc rs).2 rfl (Nat.le_of_ble_eq_true rfl) (Nat.le_of_ble_eq_true rfl) (Nat.lt_of_lt_of_le (by decide) hd) rfl (sgX12_opOf (Nat.le_refl _) rs x10e) rfl ?_
          refine v_goto (q := 54) dX12_step_45 (by decide) ?_
          exact V.sub [] rfl (sgjX12_step_54 hd rs H)
      · replace H := ip c7 H
        exact V.sub [] rfl (sgjX12_step_32 hd rs H)
def mX12_store : MI := (yX12_store, cX12_store, 2, some .int)
theorem oX12_store : mOK mX12_store 0 := ⟨by decide +kernel, by decide +kernel, by decide +kernel, by decide, w1542, w0150⟩
def gX12_store (m : Mem)  : Option (Int32 × Mem) :=
(some ((1 : Int32) - (m 0 9))).bind fun x1 =>
(some (up m 0 12 (m 0 11))).bind fun m2 =>
(some (up m2 0 11 (0 : Int32))).bind fun m3 =>
(some (up m3 0 13 (0 : Int32))).bind fun m4 =>
(some (up m4 0 17 (0 : Int32))).bind fun m5 =>
(some (up m5 0 18 (-1 : Int32))).bind fun m6 =>
(some (up m6 0 26 (0 : Int32))).bind fun m7 =>
(gX12_clearBank m7 x1).bind fun x8 =>
(gX12_readAll x8 x1).bind fun x9 =>
(some (up x9 0 19 (x9 0 17))).bind fun m10 =>
(some (up m10 0 20 (m10 0 18))).bind fun m11 =>
if (m11 0 19) ≤ 0 then (
(some (up m11 0 9 x1)).bind fun m13 =>
(gX12_startAnew m13).bind fun x14 =>
(rd x14 4 2 x1).bind fun x15 =>
some (x15, x14)) else (
some (((-1 : Int32), m11)))
set_option maxRecDepth 20000 in
set_option maxHeartbeats 4000000 in
theorem sgX12_store {Γ : Gm} {d : Nat} (hd : 9 ≤ d) {T : Nat} {h : Hp} (rs : RS T h) {m : Mem}  {r : Int32 × Mem} (H : gX12_store m  = some r) : V Γ d mX12_store 0 [(0, .ref T)] [] (hm T h m) (some (.int r.1), (hm T h r.2)) := by
  unfold gX12_store at H
  refine v_iconst (v := 1) (q := 1) dX12_store_0 (by decide) rfl ?_
  refine v_aload_n (q := 2) 0 dX12_store_1 rfl rfl rfl ?_
  refine ur_gI (q := 5) (x := 0) (k := 9) rs dX12_store_2 w1365 (Nat.le_of_ble_eq_true rfl) rfl rfl ?_
  refine v_isub (q := 6) dX12_store_5 rfl ?_
  replace H := bs H; obtain ⟨x1, x1e, H⟩ := H
  refine v_topi (Option.some.inj x1e) ?_
  refine v_istore_n (L' := [(1, .int x1), (0, .ref T)]) (q := 7) dX12_store_6 rfl (by decide) rfl rfl ?_
  refine v_aload_n (q := 8) 1 dX12_store_7 rfl rfl rfl ?_
  refine v_aload_n (q := 9) 1 dX12_store_8 rfl rfl rfl ?_
  refine ur_gI (q := 12) (x := 0) (k := 11) rs dX12_store_9 w1367 (Nat.le_of_ble_eq_true rfl) rfl rfl ?_
  replace H := bs H; obtain ⟨m2, m2e, H⟩ := H
  refine ur_pI (q := 15) (k := 12) rs m2e dX12_store_12 w1368 (Nat.le_of_ble_eq_true rfl) rfl rfl rfl ?_
  refine v_aload_n (q := 16) 1 dX12_store_15 rfl rfl rfl ?_
  refine v_iconst (v := 0) (q := 17) dX12_store_16 (by decide) rfl ?_
  replace H := bs H; obtain ⟨m3, m3e, H⟩ := H
  refine ur_pI (q := 20) (k := 11) rs m3e dX12_store_17 w1367 (Nat.le_of_ble_eq_true rfl) rfl rfl rfl ?_
  refine v_aload_n (q := 21) 1 dX12_store_20 rfl rfl rfl ?_
  refine v_iconst (v := 0) (q := 22) dX12_store_21 (by decide) rfl ?_
  replace H := bs H; obtain ⟨m4, m4e, H⟩ := H
  refine ur_pI (q := 25) (k := 13) rs m4e dX12_store_22 w1369 (Nat.le_of_ble_eq_true rfl) rfl rfl rfl ?_
  refine v_aload_n (q := 26) 1 dX12_store_25 rfl rfl rfl ?_
  refine v_iconst (v := 0) (q := 27) dX12_store_26 (by decide) rfl ?_
  replace H := bs H; obtain ⟨m5, m5e, H⟩ := H
  refine ur_pI (q := 30) (k := 17) rs m5e dX12_store_27 w1373 (Nat.le_of_ble_eq_true rfl) rfl rfl rfl ?_
  refine v_aload_n (q := 31) 1 dX12_store_30 rfl rfl rfl ?_
  refine v_iconst (v := -1) (q := 32) dX12_store_31 (by decide) rfl ?_
  replace H := bs H; obtain ⟨m6, m6e, H⟩ := H
  refine ur_pI (q := 35) (k := 18) rs m6e dX12_store_32 w1374 (Nat.le_of_ble_eq_true rfl) rfl rfl rfl ?_
  refine v_aload_n (q := 36) 1 dX12_store_35 rfl rfl rfl ?_
  refine v_iconst (v := 0) (q := 37) dX12_store_36 (by decide) rfl ?_
  replace H := bs H; obtain ⟨m7, m7e, H⟩ := H
  refine ur_pI (q := 40) (k := 26) rs m7e dX12_store_37 w1382 (Nat.le_of_ble_eq_true rfl) rfl rfl rfl ?_
  refine v_aload_n (q := 41) 1 dX12_store_40 rfl rfl rfl ?_
  refine v_iload_n (q := 42) 0 dX12_store_41 rfl rfl rfl ?_
  replace H := bs H; obtain ⟨x8, x8e, H⟩ := H
  refine u_callV0 (M' := mX12_clearBank) (d' := 1) (rc := (RX12, TX12, 58)) (As := [.int x1]) (st := []) (q := 45) oX12_clearBank dX12_store_42 w1344 w1346 w0050 rfl rfl (RS.rc rs).1 (RS.rc rs).2 rfl (Nat.le_of_ble_eq_true rfl) (Nat.le_of_ble_eq_true rfl) (Nat.lt_of_lt_of_le (by decide) hd) rfl (sgX12_clearBank (Nat.le_refl _) rs x8e) rfl ?_
  refine v_aload_n (q := 46) 1 dX12_store_45 rfl rfl rfl ?_
  refine v_iload_n (q := 47) 0 dX12_store_46 rfl rfl rfl ?_
  replace H := bs H; obtain ⟨x9, x9e, H⟩ := H
  refine u_callV0 (M' := mX12_readAll) (d' := 8) (rc := (RX12, TX12, 58)) (As := [.int x1]) (st := []) (q := 50) oX12_readAll dX12_store_47 w1543 w1545 w0053 rfl rfl (RS.rc rs).1 (RS.rc rs).2 rfl (Nat.le_of_ble_eq_true rfl) (Nat.le_of_ble_eq_true rfl) (Nat.lt_of_lt_of_le (by decide) hd) rfl (sgX12_readAll (Nat.le_refl _) rs x9e) rfl ?_
  refine v_aload_n (q := 51) 1 dX12_store_50 rfl rfl rfl ?_
  refine v_aload_n (q := 52) 1 dX12_store_51 rfl rfl rfl ?_
  refine ur_gI (q := 55) (x := 0) (k := 17) rs dX12_store_52 w1373 (Nat.le_of_ble_eq_true rfl) rfl rfl ?_
  replace H := bs H; obtain ⟨m10, m10e, H⟩ := H
  refine ur_pI (q := 58) (k := 19) rs m10e dX12_store_55 w1375 (Nat.le_of_ble_eq_true rfl) rfl rfl rfl ?_
  refine v_aload_n (q := 59) 1 dX12_store_58 rfl rfl rfl ?_
  refine v_aload_n (q := 60) 1 dX12_store_59 rfl rfl rfl ?_
  refine ur_gI (q := 63) (x := 0) (k := 18) rs dX12_store_60 w1374 (Nat.le_of_ble_eq_true rfl) rfl rfl ?_
  replace H := bs H; obtain ⟨m11, m11e, H⟩ := H
  refine ur_pI (q := 66) (k := 20) rs m11e dX12_store_63 w1376 (Nat.le_of_ble_eq_true rfl) rfl rfl rfl ?_
  refine v_aload_n (q := 67) 1 dX12_store_66 rfl rfl rfl ?_
  refine ur_gI (q := 70) (x := 0) (k := 19) rs dX12_store_67 w1375 (Nat.le_of_ble_eq_true rfl) rfl rfl ?_
  refine v_if_le (q1 := 75) (q2 := 73) dX12_store_70 (by decide) rfl (fun c12 => ?_) (fun c12 => ?_)
  · replace H := ip c12 H
    refine v_aload_n (q := 76) 1 dX12_store_75 rfl rfl rfl ?_
    refine v_iload_n (q := 77) 0 dX12_store_76 rfl rfl rfl ?_
    replace H := bs H; obtain ⟨m13, m13e, H⟩ := H
    refine ur_pI (q := 80) (k := 9) rs m13e dX12_store_77 w1365 (Nat.le_of_ble_eq_true rfl) rfl rfl rfl ?_
    refine v_aload_n (q := 81) 1 dX12_store_80 rfl rfl rfl ?_
    replace H := bs H; obtain ⟨x14, x14e, H⟩ := H
    refine u_callV0 (M' := mX12_startAnew) (d' := 2) (rc := (RX12, TX12, 58)) (As := []) (st := []) (q := 84) oX12_startAnew dX12_store_81 w1348 w1350 w0051 rfl rfl (RS.rc rs).1 (RS.rc rs).2 rfl (Nat.le_of_ble_eq_true rfl) (Nat.le_of_ble_eq_true rfl) (Nat.lt_of_lt_of_le (by decide) hd) rfl (sgX12_startAnew (Nat.le_refl _) rs x14e) rfl ?_
    refine v_aload_n (q := 85) 1 dX12_store_84 rfl rfl rfl ?_
    refine ur_arr (q := 88) rs rt3 dX12_store_85 w1359 (Nat.le_of_ble_eq_true rfl) rfl rfl ?_
    refine v_iload_n (q := 89) 0 dX12_store_88 rfl rfl rfl ?_
    replace H := bs H; obtain ⟨x15, x15e, H⟩ := H
    refine ur_rd (q := 90) rs rt3 x15e dX12_store_89 rfl ?_
    cases H
    exact v_ireturn rfl dX12_store_90
  · replace H := ine c12 H
    refine v_iconst (v := -1) (q := 74) dX12_store_73 (by decide) rfl ?_
    cases H
    exact v_ireturn rfl dX12_store_74
def mX12_swap : MI := (yX12_swap, cX12_swap, 3, some .boolean)
theorem oX12_swap : mOK mX12_swap 2 := ⟨by decide +kernel, by decide +kernel, by decide +kernel, by decide, w1745, w0150⟩
def gX12_swap (m : Mem) (v1 : Int32) (v2 : Int32) : Option (Int32 × Mem) :=
(gX12_isPair m v1 v2).bind fun x1 =>
if x1 = 0 then (
some (((0 : Int32), m))) else (
(gX12_keepAct m).bind fun x3 =>
(gX12_swapSteps x3 v1 v2).bind fun x4 =>
some (((1 : Int32), x4)))
set_option maxRecDepth 20000 in
set_option maxHeartbeats 4000000 in
theorem sgX12_swap {Γ : Gm} {d : Nat} (hd : 4 ≤ d) {T : Nat} {h : Hp} (rs : RS T h) {m : Mem} {v1 : Int32} {v2 : Int32} {r : Int32 × Mem} (H : gX12_swap m v1 v2 = some r) : V Γ d mX12_swap 0 [(0, .ref T), (1, .int v1), (2, .int v2)] [] (hm T h m) (some (.int r.1), (hm T h r.2)) := by
  unfold gX12_swap at H
  refine v_aload_n (q := 1) 0 dX12_swap_0 rfl rfl rfl ?_
  refine v_iload_n (q := 2) 1 dX12_swap_1 rfl rfl rfl ?_
  refine v_iload_n (q := 3) 2 dX12_swap_2 rfl rfl rfl ?_
  replace H := bs H; obtain ⟨x1, x1e, H⟩ := H
  refine u_callV1 (M' := mX12_isPair) (d' := 3) (rc := (RX12, TX12, 58)) (As := [.int v1, .int v2]) (st := []) (q := 6) oX12_isPair dX12_swap_3 w1746 w1748 w0097 rfl rfl (RS.rc rs).1 (RS.rc rs).2 rfl (Nat.le_of_ble_eq_true rfl) (Nat.le_of_ble_eq_true rfl) (Nat.lt_of_lt_of_le (by decide) hd) rfl (sgX12_isPair (Nat.le_refl _) rs x1e) rfl ?_
  refine v_if_ne (q1 := 11) (q2 := 9) dX12_swap_6 (by decide) rfl (fun c2 => ?_) (fun c2 => ?_)
  · replace H := ine c2 H
    refine v_aload_n (q := 12) 0 dX12_swap_11 rfl rfl rfl ?_
    replace H := bs H; obtain ⟨x3, x3e, H⟩ := H
    refine u_callV0 (M' := mX12_keepAct) (d' := 1) (rc := (RX12, TX12, 58)) (As := []) (st := []) (q := 15) oX12_keepAct dX12_swap_12 w1633 w1635 w0072 rfl rfl (RS.rc rs).1 (RS.rc rs).2 rfl (Nat.le_of_ble_eq_true rfl) (Nat.le_of_ble_eq_true rfl) (Nat.lt_of_lt_of_le (by decide) hd) rfl (sgX12_keepAct (Nat.le_refl _) rs x3e) rfl ?_
    refine v_aload_n (q := 16) 0 dX12_swap_15 rfl rfl rfl ?_
    refine v_iload_n (q := 17) 1 dX12_swap_16 rfl rfl rfl ?_
    refine v_iload_n (q := 18) 2 dX12_swap_17 rfl rfl rfl ?_
    replace H := bs H; obtain ⟨x4, x4e, H⟩ := H
    refine u_callV0 (M' := mX12_swapSteps) (d' := 2) (rc := (RX12, TX12, 58)) (As := [.int v1, .int v2]) (st := []) (q := 21) oX12_swapSteps dX12_swap_18 w1750 w1752 w0098 rfl rfl (RS.rc rs).1 (RS.rc rs).2 rfl (Nat.le_of_ble_eq_true rfl) (Nat.le_of_ble_eq_true rfl) (Nat.lt_of_lt_of_le (by decide) hd) rfl (sgX12_swapSteps (Nat.le_refl _) rs x4e) rfl ?_
    refine v_iconst (v := 1) (q := 22) dX12_swap_21 (by decide) rfl ?_
    cases H
    exact v_zreturn rfl (by decide) dX12_swap_22
  · replace H := ip c2 H
    refine v_iconst (v := 0) (q := 10) dX12_swap_9 (by decide) rfl ?_
    cases H
    exact v_zreturn rfl (by decide) dX12_swap_10
def mX12_undo : MI := (yX12_undo, cX12_undo, 1, some .boolean)
theorem oX12_undo : mOK mX12_undo 0 := ⟨by decide +kernel, by decide +kernel, by decide +kernel, by decide, w2011, w0150⟩
def gX12_undo (m : Mem)  : Option (Int32 × Mem) :=
if (m 0 56) = 0 then (
some (((0 : Int32), m))) else (
(some (up m 0 56 ((m 0 56) - (1 : Int32)))).bind fun m2 =>
(some (up m2 0 57 ((m2 0 57) + (1 : Int32)))).bind fun m3 =>
(gX12_swapAll m3).bind fun x4 =>
some (((1 : Int32), x4)))
set_option maxRecDepth 20000 in
set_option maxHeartbeats 4000000 in
theorem sgX12_undo {Γ : Gm} {d : Nat} (hd : 2 ≤ d) {T : Nat} {h : Hp} (rs : RS T h) {m : Mem}  {r : Int32 × Mem} (H : gX12_undo m  = some r) : V Γ d mX12_undo 0 [(0, .ref T)] [] (hm T h m) (some (.int r.1), (hm T h r.2)) := by
  unfold gX12_undo at H
  refine v_aload_n (q := 1) 0 dX12_undo_0 rfl rfl rfl ?_
  refine ur_gI (q := 4) (x := 0) (k := 56) rs dX12_undo_1 w1412 (Nat.le_of_ble_eq_true rfl) rfl rfl ?_
  refine v_if_ne (q1 := 9) (q2 := 7) dX12_undo_4 (by decide) rfl (fun c1 => ?_) (fun c1 => ?_)
  · replace H := ine c1 H
    refine v_aload_n (q := 10) 0 dX12_undo_9 rfl rfl rfl ?_
    refine v_dup (q := 11) dX12_undo_10 rfl rfl ?_
    refine ur_gI (q := 14) (x := 0) (k := 56) rs dX12_undo_11 w1412 (Nat.le_of_ble_eq_true rfl) rfl rfl ?_
    refine v_iconst (v := 1) (q := 15) dX12_undo_14 (by decide) rfl ?_
    refine v_isub (q := 16) dX12_undo_15 rfl ?_
    replace H := bs H; obtain ⟨m2, m2e, H⟩ := H
    refine ur_pI (q := 19) (k := 56) rs m2e dX12_undo_16 w1412 (Nat.le_of_ble_eq_true rfl) rfl rfl rfl ?_
    refine v_aload_n (q := 20) 0 dX12_undo_19 rfl rfl rfl ?_
    refine v_dup (q := 21) dX12_undo_20 rfl rfl ?_
    refine ur_gI (q := 24) (x := 0) (k := 57) rs dX12_undo_21 w1413 (Nat.le_of_ble_eq_true rfl) rfl rfl ?_
    refine v_iconst (v := 1) (q := 25) dX12_undo_24 (by decide) rfl ?_
    refine v_iadd (q := 26) dX12_undo_25 rfl ?_
    replace H := bs H; obtain ⟨m3, m3e, H⟩ := H
    refine ur_pI (q := 29) (k := 57) rs m3e dX12_undo_26 w1413 (Nat.le_of_ble_eq_true rfl) rfl rfl rfl ?_
    refine v_aload_n (q := 30) 0 dX12_undo_29 rfl rfl rfl ?_
    replace H := bs H; obtain ⟨x4, x4e, H⟩ := H
    refine u_callV0 (M' := mX12_swapAll) (d' := 1) (rc := (RX12, TX12, 58)) (As := []) (st := []) (q := 33) oX12_swapAll dX12_undo_30 w2012 w2014 w0136 rfl rfl (RS.rc rs).1 (RS.rc rs).2 rfl (Nat.le_of_ble_eq_true rfl) (Nat.le_of_ble_eq_true rfl) (Nat.lt_of_lt_of_le (by decide) hd) rfl (sgX12_swapAll (Nat.le_refl _) rs x4e) rfl ?_
    refine v_iconst (v := 1) (q := 34) dX12_undo_33 (by decide) rfl ?_
    cases H
    exact v_zreturn rfl (by decide) dX12_undo_34
  · replace H := ip c1 H
    refine v_iconst (v := 0) (q := 8) dX12_undo_7 (by decide) rfl ?_
    cases H
    exact v_zreturn rfl (by decide) dX12_undo_8
def mX12_uses : MI := (yX12_uses, cX12_uses, 2, some .int)
theorem oX12_uses : mOK mX12_uses 1 := ⟨by decide +kernel, by decide +kernel, by decide +kernel, by decide, w1780, w0150⟩
def gjX12_uses_21 (y0 : Int32) (m : Mem) : Option (Int32) :=
some y0
set_option maxRecDepth 20000 in
set_option maxHeartbeats 4000000 in
theorem sgjX12_uses_21 {Γ : Gm} {d : Nat} (hd : 3 ≤ d) {T : Nat} {h : Hp} (rs : RS T h) {y0 : Int32} {m : Mem} {r : Int32} (H : gjX12_uses_21 y0 m = some r) : V Γ d mX12_uses 21 [] [.int y0] (hm T h m) (some (.int r), (hm T h m)) := by
  unfold gjX12_uses_21 at H
  cases H
  exact v_ireturn rfl dX12_uses_21
def gX12_uses (m : Mem) (v1 : Int32) : Option (Int32) :=
(gX12_isNode v1).bind fun x1 =>
if x1 = 0 then (
gjX12_uses_21 (0 : Int32) m) else (
(rd m 1 9685 ((256 : Int32) + v1)).bind fun x3 =>
gjX12_uses_21 x3 m)
set_option maxRecDepth 20000 in
set_option maxHeartbeats 4000000 in
theorem sgX12_uses {Γ : Gm} {d : Nat} (hd : 3 ≤ d) {T : Nat} {h : Hp} (rs : RS T h) {m : Mem} {v1 : Int32} {r : Int32} (H : gX12_uses m v1 = some r) : V Γ d mX12_uses 0 [(0, .ref T), (1, .int v1)] [] (hm T h m) (some (.int r), (hm T h m)) := by
  unfold gX12_uses at H
  refine v_iload_n (q := 1) 1 dX12_uses_0 rfl rfl rfl ?_
  replace H := bs H; obtain ⟨x1, x1e, H⟩ := H
  refine u_callS1 (M' := mX12_isNode) (d' := 2) (As := [.int v1]) (st := []) (q := 4) oX12_isNode dX12_uses_1 w1774 w1775 rfl (Nat.le_of_ble_eq_true rfl) (Nat.le_of_ble_eq_true rfl) (Nat.lt_of_lt_of_le (by decide) hd) rfl (sgX12_isNode (Nat.le_refl _) x1e) rfl ?_
  refine v_if_eq (q1 := 20) (q2 := 7) dX12_uses_4 (by decide) rfl (fun c2 => ?_) (fun c2 => ?_)
  · replace H := ip c2 H
    refine v_iconst (v := 0) (q := 21) dX12_uses_20 (by decide) rfl ?_
    exact V.sub [] rfl (sgjX12_uses_21 hd rs H)
  · replace H := ine c2 H
    refine v_aload_n (q := 8) 0 dX12_uses_7 rfl rfl rfl ?_
    refine ur_arr (q := 11) rs rt0 dX12_uses_8 w1356 (Nat.le_of_ble_eq_true rfl) rfl rfl ?_
    refine v_sipush (v := 256) (q := 14) dX12_uses_11 (by decide) rfl ?_
    refine v_iload_n (q := 15) 1 dX12_uses_14 rfl rfl rfl ?_
    refine v_iadd (q := 16) dX12_uses_15 rfl ?_
    replace H := bs H; obtain ⟨x3, x3e, H⟩ := H
    refine ur_rd (q := 17) rs rt0 x3e dX12_uses_16 rfl ?_
    refine v_goto (q := 21) dX12_uses_17 (by decide) ?_
    exact V.sub [] rfl (sgjX12_uses_21 hd rs H)
def mX12_way : MI := (yX12_way, cX12_way, 5, some .int)
theorem oX12_way : mOK mX12_way 3 := ⟨by decide +kernel, by decide +kernel, by decide +kernel, by decide, w1784, w0150⟩
def gjX12_way_67 (y0 : Int32) (m : Mem) : Option (Int32 × Mem) :=
some (y0, m)
set_option maxRecDepth 20000 in
set_option maxHeartbeats 4000000 in
theorem sgjX12_way_67 {Γ : Gm} {d : Nat} (hd : 3 ≤ d) {T : Nat} {h : Hp} (rs : RS T h) {y0 : Int32} {m : Mem} {r : Int32 × Mem} (H : gjX12_way_67 y0 m = some r) : V Γ d mX12_way 67 [] [.int y0] (hm T h m) (some (.int r.1), (hm T h r.2)) := by
  unfold gjX12_way_67 at H
  cases H
  exact v_ireturn rfl dX12_way_67
def gjX12_way_24 (v3 : Int32) (y0 : Int32) (m : Mem) : Option (Int32 × Mem) :=
if y0 = 0 then (
some (((-1 : Int32), m))) else (
if v3 = (-1 : Int32) then (
gjX12_way_67 (y0 - (1 : Int32)) m) else (
(gX12_isIn v3 (0 : Int32) (y0 - (1 : Int32))).bind fun x5 =>
if x5 = 0 then (
gjX12_way_67 (-1 : Int32) m) else (
(rd m 17 20 v3).bind fun x7 =>
gjX12_way_67 x7 m)))
set_option maxRecDepth 20000 in
set_option maxHeartbeats 4000000 in
theorem sgjX12_way_24 {Γ : Gm} {d : Nat} (hd : 3 ≤ d) {T : Nat} {h : Hp} (rs : RS T h) {v3 : Int32} {y0 : Int32} {m : Mem} {r : Int32 × Mem} (H : gjX12_way_24 v3 y0 m = some r) : V Γ d mX12_way 24 [(0, .ref T), (3, .int v3)] [.int y0] (hm T h m) (some (.int r.1), (hm T h r.2)) := by
  unfold gjX12_way_24 at H
  refine v_istore (L' := [(4, .int y0), (0, .ref T), (3, .int v3)]) (q := 26) dX12_way_24 (by decide) rfl rfl ?_
  refine v_iload (q := 28) 0 dX12_way_26 rfl rfl ?_
  refine v_if_ne (q1 := 33) (q2 := 31) dX12_way_28 (by decide) rfl (fun c3 => ?_) (fun c3 => ?_)
  · replace H := ine c3 H
    refine v_iload_n (q := 34) 2 dX12_way_33 rfl rfl rfl ?_
    refine v_iconst (v := -1) (q := 35) dX12_way_34 (by decide) rfl ?_
    refine v_icmp_ne (q1 := 45) (q2 := 38) dX12_way_35 (by decide) rfl (fun c4 => ?_) (fun c4 => ?_)
    · replace H := ine c4 H
      refine v_iload_n (q := 46) 2 dX12_way_45 rfl rfl rfl ?_
      refine v_iconst (v := 0) (q := 47) dX12_way_46 (by decide) rfl ?_
      refine v_iload (q := 49) 0 dX12_way_47 rfl rfl ?_
      refine v_iconst (v := 1) (q := 50) dX12_way_49 (by decide) rfl ?_
      refine v_isub (q := 51) dX12_way_50 rfl ?_
      replace H := bs H; obtain ⟨x5, x5e, H⟩ := H
      refine u_callS1 (M' := mX12_isIn) (d' := 1) (As := [.int v3, .int (0 : Int32), .int (y0 - (1 : Int32))]) (st := []) (q := 54) oX12_isIn dX12_way_51 w1618 w1619 rfl (Nat.le_of_ble_eq_true rfl) (Nat.le_of_ble_eq_true rfl) (Nat.lt_of_lt_of_le (by decide) hd) rfl (sgX12_isIn (Nat.le_refl _) x5e) rfl ?_
      refine v_if_eq (q1 := 66) (q2 := 57) dX12_way_54 (by decide) rfl (fun c6 => ?_) (fun c6 => ?_)
      · replace H := ip c6 H
        refine v_iconst (v := -1) (q := 67) dX12_way_66 (by decide) rfl ?_
        exact V.sub [] rfl (sgjX12_way_67 hd rs H)
      · replace H := ine c6 H
        refine v_aload_n (q := 58) 1 dX12_way_57 rfl rfl rfl ?_
        refine ur_arr (q := 61) rs rt28 dX12_way_58 w1384 (Nat.le_of_ble_eq_true rfl) rfl rfl ?_
        refine v_iload_n (q := 62) 2 dX12_way_61 rfl rfl rfl ?_
        replace H := bs H; obtain ⟨x7, x7e, H⟩ := H
        refine ur_rd (q := 63) rs rt28 x7e dX12_way_62 rfl ?_
        refine v_goto (q := 67) dX12_way_63 (by decide) ?_
        exact V.sub [] rfl (sgjX12_way_67 hd rs H)
    · replace H := ip c4 H
      refine v_iload (q := 40) 0 dX12_way_38 rfl rfl ?_
      refine v_iconst (v := 1) (q := 41) dX12_way_40 (by decide) rfl ?_
      refine v_isub (q := 42) dX12_way_41 rfl ?_
      refine v_goto (q := 67) dX12_way_42 (by decide) ?_
      exact V.sub [] rfl (sgjX12_way_67 hd rs H)
  · replace H := ip c3 H
    refine v_iconst (v := -1) (q := 32) dX12_way_31 (by decide) rfl ?_
    cases H
    exact v_ireturn rfl dX12_way_32
def gjX12_way_23 (v3 : Int32) (m : Mem) : Option (Int32 × Mem) :=
gjX12_way_24 v3 (0 : Int32) m
set_option maxRecDepth 20000 in
set_option maxHeartbeats 4000000 in
theorem sgjX12_way_23 {Γ : Gm} {d : Nat} (hd : 3 ≤ d) {T : Nat} {h : Hp} (rs : RS T h) {v3 : Int32} {m : Mem} {r : Int32 × Mem} (H : gjX12_way_23 v3 m = some r) : V Γ d mX12_way 23 [(0, .ref T), (3, .int v3)] [] (hm T h m) (some (.int r.1), (hm T h r.2)) := by
  unfold gjX12_way_23 at H
  refine v_iconst (v := 0) (q := 24) dX12_way_23 (by decide) rfl ?_
  exact V.sub [0, 1] rfl (sgjX12_way_24 hd rs H)
def gX12_way (m : Mem) (v1 : Int32) (v2 : Int32) (v3 : Int32) : Option (Int32 × Mem) :=
(gX12_isNode v1).bind fun x1 =>
if x1 = 0 then (
gjX12_way_23 v3 m) else (
(gX12_isNode v2).bind fun x8 =>
if x8 = 0 then (
gjX12_way_23 v3 m) else (
(gX12_layWay m v1 v2).bind fun x10 =>
gjX12_way_24 v3 x10.1 x10.2))
set_option maxRecDepth 20000 in
set_option maxHeartbeats 4000000 in
theorem sgX12_way {Γ : Gm} {d : Nat} (hd : 3 ≤ d) {T : Nat} {h : Hp} (rs : RS T h) {m : Mem} {v1 : Int32} {v2 : Int32} {v3 : Int32} {r : Int32 × Mem} (H : gX12_way m v1 v2 v3 = some r) : V Γ d mX12_way 0 [(0, .ref T), (1, .int v1), (2, .int v2), (3, .int v3)] [] (hm T h m) (some (.int r.1), (hm T h r.2)) := by
  unfold gX12_way at H
  refine v_iload_n (q := 1) 1 dX12_way_0 rfl rfl rfl ?_
  replace H := bs H; obtain ⟨x1, x1e, H⟩ := H
  refine u_callS1 (M' := mX12_isNode) (d' := 2) (As := [.int v1]) (st := []) (q := 4) oX12_isNode dX12_way_1 w1774 w1775 rfl (Nat.le_of_ble_eq_true rfl) (Nat.le_of_ble_eq_true rfl) (Nat.lt_of_lt_of_le (by decide) hd) rfl (sgX12_isNode (Nat.le_refl _) x1e) rfl ?_
  refine v_if_eq (q1 := 23) (q2 := 7) dX12_way_4 (by decide) rfl (fun c2 => ?_) (fun c2 => ?_)
  · replace H := ip c2 H
    exact V.sub [0, 3] rfl (sgjX12_way_23 hd rs H)
  · replace H := ine c2 H
    refine v_iload_n (q := 8) 2 dX12_way_7 rfl rfl rfl ?_
    replace H := bs H; obtain ⟨x8, x8e, H⟩ := H
    refine u_callS1 (M' := mX12_isNode) (d' := 2) (As := [.int v2]) (st := []) (q := 11) oX12_isNode dX12_way_8 w1774 w1775 rfl (Nat.le_of_ble_eq_true rfl) (Nat.le_of_ble_eq_true rfl) (Nat.lt_of_lt_of_le (by decide) hd) rfl (sgX12_isNode (Nat.le_refl _) x8e) rfl ?_
    refine v_if_eq (q1 := 23) (q2 := 14) dX12_way_11 (by decide) rfl (fun c9 => ?_) (fun c9 => ?_)
    · replace H := ip c9 H
      exact V.sub [0, 3] rfl (sgjX12_way_23 hd rs H)
    · replace H := ine c9 H
      refine v_aload_n (q := 15) 0 dX12_way_14 rfl rfl rfl ?_
      refine v_iload_n (q := 16) 1 dX12_way_15 rfl rfl rfl ?_
      refine v_iload_n (q := 17) 2 dX12_way_16 rfl rfl rfl ?_
      replace H := bs H; obtain ⟨x10, x10e, H⟩ := H
      refine u_callV1 (M' := mX12_layWay) (d' := 2) (rc := (RX12, TX12, 58)) (As := [.int v1, .int v2]) (st := []) (q := 20) oX12_layWay dX12_way_17 w1709 w1711 w0090 rfl rfl (RS.rc rs).1 (RS.rc rs).2 rfl (Nat.le_of_ble_eq_true rfl) (Nat.le_of_ble_eq_true rfl) (Nat.lt_of_lt_of_le (by decide) hd) rfl (sgX12_layWay (Nat.le_refl _) rs x10e) rfl ?_
      refine v_goto (q := 24) dX12_way_20 (by decide) ?_
      exact V.sub [0, 3] rfl (sgjX12_way_24 hd rs H)

def mX6_knownName : MI := (yX6_knownName, cX6_knownName, 3, some .int)
theorem oX6_knownName : mOK mX6_knownName 1 := ⟨by decide +kernel, by decide +kernel, by decide +kernel, by decide, w0685, w0140⟩
def jX6_knownName_36 (v0 : Nat) (h : Hp) : Option (Int32 × Hp) :=
(gO h 6 v0).bind fun _ =>
(fX6_fail h v0 (3 : Int32)).bind fun x7 =>
some (((-1 : Int32), x7))
set_option maxRecDepth 20000 in
set_option maxHeartbeats 4000000 in
theorem sjX6_knownName_36 {Γ : Gm} {d : Nat} (hd : 8 ≤ d) {v0 : Nat} {h : Hp} {r : Int32 × Hp} (H : jX6_knownName_36 v0 h = some r) : V Γ d mX6_knownName 36 [(0, .ref v0)] [] h (some (.int r.1), r.2) := by
  unfold jX6_knownName_36 at H
  refine v_aload_n (q := 37) 0 dX6_knownName_36 rfl rfl rfl ?_
  refine v_iconst (v := 3) (q := 38) dX6_knownName_37 (by decide) rfl ?_
  replace H := bs H; obtain ⟨_, o6, H⟩ := H
  replace H := bs H; obtain ⟨x7, x7e, H⟩ := H
  refine u_callV0 (M' := mX6_fail) (d' := 1) (rc := (RX6, TX6, 13)) (As := [.int (3 : Int32)]) (st := []) (q := 41) oX6_fail dX6_knownName_38 w0658 w0660 w0004 rfl rfl (gO_sp o6).1 (gO_sp o6).2 rfl (Nat.le_of_ble_eq_true rfl) (Nat.le_of_ble_eq_true rfl) (Nat.lt_of_lt_of_le (by decide) hd) rfl (sX6_fail (Nat.le_refl _) x7e) rfl ?_
  refine v_iconst (v := -1) (q := 42) dX6_knownName_41 (by decide) rfl ?_
  cases H
  exact v_ireturn rfl dX6_knownName_42
def fX6_knownName (h : Hp) (v0 : Nat) (v1 : Int32) : Option (Int32 × Hp) :=
(gI h 6 v0 5).bind fun x1 =>
if x1 = (15 : Int32) then (
(gO h 6 v0).bind fun _ =>
(fX6_findName h v0).bind fun x4 =>
if x4 = (-1 : Int32) then (
jX6_knownName_36 v0 h) else (
(gR h 6 v0 11).bind fun x8 =>
(lI h .int x8 x4).bind fun x9 =>
if x9 = v1 then (
(gO h 6 v0).bind fun _ =>
(fX6_nextToken h v0).bind fun x12 =>
(gR x12 6 v0 12).bind fun x13 =>
(lI x12 .int x13 x4).bind fun x14 =>
some (x14, x12)) else (
jX6_knownName_36 v0 h))) else (
(gO h 6 v0).bind fun _ =>
(fX6_fail h v0 (1 : Int32)).bind fun x16 =>
some (((-1 : Int32), x16)))
set_option maxRecDepth 20000 in
set_option maxHeartbeats 4000000 in
theorem sX6_knownName {Γ : Gm} {d : Nat} (hd : 8 ≤ d) {h : Hp} {v0 : Nat} {v1 : Int32} {r : Int32 × Hp} (H : fX6_knownName h v0 v1 = some r) : V Γ d mX6_knownName 0 [(0, .ref v0), (1, .int v1)] [] h (some (.int r.1), r.2) := by
  unfold fX6_knownName at H
  refine v_aload_n (q := 1) 0 dX6_knownName_0 rfl rfl rfl ?_
  replace H := bs H; obtain ⟨x1, x1e, H⟩ := H
  refine u_gI (q := 4) (r := (RX6, TX6, 13)) x1e dX6_knownName_1 w0181 rfl (by decide) rfl rfl ?_
  refine v_bipush (v := 15) (q := 6) dX6_knownName_4 (by decide) rfl ?_
  refine v_icmp_eq (q1 := 16) (q2 := 9) dX6_knownName_6 (by decide) rfl (fun c2 => ?_) (fun c2 => ?_)
  · replace H := ip c2 H
    refine v_aload_n (q := 17) 0 dX6_knownName_16 rfl rfl rfl ?_
    replace H := bs H; obtain ⟨_, o3, H⟩ := H
    replace H := bs H; obtain ⟨x4, x4e, H⟩ := H
    refine u_callV1 (M' := mX6_findName) (d' := 2) (rc := (RX6, TX6, 13)) (As := []) (st := []) (q := 20) oX6_findName dX6_knownName_17 w0666 w0668 w0006 rfl rfl (gO_sp o3).1 (gO_sp o3).2 rfl (Nat.le_of_ble_eq_true rfl) (Nat.le_of_ble_eq_true rfl) (Nat.lt_of_lt_of_le (by decide) hd) rfl (sX6_findName (Nat.le_refl _) x4e) rfl ?_
    refine v_istore_n (L' := [(2, .int x4), (0, .ref v0), (1, .int v1)]) (q := 21) dX6_knownName_20 rfl (by decide) rfl rfl ?_
    refine v_iload_n (q := 22) 0 dX6_knownName_21 rfl rfl rfl ?_
    refine v_iconst (v := -1) (q := 23) dX6_knownName_22 (by decide) rfl ?_
    refine v_icmp_eq (q1 := 36) (q2 := 26) dX6_knownName_23 (by decide) rfl (fun c5 => ?_) (fun c5 => ?_)
    · replace H := ip c5 H
      exact V.sub [1] rfl (sjX6_knownName_36 hd H)
    · replace H := ine c5 H
      refine v_aload_n (q := 27) 1 dX6_knownName_26 rfl rfl rfl ?_
      replace H := bs H; obtain ⟨x8, x8e, H⟩ := H
      refine u_gR (q := 30) (r := (RX6, TX6, 13)) x8e dX6_knownName_27 w0187 rfl (by decide) rfl rfl ?_
      refine v_iload_n (q := 31) 0 dX6_knownName_30 rfl rfl rfl ?_
      replace H := bs H; obtain ⟨x9, x9e, H⟩ := H
      refine u_lI (q := 32) x9e dX6_knownName_31 rfl ?_
      refine v_iload_n (q := 33) 2 dX6_knownName_32 rfl rfl rfl ?_
      refine v_icmp_eq (q1 := 43) (q2 := 36) dX6_knownName_33 (by decide) rfl (fun c10 => ?_) (fun c10 => ?_)
      · replace H := ip c10 H
        refine v_aload_n (q := 44) 1 dX6_knownName_43 rfl rfl rfl ?_
        replace H := bs H; obtain ⟨_, o11, H⟩ := H
        replace H := bs H; obtain ⟨x12, x12e, H⟩ := H
        refine u_callV0 (M' := mX6_nextToken) (d' := 7) (rc := (RX6, TX6, 13)) (As := []) (st := []) (q := 47) oX6_nextToken dX6_knownName_44 w0594 w0596 w0001 rfl rfl (gO_sp o11).1 (gO_sp o11).2 rfl (Nat.le_of_ble_eq_true rfl) (Nat.le_of_ble_eq_true rfl) (Nat.lt_of_lt_of_le (by decide) hd) rfl (sX6_nextToken (Nat.le_refl _) x12e) rfl ?_
        refine v_aload_n (q := 48) 1 dX6_knownName_47 rfl rfl rfl ?_
        replace H := bs H; obtain ⟨x13, x13e, H⟩ := H
        refine u_gR (q := 51) (r := (RX6, TX6, 13)) x13e dX6_knownName_48 w0188 rfl (by decide) rfl rfl ?_
        refine v_iload_n (q := 52) 0 dX6_knownName_51 rfl rfl rfl ?_
        replace H := bs H; obtain ⟨x14, x14e, H⟩ := H
        refine u_lI (q := 53) x14e dX6_knownName_52 rfl ?_
        cases H
        exact v_ireturn rfl dX6_knownName_53
      · replace H := ine c10 H
        exact V.sub [1] rfl (sjX6_knownName_36 hd H)
  · replace H := ine c2 H
    refine v_aload_n (q := 10) 0 dX6_knownName_9 rfl rfl rfl ?_
    refine v_iconst (v := 1) (q := 11) dX6_knownName_10 (by decide) rfl ?_
    replace H := bs H; obtain ⟨_, o15, H⟩ := H
    replace H := bs H; obtain ⟨x16, x16e, H⟩ := H
    refine u_callV0 (M' := mX6_fail) (d' := 1) (rc := (RX6, TX6, 13)) (As := [.int (1 : Int32)]) (st := []) (q := 14) oX6_fail dX6_knownName_11 w0658 w0660 w0004 rfl rfl (gO_sp o15).1 (gO_sp o15).2 rfl (Nat.le_of_ble_eq_true rfl) (Nat.le_of_ble_eq_true rfl) (Nat.lt_of_lt_of_le (by decide) hd) rfl (sX6_fail (Nat.le_refl _) x16e) rfl ?_
    refine v_iconst (v := -1) (q := 15) dX6_knownName_14 (by decide) rfl ?_
    cases H
    exact v_ireturn rfl dX6_knownName_15
def mX6_readLock : MI := (yX6_readLock, cX6_readLock, 2, none)
theorem oX6_readLock : mOK mX6_readLock 0 := ⟨by decide +kernel, by decide +kernel, by decide +kernel, by decide, w0681, w0140⟩
def jX6_readLock_46 (h : Hp) : Option (Hp) :=
some h
set_option maxRecDepth 20000 in
set_option maxHeartbeats 4000000 in
theorem sjX6_readLock_46 {Γ : Gm} {d : Nat} (hd : 9 ≤ d) {h : Hp} {r : Hp} (H : jX6_readLock_46 h = some r) : V Γ d mX6_readLock 46 [] [] h (none, r) := by
  unfold jX6_readLock_46 at H
  cases H
  exact v_return rfl dX6_readLock_46
def jX6_readLock_94 (h : Hp) : Option (Hp) :=
some h
set_option maxRecDepth 20000 in
set_option maxHeartbeats 4000000 in
theorem sjX6_readLock_94 {Γ : Gm} {d : Nat} (hd : 9 ≤ d) {h : Hp} {r : Hp} (H : jX6_readLock_94 h = some r) : V Γ d mX6_readLock 94 [] [] h (none, r) := by
  unfold jX6_readLock_94 at H
  cases H
  exact v_return rfl dX6_readLock_94
def fX6_readLock (h : Hp) (v0 : Nat) : Option (Hp) :=
(gR h 6 v0 4).bind fun x1 =>
(gI h 5 x1 1).bind fun x2 =>
if x2 = (10 : Int32) then (
(gO h 6 v0).bind fun _ =>
(fX6_fail h v0 (4 : Int32)).bind fun x28 =>
some x28) else (
(gO h 6 v0).bind fun _ =>
(fX6_nextToken h v0).bind fun x5 =>
(gR x5 6 v0 4).bind fun x6 =>
(gI x5 5 x6 1).bind fun x7 =>
(gO x5 6 v0).bind fun _ =>
(fX6_tellName x5 v0 (1 : Int32) x7).bind fun x9 =>
if x9.1 = 0 then (
jX6_readLock_46 x9.2) else (
(gO x9.2 6 v0).bind fun _ =>
(fX6_pass x9.2 v0 (11 : Int32)).bind fun x12 =>
if x12.1 = 0 then (
jX6_readLock_46 x12.2) else (
(gO x12.2 6 v0).bind fun _ =>
(fX6_knownName x12.2 v0 (0 : Int32)).bind fun x15 =>
if x15.1 = (-1 : Int32) then (
jX6_readLock_94 x15.2) else (
(gR x15.2 6 v0 4).bind fun x17 =>
(gR x15.2 5 x17 3).bind fun x18 =>
(gR x15.2 6 v0 4).bind fun x19 =>
(gI x15.2 5 x19 1).bind fun x20 =>
(tI x15.2 x18 x20 x15.1).bind fun h21 =>
(gR h21 6 v0 4).bind fun x22 =>
(gI h21 5 x22 1).bind fun x23 =>
(pI h21 5 x22 1 (x23 + (1 : Int32))).bind fun h24 =>
(gO h24 6 v0).bind fun _ =>
(fX6_pass h24 v0 (16 : Int32)).bind fun x26 =>
jX6_readLock_94 x26.2))))
set_option maxRecDepth 20000 in
set_option maxHeartbeats 4000000 in
theorem sX6_readLock {Γ : Gm} {d : Nat} (hd : 9 ≤ d) {h : Hp} {v0 : Nat} {r : Hp} (H : fX6_readLock h v0 = some r) : V Γ d mX6_readLock 0 [(0, .ref v0)] [] h (none, r) := by
  unfold fX6_readLock at H
  refine v_aload_n (q := 1) 0 dX6_readLock_0 rfl rfl rfl ?_
  replace H := bs H; obtain ⟨x1, x1e, H⟩ := H
  refine u_gR (q := 4) (r := (RX6, TX6, 13)) x1e dX6_readLock_1 w0180 rfl (by decide) rfl rfl ?_
  replace H := bs H; obtain ⟨x2, x2e, H⟩ := H
  refine u_gI (q := 7) (r := (RX5, TX5, 7)) x2e dX6_readLock_4 w0228 rfl (by decide) rfl rfl ?_
  refine v_bipush (v := 10) (q := 9) dX6_readLock_7 (by decide) rfl ?_
  refine v_icmp_ne (q1 := 18) (q2 := 12) dX6_readLock_9 (by decide) rfl (fun c3 => ?_) (fun c3 => ?_)
  · replace H := ine c3 H
    refine v_aload_n (q := 19) 0 dX6_readLock_18 rfl rfl rfl ?_
    replace H := bs H; obtain ⟨_, o4, H⟩ := H
    replace H := bs H; obtain ⟨x5, x5e, H⟩ := H
    refine u_callV0 (M' := mX6_nextToken) (d' := 7) (rc := (RX6, TX6, 13)) (As := []) (st := []) (q := 22) oX6_nextToken dX6_readLock_19 w0594 w0596 w0001 rfl rfl (gO_sp o4).1 (gO_sp o4).2 rfl (Nat.le_of_ble_eq_true rfl) (Nat.le_of_ble_eq_true rfl) (Nat.lt_of_lt_of_le (by decide) hd) rfl (sX6_nextToken (Nat.le_refl _) x5e) rfl ?_
    refine v_aload_n (q := 23) 0 dX6_readLock_22 rfl rfl rfl ?_
    refine v_iconst (v := 1) (q := 24) dX6_readLock_23 (by decide) rfl ?_
    refine v_aload_n (q := 25) 0 dX6_readLock_24 rfl rfl rfl ?_
    replace H := bs H; obtain ⟨x6, x6e, H⟩ := H
    refine u_gR (q := 28) (r := (RX6, TX6, 13)) x6e dX6_readLock_25 w0180 rfl (by decide) rfl rfl ?_
    replace H := bs H; obtain ⟨x7, x7e, H⟩ := H
    refine u_gI (q := 31) (r := (RX5, TX5, 7)) x7e dX6_readLock_28 w0228 rfl (by decide) rfl rfl ?_
    replace H := bs H; obtain ⟨_, o8, H⟩ := H
    replace H := bs H; obtain ⟨x9, x9e, H⟩ := H
    refine u_callV1 (M' := mX6_tellName) (d' := 8) (rc := (RX6, TX6, 13)) (As := [.int (1 : Int32), .int x7]) (st := []) (q := 34) oX6_tellName dX6_readLock_31 w0662 w0664 w0005 rfl rfl (gO_sp o8).1 (gO_sp o8).2 rfl (Nat.le_of_ble_eq_true rfl) (Nat.le_of_ble_eq_true rfl) (Nat.lt_of_lt_of_le (by decide) hd) rfl (sX6_tellName (Nat.le_refl _) x9e) rfl ?_
    refine v_if_eq (q1 := 46) (q2 := 37) dX6_readLock_34 (by decide) rfl (fun c10 => ?_) (fun c10 => ?_)
    · replace H := ip c10 H
      exact V.sub [] rfl (sjX6_readLock_46 hd H)
    · replace H := ine c10 H
      refine v_aload_n (q := 38) 0 dX6_readLock_37 rfl rfl rfl ?_
      refine v_bipush (v := 11) (q := 40) dX6_readLock_38 (by decide) rfl ?_
      replace H := bs H; obtain ⟨_, o11, H⟩ := H
      replace H := bs H; obtain ⟨x12, x12e, H⟩ := H
      refine u_callV1 (M' := mX6_pass) (d' := 8) (rc := (RX6, TX6, 13)) (As := [.int (11 : Int32)]) (st := []) (q := 43) oX6_pass dX6_readLock_40 w0674 w0676 w0008 rfl rfl (gO_sp o11).1 (gO_sp o11).2 rfl (Nat.le_of_ble_eq_true rfl) (Nat.le_of_ble_eq_true rfl) (Nat.lt_of_lt_of_le (by decide) hd) rfl (sX6_pass (Nat.le_refl _) x12e) rfl ?_
      refine v_if_ne (q1 := 47) (q2 := 46) dX6_readLock_43 (by decide) rfl (fun c13 => ?_) (fun c13 => ?_)
      · replace H := ine c13 H
        refine v_aload_n (q := 48) 0 dX6_readLock_47 rfl rfl rfl ?_
        refine v_iconst (v := 0) (q := 49) dX6_readLock_48 (by decide) rfl ?_
        replace H := bs H; obtain ⟨_, o14, H⟩ := H
        replace H := bs H; obtain ⟨x15, x15e, H⟩ := H
        refine u_callV1 (M' := mX6_knownName) (d' := 8) (rc := (RX6, TX6, 13)) (As := [.int (0 : Int32)]) (st := []) (q := 52) oX6_knownName dX6_readLock_49 w0682 w0684 w0010 rfl rfl (gO_sp o14).1 (gO_sp o14).2 rfl (Nat.le_of_ble_eq_true rfl) (Nat.le_of_ble_eq_true rfl) (Nat.lt_of_lt_of_le (by decide) hd) rfl (sX6_knownName (Nat.le_refl _) x15e) rfl ?_
        refine v_istore_n (L' := [(1, .int x15.1), (0, .ref v0)]) (q := 53) dX6_readLock_52 rfl (by decide) rfl rfl ?_
        refine v_iload_n (q := 54) 0 dX6_readLock_53 rfl rfl rfl ?_
        refine v_iconst (v := -1) (q := 55) dX6_readLock_54 (by decide) rfl ?_
        refine v_icmp_eq (q1 := 94) (q2 := 58) dX6_readLock_55 (by decide) rfl (fun c16 => ?_) (fun c16 => ?_)
        · replace H := ip c16 H
          exact V.sub [] rfl (sjX6_readLock_94 hd H)
        · replace H := ine c16 H
          refine v_aload_n (q := 59) 1 dX6_readLock_58 rfl rfl rfl ?_
          replace H := bs H; obtain ⟨x17, x17e, H⟩ := H
          refine u_gR (q := 62) (r := (RX6, TX6, 13)) x17e dX6_readLock_59 w0180 rfl (by decide) rfl rfl ?_
          replace H := bs H; obtain ⟨x18, x18e, H⟩ := H
          refine u_gR (q := 65) (r := (RX5, TX5, 7)) x18e dX6_readLock_62 w0237 rfl (by decide) rfl rfl ?_
          refine v_aload_n (q := 66) 1 dX6_readLock_65 rfl rfl rfl ?_
          replace H := bs H; obtain ⟨x19, x19e, H⟩ := H
          refine u_gR (q := 69) (r := (RX6, TX6, 13)) x19e dX6_readLock_66 w0180 rfl (by decide) rfl rfl ?_
          replace H := bs H; obtain ⟨x20, x20e, H⟩ := H
          refine u_gI (q := 72) (r := (RX5, TX5, 7)) x20e dX6_readLock_69 w0228 rfl (by decide) rfl rfl ?_
          refine v_iload_n (q := 73) 0 dX6_readLock_72 rfl rfl rfl ?_
          replace H := bs H; obtain ⟨h21, h21e, H⟩ := H
          refine u_tI (q := 74) h21e dX6_readLock_73 rfl ?_
          refine v_aload_n (q := 75) 1 dX6_readLock_74 rfl rfl rfl ?_
          replace H := bs H; obtain ⟨x22, x22e, H⟩ := H
          refine u_gR (q := 78) (r := (RX6, TX6, 13)) x22e dX6_readLock_75 w0180 rfl (by decide) rfl rfl ?_
          refine v_dup (q := 79) dX6_readLock_78 rfl rfl ?_
          replace H := bs H; obtain ⟨x23, x23e, H⟩ := H
          refine u_gI (q := 82) (r := (RX5, TX5, 7)) x23e dX6_readLock_79 w0228 rfl (by decide) rfl rfl ?_
          refine v_iconst (v := 1) (q := 83) dX6_readLock_82 (by decide) rfl ?_
          refine v_iadd (q := 84) dX6_readLock_83 rfl ?_
          replace H := bs H; obtain ⟨h24, h24e, H⟩ := H
          refine u_pI (q := 87) (r := (RX5, TX5, 7)) h24e dX6_readLock_84 w0228 rfl (by decide) (Or.inl rfl) rfl rfl ?_
          refine v_aload_n (q := 88) 1 dX6_readLock_87 rfl rfl rfl ?_
          refine v_bipush (v := 16) (q := 90) dX6_readLock_88 (by decide) rfl ?_
          replace H := bs H; obtain ⟨_, o25, H⟩ := H
          replace H := bs H; obtain ⟨x26, x26e, H⟩ := H
          refine u_callV1 (M' := mX6_pass) (d' := 8) (rc := (RX6, TX6, 13)) (As := [.int (16 : Int32)]) (st := []) (q := 93) oX6_pass dX6_readLock_90 w0674 w0676 w0008 rfl rfl (gO_sp o25).1 (gO_sp o25).2 rfl (Nat.le_of_ble_eq_true rfl) (Nat.le_of_ble_eq_true rfl) (Nat.lt_of_lt_of_le (by decide) hd) rfl (sX6_pass (Nat.le_refl _) x26e) rfl ?_
          refine v_pop (q := 94) dX6_readLock_93 rfl rfl ?_
          exact V.sub [] rfl (sjX6_readLock_94 hd H)
      · replace H := ip c13 H
        exact V.sub [] rfl (sjX6_readLock_46 hd H)
  · replace H := ip c3 H
    refine v_aload_n (q := 13) 0 dX6_readLock_12 rfl rfl rfl ?_
    refine v_iconst (v := 4) (q := 14) dX6_readLock_13 (by decide) rfl ?_
    replace H := bs H; obtain ⟨_, o27, H⟩ := H
    replace H := bs H; obtain ⟨x28, x28e, H⟩ := H
    refine u_callV0 (M' := mX6_fail) (d' := 1) (rc := (RX6, TX6, 13)) (As := [.int (4 : Int32)]) (st := []) (q := 17) oX6_fail dX6_readLock_14 w0658 w0660 w0004 rfl rfl (gO_sp o27).1 (gO_sp o27).2 rfl (Nat.le_of_ble_eq_true rfl) (Nat.le_of_ble_eq_true rfl) (Nat.lt_of_lt_of_le (by decide) hd) rfl (sX6_fail (Nat.le_refl _) x28e) rfl ?_
    cases H
    exact v_return rfl dX6_readLock_17
def mX6_readStep : MI := (yX6_readStep, cX6_readStep, 4, none)
theorem oX6_readStep : mOK mX6_readStep 1 := ⟨by decide +kernel, by decide +kernel, by decide +kernel, by decide, w0693, w0140⟩
def jX6_readStep_104 (h : Hp) : Option (Hp) :=
some h
set_option maxRecDepth 20000 in
set_option maxHeartbeats 4000000 in
theorem sjX6_readStep_104 {Γ : Gm} {d : Nat} (hd : 9 ≤ d) {h : Hp} {r : Hp} (H : jX6_readStep_104 h = some r) : V Γ d mX6_readStep 104 [] [] h (none, r) := by
  unfold jX6_readStep_104 at H
  cases H
  exact v_return rfl dX6_readStep_104
def jX6_readStep_58 (v0 : Nat) (v1 : Int32) (v2 : Int32) (y0 : Int32) (h : Hp) : Option (Hp) :=
if y0 = (-1 : Int32) then (
jX6_readStep_104 h) else (
(gR h 6 v0 4).bind fun x12 =>
(gR h 5 x12 6).bind fun x13 =>
(gR h 6 v0 4).bind fun x14 =>
(gR h 5 x14 5).bind fun x15 =>
(lI h .int x15 v1).bind fun x16 =>
(fX11_packStep h v2 y0).bind fun x17 =>
(tI h x13 ((v1 * (12 : Int32)) + x16) x17).bind fun h18 =>
(gR h18 6 v0 4).bind fun x19 =>
(gR h18 5 x19 5).bind fun x20 =>
(lI h18 .int x20 v1).bind fun x21 =>
(tI h18 x20 v1 (x21 + (1 : Int32))).bind fun h22 =>
jX6_readStep_104 h22)
set_option maxRecDepth 20000 in
set_option maxHeartbeats 4000000 in
theorem sjX6_readStep_58 {Γ : Gm} {d : Nat} (hd : 9 ≤ d) {v0 : Nat} {v1 : Int32} {v2 : Int32} {y0 : Int32} {h : Hp} {r : Hp} (H : jX6_readStep_58 v0 v1 v2 y0 h = some r) : V Γ d mX6_readStep 58 [(0, .ref v0), (1, .int v1), (2, .int v2)] [.int y0] h (none, r) := by
  unfold jX6_readStep_58 at H
  refine v_istore_n (L' := [(3, .int y0), (0, .ref v0), (1, .int v1), (2, .int v2)]) (q := 59) dX6_readStep_58 rfl (by decide) rfl rfl ?_
  refine v_iload_n (q := 60) 0 dX6_readStep_59 rfl rfl rfl ?_
  refine v_iconst (v := -1) (q := 61) dX6_readStep_60 (by decide) rfl ?_
  refine v_icmp_eq (q1 := 104) (q2 := 64) dX6_readStep_61 (by decide) rfl (fun c11 => ?_) (fun c11 => ?_)
  · replace H := ip c11 H
    exact V.sub [] rfl (sjX6_readStep_104 hd H)
  · replace H := ine c11 H
    refine v_aload_n (q := 65) 1 dX6_readStep_64 rfl rfl rfl ?_
    replace H := bs H; obtain ⟨x12, x12e, H⟩ := H
    refine u_gR (q := 68) (r := (RX6, TX6, 13)) x12e dX6_readStep_65 w0180 rfl (by decide) rfl rfl ?_
    replace H := bs H; obtain ⟨x13, x13e, H⟩ := H
    refine u_gR (q := 71) (r := (RX5, TX5, 7)) x13e dX6_readStep_68 w0251 rfl (by decide) rfl rfl ?_
    refine v_iload_n (q := 72) 2 dX6_readStep_71 rfl rfl rfl ?_
    refine v_bipush (v := 12) (q := 74) dX6_readStep_72 (by decide) rfl ?_
    refine v_imul (q := 75) dX6_readStep_74 rfl ?_
    refine v_aload_n (q := 76) 1 dX6_readStep_75 rfl rfl rfl ?_
    replace H := bs H; obtain ⟨x14, x14e, H⟩ := H
    refine u_gR (q := 79) (r := (RX6, TX6, 13)) x14e dX6_readStep_76 w0180 rfl (by decide) rfl rfl ?_
    replace H := bs H; obtain ⟨x15, x15e, H⟩ := H
    refine u_gR (q := 82) (r := (RX5, TX5, 7)) x15e dX6_readStep_79 w0247 rfl (by decide) rfl rfl ?_
    refine v_iload_n (q := 83) 2 dX6_readStep_82 rfl rfl rfl ?_
    replace H := bs H; obtain ⟨x16, x16e, H⟩ := H
    refine u_lI (q := 84) x16e dX6_readStep_83 rfl ?_
    refine v_iadd (q := 85) dX6_readStep_84 rfl ?_
    refine v_iload_n (q := 86) 3 dX6_readStep_85 rfl rfl rfl ?_
    refine v_iload_n (q := 87) 0 dX6_readStep_86 rfl rfl rfl ?_
    replace H := bs H; obtain ⟨x17, x17e, H⟩ := H
    refine u_callSN1 (M' := mX11_packStep) (d' := 1) (As := [.int v2, .int y0]) (st := [.int ((v1 * (12 : Int32)) + x16), .ref x13]) (q := 90) oX11_packStep dX6_readStep_87 w0694 w0695 rfl (Nat.le_of_ble_eq_true rfl) (Nat.le_of_ble_eq_true rfl) (Nat.lt_of_lt_of_le (by decide) hd) rfl (sX11_packStep (Nat.le_refl _) x17e) rfl ?_
    replace H := bs H; obtain ⟨h18, h18e, H⟩ := H
    refine u_tI (q := 91) h18e dX6_readStep_90 rfl ?_
    refine v_aload_n (q := 92) 1 dX6_readStep_91 rfl rfl rfl ?_
    replace H := bs H; obtain ⟨x19, x19e, H⟩ := H
    refine u_gR (q := 95) (r := (RX6, TX6, 13)) x19e dX6_readStep_92 w0180 rfl (by decide) rfl rfl ?_
    replace H := bs H; obtain ⟨x20, x20e, H⟩ := H
    refine u_gR (q := 98) (r := (RX5, TX5, 7)) x20e dX6_readStep_95 w0247 rfl (by decide) rfl rfl ?_
    refine v_iload_n (q := 99) 2 dX6_readStep_98 rfl rfl rfl ?_
    refine v_dup2 (q := 100) dX6_readStep_99 rfl rfl rfl ?_
    replace H := bs H; obtain ⟨x21, x21e, H⟩ := H
    refine u_lI (q := 101) x21e dX6_readStep_100 rfl ?_
    refine v_iconst (v := 1) (q := 102) dX6_readStep_101 (by decide) rfl ?_
    refine v_iadd (q := 103) dX6_readStep_102 rfl ?_
    replace H := bs H; obtain ⟨h22, h22e, H⟩ := H
    refine u_tI (q := 104) h22e dX6_readStep_103 rfl ?_
    exact V.sub [] rfl (sjX6_readStep_104 hd H)
def fX6_readStep (h : Hp) (v0 : Nat) (v1 : Int32) : Option (Hp) :=
(gI h 6 v0 5).bind fun x1 =>
if x1 ≤ (8 : Int32) then (
(gR h 6 v0 4).bind fun x3 =>
(gR h 5 x3 5).bind fun x4 =>
(lI h .int x4 v1).bind fun x5 =>
if x5 = (12 : Int32) then (
(gO h 6 v0).bind fun _ =>
(fX6_fail h v0 (4 : Int32)).bind fun x26 =>
some x26) else (
(gI h 6 v0 5).bind fun x7 =>
(gO h 6 v0).bind fun _ =>
(fX6_nextToken h v0).bind fun x9 =>
if (4 : Int32) < x7 then (
jX6_readStep_58 v0 v1 x7 (0 : Int32) x9) else (
(gO x9 6 v0).bind fun _ =>
(fX6_knownName x9 v0 (1 : Int32)).bind fun x24 =>
jX6_readStep_58 v0 v1 x7 x24.1 x24.2))) else (
(gO h 6 v0).bind fun _ =>
(fX6_fail h v0 (1 : Int32)).bind fun x28 =>
some x28)
set_option maxRecDepth 20000 in
set_option maxHeartbeats 4000000 in
theorem sX6_readStep {Γ : Gm} {d : Nat} (hd : 9 ≤ d) {h : Hp} {v0 : Nat} {v1 : Int32} {r : Hp} (H : fX6_readStep h v0 v1 = some r) : V Γ d mX6_readStep 0 [(0, .ref v0), (1, .int v1)] [] h (none, r) := by
  unfold fX6_readStep at H
  refine v_aload_n (q := 1) 0 dX6_readStep_0 rfl rfl rfl ?_
  replace H := bs H; obtain ⟨x1, x1e, H⟩ := H
  refine u_gI (q := 4) (r := (RX6, TX6, 13)) x1e dX6_readStep_1 w0181 rfl (by decide) rfl rfl ?_
  refine v_bipush (v := 8) (q := 6) dX6_readStep_4 (by decide) rfl ?_
  refine v_icmp_le (q1 := 15) (q2 := 9) dX6_readStep_6 (by decide) rfl (fun c2 => ?_) (fun c2 => ?_)
  · replace H := ip c2 H
    refine v_aload_n (q := 16) 0 dX6_readStep_15 rfl rfl rfl ?_
    replace H := bs H; obtain ⟨x3, x3e, H⟩ := H
    refine u_gR (q := 19) (r := (RX6, TX6, 13)) x3e dX6_readStep_16 w0180 rfl (by decide) rfl rfl ?_
    replace H := bs H; obtain ⟨x4, x4e, H⟩ := H
    refine u_gR (q := 22) (r := (RX5, TX5, 7)) x4e dX6_readStep_19 w0247 rfl (by decide) rfl rfl ?_
    refine v_iload_n (q := 23) 1 dX6_readStep_22 rfl rfl rfl ?_
    replace H := bs H; obtain ⟨x5, x5e, H⟩ := H
    refine u_lI (q := 24) x5e dX6_readStep_23 rfl ?_
    refine v_bipush (v := 12) (q := 26) dX6_readStep_24 (by decide) rfl ?_
    refine v_icmp_ne (q1 := 35) (q2 := 29) dX6_readStep_26 (by decide) rfl (fun c6 => ?_) (fun c6 => ?_)
    · replace H := ine c6 H
      refine v_aload_n (q := 36) 0 dX6_readStep_35 rfl rfl rfl ?_
      replace H := bs H; obtain ⟨x7, x7e, H⟩ := H
      refine u_gI (q := 39) (r := (RX6, TX6, 13)) x7e dX6_readStep_36 w0181 rfl (by decide) rfl rfl ?_
      refine v_istore_n (L' := [(2, .int x7), (0, .ref v0), (1, .int v1)]) (q := 40) dX6_readStep_39 rfl (by decide) rfl rfl ?_
      refine v_aload_n (q := 41) 1 dX6_readStep_40 rfl rfl rfl ?_
      replace H := bs H; obtain ⟨_, o8, H⟩ := H
      replace H := bs H; obtain ⟨x9, x9e, H⟩ := H
      refine u_callV0 (M' := mX6_nextToken) (d' := 7) (rc := (RX6, TX6, 13)) (As := []) (st := []) (q := 44) oX6_nextToken dX6_readStep_41 w0594 w0596 w0001 rfl rfl (gO_sp o8).1 (gO_sp o8).2 rfl (Nat.le_of_ble_eq_true rfl) (Nat.le_of_ble_eq_true rfl) (Nat.lt_of_lt_of_le (by decide) hd) rfl (sX6_nextToken (Nat.le_refl _) x9e) rfl ?_
      refine v_iload_n (q := 45) 0 dX6_readStep_44 rfl rfl rfl ?_
      refine v_iconst (v := 4) (q := 46) dX6_readStep_45 (by decide) rfl ?_
      refine v_icmp_gt (q1 := 57) (q2 := 49) dX6_readStep_46 (by decide) rfl (fun c10 => ?_) (fun c10 => ?_)
      · replace H := ip c10 H
        refine v_iconst (v := 0) (q := 58) dX6_readStep_57 (by decide) rfl ?_
        exact V.sub [1, 2, 0] rfl (sjX6_readStep_58 hd H)
      · replace H := ine c10 H
        refine v_aload_n (q := 50) 1 dX6_readStep_49 rfl rfl rfl ?_
        refine v_iconst (v := 1) (q := 51) dX6_readStep_50 (by decide) rfl ?_
        replace H := bs H; obtain ⟨_, o23, H⟩ := H
        replace H := bs H; obtain ⟨x24, x24e, H⟩ := H
        refine u_callV1 (M' := mX6_knownName) (d' := 8) (rc := (RX6, TX6, 13)) (As := [.int (1 : Int32)]) (st := []) (q := 54) oX6_knownName dX6_readStep_51 w0682 w0684 w0010 rfl rfl (gO_sp o23).1 (gO_sp o23).2 rfl (Nat.le_of_ble_eq_true rfl) (Nat.le_of_ble_eq_true rfl) (Nat.lt_of_lt_of_le (by decide) hd) rfl (sX6_knownName (Nat.le_refl _) x24e) rfl ?_
        refine v_goto (q := 58) dX6_readStep_54 (by decide) ?_
        exact V.sub [1, 2, 0] rfl (sjX6_readStep_58 hd H)
    · replace H := ip c6 H
      refine v_aload_n (q := 30) 0 dX6_readStep_29 rfl rfl rfl ?_
      refine v_iconst (v := 4) (q := 31) dX6_readStep_30 (by decide) rfl ?_
      replace H := bs H; obtain ⟨_, o25, H⟩ := H
      replace H := bs H; obtain ⟨x26, x26e, H⟩ := H
      refine u_callV0 (M' := mX6_fail) (d' := 1) (rc := (RX6, TX6, 13)) (As := [.int (4 : Int32)]) (st := []) (q := 34) oX6_fail dX6_readStep_31 w0658 w0660 w0004 rfl rfl (gO_sp o25).1 (gO_sp o25).2 rfl (Nat.le_of_ble_eq_true rfl) (Nat.le_of_ble_eq_true rfl) (Nat.lt_of_lt_of_le (by decide) hd) rfl (sX6_fail (Nat.le_refl _) x26e) rfl ?_
      cases H
      exact v_return rfl dX6_readStep_34
  · replace H := ine c2 H
    refine v_aload_n (q := 10) 0 dX6_readStep_9 rfl rfl rfl ?_
    refine v_iconst (v := 1) (q := 11) dX6_readStep_10 (by decide) rfl ?_
    replace H := bs H; obtain ⟨_, o27, H⟩ := H
    replace H := bs H; obtain ⟨x28, x28e, H⟩ := H
    refine u_callV0 (M' := mX6_fail) (d' := 1) (rc := (RX6, TX6, 13)) (As := [.int (1 : Int32)]) (st := []) (q := 14) oX6_fail dX6_readStep_11 w0658 w0660 w0004 rfl rfl (gO_sp o27).1 (gO_sp o27).2 rfl (Nat.le_of_ble_eq_true rfl) (Nat.le_of_ble_eq_true rfl) (Nat.lt_of_lt_of_le (by decide) hd) rfl (sX6_fail (Nat.le_refl _) x28e) rfl ?_
    cases H
    exact v_return rfl dX6_readStep_14
def mX6_readProgram : MI := (yX6_readProgram, cX6_readProgram, 3, none)
theorem oX6_readProgram : mOK mX6_readProgram 0 := ⟨by decide +kernel, by decide +kernel, by decide +kernel, by decide, w0689, w0140⟩
def bX6_readProgram_63 (u0 : Nat) (u1 : Int32) (s63 : Int32 × Hp) : Option ((Int32 × Hp) ⊕ (Hp)) :=
if (12 : Int32) < s63.1 then (
some (.inr s63.2)) else (
(gI s63.2 6 u0 0).bind fun x18 =>
if x18 = 0 then (
(gI s63.2 6 u0 5).bind fun x20 =>
if x20 = (16 : Int32) then (
some (.inr s63.2)) else (
(gO s63.2 6 u0).bind fun _ =>
(fX6_readStep s63.2 u0 u1).bind fun x23 =>
(some (s63.1 + (1 : Int32))).bind fun x24 =>
some (.inl (x24, x23)))) else (
some (.inr s63.2)))
set_option maxRecDepth 20000 in
set_option maxHeartbeats 4000000 in
theorem sbX6_readProgram_63 {Γ : Gm} {d : Nat} (hd : 10 ≤ d) {u0 : Nat} {u1 : Int32} {s63 : Int32 × Hp} {r : (Int32 × Hp) ⊕ (Hp)} {t : Option Value × Hp} (H : bX6_readProgram_63 u0 u1 s63 = some r) (kI : ∀ s, r = .inl s → (fun s63 => V Γ d mX6_readProgram 63 [(0, .ref u0), (1, .int u1), (2, .int s63.1)] [] s63.2 t) s) (kE : ∀ e, r = .inr e → (fun e => V Γ d mX6_readProgram 96 [(0, .ref u0)] [] e t) e) : V Γ d mX6_readProgram 63 [(0, .ref u0), (1, .int u1), (2, .int s63.1)] [] s63.2 t := by
  unfold bX6_readProgram_63 at H
  refine v_iload_n (q := 64) 2 dX6_readProgram_63 rfl rfl rfl ?_
  refine v_bipush (v := 12) (q := 66) dX6_readProgram_64 (by decide) rfl ?_
  refine v_icmp_gt (q1 := 96) (q2 := 69) dX6_readProgram_66 (by decide) rfl (fun c17 => ?_) (fun c17 => ?_)
  · replace H := ip c17 H
    exact V.sub [0] rfl (kE s63.2 (Option.some.inj H).symm)
  · replace H := ine c17 H
    refine v_aload_n (q := 70) 0 dX6_readProgram_69 rfl rfl rfl ?_
    replace H := bs H; obtain ⟨x18, x18e, H⟩ := H
    refine u_gI (q := 73) (r := (RX6, TX6, 13)) x18e dX6_readProgram_70 w0174 rfl (by decide) rfl rfl ?_
    refine v_if_ne (q1 := 96) (q2 := 76) dX6_readProgram_73 (by decide) rfl (fun c19 => ?_) (fun c19 => ?_)
    · replace H := ine c19 H
      exact V.sub [0] rfl (kE s63.2 (Option.some.inj H).symm)
    · replace H := ip c19 H
      refine v_aload_n (q := 77) 0 dX6_readProgram_76 rfl rfl rfl ?_
      replace H := bs H; obtain ⟨x20, x20e, H⟩ := H
      refine u_gI (q := 80) (r := (RX6, TX6, 13)) x20e dX6_readProgram_77 w0181 rfl (by decide) rfl rfl ?_
      refine v_bipush (v := 16) (q := 82) dX6_readProgram_80 (by decide) rfl ?_
      refine v_icmp_eq (q1 := 96) (q2 := 85) dX6_readProgram_82 (by decide) rfl (fun c21 => ?_) (fun c21 => ?_)
      · replace H := ip c21 H
        exact V.sub [0] rfl (kE s63.2 (Option.some.inj H).symm)
      · replace H := ine c21 H
        refine v_aload_n (q := 86) 0 dX6_readProgram_85 rfl rfl rfl ?_
        refine v_iload_n (q := 87) 1 dX6_readProgram_86 rfl rfl rfl ?_
        replace H := bs H; obtain ⟨_, o22, H⟩ := H
        replace H := bs H; obtain ⟨x23, x23e, H⟩ := H
        refine u_callV0 (M' := mX6_readStep) (d' := 9) (rc := (RX6, TX6, 13)) (As := [.int u1]) (st := []) (q := 90) oX6_readStep dX6_readProgram_87 w0690 w0692 w0012 rfl rfl (gO_sp o22).1 (gO_sp o22).2 rfl (Nat.le_of_ble_eq_true rfl) (Nat.le_of_ble_eq_true rfl) (Nat.lt_of_lt_of_le (by decide) hd) rfl (sX6_readStep (Nat.le_refl _) x23e) rfl ?_
        replace H := bs H; obtain ⟨x24, x24e, H⟩ := H
        refine v_iinc (v := x24) (L' := [(2, .int x24), (0, .ref u0), (1, .int u1)]) (q := 93) 2 dX6_readProgram_90 rfl (Option.some.inj x24e) (by decide) rfl rfl ?_
        refine v_goto (q := 63) dX6_readProgram_93 (by decide) ?_
        exact V.sub [1, 2, 0] rfl (kI (x24, x23) (Option.some.inj H).symm)
def jX6_readProgram_123 (h : Hp) : Option (Hp) :=
some h
set_option maxRecDepth 20000 in
set_option maxHeartbeats 4000000 in
theorem sjX6_readProgram_123 {Γ : Gm} {d : Nat} (hd : 10 ≤ d) {h : Hp} {r : Hp} (H : jX6_readProgram_123 h = some r) : V Γ d mX6_readProgram 123 [] [] h (none, r) := by
  unfold jX6_readProgram_123 at H
  cases H
  exact v_return rfl dX6_readProgram_123
def fX6_readProgram (h : Hp) (v0 : Nat) : Option (Hp) :=
(gR h 6 v0 4).bind fun x1 =>
(gI h 5 x1 2).bind fun x2 =>
if x2 = (6 : Int32) then (
(gO h 6 v0).bind fun _ =>
(fX6_fail h v0 (4 : Int32)).bind fun x34 =>
some x34) else (
(gR h 6 v0 4).bind fun x4 =>
(gI h 5 x4 2).bind fun x5 =>
(gR h 6 v0 4).bind fun x6 =>
(gR h 5 x6 4).bind fun x7 =>
(gI h 6 v0 5).bind fun x8 =>
(tI h x7 x5 (x8 - (12 : Int32))).bind fun h9 =>
(gO h9 6 v0).bind fun _ =>
(fX6_nextToken h9 v0).bind fun x11 =>
(gO x11 6 v0).bind fun _ =>
(fX6_tellName x11 v0 (2 : Int32) x5).bind fun x13 =>
if x13.1 = 0 then (
some x13.2) else (
(gO x13.2 6 v0).bind fun _ =>
(fX6_readStep x13.2 v0 x5).bind fun x16 =>
(lp (bX6_readProgram_63 v0 x5) FU ((0 : Int32), x16)).bind fun e25 =>
(gI e25 6 v0 0).bind fun x26 =>
if x26 = 0 then (
(gR e25 6 v0 4).bind fun x28 =>
(gI e25 5 x28 2).bind fun x29 =>
(pI e25 5 x28 2 (x29 + (1 : Int32))).bind fun h30 =>
(gO h30 6 v0).bind fun _ =>
(fX6_pass h30 v0 (16 : Int32)).bind fun x32 =>
jX6_readProgram_123 x32.2) else (
jX6_readProgram_123 e25)))
set_option maxRecDepth 20000 in
set_option maxHeartbeats 4000000 in
theorem sX6_readProgram {Γ : Gm} {d : Nat} (hd : 10 ≤ d) {h : Hp} {v0 : Nat} {r : Hp} (H : fX6_readProgram h v0 = some r) : V Γ d mX6_readProgram 0 [(0, .ref v0)] [] h (none, r) := by
  unfold fX6_readProgram at H
  refine v_aload_n (q := 1) 0 dX6_readProgram_0 rfl rfl rfl ?_
  replace H := bs H; obtain ⟨x1, x1e, H⟩ := H
  refine u_gR (q := 4) (r := (RX6, TX6, 13)) x1e dX6_readProgram_1 w0180 rfl (by decide) rfl rfl ?_
  replace H := bs H; obtain ⟨x2, x2e, H⟩ := H
  refine u_gI (q := 7) (r := (RX5, TX5, 7)) x2e dX6_readProgram_4 w0233 rfl (by decide) rfl rfl ?_
  refine v_bipush (v := 6) (q := 9) dX6_readProgram_7 (by decide) rfl ?_
  refine v_icmp_ne (q1 := 18) (q2 := 12) dX6_readProgram_9 (by decide) rfl (fun c3 => ?_) (fun c3 => ?_)
  · replace H := ine c3 H
    refine v_aload_n (q := 19) 0 dX6_readProgram_18 rfl rfl rfl ?_
    replace H := bs H; obtain ⟨x4, x4e, H⟩ := H
    refine u_gR (q := 22) (r := (RX6, TX6, 13)) x4e dX6_readProgram_19 w0180 rfl (by decide) rfl rfl ?_
    replace H := bs H; obtain ⟨x5, x5e, H⟩ := H
    refine u_gI (q := 25) (r := (RX5, TX5, 7)) x5e dX6_readProgram_22 w0233 rfl (by decide) rfl rfl ?_
    refine v_istore_n (L' := [(1, .int x5), (0, .ref v0)]) (q := 26) dX6_readProgram_25 rfl (by decide) rfl rfl ?_
    refine v_aload_n (q := 27) 1 dX6_readProgram_26 rfl rfl rfl ?_
    replace H := bs H; obtain ⟨x6, x6e, H⟩ := H
    refine u_gR (q := 30) (r := (RX6, TX6, 13)) x6e dX6_readProgram_27 w0180 rfl (by decide) rfl rfl ?_
    replace H := bs H; obtain ⟨x7, x7e, H⟩ := H
    refine u_gR (q := 33) (r := (RX5, TX5, 7)) x7e dX6_readProgram_30 w0242 rfl (by decide) rfl rfl ?_
    refine v_iload_n (q := 34) 0 dX6_readProgram_33 rfl rfl rfl ?_
    refine v_aload_n (q := 35) 1 dX6_readProgram_34 rfl rfl rfl ?_
    replace H := bs H; obtain ⟨x8, x8e, H⟩ := H
    refine u_gI (q := 38) (r := (RX6, TX6, 13)) x8e dX6_readProgram_35 w0181 rfl (by decide) rfl rfl ?_
    refine v_bipush (v := 12) (q := 40) dX6_readProgram_38 (by decide) rfl ?_
    refine v_isub (q := 41) dX6_readProgram_40 rfl ?_
    replace H := bs H; obtain ⟨h9, h9e, H⟩ := H
    refine u_tI (q := 42) h9e dX6_readProgram_41 rfl ?_
    refine v_aload_n (q := 43) 1 dX6_readProgram_42 rfl rfl rfl ?_
    replace H := bs H; obtain ⟨_, o10, H⟩ := H
    replace H := bs H; obtain ⟨x11, x11e, H⟩ := H
    refine u_callV0 (M' := mX6_nextToken) (d' := 7) (rc := (RX6, TX6, 13)) (As := []) (st := []) (q := 46) oX6_nextToken dX6_readProgram_43 w0594 w0596 w0001 rfl rfl (gO_sp o10).1 (gO_sp o10).2 rfl (Nat.le_of_ble_eq_true rfl) (Nat.le_of_ble_eq_true rfl) (Nat.lt_of_lt_of_le (by decide) hd) rfl (sX6_nextToken (Nat.le_refl _) x11e) rfl ?_
    refine v_aload_n (q := 47) 1 dX6_readProgram_46 rfl rfl rfl ?_
    refine v_iconst (v := 2) (q := 48) dX6_readProgram_47 (by decide) rfl ?_
    refine v_iload_n (q := 49) 0 dX6_readProgram_48 rfl rfl rfl ?_
    replace H := bs H; obtain ⟨_, o12, H⟩ := H
    replace H := bs H; obtain ⟨x13, x13e, H⟩ := H
    refine u_callV1 (M' := mX6_tellName) (d' := 8) (rc := (RX6, TX6, 13)) (As := [.int (2 : Int32), .int x5]) (st := []) (q := 52) oX6_tellName dX6_readProgram_49 w0662 w0664 w0005 rfl rfl (gO_sp o12).1 (gO_sp o12).2 rfl (Nat.le_of_ble_eq_true rfl) (Nat.le_of_ble_eq_true rfl) (Nat.lt_of_lt_of_le (by decide) hd) rfl (sX6_tellName (Nat.le_refl _) x13e) rfl ?_
    refine v_if_ne (q1 := 56) (q2 := 55) dX6_readProgram_52 (by decide) rfl (fun c14 => ?_) (fun c14 => ?_)
    · replace H := ine c14 H
      refine v_aload_n (q := 57) 1 dX6_readProgram_56 rfl rfl rfl ?_
      refine v_iload_n (q := 58) 0 dX6_readProgram_57 rfl rfl rfl ?_
      replace H := bs H; obtain ⟨_, o15, H⟩ := H
      replace H := bs H; obtain ⟨x16, x16e, H⟩ := H
      refine u_callV0 (M' := mX6_readStep) (d' := 9) (rc := (RX6, TX6, 13)) (As := [.int x5]) (st := []) (q := 61) oX6_readStep dX6_readProgram_58 w0690 w0692 w0012 rfl rfl (gO_sp o15).1 (gO_sp o15).2 rfl (Nat.le_of_ble_eq_true rfl) (Nat.le_of_ble_eq_true rfl) (Nat.lt_of_lt_of_le (by decide) hd) rfl (sX6_readStep (Nat.le_refl _) x16e) rfl ?_
      refine v_iconst (v := 0) (q := 62) dX6_readProgram_61 (by decide) rfl ?_
      refine v_istore_n (L' := [(2, .int (0 : Int32)), (1, .int x5), (0, .ref v0)]) (q := 63) dX6_readProgram_62 rfl (by decide) rfl rfl ?_
      replace H := bs H; obtain ⟨e25, e25L, H⟩ := H
      refine V.sub [2, 1, 0] rfl ?_
      refine lp_V (P := (fun s63 => V Γ d mX6_readProgram 63 [(0, .ref v0), (1, .int x5), (2, .int s63.1)] [] s63.2 (none, r))) (E := (fun e => V Γ d mX6_readProgram 96 [(0, .ref v0)] [] e (none, r))) (fun s r hb kI kE => sbX6_readProgram_63 hd (s63 := s) (r := r) hb kI kE) FU ((0 : Int32), x16) e25 e25L ?_
      refine v_aload_n (q := 97) 0 dX6_readProgram_96 rfl rfl rfl ?_
      replace H := bs H; obtain ⟨x26, x26e, H⟩ := H
      refine u_gI (q := 100) (r := (RX6, TX6, 13)) x26e dX6_readProgram_97 w0174 rfl (by decide) rfl rfl ?_
      refine v_if_ne (q1 := 123) (q2 := 103) dX6_readProgram_100 (by decide) rfl (fun c27 => ?_) (fun c27 => ?_)
      · replace H := ine c27 H
        exact V.sub [] rfl (sjX6_readProgram_123 hd H)
      · replace H := ip c27 H
        refine v_aload_n (q := 104) 0 dX6_readProgram_103 rfl rfl rfl ?_
        replace H := bs H; obtain ⟨x28, x28e, H⟩ := H
        refine u_gR (q := 107) (r := (RX6, TX6, 13)) x28e dX6_readProgram_104 w0180 rfl (by decide) rfl rfl ?_
        refine v_dup (q := 108) dX6_readProgram_107 rfl rfl ?_
        replace H := bs H; obtain ⟨x29, x29e, H⟩ := H
        refine u_gI (q := 111) (r := (RX5, TX5, 7)) x29e dX6_readProgram_108 w0233 rfl (by decide) rfl rfl ?_
        refine v_iconst (v := 1) (q := 112) dX6_readProgram_111 (by decide) rfl ?_
        refine v_iadd (q := 113) dX6_readProgram_112 rfl ?_
        replace H := bs H; obtain ⟨h30, h30e, H⟩ := H
        refine u_pI (q := 116) (r := (RX5, TX5, 7)) h30e dX6_readProgram_113 w0233 rfl (by decide) (Or.inl rfl) rfl rfl ?_
        refine v_aload_n (q := 117) 0 dX6_readProgram_116 rfl rfl rfl ?_
        refine v_bipush (v := 16) (q := 119) dX6_readProgram_117 (by decide) rfl ?_
        replace H := bs H; obtain ⟨_, o31, H⟩ := H
        replace H := bs H; obtain ⟨x32, x32e, H⟩ := H
        refine u_callV1 (M' := mX6_pass) (d' := 8) (rc := (RX6, TX6, 13)) (As := [.int (16 : Int32)]) (st := []) (q := 122) oX6_pass dX6_readProgram_119 w0674 w0676 w0008 rfl rfl (gO_sp o31).1 (gO_sp o31).2 rfl (Nat.le_of_ble_eq_true rfl) (Nat.le_of_ble_eq_true rfl) (Nat.lt_of_lt_of_le (by decide) hd) rfl (sX6_pass (Nat.le_refl _) x32e) rfl ?_
        refine v_pop (q := 123) dX6_readProgram_122 rfl rfl ?_
        exact V.sub [] rfl (sjX6_readProgram_123 hd H)
    · replace H := ip c14 H
      cases H
      exact v_return rfl dX6_readProgram_55
  · replace H := ip c3 H
    refine v_aload_n (q := 13) 0 dX6_readProgram_12 rfl rfl rfl ?_
    refine v_iconst (v := 4) (q := 14) dX6_readProgram_13 (by decide) rfl ?_
    replace H := bs H; obtain ⟨_, o33, H⟩ := H
    replace H := bs H; obtain ⟨x34, x34e, H⟩ := H
    refine u_callV0 (M' := mX6_fail) (d' := 1) (rc := (RX6, TX6, 13)) (As := [.int (4 : Int32)]) (st := []) (q := 17) oX6_fail dX6_readProgram_14 w0658 w0660 w0004 rfl rfl (gO_sp o33).1 (gO_sp o33).2 rfl (Nat.le_of_ble_eq_true rfl) (Nat.le_of_ble_eq_true rfl) (Nat.lt_of_lt_of_le (by decide) hd) rfl (sX6_fail (Nat.le_refl _) x34e) rfl ?_
    cases H
    exact v_return rfl dX6_readProgram_17
def mX6_read : MI := (yX6_read, cX6_read, 5, none)
theorem oX6_read : mOK mX6_read 3 := ⟨by decide +kernel, by decide +kernel, by decide +kernel, by decide, w0583, w0140⟩
def jX6_read_141 (u0 : Nat) (v4 : Int32) (h : Hp) : Option ((Int32 × Hp) ⊕ (Hp)) :=
(some (v4 + (1 : Int32))).bind fun x28 =>
some (.inl (x28, h))
set_option maxRecDepth 20000 in
set_option maxHeartbeats 4000000 in
theorem sjX6_read_141 {Γ : Gm} {d : Nat} (hd : 11 ≤ d) {u0 : Nat} {v4 : Int32} {h : Hp} {r : (Int32 × Hp) ⊕ (Hp)} {t : Option Value × Hp} (H : jX6_read_141 u0 v4 h = some r) (kI : ∀ s, r = .inl s → (fun s54 => V Γ d mX6_read 54 [(0, .ref u0), (4, .int s54.1)] [] s54.2 t) s) (kE : ∀ e, r = .inr e → (fun e => V Γ d mX6_read 147 [] [] e t) e) : V Γ d mX6_read 141 [(0, .ref u0), (4, .int v4)] [] h t := by
  unfold jX6_read_141 at H
  replace H := bs H; obtain ⟨x28, x28e, H⟩ := H
  refine v_iinc (v := x28) (L' := [(4, .int x28), (0, .ref u0)]) (q := 144) 1 dX6_read_141 rfl (Option.some.inj x28e) (by decide) rfl rfl ?_
  refine v_goto (q := 54) dX6_read_144 (by decide) ?_
  exact V.sub [1, 0] rfl (kI (x28, h) (Option.some.inj H).symm)
def jX6_read_136 (u0 : Nat) (v4 : Int32) (h : Hp) : Option ((Int32 × Hp) ⊕ (Hp)) :=
(gO h 6 u0).bind fun _ =>
(fX6_fail h u0 (1 : Int32)).bind fun x27 =>
jX6_read_141 u0 v4 x27
set_option maxRecDepth 20000 in
set_option maxHeartbeats 4000000 in
theorem sjX6_read_136 {Γ : Gm} {d : Nat} (hd : 11 ≤ d) {u0 : Nat} {v4 : Int32} {h : Hp} {r : (Int32 × Hp) ⊕ (Hp)} {t : Option Value × Hp} (H : jX6_read_136 u0 v4 h = some r) (kI : ∀ s, r = .inl s → (fun s54 => V Γ d mX6_read 54 [(0, .ref u0), (4, .int s54.1)] [] s54.2 t) s) (kE : ∀ e, r = .inr e → (fun e => V Γ d mX6_read 147 [] [] e t) e) : V Γ d mX6_read 136 [(0, .ref u0), (4, .int v4)] [] h t := by
  unfold jX6_read_136 at H
  refine v_aload_n (q := 137) 0 dX6_read_136 rfl rfl rfl ?_
  refine v_iconst (v := 1) (q := 138) dX6_read_137 (by decide) rfl ?_
  replace H := bs H; obtain ⟨_, o26, H⟩ := H
  replace H := bs H; obtain ⟨x27, x27e, H⟩ := H
  refine u_callV0 (M' := mX6_fail) (d' := 1) (rc := (RX6, TX6, 13)) (As := [.int (1 : Int32)]) (st := []) (q := 141) oX6_fail dX6_read_138 w0658 w0660 w0004 rfl rfl (gO_sp o26).1 (gO_sp o26).2 rfl (Nat.le_of_ble_eq_true rfl) (Nat.le_of_ble_eq_true rfl) (Nat.lt_of_lt_of_le (by decide) hd) rfl (sX6_fail (Nat.le_refl _) x27e) rfl ?_
  exact V.sub [0, 1] rfl (sjX6_read_141 hd H kI kE)
def bX6_read_54 (u0 : Nat) (s54 : Int32 × Hp) : Option ((Int32 × Hp) ⊕ (Hp)) :=
(gI s54.2 6 u0 3).bind fun x14 =>
if x14 < s54.1 then (
some (.inr s54.2)) else (
(gI s54.2 6 u0 0).bind fun x16 =>
if x16 = 0 then (
(gI s54.2 6 u0 5).bind fun x18 =>
if x18 = (17 : Int32) then (
some (.inr s54.2)) else (
(gI s54.2 6 u0 5).bind fun x20 =>
if x20 = (9 : Int32) then (
(gO s54.2 6 u0).bind fun _ =>
(fX6_readKind s54.2 u0).bind fun x36 =>
jX6_read_141 u0 s54.1 x36) else (
(gI s54.2 6 u0 5).bind fun x22 =>
if x22 = (10 : Int32) then (
(gO s54.2 6 u0).bind fun _ =>
(fX6_readLock s54.2 u0).bind fun x34 =>
jX6_read_141 u0 s54.1 x34) else (
(gI s54.2 6 u0 5).bind fun x24 =>
if x24 < (12 : Int32) then (
jX6_read_136 u0 s54.1 s54.2) else (
(gI s54.2 6 u0 5).bind fun x29 =>
if (14 : Int32) < x29 then (
jX6_read_136 u0 s54.1 s54.2) else (
(gO s54.2 6 u0).bind fun _ =>
(fX6_readProgram s54.2 u0).bind fun x32 =>
jX6_read_141 u0 s54.1 x32)))))) else (
some (.inr s54.2)))
set_option maxRecDepth 20000 in
set_option maxHeartbeats 4000000 in
theorem sbX6_read_54 {Γ : Gm} {d : Nat} (hd : 11 ≤ d) {u0 : Nat} {s54 : Int32 × Hp} {r : (Int32 × Hp) ⊕ (Hp)} {t : Option Value × Hp} (H : bX6_read_54 u0 s54 = some r) (kI : ∀ s, r = .inl s → (fun s54 => V Γ d mX6_read 54 [(0, .ref u0), (4, .int s54.1)] [] s54.2 t) s) (kE : ∀ e, r = .inr e → (fun e => V Γ d mX6_read 147 [] [] e t) e) : V Γ d mX6_read 54 [(0, .ref u0), (4, .int s54.1)] [] s54.2 t := by
  unfold bX6_read_54 at H
  refine v_iload (q := 56) 1 dX6_read_54 rfl rfl ?_
  refine v_aload_n (q := 57) 0 dX6_read_56 rfl rfl rfl ?_
  replace H := bs H; obtain ⟨x14, x14e, H⟩ := H
  refine u_gI (q := 60) (r := (RX6, TX6, 13)) x14e dX6_read_57 w0179 rfl (by decide) rfl rfl ?_
  refine v_icmp_gt (q1 := 147) (q2 := 63) dX6_read_60 (by decide) rfl (fun c15 => ?_) (fun c15 => ?_)
  · replace H := ip c15 H
    exact V.sub [] rfl (kE s54.2 (Option.some.inj H).symm)
  · replace H := ine c15 H
    refine v_aload_n (q := 64) 0 dX6_read_63 rfl rfl rfl ?_
    replace H := bs H; obtain ⟨x16, x16e, H⟩ := H
    refine u_gI (q := 67) (r := (RX6, TX6, 13)) x16e dX6_read_64 w0174 rfl (by decide) rfl rfl ?_
    refine v_if_ne (q1 := 147) (q2 := 70) dX6_read_67 (by decide) rfl (fun c17 => ?_) (fun c17 => ?_)
    · replace H := ine c17 H
      exact V.sub [] rfl (kE s54.2 (Option.some.inj H).symm)
    · replace H := ip c17 H
      refine v_aload_n (q := 71) 0 dX6_read_70 rfl rfl rfl ?_
      replace H := bs H; obtain ⟨x18, x18e, H⟩ := H
      refine u_gI (q := 74) (r := (RX6, TX6, 13)) x18e dX6_read_71 w0181 rfl (by decide) rfl rfl ?_
      refine v_bipush (v := 17) (q := 76) dX6_read_74 (by decide) rfl ?_
      refine v_icmp_eq (q1 := 147) (q2 := 79) dX6_read_76 (by decide) rfl (fun c19 => ?_) (fun c19 => ?_)
      · replace H := ip c19 H
        exact V.sub [] rfl (kE s54.2 (Option.some.inj H).symm)
      · replace H := ine c19 H
        refine v_aload_n (q := 80) 0 dX6_read_79 rfl rfl rfl ?_
        replace H := bs H; obtain ⟨x20, x20e, H⟩ := H
        refine u_gI (q := 83) (r := (RX6, TX6, 13)) x20e dX6_read_80 w0181 rfl (by decide) rfl rfl ?_
        refine v_bipush (v := 9) (q := 85) dX6_read_83 (by decide) rfl ?_
        refine v_icmp_ne (q1 := 95) (q2 := 88) dX6_read_85 (by decide) rfl (fun c21 => ?_) (fun c21 => ?_)
        · replace H := ine c21 H
          refine v_aload_n (q := 96) 0 dX6_read_95 rfl rfl rfl ?_
          replace H := bs H; obtain ⟨x22, x22e, H⟩ := H
          refine u_gI (q := 99) (r := (RX6, TX6, 13)) x22e dX6_read_96 w0181 rfl (by decide) rfl rfl ?_
          refine v_bipush (v := 10) (q := 101) dX6_read_99 (by decide) rfl ?_
          refine v_icmp_ne (q1 := 111) (q2 := 104) dX6_read_101 (by decide) rfl (fun c23 => ?_) (fun c23 => ?_)
          · replace H := ine c23 H
            refine v_aload_n (q := 112) 0 dX6_read_111 rfl rfl rfl ?_
            replace H := bs H; obtain ⟨x24, x24e, H⟩ := H
            refine u_gI (q := 115) (r := (RX6, TX6, 13)) x24e dX6_read_112 w0181 rfl (by decide) rfl rfl ?_
            refine v_bipush (v := 12) (q := 117) dX6_read_115 (by decide) rfl ?_
            refine v_icmp_lt (q1 := 136) (q2 := 120) dX6_read_117 (by decide) rfl (fun c25 => ?_) (fun c25 => ?_)
            · replace H := ip c25 H
              exact V.sub [0, 1] rfl (sjX6_read_136 hd H kI kE)
            · replace H := ine c25 H
              refine v_aload_n (q := 121) 0 dX6_read_120 rfl rfl rfl ?_
              replace H := bs H; obtain ⟨x29, x29e, H⟩ := H
              refine u_gI (q := 124) (r := (RX6, TX6, 13)) x29e dX6_read_121 w0181 rfl (by decide) rfl rfl ?_
              refine v_bipush (v := 14) (q := 126) dX6_read_124 (by decide) rfl ?_
              refine v_icmp_gt (q1 := 136) (q2 := 129) dX6_read_126 (by decide) rfl (fun c30 => ?_) (fun c30 => ?_)
              · replace H := ip c30 H
                exact V.sub [0, 1] rfl (sjX6_read_136 hd H kI kE)
              · replace H := ine c30 H
                refine v_aload_n (q := 130) 0 dX6_read_129 rfl rfl rfl ?_
                replace H := bs H; obtain ⟨_, o31, H⟩ := H
                replace H := bs H; obtain ⟨x32, x32e, H⟩ := H
                refine u_callV0 (M' := mX6_readProgram) (d' := 10) (rc := (RX6, TX6, 13)) (As := []) (st := []) (q := 133) oX6_readProgram dX6_read_130 w0686 w0688 w0011 rfl rfl (gO_sp o31).1 (gO_sp o31).2 rfl (Nat.le_of_ble_eq_true rfl) (Nat.le_of_ble_eq_true rfl) (Nat.lt_of_lt_of_le (by decide) hd) rfl (sX6_readProgram (Nat.le_refl _) x32e) rfl ?_
                refine v_goto (q := 141) dX6_read_133 (by decide) ?_
                exact V.sub [0, 1] rfl (sjX6_read_141 hd H kI kE)
          · replace H := ip c23 H
            refine v_aload_n (q := 105) 0 dX6_read_104 rfl rfl rfl ?_
            replace H := bs H; obtain ⟨_, o33, H⟩ := H
            replace H := bs H; obtain ⟨x34, x34e, H⟩ := H
            refine u_callV0 (M' := mX6_readLock) (d' := 9) (rc := (RX6, TX6, 13)) (As := []) (st := []) (q := 108) oX6_readLock dX6_read_105 w0678 w0680 w0009 rfl rfl (gO_sp o33).1 (gO_sp o33).2 rfl (Nat.le_of_ble_eq_true rfl) (Nat.le_of_ble_eq_true rfl) (Nat.lt_of_lt_of_le (by decide) hd) rfl (sX6_readLock (Nat.le_refl _) x34e) rfl ?_
            refine v_goto (q := 141) dX6_read_108 (by decide) ?_
            exact V.sub [0, 1] rfl (sjX6_read_141 hd H kI kE)
        · replace H := ip c21 H
          refine v_aload_n (q := 89) 0 dX6_read_88 rfl rfl rfl ?_
          replace H := bs H; obtain ⟨_, o35, H⟩ := H
          replace H := bs H; obtain ⟨x36, x36e, H⟩ := H
          refine u_callV0 (M' := mX6_readKind) (d' := 9) (rc := (RX6, TX6, 13)) (As := []) (st := []) (q := 92) oX6_readKind dX6_read_89 w0654 w0656 w0003 rfl rfl (gO_sp o35).1 (gO_sp o35).2 rfl (Nat.le_of_ble_eq_true rfl) (Nat.le_of_ble_eq_true rfl) (Nat.lt_of_lt_of_le (by decide) hd) rfl (sX6_readKind (Nat.le_refl _) x36e) rfl ?_
          refine v_goto (q := 141) dX6_read_92 (by decide) ?_
          exact V.sub [0, 1] rfl (sjX6_read_141 hd H kI kE)
def fX6_read (h : Hp) (v0 : Nat) (v1 : Nat) (v2 : Int32) (v3 : Nat) : Option (Hp) :=
(pR h 6 v0 2 v1).bind fun h1 =>
(aL h1 .byte v1).bind fun x2 =>
(pI h1 6 v0 3 (if x2 < v2 then x2 else v2)).bind fun h3 =>
(pR h3 6 v0 4 v3).bind fun h4 =>
(gR h4 6 v0 4).bind fun x5 =>
(gO h4 5 x5).bind fun _ =>
(fX5_clear h4 x5).bind fun x7 =>
(pI x7 6 v0 0 (0 : Int32)).bind fun h8 =>
(pI h8 6 v0 1 (-1 : Int32)).bind fun h9 =>
(pI h9 6 v0 8 (0 : Int32)).bind fun h10 =>
(pI h10 6 v0 7 (0 : Int32)).bind fun h11 =>
(gO h11 6 v0).bind fun _ =>
(fX6_nextToken h11 v0).bind fun x13 =>
(lp (bX6_read_54 v0) FU ((0 : Int32), x13)).bind fun e37 =>
some e37
set_option maxRecDepth 20000 in
set_option maxHeartbeats 4000000 in
theorem sX6_read {Γ : Gm} {d : Nat} (hd : 11 ≤ d) {h : Hp} {v0 : Nat} {v1 : Nat} {v2 : Int32} {v3 : Nat} {r : Hp} (H : fX6_read h v0 v1 v2 v3 = some r) : V Γ d mX6_read 0 [(0, .ref v0), (1, .ref v1), (2, .int v2), (3, .ref v3)] [] h (none, r) := by
  unfold fX6_read at H
  refine v_aload_n (q := 1) 0 dX6_read_0 rfl rfl rfl ?_
  refine v_aload_n (q := 2) 1 dX6_read_1 rfl rfl rfl ?_
  replace H := bs H; obtain ⟨h1, h1e, H⟩ := H
  refine u_pR (q := 5) (r := (RX6, TX6, 13)) h1e dX6_read_2 w0178 rfl (by decide) (Or.inl rfl) rfl rfl ?_
  refine v_aload_n (q := 6) 0 dX6_read_5 rfl rfl rfl ?_
  refine v_iload_n (q := 7) 2 dX6_read_6 rfl rfl rfl ?_
  refine v_aload_n (q := 8) 1 dX6_read_7 rfl rfl rfl ?_
  replace H := bs H; obtain ⟨x2, x2e, H⟩ := H
  refine u_aL (q := 9) (ty := .byte) (by decide) x2e dX6_read_8 rfl ?_
  refine v_mmin (q := 12) dX6_read_9 w0584 w0585 w0151 w0586 (Nat.le_of_ble_eq_true rfl) (Nat.lt_of_lt_of_le (by decide) hd) rfl ?_
  replace H := bs H; obtain ⟨h3, h3e, H⟩ := H
  refine u_pI (q := 15) (r := (RX6, TX6, 13)) h3e dX6_read_12 w0179 rfl (by decide) (Or.inl rfl) rfl rfl ?_
  refine v_aload_n (q := 16) 0 dX6_read_15 rfl rfl rfl ?_
  refine v_aload_n (q := 17) 3 dX6_read_16 rfl rfl rfl ?_
  replace H := bs H; obtain ⟨h4, h4e, H⟩ := H
  refine u_pR (q := 20) (r := (RX6, TX6, 13)) h4e dX6_read_17 w0180 rfl (by decide) (Or.inl rfl) rfl rfl ?_
  refine v_aload_n (q := 21) 0 dX6_read_20 rfl rfl rfl ?_
  replace H := bs H; obtain ⟨x5, x5e, H⟩ := H
  refine u_gR (q := 24) (r := (RX6, TX6, 13)) x5e dX6_read_21 w0180 rfl (by decide) rfl rfl ?_
  replace H := bs H; obtain ⟨_, o6, H⟩ := H
  replace H := bs H; obtain ⟨x7, x7e, H⟩ := H
  refine u_callV0 (M' := mX5_clear) (d' := 2) (rc := (RX5, TX5, 7)) (As := []) (st := []) (q := 27) oX5_clear dX6_read_24 w0587 w0588 w0589 rfl rfl (gO_sp o6).1 (gO_sp o6).2 rfl (Nat.le_of_ble_eq_true rfl) (Nat.le_of_ble_eq_true rfl) (Nat.lt_of_lt_of_le (by decide) hd) rfl (sX5_clear (Nat.le_refl _) x7e) rfl ?_
  refine v_aload_n (q := 28) 0 dX6_read_27 rfl rfl rfl ?_
  refine v_iconst (v := 0) (q := 29) dX6_read_28 (by decide) rfl ?_
  replace H := bs H; obtain ⟨h8, h8e, H⟩ := H
  refine u_pI (q := 32) (r := (RX6, TX6, 13)) h8e dX6_read_29 w0174 rfl (by decide) (Or.inl rfl) rfl rfl ?_
  refine v_aload_n (q := 33) 0 dX6_read_32 rfl rfl rfl ?_
  refine v_iconst (v := -1) (q := 34) dX6_read_33 (by decide) rfl ?_
  replace H := bs H; obtain ⟨h9, h9e, H⟩ := H
  refine u_pI (q := 37) (r := (RX6, TX6, 13)) h9e dX6_read_34 w0176 rfl (by decide) (Or.inl rfl) rfl rfl ?_
  refine v_aload_n (q := 38) 0 dX6_read_37 rfl rfl rfl ?_
  refine v_iconst (v := 0) (q := 39) dX6_read_38 (by decide) rfl ?_
  replace H := bs H; obtain ⟨h10, h10e, H⟩ := H
  refine u_pI (q := 42) (r := (RX6, TX6, 13)) h10e dX6_read_39 w0184 rfl (by decide) (Or.inl rfl) rfl rfl ?_
  refine v_aload_n (q := 43) 0 dX6_read_42 rfl rfl rfl ?_
  refine v_iconst (v := 0) (q := 44) dX6_read_43 (by decide) rfl ?_
  replace H := bs H; obtain ⟨h11, h11e, H⟩ := H
  refine u_pI (q := 47) (r := (RX6, TX6, 13)) h11e dX6_read_44 w0183 rfl (by decide) (Or.inl rfl) rfl rfl ?_
  refine v_aload_n (q := 48) 0 dX6_read_47 rfl rfl rfl ?_
  replace H := bs H; obtain ⟨_, o12, H⟩ := H
  replace H := bs H; obtain ⟨x13, x13e, H⟩ := H
  refine u_callV0 (M' := mX6_nextToken) (d' := 7) (rc := (RX6, TX6, 13)) (As := []) (st := []) (q := 51) oX6_nextToken dX6_read_48 w0594 w0596 w0001 rfl rfl (gO_sp o12).1 (gO_sp o12).2 rfl (Nat.le_of_ble_eq_true rfl) (Nat.le_of_ble_eq_true rfl) (Nat.lt_of_lt_of_le (by decide) hd) rfl (sX6_nextToken (Nat.le_refl _) x13e) rfl ?_
  refine v_iconst (v := 0) (q := 52) dX6_read_51 (by decide) rfl ?_
  refine v_istore (L' := [(4, .int (0 : Int32)), (0, .ref v0), (1, .ref v1), (2, .int v2), (3, .ref v3)]) (q := 54) dX6_read_52 (by decide) rfl rfl ?_
  replace H := bs H; obtain ⟨e37, e37L, H⟩ := H
  refine V.sub [1, 0] rfl ?_
  refine lp_V (P := (fun s54 => V Γ d mX6_read 54 [(0, .ref v0), (4, .int s54.1)] [] s54.2 (none, r))) (E := (fun e => V Γ d mX6_read 147 [] [] e (none, r))) (fun s r hb kI kE => sbX6_read_54 hd (s54 := s) (r := r) hb kI kE) FU ((0 : Int32), x13) e37 e37L ?_
  cases H
  exact v_return rfl dX6_read_147
def mX11_store : MI := (yX11_store, cX11_store, 3, some .int)
theorem oX11_store : mOK mX11_store 0 := ⟨by decide +kernel, by decide +kernel, by decide +kernel, by decide, w0579, w0139⟩
def bX11_store_80 (u0 : Nat) (s80 : Int32 × Hp) : Option ((Int32 × Hp) ⊕ (Hp)) :=
if (2 : Int32) ≤ s80.1 then (
some (.inr s80.2)) else (
(gR s80.2 11 u0 7).bind fun x26 =>
(tZ s80.2 x26 s80.1 (0 : Int32)).bind fun h27 =>
(some (s80.1 + (1 : Int32))).bind fun x28 =>
some (.inl (x28, h27)))
set_option maxRecDepth 20000 in
set_option maxHeartbeats 4000000 in
theorem sbX11_store_80 {Γ : Gm} {d : Nat} (hd : 12 ≤ d) {u0 : Nat} {s80 : Int32 × Hp} {r : (Int32 × Hp) ⊕ (Hp)} {t : Option Value × Hp} (H : bX11_store_80 u0 s80 = some r) (kI : ∀ s, r = .inl s → (fun s80 => V Γ d mX11_store 80 [(0, .ref u0), (2, .int s80.1)] [] s80.2 t) s) (kE : ∀ e, r = .inr e → (fun e => V Γ d mX11_store 98 [(0, .ref u0)] [] e t) e) : V Γ d mX11_store 80 [(0, .ref u0), (2, .int s80.1)] [] s80.2 t := by
  unfold bX11_store_80 at H
  refine v_iload_n (q := 81) 1 dX11_store_80 rfl rfl rfl ?_
  refine v_iconst (v := 2) (q := 82) dX11_store_81 (by decide) rfl ?_
  refine v_icmp_ge (q1 := 98) (q2 := 85) dX11_store_82 (by decide) rfl (fun c25 => ?_) (fun c25 => ?_)
  · replace H := ip c25 H
    exact V.sub [0] rfl (kE s80.2 (Option.some.inj H).symm)
  · replace H := ine c25 H
    refine v_aload_n (q := 86) 0 dX11_store_85 rfl rfl rfl ?_
    replace H := bs H; obtain ⟨x26, x26e, H⟩ := H
    refine u_gR (q := 89) (r := (RX11, TX11, 14)) x26e dX11_store_86 w0528 rfl (by decide) rfl rfl ?_
    refine v_iload_n (q := 90) 1 dX11_store_89 rfl rfl rfl ?_
    refine v_iconst (v := 0) (q := 91) dX11_store_90 (by decide) rfl ?_
    replace H := bs H; obtain ⟨h27, h27e, H⟩ := H
    refine u_tZ (q := 92) h27e dX11_store_91 rfl ?_
    replace H := bs H; obtain ⟨x28, x28e, H⟩ := H
    refine v_iinc (v := x28) (L' := [(2, .int x28), (0, .ref u0)]) (q := 95) 1 dX11_store_92 rfl (Option.some.inj x28e) (by decide) rfl rfl ?_
    refine v_goto (q := 80) dX11_store_95 (by decide) ?_
    exact V.sub [1, 0] rfl (kI (x28, h27) (Option.some.inj H).symm)
def fX11_store (h : Hp) (v0 : Nat) : Option (Int32 × Hp) :=
(gR h 11 v0 2).bind fun x1 =>
(gR h 11 v0 0).bind fun x2 =>
(gI h 11 v0 1).bind fun x3 =>
(gR h 11 v0 4).bind fun x4 =>
(gO h 6 x1).bind fun _ =>
(fX6_read h x1 x2 x3 x4).bind fun x6 =>
(pI x6 11 v0 1 (0 : Int32)).bind fun h7 =>
(gR h7 11 v0 2).bind fun x8 =>
(gI h7 6 x8 0).bind fun x9 =>
if x9 = 0 then (
(gR h7 11 v0 4).bind fun x11 =>
(gR h7 11 v0 3).bind fun x12 =>
(pR h7 11 v0 4 x12).bind fun h13 =>
(pR h13 11 v0 3 x11).bind fun h14 =>
(gR h14 11 v0 5).bind fun x15 =>
(gO h14 2 x15).bind fun _ =>
(fX2_restart h14 x15).bind fun x17 =>
(gR x17 11 v0 5).bind fun x18 =>
(gO x17 2 x18).bind fun _ =>
(fX2_present x17 x18).bind fun x20 =>
(gR x17 11 v0 3).bind fun x21 =>
(gR x17 5 x21 6).bind fun x22 =>
(gO x17 3 x20).bind fun _ =>
(fX3_begin x17 x20 x22).bind fun x24 =>
(lp (bX11_store_80 v0) FU ((0 : Int32), x24)).bind fun e29 =>
(gR e29 11 v0 13).bind fun x30 =>
(gO e29 0 x30).bind fun _ =>
(fX0_clear e29 x30).bind fun x32 =>
(gR x32 11 v0 3).bind fun x33 =>
(gI x32 5 x33 2).bind fun x34 =>
some (x34, x32)) else (
some (((-1 : Int32), h7)))
set_option maxRecDepth 20000 in
set_option maxHeartbeats 4000000 in
theorem sX11_store {Γ : Gm} {d : Nat} (hd : 12 ≤ d) {h : Hp} {v0 : Nat} {r : Int32 × Hp} (H : fX11_store h v0 = some r) : V Γ d mX11_store 0 [(0, .ref v0)] [] h (some (.int r.1), r.2) := by
  unfold fX11_store at H
  refine v_aload_n (q := 1) 0 dX11_store_0 rfl rfl rfl ?_
  replace H := bs H; obtain ⟨x1, x1e, H⟩ := H
  refine u_gR (q := 4) (r := (RX11, TX11, 14)) x1e dX11_store_1 w0523 rfl (by decide) rfl rfl ?_
  refine v_aload_n (q := 5) 0 dX11_store_4 rfl rfl rfl ?_
  replace H := bs H; obtain ⟨x2, x2e, H⟩ := H
  refine u_gR (q := 8) (r := (RX11, TX11, 14)) x2e dX11_store_5 w0521 rfl (by decide) rfl rfl ?_
  refine v_aload_n (q := 9) 0 dX11_store_8 rfl rfl rfl ?_
  replace H := bs H; obtain ⟨x3, x3e, H⟩ := H
  refine u_gI (q := 12) (r := (RX11, TX11, 14)) x3e dX11_store_9 w0522 rfl (by decide) rfl rfl ?_
  refine v_aload_n (q := 13) 0 dX11_store_12 rfl rfl rfl ?_
  replace H := bs H; obtain ⟨x4, x4e, H⟩ := H
  refine u_gR (q := 16) (r := (RX11, TX11, 14)) x4e dX11_store_13 w0525 rfl (by decide) rfl rfl ?_
  replace H := bs H; obtain ⟨_, o5, H⟩ := H
  replace H := bs H; obtain ⟨x6, x6e, H⟩ := H
  refine u_callV0 (M' := mX6_read) (d' := 11) (rc := (RX6, TX6, 13)) (As := [.ref x2, .int x3, .ref x4]) (st := []) (q := 19) oX6_read dX11_store_16 w0580 w0581 w0582 rfl rfl (gO_sp o5).1 (gO_sp o5).2 rfl (Nat.le_of_ble_eq_true rfl) (Nat.le_of_ble_eq_true rfl) (Nat.lt_of_lt_of_le (by decide) hd) rfl (sX6_read (Nat.le_refl _) x6e) rfl ?_
  refine v_aload_n (q := 20) 0 dX11_store_19 rfl rfl rfl ?_
  refine v_iconst (v := 0) (q := 21) dX11_store_20 (by decide) rfl ?_
  replace H := bs H; obtain ⟨h7, h7e, H⟩ := H
  refine u_pI (q := 24) (r := (RX11, TX11, 14)) h7e dX11_store_21 w0522 rfl (by decide) (Or.inl rfl) rfl rfl ?_
  refine v_aload_n (q := 25) 0 dX11_store_24 rfl rfl rfl ?_
  replace H := bs H; obtain ⟨x8, x8e, H⟩ := H
  refine u_gR (q := 28) (r := (RX11, TX11, 14)) x8e dX11_store_25 w0523 rfl (by decide) rfl rfl ?_
  replace H := bs H; obtain ⟨x9, x9e, H⟩ := H
  refine u_gI (q := 31) (r := (RX6, TX6, 13)) x9e dX11_store_28 w0175 rfl (by decide) rfl rfl ?_
  refine v_if_eq (q1 := 36) (q2 := 34) dX11_store_31 (by decide) rfl (fun c10 => ?_) (fun c10 => ?_)
  · replace H := ip c10 H
    refine v_aload_n (q := 37) 0 dX11_store_36 rfl rfl rfl ?_
    replace H := bs H; obtain ⟨x11, x11e, H⟩ := H
    refine u_gR (q := 40) (r := (RX11, TX11, 14)) x11e dX11_store_37 w0525 rfl (by decide) rfl rfl ?_
    refine v_astore_n (L' := [(1, .ref x11), (0, .ref v0)]) (q := 41) dX11_store_40 rfl (by decide) rfl rfl ?_
    refine v_aload_n (q := 42) 1 dX11_store_41 rfl rfl rfl ?_
    refine v_aload_n (q := 43) 1 dX11_store_42 rfl rfl rfl ?_
    replace H := bs H; obtain ⟨x12, x12e, H⟩ := H
    refine u_gR (q := 46) (r := (RX11, TX11, 14)) x12e dX11_store_43 w0524 rfl (by decide) rfl rfl ?_
    replace H := bs H; obtain ⟨h13, h13e, H⟩ := H
    refine u_pR (q := 49) (r := (RX11, TX11, 14)) h13e dX11_store_46 w0525 rfl (by decide) (Or.inl rfl) rfl rfl ?_
    refine v_aload_n (q := 50) 1 dX11_store_49 rfl rfl rfl ?_
    refine v_aload_n (q := 51) 0 dX11_store_50 rfl rfl rfl ?_
    replace H := bs H; obtain ⟨h14, h14e, H⟩ := H
    refine u_pR (q := 54) (r := (RX11, TX11, 14)) h14e dX11_store_51 w0524 rfl (by decide) (Or.inl rfl) rfl rfl ?_
    refine v_aload_n (q := 55) 1 dX11_store_54 rfl rfl rfl ?_
    replace H := bs H; obtain ⟨x15, x15e, H⟩ := H
    refine u_gR (q := 58) (r := (RX11, TX11, 14)) x15e dX11_store_55 w0526 rfl (by decide) rfl rfl ?_
    replace H := bs H; obtain ⟨_, o16, H⟩ := H
    replace H := bs H; obtain ⟨x17, x17e, H⟩ := H
    refine u_callV0 (M' := mX2_restart) (d' := 1) (rc := (RX2, TX2, 3)) (As := []) (st := []) (q := 61) oX2_restart dX11_store_58 w0697 w0698 w0699 rfl rfl (gO_sp o16).1 (gO_sp o16).2 rfl (Nat.le_of_ble_eq_true rfl) (Nat.le_of_ble_eq_true rfl) (Nat.lt_of_lt_of_le (by decide) hd) rfl (sX2_restart (Nat.le_refl _) x17e) rfl ?_
    refine v_aload_n (q := 62) 1 dX11_store_61 rfl rfl rfl ?_
    replace H := bs H; obtain ⟨x18, x18e, H⟩ := H
    refine u_gR (q := 65) (r := (RX11, TX11, 14)) x18e dX11_store_62 w0526 rfl (by decide) rfl rfl ?_
    replace H := bs H; obtain ⟨_, o19, H⟩ := H
    replace H := bs H; obtain ⟨x20, x20e, H⟩ := H
    refine u_callV1 (M' := mX2_present) (d' := 1) (rc := (RX2, TX2, 3)) (As := []) (st := []) (q := 68) oX2_present dX11_store_65 w0701 w0702 w0703 rfl rfl (gO_sp o19).1 (gO_sp o19).2 rfl (Nat.le_of_ble_eq_true rfl) (Nat.le_of_ble_eq_true rfl) (Nat.lt_of_lt_of_le (by decide) hd) rfl (sX2_present (Nat.le_refl _) x20e) rfl ?_
    refine v_aload_n (q := 69) 1 dX11_store_68 rfl rfl rfl ?_
    replace H := bs H; obtain ⟨x21, x21e, H⟩ := H
    refine u_gR (q := 72) (r := (RX11, TX11, 14)) x21e dX11_store_69 w0524 rfl (by decide) rfl rfl ?_
    replace H := bs H; obtain ⟨x22, x22e, H⟩ := H
    refine u_gR (q := 75) (r := (RX5, TX5, 7)) x22e dX11_store_72 w0250 rfl (by decide) rfl rfl ?_
    replace H := bs H; obtain ⟨_, o23, H⟩ := H
    replace H := bs H; obtain ⟨x24, x24e, H⟩ := H
    refine u_callV0 (M' := mX3_begin) (d' := 4) (rc := (RX3, TX3, 8)) (As := [.ref x22]) (st := []) (q := 78) oX3_begin dX11_store_75 w0705 w0706 w0707 rfl rfl (gO_sp o23).1 (gO_sp o23).2 rfl (Nat.le_of_ble_eq_true rfl) (Nat.le_of_ble_eq_true rfl) (Nat.lt_of_lt_of_le (by decide) hd) rfl (sX3_begin (Nat.le_refl _) x24e) rfl ?_
    refine v_iconst (v := 0) (q := 79) dX11_store_78 (by decide) rfl ?_
    refine v_istore_n (L' := [(2, .int (0 : Int32)), (1, .ref x11), (0, .ref v0)]) (q := 80) dX11_store_79 rfl (by decide) rfl rfl ?_
    replace H := bs H; obtain ⟨e29, e29L, H⟩ := H
    refine V.sub [2, 0] rfl ?_
    refine lp_V (P := (fun s80 => V Γ d mX11_store 80 [(0, .ref v0), (2, .int s80.1)] [] s80.2 (some (.int r.1), r.2))) (E := (fun e => V Γ d mX11_store 98 [(0, .ref v0)] [] e (some (.int r.1), r.2))) (fun s r hb kI kE => sbX11_store_80 hd (s80 := s) (r := r) hb kI kE) FU ((0 : Int32), x24) e29 e29L ?_
    refine v_aload_n (q := 99) 0 dX11_store_98 rfl rfl rfl ?_
    replace H := bs H; obtain ⟨x30, x30e, H⟩ := H
    refine u_gR (q := 102) (r := (RX11, TX11, 14)) x30e dX11_store_99 w0534 rfl (by decide) rfl rfl ?_
    replace H := bs H; obtain ⟨_, o31, H⟩ := H
    replace H := bs H; obtain ⟨x32, x32e, H⟩ := H
    refine u_callV0 (M' := mX0_clear) (d' := 1) (rc := (RX0, TX0, 9)) (As := []) (st := []) (q := 105) oX0_clear dX11_store_102 w0727 w0728 w0729 rfl rfl (gO_sp o31).1 (gO_sp o31).2 rfl (Nat.le_of_ble_eq_true rfl) (Nat.le_of_ble_eq_true rfl) (Nat.lt_of_lt_of_le (by decide) hd) rfl (sX0_clear (Nat.le_refl _) x32e) rfl ?_
    refine v_aload_n (q := 106) 0 dX11_store_105 rfl rfl rfl ?_
    replace H := bs H; obtain ⟨x33, x33e, H⟩ := H
    refine u_gR (q := 109) (r := (RX11, TX11, 14)) x33e dX11_store_106 w0524 rfl (by decide) rfl rfl ?_
    replace H := bs H; obtain ⟨x34, x34e, H⟩ := H
    refine u_gI (q := 112) (r := (RX5, TX5, 7)) x34e dX11_store_109 w0232 rfl (by decide) rfl rfl ?_
    cases H
    exact v_ireturn rfl dX11_store_112
  · replace H := ine c10 H
    refine v_iconst (v := -1) (q := 35) dX11_store_34 (by decide) rfl ?_
    cases H
    exact v_ireturn rfl dX11_store_35
def mX11_stuck : MI := (yX11_stuck, cX11_stuck, 4, some .int)
theorem oX11_stuck : mOK mX11_stuck 2 := ⟨by decide +kernel, by decide +kernel, by decide +kernel, by decide, w1058, w0139⟩
def jX11_stuck_20 (h : Hp) : Option (Int32 × Hp) :=
some (((-1 : Int32), h))
set_option maxRecDepth 20000 in
set_option maxHeartbeats 4000000 in
theorem sjX11_stuck_20 {Γ : Gm} {d : Nat} (hd : 8 ≤ d) {h : Hp} {r : Int32 × Hp} (H : jX11_stuck_20 h = some r) : V Γ d mX11_stuck 20 [] [] h (some (.int r.1), r.2) := by
  unfold jX11_stuck_20 at H
  refine v_iconst (v := -1) (q := 21) dX11_stuck_20 (by decide) rfl ?_
  cases H
  exact v_ireturn rfl dX11_stuck_21
def jX11_stuck_63 (h : Hp) : Option (Int32 × Hp) :=
some (((-1 : Int32), h))
set_option maxRecDepth 20000 in
set_option maxHeartbeats 4000000 in
theorem sjX11_stuck_63 {Γ : Gm} {d : Nat} (hd : 8 ≤ d) {h : Hp} {r : Int32 × Hp} (H : jX11_stuck_63 h = some r) : V Γ d mX11_stuck 63 [] [] h (some (.int r.1), r.2) := by
  unfold jX11_stuck_63 at H
  refine v_iconst (v := -1) (q := 64) dX11_stuck_63 (by decide) rfl ?_
  cases H
  exact v_ireturn rfl dX11_stuck_64
def jX11_stuck_106 (y0 : Int32) (h : Hp) : Option (Int32 × Hp) :=
some (y0, h)
set_option maxRecDepth 20000 in
set_option maxHeartbeats 4000000 in
theorem sjX11_stuck_106 {Γ : Gm} {d : Nat} (hd : 8 ≤ d) {y0 : Int32} {h : Hp} {r : Int32 × Hp} (H : jX11_stuck_106 y0 h = some r) : V Γ d mX11_stuck 106 [] [.int y0] h (some (.int r.1), r.2) := by
  unfold jX11_stuck_106 at H
  cases H
  exact v_ireturn rfl dX11_stuck_106
def jX11_stuck_65 (v0 : Nat) (v1 : Int32) (v2 : Int32) (v3 : Int32) (h : Hp) : Option (Int32 × Hp) :=
if v2 = (0 : Int32) then (
if v3 = (1 : Int32) then (
jX11_stuck_106 (1 : Int32) h) else (
jX11_stuck_106 (0 : Int32) h)) else (
if v2 = (1 : Int32) then (
(gR h 11 v0 13).bind fun x20 =>
(gR h 0 x20 0).bind fun x21 =>
(lI h .int x21 v1).bind fun x22 =>
some (x22, h)) else (
if v2 = (2 : Int32) then (
(gR h 11 v0 13).bind fun x24 =>
(gR h 0 x24 1).bind fun x25 =>
(lI h .int x25 v1).bind fun x26 =>
some (x26, h)) else (
if v2 = (3 : Int32) then (
(gR h 11 v0 13).bind fun x28 =>
(gR h 0 x28 2).bind fun x29 =>
(lI h .int x29 v1).bind fun x30 =>
some (x30, h)) else (
(gR h 11 v0 13).bind fun x31 =>
(gR h 0 x31 3).bind fun x32 =>
(lI h .int x32 v1).bind fun x33 =>
some (x33, h)))))
set_option maxRecDepth 20000 in
set_option maxHeartbeats 4000000 in
theorem sjX11_stuck_65 {Γ : Gm} {d : Nat} (hd : 8 ≤ d) {v0 : Nat} {v1 : Int32} {v2 : Int32} {v3 : Int32} {h : Hp} {r : Int32 × Hp} (H : jX11_stuck_65 v0 v1 v2 v3 h = some r) : V Γ d mX11_stuck 65 [(0, .ref v0), (1, .int v1), (2, .int v2), (3, .int v3)] [] h (some (.int r.1), r.2) := by
  unfold jX11_stuck_65 at H
  refine v_iload_n (q := 66) 2 dX11_stuck_65 rfl rfl rfl ?_
  by_cases c17 : v2 = (0 : Int32)
  · replace H := ip c17 H
    rw [c17]
    refine v_tabIn (off := 30) (q := 96) dX11_stuck_66 (by decide) (by decide) (by decide) (by decide) ?_
    refine v_iload_n (q := 97) 3 dX11_stuck_96 rfl rfl rfl ?_
    refine v_iconst (v := 1) (q := 98) dX11_stuck_97 (by decide) rfl ?_
    refine v_icmp_ne (q1 := 105) (q2 := 101) dX11_stuck_98 (by decide) rfl (fun c18 => ?_) (fun c18 => ?_)
    · replace H := ine c18 H
      refine v_iconst (v := 0) (q := 106) dX11_stuck_105 (by decide) rfl ?_
      exact V.sub [] rfl (sjX11_stuck_106 hd H)
    · replace H := ip c18 H
      refine v_iconst (v := 1) (q := 102) dX11_stuck_101 (by decide) rfl ?_
      refine v_goto (q := 106) dX11_stuck_102 (by decide) ?_
      exact V.sub [] rfl (sjX11_stuck_106 hd H)
  · replace H := ine c17 H
    by_cases c19 : v2 = (1 : Int32)
    · replace H := ip c19 H
      rw [c19]
      refine v_tabIn (off := 41) (q := 107) dX11_stuck_66 (by decide) (by decide) (by decide) (by decide) ?_
      refine v_aload_n (q := 108) 0 dX11_stuck_107 rfl rfl rfl ?_
      replace H := bs H; obtain ⟨x20, x20e, H⟩ := H
      refine u_gR (q := 111) (r := (RX11, TX11, 14)) x20e dX11_stuck_108 w0534 rfl (by decide) rfl rfl ?_
      replace H := bs H; obtain ⟨x21, x21e, H⟩ := H
      refine u_gR (q := 114) (r := (RX0, TX0, 9)) x21e dX11_stuck_111 w0490 rfl (by decide) rfl rfl ?_
      refine v_iload_n (q := 115) 1 dX11_stuck_114 rfl rfl rfl ?_
      replace H := bs H; obtain ⟨x22, x22e, H⟩ := H
      refine u_lI (q := 116) x22e dX11_stuck_115 rfl ?_
      cases H
      exact v_ireturn rfl dX11_stuck_116
    · replace H := ine c19 H
      by_cases c23 : v2 = (2 : Int32)
      · replace H := ip c23 H
        rw [c23]
        refine v_tabIn (off := 51) (q := 117) dX11_stuck_66 (by decide) (by decide) (by decide) (by decide) ?_
        refine v_aload_n (q := 118) 0 dX11_stuck_117 rfl rfl rfl ?_
        replace H := bs H; obtain ⟨x24, x24e, H⟩ := H
        refine u_gR (q := 121) (r := (RX11, TX11, 14)) x24e dX11_stuck_118 w0534 rfl (by decide) rfl rfl ?_
        replace H := bs H; obtain ⟨x25, x25e, H⟩ := H
        refine u_gR (q := 124) (r := (RX0, TX0, 9)) x25e dX11_stuck_121 w0492 rfl (by decide) rfl rfl ?_
        refine v_iload_n (q := 125) 1 dX11_stuck_124 rfl rfl rfl ?_
        replace H := bs H; obtain ⟨x26, x26e, H⟩ := H
        refine u_lI (q := 126) x26e dX11_stuck_125 rfl ?_
        cases H
        exact v_ireturn rfl dX11_stuck_126
      · replace H := ine c23 H
        by_cases c27 : v2 = (3 : Int32)
        · replace H := ip c27 H
          rw [c27]
          refine v_tabIn (off := 61) (q := 127) dX11_stuck_66 (by decide) (by decide) (by decide) (by decide) ?_
          refine v_aload_n (q := 128) 0 dX11_stuck_127 rfl rfl rfl ?_
          replace H := bs H; obtain ⟨x28, x28e, H⟩ := H
          refine u_gR (q := 131) (r := (RX11, TX11, 14)) x28e dX11_stuck_128 w0534 rfl (by decide) rfl rfl ?_
          replace H := bs H; obtain ⟨x29, x29e, H⟩ := H
          refine u_gR (q := 134) (r := (RX0, TX0, 9)) x29e dX11_stuck_131 w0494 rfl (by decide) rfl rfl ?_
          refine v_iload_n (q := 135) 1 dX11_stuck_134 rfl rfl rfl ?_
          replace H := bs H; obtain ⟨x30, x30e, H⟩ := H
          refine u_lI (q := 136) x30e dX11_stuck_135 rfl ?_
          cases H
          exact v_ireturn rfl dX11_stuck_136
        · replace H := ine c27 H
          have c17t := lv_neT (a := 0) c17 (by decide)
          have c19t := lv_neT (a := 1) c19 (by decide)
          have c23t := lv_neT (a := 2) c23 (by decide)
          have c27t := lv_neT (a := 3) c27 (by decide)
          refine v_tabOut (q := 137) dX11_stuck_66 (by omega) (by decide) ?_
          refine v_aload_n (q := 138) 0 dX11_stuck_137 rfl rfl rfl ?_
          replace H := bs H; obtain ⟨x31, x31e, H⟩ := H
          refine u_gR (q := 141) (r := (RX11, TX11, 14)) x31e dX11_stuck_138 w0534 rfl (by decide) rfl rfl ?_
          replace H := bs H; obtain ⟨x32, x32e, H⟩ := H
          refine u_gR (q := 144) (r := (RX0, TX0, 9)) x32e dX11_stuck_141 w0496 rfl (by decide) rfl rfl ?_
          refine v_iload_n (q := 145) 1 dX11_stuck_144 rfl rfl rfl ?_
          replace H := bs H; obtain ⟨x33, x33e, H⟩ := H
          refine u_lI (q := 146) x33e dX11_stuck_145 rfl ?_
          cases H
          exact v_ireturn rfl dX11_stuck_146
def fX11_stuck (h : Hp) (v0 : Nat) (v1 : Int32) (v2 : Int32) : Option (Int32 × Hp) :=
(gR h 11 v0 3).bind fun x1 =>
(gO h 5 x1).bind fun _ =>
(fX5_isSet h x1 v1).bind fun x3 =>
if x3 = 0 then (
jX11_stuck_20 h) else (
if v2 < 0 then (
jX11_stuck_20 h) else (
if v2 ≤ (4 : Int32) then (
(gR h 11 v0 13).bind fun x7 =>
(gR h 11 v0 3).bind fun x8 =>
(gR h 11 v0 5).bind fun x9 =>
(gO h 2 x9).bind fun _ =>
(fX2_present h x9).bind fun x11 =>
(gR h 3 x11 0).bind fun x12 =>
(gO h 0 x7).bind fun _ =>
(fX0_outcomeOf h x7 x8 x12 v1).bind fun x14 =>
if x14.1 = (2 : Int32) then (
jX11_stuck_63 x14.2) else (
if x14.1 = 0 then (
if v2 = 0 then (
jX11_stuck_65 v0 v1 v2 x14.1 x14.2) else (
if v2 = (2 : Int32) then (
jX11_stuck_65 v0 v1 v2 x14.1 x14.2) else (
jX11_stuck_63 x14.2))) else (
jX11_stuck_65 v0 v1 v2 x14.1 x14.2))) else (
jX11_stuck_20 h)))
set_option maxRecDepth 20000 in
set_option maxHeartbeats 4000000 in
theorem sX11_stuck {Γ : Gm} {d : Nat} (hd : 8 ≤ d) {h : Hp} {v0 : Nat} {v1 : Int32} {v2 : Int32} {r : Int32 × Hp} (H : fX11_stuck h v0 v1 v2 = some r) : V Γ d mX11_stuck 0 [(0, .ref v0), (1, .int v1), (2, .int v2)] [] h (some (.int r.1), r.2) := by
  unfold fX11_stuck at H
  refine v_aload_n (q := 1) 0 dX11_stuck_0 rfl rfl rfl ?_
  replace H := bs H; obtain ⟨x1, x1e, H⟩ := H
  refine u_gR (q := 4) (r := (RX11, TX11, 14)) x1e dX11_stuck_1 w0524 rfl (by decide) rfl rfl ?_
  refine v_iload_n (q := 5) 1 dX11_stuck_4 rfl rfl rfl ?_
  replace H := bs H; obtain ⟨_, o2, H⟩ := H
  replace H := bs H; obtain ⟨x3, x3e, H⟩ := H
  refine u_callV1 (M' := mX5_isSet) (d' := 2) (rc := (RX5, TX5, 7)) (As := [.int v1]) (st := []) (q := 8) oX5_isSet dX11_stuck_5 w1059 w1060 w1061 rfl rfl (gO_sp o2).1 (gO_sp o2).2 rfl (Nat.le_of_ble_eq_true rfl) (Nat.le_of_ble_eq_true rfl) (Nat.lt_of_lt_of_le (by decide) hd) rfl (sX5_isSet (Nat.le_refl _) x3e) rfl ?_
  refine v_if_eq (q1 := 20) (q2 := 11) dX11_stuck_8 (by decide) rfl (fun c4 => ?_) (fun c4 => ?_)
  · replace H := ip c4 H
    exact V.sub [] rfl (sjX11_stuck_20 hd H)
  · replace H := ine c4 H
    refine v_iload_n (q := 12) 2 dX11_stuck_11 rfl rfl rfl ?_
    refine v_if_lt (q1 := 20) (q2 := 15) dX11_stuck_12 (by decide) rfl (fun c5 => ?_) (fun c5 => ?_)
    · replace H := ip c5 H
      exact V.sub [] rfl (sjX11_stuck_20 hd H)
    · replace H := ine c5 H
      refine v_iload_n (q := 16) 2 dX11_stuck_15 rfl rfl rfl ?_
      refine v_iconst (v := 4) (q := 17) dX11_stuck_16 (by decide) rfl ?_
      refine v_icmp_le (q1 := 22) (q2 := 20) dX11_stuck_17 (by decide) rfl (fun c6 => ?_) (fun c6 => ?_)
      · replace H := ip c6 H
        refine v_aload_n (q := 23) 0 dX11_stuck_22 rfl rfl rfl ?_
        replace H := bs H; obtain ⟨x7, x7e, H⟩ := H
        refine u_gR (q := 26) (r := (RX11, TX11, 14)) x7e dX11_stuck_23 w0534 rfl (by decide) rfl rfl ?_
        refine v_aload_n (q := 27) 0 dX11_stuck_26 rfl rfl rfl ?_
        replace H := bs H; obtain ⟨x8, x8e, H⟩ := H
        refine u_gR (q := 30) (r := (RX11, TX11, 14)) x8e dX11_stuck_27 w0524 rfl (by decide) rfl rfl ?_
        refine v_aload_n (q := 31) 0 dX11_stuck_30 rfl rfl rfl ?_
        replace H := bs H; obtain ⟨x9, x9e, H⟩ := H
        refine u_gR (q := 34) (r := (RX11, TX11, 14)) x9e dX11_stuck_31 w0526 rfl (by decide) rfl rfl ?_
        replace H := bs H; obtain ⟨_, o10, H⟩ := H
        replace H := bs H; obtain ⟨x11, x11e, H⟩ := H
        refine u_callV1 (M' := mX2_present) (d' := 1) (rc := (RX2, TX2, 3)) (As := []) (st := [.ref x8, .ref x7]) (q := 37) oX2_present dX11_stuck_34 w0701 w0702 w0703 rfl rfl (gO_sp o10).1 (gO_sp o10).2 rfl (Nat.le_of_ble_eq_true rfl) (Nat.le_of_ble_eq_true rfl) (Nat.lt_of_lt_of_le (by decide) hd) rfl (sX2_present (Nat.le_refl _) x11e) rfl ?_
        replace H := bs H; obtain ⟨x12, x12e, H⟩ := H
        refine u_gR (q := 40) (r := (RX3, TX3, 8)) x12e dX11_stuck_37 w0341 rfl (by decide) rfl rfl ?_
        refine v_iload_n (q := 41) 1 dX11_stuck_40 rfl rfl rfl ?_
        replace H := bs H; obtain ⟨_, o13, H⟩ := H
        replace H := bs H; obtain ⟨x14, x14e, H⟩ := H
        refine u_callV1 (M' := mX0_outcomeOf) (d' := 7) (rc := (RX0, TX0, 9)) (As := [.ref x8, .ref x12, .int v1]) (st := []) (q := 44) oX0_outcomeOf dX11_stuck_41 w1071 w1072 w1073 rfl rfl (gO_sp o13).1 (gO_sp o13).2 rfl (Nat.le_of_ble_eq_true rfl) (Nat.le_of_ble_eq_true rfl) (Nat.lt_of_lt_of_le (by decide) hd) rfl (sX0_outcomeOf (Nat.le_refl _) x14e) rfl ?_
        refine v_istore_n (L' := [(3, .int x14.1), (0, .ref v0), (1, .int v1), (2, .int v2)]) (q := 45) dX11_stuck_44 rfl (by decide) rfl rfl ?_
        refine v_iload_n (q := 46) 0 dX11_stuck_45 rfl rfl rfl ?_
        refine v_iconst (v := 2) (q := 47) dX11_stuck_46 (by decide) rfl ?_
        refine v_icmp_eq (q1 := 63) (q2 := 50) dX11_stuck_47 (by decide) rfl (fun c15 => ?_) (fun c15 => ?_)
        · replace H := ip c15 H
          exact V.sub [] rfl (sjX11_stuck_63 hd H)
        · replace H := ine c15 H
          refine v_iload_n (q := 51) 0 dX11_stuck_50 rfl rfl rfl ?_
          refine v_if_ne (q1 := 65) (q2 := 54) dX11_stuck_51 (by decide) rfl (fun c16 => ?_) (fun c16 => ?_)
          · replace H := ine c16 H
            exact V.sub [1, 2, 3, 0] rfl (sjX11_stuck_65 hd H)
          · replace H := ip c16 H
            refine v_iload_n (q := 55) 3 dX11_stuck_54 rfl rfl rfl ?_
            refine v_if_eq (q1 := 65) (q2 := 58) dX11_stuck_55 (by decide) rfl (fun c34 => ?_) (fun c34 => ?_)
            · replace H := ip c34 H
              exact V.sub [1, 2, 3, 0] rfl (sjX11_stuck_65 hd H)
            · replace H := ine c34 H
              refine v_iload_n (q := 59) 3 dX11_stuck_58 rfl rfl rfl ?_
              refine v_iconst (v := 2) (q := 60) dX11_stuck_59 (by decide) rfl ?_
              refine v_icmp_eq (q1 := 65) (q2 := 63) dX11_stuck_60 (by decide) rfl (fun c35 => ?_) (fun c35 => ?_)
              · replace H := ip c35 H
                exact V.sub [1, 2, 3, 0] rfl (sjX11_stuck_65 hd H)
              · replace H := ine c35 H
                exact V.sub [] rfl (sjX11_stuck_63 hd H)
      · replace H := ine c6 H
        exact V.sub [] rfl (sjX11_stuck_20 hd H)
def mX11_swap : MI := (yX11_swap, cX11_swap, 3, some .boolean)
theorem oX11_swap : mOK mX11_swap 2 := ⟨by decide +kernel, by decide +kernel, by decide +kernel, by decide, w0914, w0139⟩
def fX11_swap (h : Hp) (v0 : Nat) (v1 : Int32) (v2 : Int32) : Option (Int32 × Hp) :=
(gR h 11 v0 3).bind fun x1 =>
(gO h 5 x1).bind fun _ =>
(fX5_hasPair h x1 v1 v2).bind fun x3 =>
if x3 = 0 then (
some (((0 : Int32), h))) else (
(gR h 11 v0 5).bind fun x5 =>
(gO h 2 x5).bind fun _ =>
(fX2_act h x5).bind fun x7 =>
(gR x7.2 3 x7.1 0).bind fun x8 =>
(fX11_exchange x7.2 x8 v1 v2).bind fun x9 =>
some (((1 : Int32), x9)))
set_option maxRecDepth 20000 in
set_option maxHeartbeats 4000000 in
theorem sX11_swap {Γ : Gm} {d : Nat} (hd : 4 ≤ d) {h : Hp} {v0 : Nat} {v1 : Int32} {v2 : Int32} {r : Int32 × Hp} (H : fX11_swap h v0 v1 v2 = some r) : V Γ d mX11_swap 0 [(0, .ref v0), (1, .int v1), (2, .int v2)] [] h (some (.int r.1), r.2) := by
  unfold fX11_swap at H
  refine v_aload_n (q := 1) 0 dX11_swap_0 rfl rfl rfl ?_
  replace H := bs H; obtain ⟨x1, x1e, H⟩ := H
  refine u_gR (q := 4) (r := (RX11, TX11, 14)) x1e dX11_swap_1 w0524 rfl (by decide) rfl rfl ?_
  refine v_iload_n (q := 5) 1 dX11_swap_4 rfl rfl rfl ?_
  refine v_iload_n (q := 6) 2 dX11_swap_5 rfl rfl rfl ?_
  replace H := bs H; obtain ⟨_, o2, H⟩ := H
  replace H := bs H; obtain ⟨x3, x3e, H⟩ := H
  refine u_callV1 (M' := mX5_hasPair) (d' := 2) (rc := (RX5, TX5, 7)) (As := [.int v1, .int v2]) (st := []) (q := 9) oX5_hasPair dX11_swap_6 w0915 w0916 w0917 rfl rfl (gO_sp o2).1 (gO_sp o2).2 rfl (Nat.le_of_ble_eq_true rfl) (Nat.le_of_ble_eq_true rfl) (Nat.lt_of_lt_of_le (by decide) hd) rfl (sX5_hasPair (Nat.le_refl _) x3e) rfl ?_
  refine v_if_ne (q1 := 14) (q2 := 12) dX11_swap_9 (by decide) rfl (fun c4 => ?_) (fun c4 => ?_)
  · replace H := ine c4 H
    refine v_aload_n (q := 15) 0 dX11_swap_14 rfl rfl rfl ?_
    replace H := bs H; obtain ⟨x5, x5e, H⟩ := H
    refine u_gR (q := 18) (r := (RX11, TX11, 14)) x5e dX11_swap_15 w0526 rfl (by decide) rfl rfl ?_
    replace H := bs H; obtain ⟨_, o6, H⟩ := H
    replace H := bs H; obtain ⟨x7, x7e, H⟩ := H
    refine u_callV1 (M' := mX2_act) (d' := 3) (rc := (RX2, TX2, 3)) (As := []) (st := []) (q := 21) oX2_act dX11_swap_18 w0743 w0744 w0745 rfl rfl (gO_sp o6).1 (gO_sp o6).2 rfl (Nat.le_of_ble_eq_true rfl) (Nat.le_of_ble_eq_true rfl) (Nat.lt_of_lt_of_le (by decide) hd) rfl (sX2_act (Nat.le_refl _) x7e) rfl ?_
    replace H := bs H; obtain ⟨x8, x8e, H⟩ := H
    refine u_gR (q := 24) (r := (RX3, TX3, 8)) x8e dX11_swap_21 w0341 rfl (by decide) rfl rfl ?_
    refine v_iload_n (q := 25) 1 dX11_swap_24 rfl rfl rfl ?_
    refine v_iload_n (q := 26) 2 dX11_swap_25 rfl rfl rfl ?_
    replace H := bs H; obtain ⟨x9, x9e, H⟩ := H
    refine u_callS0 (M' := mX11_exchange) (d' := 1) (As := [.ref x8, .int v1, .int v2]) (st := []) (q := 29) oX11_exchange dX11_swap_26 w0920 w0921 rfl (Nat.le_of_ble_eq_true rfl) (Nat.le_of_ble_eq_true rfl) (Nat.lt_of_lt_of_le (by decide) hd) rfl (sX11_exchange (Nat.le_refl _) x9e) rfl ?_
    refine v_iconst (v := 1) (q := 30) dX11_swap_29 (by decide) rfl ?_
    cases H
    exact v_zreturn rfl (by decide) dX11_swap_30
  · replace H := ip c4 H
    refine v_iconst (v := 0) (q := 13) dX11_swap_12 (by decide) rfl ?_
    cases H
    exact v_zreturn rfl (by decide) dX11_swap_13
def mX2_goBack : MI := (yX2_goBack, cX2_goBack, 1, some .boolean)
theorem oX2_goBack : mOK mX2_goBack 0 := ⟨by decide +kernel, by decide +kernel, by decide +kernel, by decide, w0930, w0142⟩
def fX2_goBack (h : Hp) (v0 : Nat) : Option (Int32 × Hp) :=
(gI h 2 v0 0).bind fun x1 =>
if x1 = 0 then (
some (((0 : Int32), h))) else (
(gI h 2 v0 0).bind fun x3 =>
(pI h 2 v0 0 (x3 - (1 : Int32))).bind fun h4 =>
some (((1 : Int32), h4)))
set_option maxRecDepth 20000 in
set_option maxHeartbeats 4000000 in
theorem sX2_goBack {Γ : Gm} {d : Nat} (hd : 1 ≤ d) {h : Hp} {v0 : Nat} {r : Int32 × Hp} (H : fX2_goBack h v0 = some r) : V Γ d mX2_goBack 0 [(0, .ref v0)] [] h (some (.int r.1), r.2) := by
  unfold fX2_goBack at H
  refine v_aload_n (q := 1) 0 dX2_goBack_0 rfl rfl rfl ?_
  replace H := bs H; obtain ⟨x1, x1e, H⟩ := H
  refine u_gI (q := 4) (r := (RX2, TX2, 3)) x1e dX2_goBack_1 w0377 rfl (by decide) rfl rfl ?_
  refine v_if_ne (q1 := 9) (q2 := 7) dX2_goBack_4 (by decide) rfl (fun c2 => ?_) (fun c2 => ?_)
  · replace H := ine c2 H
    refine v_aload_n (q := 10) 0 dX2_goBack_9 rfl rfl rfl ?_
    refine v_dup (q := 11) dX2_goBack_10 rfl rfl ?_
    replace H := bs H; obtain ⟨x3, x3e, H⟩ := H
    refine u_gI (q := 14) (r := (RX2, TX2, 3)) x3e dX2_goBack_11 w0377 rfl (by decide) rfl rfl ?_
    refine v_iconst (v := 1) (q := 15) dX2_goBack_14 (by decide) rfl ?_
    refine v_isub (q := 16) dX2_goBack_15 rfl ?_
    replace H := bs H; obtain ⟨h4, h4e, H⟩ := H
    refine u_pI (q := 19) (r := (RX2, TX2, 3)) h4e dX2_goBack_16 w0377 rfl (by decide) (Or.inl rfl) rfl rfl ?_
    refine v_iconst (v := 1) (q := 20) dX2_goBack_19 (by decide) rfl ?_
    cases H
    exact v_zreturn rfl (by decide) dX2_goBack_20
  · replace H := ip c2 H
    refine v_iconst (v := 0) (q := 8) dX2_goBack_7 (by decide) rfl ?_
    cases H
    exact v_zreturn rfl (by decide) dX2_goBack_8
def mX11_undo : MI := (yX11_undo, cX11_undo, 1, some .boolean)
theorem oX11_undo : mOK mX11_undo 0 := ⟨by decide +kernel, by decide +kernel, by decide +kernel, by decide, w0926, w0139⟩
def fX11_undo (h : Hp) (v0 : Nat) : Option (Int32 × Hp) :=
(gR h 11 v0 5).bind fun x1 =>
(gO h 2 x1).bind fun _ =>
(fX2_goBack h x1).bind fun x3 =>
(bz x3.1).bind fun x4 =>
some (x4, x3.2)
set_option maxRecDepth 20000 in
set_option maxHeartbeats 4000000 in
theorem sX11_undo {Γ : Gm} {d : Nat} (hd : 2 ≤ d) {h : Hp} {v0 : Nat} {r : Int32 × Hp} (H : fX11_undo h v0 = some r) : V Γ d mX11_undo 0 [(0, .ref v0)] [] h (some (.int r.1), r.2) := by
  unfold fX11_undo at H
  refine v_aload_n (q := 1) 0 dX11_undo_0 rfl rfl rfl ?_
  replace H := bs H; obtain ⟨x1, x1e, H⟩ := H
  refine u_gR (q := 4) (r := (RX11, TX11, 14)) x1e dX11_undo_1 w0526 rfl (by decide) rfl rfl ?_
  replace H := bs H; obtain ⟨_, o2, H⟩ := H
  replace H := bs H; obtain ⟨x3, x3e, H⟩ := H
  refine u_callV1 (M' := mX2_goBack) (d' := 1) (rc := (RX2, TX2, 3)) (As := []) (st := []) (q := 7) oX2_goBack dX11_undo_4 w0927 w0928 w0929 rfl rfl (gO_sp o2).1 (gO_sp o2).2 rfl (Nat.le_of_ble_eq_true rfl) (Nat.le_of_ble_eq_true rfl) (Nat.lt_of_lt_of_le (by decide) hd) rfl (sX2_goBack (Nat.le_refl _) x3e) rfl ?_
  replace H := bs H; obtain ⟨x4, x4e, H⟩ := H
  obtain ⟨x4q, x4z⟩ := bz_sp x4e
  refine v_topi x4q.symm ?_
  cases H
  exact v_zreturn rfl (by rw [x4q]; exact x4z) dX11_undo_7
def mX11_uses : MI := (yX11_uses, cX11_uses, 2, some .int)
theorem oX11_uses : mOK mX11_uses 1 := ⟨by decide +kernel, by decide +kernel, by decide +kernel, by decide, w0972, w0139⟩
def jX11_uses_23 (y0 : Int32) (h : Hp) : Option (Int32) :=
some y0
set_option maxRecDepth 20000 in
set_option maxHeartbeats 4000000 in
theorem sjX11_uses_23 {Γ : Gm} {d : Nat} (hd : 2 ≤ d) {y0 : Int32} {h : Hp} {r : Int32} (H : jX11_uses_23 y0 h = some r) : V Γ d mX11_uses 23 [] [.int y0] h (some (.int r), h) := by
  unfold jX11_uses_23 at H
  cases H
  exact v_ireturn rfl dX11_uses_23
def fX11_uses (h : Hp) (v0 : Nat) (v1 : Int32) : Option (Int32) :=
(fX11_isNode h v1).bind fun x1 =>
if x1 = 0 then (
jX11_uses_23 (0 : Int32) h) else (
(gR h 11 v0 5).bind fun x3 =>
(gO h 2 x3).bind fun _ =>
(fX2_present h x3).bind fun x5 =>
(gR h 3 x5 2).bind fun x6 =>
(lI h .int x6 v1).bind fun x7 =>
jX11_uses_23 x7 h)
set_option maxRecDepth 20000 in
set_option maxHeartbeats 4000000 in
theorem sX11_uses {Γ : Gm} {d : Nat} (hd : 2 ≤ d) {h : Hp} {v0 : Nat} {v1 : Int32} {r : Int32} (H : fX11_uses h v0 v1 = some r) : V Γ d mX11_uses 0 [(0, .ref v0), (1, .int v1)] [] h (some (.int r), h) := by
  unfold fX11_uses at H
  refine v_iload_n (q := 1) 1 dX11_uses_0 rfl rfl rfl ?_
  replace H := bs H; obtain ⟨x1, x1e, H⟩ := H
  refine u_callS1 (M' := mX11_isNode) (d' := 1) (As := [.int v1]) (st := []) (q := 4) oX11_isNode dX11_uses_1 w0965 w0966 rfl (Nat.le_of_ble_eq_true rfl) (Nat.le_of_ble_eq_true rfl) (Nat.lt_of_lt_of_le (by decide) hd) rfl (sX11_isNode (Nat.le_refl _) x1e) rfl ?_
  refine v_if_eq (q1 := 22) (q2 := 7) dX11_uses_4 (by decide) rfl (fun c2 => ?_) (fun c2 => ?_)
  · replace H := ip c2 H
    refine v_iconst (v := 0) (q := 23) dX11_uses_22 (by decide) rfl ?_
    exact V.sub [] rfl (sjX11_uses_23 hd H)
  · replace H := ine c2 H
    refine v_aload_n (q := 8) 0 dX11_uses_7 rfl rfl rfl ?_
    replace H := bs H; obtain ⟨x3, x3e, H⟩ := H
    refine u_gR (q := 11) (r := (RX11, TX11, 14)) x3e dX11_uses_8 w0526 rfl (by decide) rfl rfl ?_
    replace H := bs H; obtain ⟨_, o4, H⟩ := H
    replace H := bs H; obtain ⟨x5, x5e, H⟩ := H
    refine u_callV1 (M' := mX2_present) (d' := 1) (rc := (RX2, TX2, 3)) (As := []) (st := []) (q := 14) oX2_present dX11_uses_11 w0701 w0702 w0703 rfl rfl (gO_sp o4).1 (gO_sp o4).2 rfl (Nat.le_of_ble_eq_true rfl) (Nat.le_of_ble_eq_true rfl) (Nat.lt_of_lt_of_le (by decide) hd) rfl (sX2_present (Nat.le_refl _) x5e) rfl ?_
    replace H := bs H; obtain ⟨x6, x6e, H⟩ := H
    refine u_gR (q := 17) (r := (RX3, TX3, 8)) x6e dX11_uses_14 w0347 rfl (by decide) rfl rfl ?_
    refine v_iload_n (q := 18) 1 dX11_uses_17 rfl rfl rfl ?_
    replace H := bs H; obtain ⟨x7, x7e, H⟩ := H
    refine u_lI (q := 19) x7e dX11_uses_18 rfl ?_
    refine v_goto (q := 23) dX11_uses_19 (by decide) ?_
    exact V.sub [] rfl (sjX11_uses_23 hd H)
def mX11_way : MI := (yX11_way, cX11_way, 4, some .int)
theorem oX11_way : mOK mX11_way 3 := ⟨by decide +kernel, by decide +kernel, by decide +kernel, by decide, w0976, w0139⟩
def jX11_way_39 (h : Hp) : Option (Int32 × Hp) :=
some (((-1 : Int32), h))
set_option maxRecDepth 20000 in
set_option maxHeartbeats 4000000 in
theorem sjX11_way_39 {Γ : Gm} {d : Nat} (hd : 3 ≤ d) {h : Hp} {r : Int32 × Hp} (H : jX11_way_39 h = some r) : V Γ d mX11_way 39 [] [] h (some (.int r.1), r.2) := by
  unfold jX11_way_39 at H
  refine v_iconst (v := -1) (q := 40) dX11_way_39 (by decide) rfl ?_
  cases H
  exact v_ireturn rfl dX11_way_40
def jX11_way_82 (y0 : Int32) (h : Hp) : Option (Int32 × Hp) :=
some (y0, h)
set_option maxRecDepth 20000 in
set_option maxHeartbeats 4000000 in
theorem sjX11_way_82 {Γ : Gm} {d : Nat} (hd : 3 ≤ d) {y0 : Int32} {h : Hp} {r : Int32 × Hp} (H : jX11_way_82 y0 h = some r) : V Γ d mX11_way 82 [] [.int y0] h (some (.int r.1), r.2) := by
  unfold jX11_way_82 at H
  cases H
  exact v_ireturn rfl dX11_way_82
def jX11_way_81 (h : Hp) : Option (Int32 × Hp) :=
jX11_way_82 (-1 : Int32) h
set_option maxRecDepth 20000 in
set_option maxHeartbeats 4000000 in
theorem sjX11_way_81 {Γ : Gm} {d : Nat} (hd : 3 ≤ d) {h : Hp} {r : Int32 × Hp} (H : jX11_way_81 h = some r) : V Γ d mX11_way 81 [] [] h (some (.int r.1), r.2) := by
  unfold jX11_way_81 at H
  refine v_iconst (v := -1) (q := 82) dX11_way_81 (by decide) rfl ?_
  exact V.sub [] rfl (sjX11_way_82 hd H)
def fX11_way (h : Hp) (v0 : Nat) (v1 : Int32) (v2 : Int32) (v3 : Int32) : Option (Int32 × Hp) :=
(fX11_isNode h v1).bind fun x1 =>
if x1 = 0 then (
jX11_way_39 h) else (
(fX11_isNode h v2).bind fun x3 =>
if x3 = 0 then (
jX11_way_39 h) else (
(gR h 11 v0 8).bind fun x5 =>
(gR h 11 v0 5).bind fun x6 =>
(gO h 2 x6).bind fun _ =>
(fX2_present h x6).bind fun x8 =>
(gR h 3 x8 3).bind fun x9 =>
(gR h 1 x9 1).bind fun x10 =>
(gO h 10 x5).bind fun _ =>
(fX10_find h x5 x10 v1 v2).bind fun x12 =>
if x12.1 = 0 then (
jX11_way_39 x12.2) else (
if v3 = (-1 : Int32) then (
(gR x12.2 11 v0 8).bind fun x22 =>
(gI x12.2 10 x22 1).bind fun x23 =>
some (x23, x12.2)) else (
if v3 < 0 then (
jX11_way_81 x12.2) else (
(gR x12.2 11 v0 8).bind fun x16 =>
(gI x12.2 10 x16 1).bind fun x17 =>
if x17 < v3 then (
jX11_way_81 x12.2) else (
(gR x12.2 11 v0 8).bind fun x19 =>
(gR x12.2 10 x19 0).bind fun x20 =>
(lI x12.2 .int x20 v3).bind fun x21 =>
jX11_way_82 x21 x12.2))))))
set_option maxRecDepth 20000 in
set_option maxHeartbeats 4000000 in
theorem sX11_way {Γ : Gm} {d : Nat} (hd : 3 ≤ d) {h : Hp} {v0 : Nat} {v1 : Int32} {v2 : Int32} {v3 : Int32} {r : Int32 × Hp} (H : fX11_way h v0 v1 v2 v3 = some r) : V Γ d mX11_way 0 [(0, .ref v0), (1, .int v1), (2, .int v2), (3, .int v3)] [] h (some (.int r.1), r.2) := by
  unfold fX11_way at H
  refine v_iload_n (q := 1) 1 dX11_way_0 rfl rfl rfl ?_
  replace H := bs H; obtain ⟨x1, x1e, H⟩ := H
  refine u_callS1 (M' := mX11_isNode) (d' := 1) (As := [.int v1]) (st := []) (q := 4) oX11_isNode dX11_way_1 w0965 w0966 rfl (Nat.le_of_ble_eq_true rfl) (Nat.le_of_ble_eq_true rfl) (Nat.lt_of_lt_of_le (by decide) hd) rfl (sX11_isNode (Nat.le_refl _) x1e) rfl ?_
  refine v_if_eq (q1 := 39) (q2 := 7) dX11_way_4 (by decide) rfl (fun c2 => ?_) (fun c2 => ?_)
  · replace H := ip c2 H
    exact V.sub [] rfl (sjX11_way_39 hd H)
  · replace H := ine c2 H
    refine v_iload_n (q := 8) 2 dX11_way_7 rfl rfl rfl ?_
    replace H := bs H; obtain ⟨x3, x3e, H⟩ := H
    refine u_callS1 (M' := mX11_isNode) (d' := 1) (As := [.int v2]) (st := []) (q := 11) oX11_isNode dX11_way_8 w0965 w0966 rfl (Nat.le_of_ble_eq_true rfl) (Nat.le_of_ble_eq_true rfl) (Nat.lt_of_lt_of_le (by decide) hd) rfl (sX11_isNode (Nat.le_refl _) x3e) rfl ?_
    refine v_if_eq (q1 := 39) (q2 := 14) dX11_way_11 (by decide) rfl (fun c4 => ?_) (fun c4 => ?_)
    · replace H := ip c4 H
      exact V.sub [] rfl (sjX11_way_39 hd H)
    · replace H := ine c4 H
      refine v_aload_n (q := 15) 0 dX11_way_14 rfl rfl rfl ?_
      replace H := bs H; obtain ⟨x5, x5e, H⟩ := H
      refine u_gR (q := 18) (r := (RX11, TX11, 14)) x5e dX11_way_15 w0529 rfl (by decide) rfl rfl ?_
      refine v_aload_n (q := 19) 0 dX11_way_18 rfl rfl rfl ?_
      replace H := bs H; obtain ⟨x6, x6e, H⟩ := H
      refine u_gR (q := 22) (r := (RX11, TX11, 14)) x6e dX11_way_19 w0526 rfl (by decide) rfl rfl ?_
      replace H := bs H; obtain ⟨_, o7, H⟩ := H
      replace H := bs H; obtain ⟨x8, x8e, H⟩ := H
      refine u_callV1 (M' := mX2_present) (d' := 1) (rc := (RX2, TX2, 3)) (As := []) (st := [.ref x5]) (q := 25) oX2_present dX11_way_22 w0701 w0702 w0703 rfl rfl (gO_sp o7).1 (gO_sp o7).2 rfl (Nat.le_of_ble_eq_true rfl) (Nat.le_of_ble_eq_true rfl) (Nat.lt_of_lt_of_le (by decide) hd) rfl (sX2_present (Nat.le_refl _) x8e) rfl ?_
      replace H := bs H; obtain ⟨x9, x9e, H⟩ := H
      refine u_gR (q := 28) (r := (RX3, TX3, 8)) x9e dX11_way_25 w0350 rfl (by decide) rfl rfl ?_
      replace H := bs H; obtain ⟨x10, x10e, H⟩ := H
      refine u_gR (q := 31) (r := (RX1, TX1, 4)) x10e dX11_way_28 w0290 rfl (by decide) rfl rfl ?_
      refine v_iload_n (q := 32) 1 dX11_way_31 rfl rfl rfl ?_
      refine v_iload_n (q := 33) 2 dX11_way_32 rfl rfl rfl ?_
      replace H := bs H; obtain ⟨_, o11, H⟩ := H
      replace H := bs H; obtain ⟨x12, x12e, H⟩ := H
      refine u_callV1 (M' := mX10_find) (d' := 2) (rc := (RX10, TX10, 3)) (As := [.ref x10, .int v1, .int v2]) (st := []) (q := 36) oX10_find dX11_way_33 w0977 w0859 w0860 rfl rfl (gO_sp o11).1 (gO_sp o11).2 rfl (Nat.le_of_ble_eq_true rfl) (Nat.le_of_ble_eq_true rfl) (Nat.lt_of_lt_of_le (by decide) hd) rfl (sX10_find (Nat.le_refl _) x12e) rfl ?_
      refine v_if_ne (q1 := 41) (q2 := 39) dX11_way_36 (by decide) rfl (fun c13 => ?_) (fun c13 => ?_)
      · replace H := ine c13 H
        refine v_iload_n (q := 42) 3 dX11_way_41 rfl rfl rfl ?_
        refine v_iconst (v := -1) (q := 43) dX11_way_42 (by decide) rfl ?_
        refine v_icmp_ne (q1 := 54) (q2 := 46) dX11_way_43 (by decide) rfl (fun c14 => ?_) (fun c14 => ?_)
        · replace H := ine c14 H
          refine v_iload_n (q := 55) 3 dX11_way_54 rfl rfl rfl ?_
          refine v_if_lt (q1 := 81) (q2 := 58) dX11_way_55 (by decide) rfl (fun c15 => ?_) (fun c15 => ?_)
          · replace H := ip c15 H
            exact V.sub [] rfl (sjX11_way_81 hd H)
          · replace H := ine c15 H
            refine v_iload_n (q := 59) 3 dX11_way_58 rfl rfl rfl ?_
            refine v_aload_n (q := 60) 0 dX11_way_59 rfl rfl rfl ?_
            replace H := bs H; obtain ⟨x16, x16e, H⟩ := H
            refine u_gR (q := 63) (r := (RX11, TX11, 14)) x16e dX11_way_60 w0529 rfl (by decide) rfl rfl ?_
            replace H := bs H; obtain ⟨x17, x17e, H⟩ := H
            refine u_gI (q := 66) (r := (RX10, TX10, 3)) x17e dX11_way_63 w0405 rfl (by decide) rfl rfl ?_
            refine v_icmp_gt (q1 := 81) (q2 := 69) dX11_way_66 (by decide) rfl (fun c18 => ?_) (fun c18 => ?_)
            · replace H := ip c18 H
              exact V.sub [] rfl (sjX11_way_81 hd H)
            · replace H := ine c18 H
              refine v_aload_n (q := 70) 0 dX11_way_69 rfl rfl rfl ?_
              replace H := bs H; obtain ⟨x19, x19e, H⟩ := H
              refine u_gR (q := 73) (r := (RX11, TX11, 14)) x19e dX11_way_70 w0529 rfl (by decide) rfl rfl ?_
              replace H := bs H; obtain ⟨x20, x20e, H⟩ := H
              refine u_gR (q := 76) (r := (RX10, TX10, 3)) x20e dX11_way_73 w0400 rfl (by decide) rfl rfl ?_
              refine v_iload_n (q := 77) 3 dX11_way_76 rfl rfl rfl ?_
              replace H := bs H; obtain ⟨x21, x21e, H⟩ := H
              refine u_lI (q := 78) x21e dX11_way_77 rfl ?_
              refine v_goto (q := 82) dX11_way_78 (by decide) ?_
              exact V.sub [] rfl (sjX11_way_82 hd H)
        · replace H := ip c14 H
          refine v_aload_n (q := 47) 0 dX11_way_46 rfl rfl rfl ?_
          replace H := bs H; obtain ⟨x22, x22e, H⟩ := H
          refine u_gR (q := 50) (r := (RX11, TX11, 14)) x22e dX11_way_47 w0529 rfl (by decide) rfl rfl ?_
          replace H := bs H; obtain ⟨x23, x23e, H⟩ := H
          refine u_gI (q := 53) (r := (RX10, TX10, 3)) x23e dX11_way_50 w0405 rfl (by decide) rfl rfl ?_
          cases H
          exact v_ireturn rfl dX11_way_53
      · replace H := ip c13 H
        exact V.sub [] rfl (sjX11_way_39 hd H)
def mX11_would : MI := (yX11_would, cX11_would, 5, some .int)
theorem oX11_would : mOK mX11_would 2 := ⟨by decide +kernel, by decide +kernel, by decide +kernel, by decide, w0997, w0139⟩
def jX11_would_20 (h : Hp) : Option (Int32 × Hp) :=
some (((-1 : Int32), h))
set_option maxRecDepth 20000 in
set_option maxHeartbeats 4000000 in
theorem sjX11_would_20 {Γ : Gm} {d : Nat} (hd : 7 ≤ d) {h : Hp} {r : Int32 × Hp} (H : jX11_would_20 h = some r) : V Γ d mX11_would 20 [] [] h (some (.int r.1), r.2) := by
  unfold jX11_would_20 at H
  refine v_iconst (v := -1) (q := 21) dX11_would_20 (by decide) rfl ?_
  cases H
  exact v_ireturn rfl dX11_would_21
def fX11_would (h : Hp) (v0 : Nat) (v1 : Int32) (v2 : Int32) : Option (Int32 × Hp) :=
(gR h 11 v0 3).bind fun x1 =>
(gO h 5 x1).bind fun _ =>
(fX5_hasProgram h x1 v1).bind fun x3 =>
if x3 = 0 then (
jX11_would_20 h) else (
if v2 < 0 then (
jX11_would_20 h) else (
if v2 ≤ (2 : Int32) then (
(gR h 11 v0 5).bind fun x7 =>
(gO h 2 x7).bind fun _ =>
(fX2_present h x7).bind fun x9 =>
(gR h 11 v0 11).bind fun x10 =>
(gO h 3 x10).bind fun _ =>
(fX3_copyFrom h x10 x9).bind fun x12 =>
(gR x12 11 v0 9).bind fun x13 =>
(gR x12 11 v0 3).bind fun x14 =>
(gR x12 11 v0 11).bind fun x15 =>
(gO x12 9 x13).bind fun _ =>
(fX9_run x12 x13 x14 x15 v1).bind fun x17 =>
if v2 = (0 : Int32) then (
some (x17.1, x17.2)) else (
if v2 = (1 : Int32) then (
(gR x17.2 11 v0 11).bind fun x20 =>
(gR x17.2 3 x20 3).bind fun x21 =>
(gI x17.2 1 x21 0).bind fun x22 =>
(gR x17.2 3 x9 3).bind fun x23 =>
(gI x17.2 1 x23 0).bind fun x24 =>
some (x22 - x24, x17.2)) else (
(gR x17.2 11 v0 11).bind fun x25 =>
(gI x17.2 3 x25 5).bind fun x26 =>
(gI x17.2 3 x9 5).bind fun x27 =>
some (x26 - x27, x17.2)))) else (
jX11_would_20 h)))
set_option maxRecDepth 20000 in
set_option maxHeartbeats 4000000 in
theorem sX11_would {Γ : Gm} {d : Nat} (hd : 7 ≤ d) {h : Hp} {v0 : Nat} {v1 : Int32} {v2 : Int32} {r : Int32 × Hp} (H : fX11_would h v0 v1 v2 = some r) : V Γ d mX11_would 0 [(0, .ref v0), (1, .int v1), (2, .int v2)] [] h (some (.int r.1), r.2) := by
  unfold fX11_would at H
  refine v_aload_n (q := 1) 0 dX11_would_0 rfl rfl rfl ?_
  replace H := bs H; obtain ⟨x1, x1e, H⟩ := H
  refine u_gR (q := 4) (r := (RX11, TX11, 14)) x1e dX11_would_1 w0524 rfl (by decide) rfl rfl ?_
  refine v_iload_n (q := 5) 1 dX11_would_4 rfl rfl rfl ?_
  replace H := bs H; obtain ⟨_, o2, H⟩ := H
  replace H := bs H; obtain ⟨x3, x3e, H⟩ := H
  refine u_callV1 (M' := mX5_hasProgram) (d' := 1) (rc := (RX5, TX5, 7)) (As := [.int v1]) (st := []) (q := 8) oX5_hasProgram dX11_would_5 w0739 w0740 w0741 rfl rfl (gO_sp o2).1 (gO_sp o2).2 rfl (Nat.le_of_ble_eq_true rfl) (Nat.le_of_ble_eq_true rfl) (Nat.lt_of_lt_of_le (by decide) hd) rfl (sX5_hasProgram (Nat.le_refl _) x3e) rfl ?_
  refine v_if_eq (q1 := 20) (q2 := 11) dX11_would_8 (by decide) rfl (fun c4 => ?_) (fun c4 => ?_)
  · replace H := ip c4 H
    exact V.sub [] rfl (sjX11_would_20 hd H)
  · replace H := ine c4 H
    refine v_iload_n (q := 12) 2 dX11_would_11 rfl rfl rfl ?_
    refine v_if_lt (q1 := 20) (q2 := 15) dX11_would_12 (by decide) rfl (fun c5 => ?_) (fun c5 => ?_)
    · replace H := ip c5 H
      exact V.sub [] rfl (sjX11_would_20 hd H)
    · replace H := ine c5 H
      refine v_iload_n (q := 16) 2 dX11_would_15 rfl rfl rfl ?_
      refine v_iconst (v := 2) (q := 17) dX11_would_16 (by decide) rfl ?_
      refine v_icmp_le (q1 := 22) (q2 := 20) dX11_would_17 (by decide) rfl (fun c6 => ?_) (fun c6 => ?_)
      · replace H := ip c6 H
        refine v_aload_n (q := 23) 0 dX11_would_22 rfl rfl rfl ?_
        replace H := bs H; obtain ⟨x7, x7e, H⟩ := H
        refine u_gR (q := 26) (r := (RX11, TX11, 14)) x7e dX11_would_23 w0526 rfl (by decide) rfl rfl ?_
        replace H := bs H; obtain ⟨_, o8, H⟩ := H
        replace H := bs H; obtain ⟨x9, x9e, H⟩ := H
        refine u_callV1 (M' := mX2_present) (d' := 1) (rc := (RX2, TX2, 3)) (As := []) (st := []) (q := 29) oX2_present dX11_would_26 w0701 w0702 w0703 rfl rfl (gO_sp o8).1 (gO_sp o8).2 rfl (Nat.le_of_ble_eq_true rfl) (Nat.le_of_ble_eq_true rfl) (Nat.lt_of_lt_of_le (by decide) hd) rfl (sX2_present (Nat.le_refl _) x9e) rfl ?_
        refine v_astore_n (L' := [(3, .ref x9), (0, .ref v0), (1, .int v1), (2, .int v2)]) (q := 30) dX11_would_29 rfl (by decide) rfl rfl ?_
        refine v_aload_n (q := 31) 1 dX11_would_30 rfl rfl rfl ?_
        replace H := bs H; obtain ⟨x10, x10e, H⟩ := H
        refine u_gR (q := 34) (r := (RX11, TX11, 14)) x10e dX11_would_31 w0532 rfl (by decide) rfl rfl ?_
        refine v_aload_n (q := 35) 0 dX11_would_34 rfl rfl rfl ?_
        replace H := bs H; obtain ⟨_, o11, H⟩ := H
        replace H := bs H; obtain ⟨x12, x12e, H⟩ := H
        refine u_callV0 (M' := mX3_copyFrom) (d' := 2) (rc := (RX3, TX3, 8)) (As := [.ref x9]) (st := []) (q := 38) oX3_copyFrom dX11_would_35 w0998 w0752 w0753 rfl rfl (gO_sp o11).1 (gO_sp o11).2 rfl (Nat.le_of_ble_eq_true rfl) (Nat.le_of_ble_eq_true rfl) (Nat.lt_of_lt_of_le (by decide) hd) rfl (sX3_copyFrom (Nat.le_refl _) x12e) rfl ?_
        refine v_aload_n (q := 39) 1 dX11_would_38 rfl rfl rfl ?_
        replace H := bs H; obtain ⟨x13, x13e, H⟩ := H
        refine u_gR (q := 42) (r := (RX11, TX11, 14)) x13e dX11_would_39 w0530 rfl (by decide) rfl rfl ?_
        refine v_aload_n (q := 43) 1 dX11_would_42 rfl rfl rfl ?_
        replace H := bs H; obtain ⟨x14, x14e, H⟩ := H
        refine u_gR (q := 46) (r := (RX11, TX11, 14)) x14e dX11_would_43 w0524 rfl (by decide) rfl rfl ?_
        refine v_aload_n (q := 47) 1 dX11_would_46 rfl rfl rfl ?_
        replace H := bs H; obtain ⟨x15, x15e, H⟩ := H
        refine u_gR (q := 50) (r := (RX11, TX11, 14)) x15e dX11_would_47 w0532 rfl (by decide) rfl rfl ?_
        refine v_iload_n (q := 51) 2 dX11_would_50 rfl rfl rfl ?_
        replace H := bs H; obtain ⟨_, o16, H⟩ := H
        replace H := bs H; obtain ⟨x17, x17e, H⟩ := H
        refine u_callV1 (M' := mX9_run) (d' := 6) (rc := (RX9, TX9, 10)) (As := [.ref x14, .ref x15, .int v1]) (st := []) (q := 54) oX9_run dX11_would_51 w0765 w0766 w0767 rfl rfl (gO_sp o16).1 (gO_sp o16).2 rfl (Nat.le_of_ble_eq_true rfl) (Nat.le_of_ble_eq_true rfl) (Nat.lt_of_lt_of_le (by decide) hd) rfl (sX9_run (Nat.le_refl _) x17e) rfl ?_
        refine v_istore (L' := [(4, .int x17.1), (3, .ref x9), (0, .ref v0), (1, .int v1), (2, .int v2)]) (q := 56) dX11_would_54 (by decide) rfl rfl ?_
        refine v_iload_n (q := 57) 4 dX11_would_56 rfl rfl rfl ?_
        by_cases c18 : v2 = (0 : Int32)
        · replace H := ip c18 H
          rw [c18]
          refine v_lookup (off := 27) (q := 84) dX11_would_57 (by decide) (by decide) (by decide) ?_
          refine v_iload (q := 86) 0 dX11_would_84 rfl rfl ?_
          cases H
          exact v_ireturn rfl dX11_would_86
        · replace H := ine c18 H
          by_cases c19 : v2 = (1 : Int32)
          · replace H := ip c19 H
            rw [c19]
            refine v_lookup (off := 30) (q := 87) dX11_would_57 (by decide) (by decide) (by decide) ?_
            refine v_aload_n (q := 88) 2 dX11_would_87 rfl rfl rfl ?_
            replace H := bs H; obtain ⟨x20, x20e, H⟩ := H
            refine u_gR (q := 91) (r := (RX11, TX11, 14)) x20e dX11_would_88 w0532 rfl (by decide) rfl rfl ?_
            replace H := bs H; obtain ⟨x21, x21e, H⟩ := H
            refine u_gR (q := 94) (r := (RX3, TX3, 8)) x21e dX11_would_91 w0350 rfl (by decide) rfl rfl ?_
            replace H := bs H; obtain ⟨x22, x22e, H⟩ := H
            refine u_gI (q := 97) (r := (RX1, TX1, 4)) x22e dX11_would_94 w0287 rfl (by decide) rfl rfl ?_
            refine v_aload_n (q := 98) 1 dX11_would_97 rfl rfl rfl ?_
            replace H := bs H; obtain ⟨x23, x23e, H⟩ := H
            refine u_gR (q := 101) (r := (RX3, TX3, 8)) x23e dX11_would_98 w0350 rfl (by decide) rfl rfl ?_
            replace H := bs H; obtain ⟨x24, x24e, H⟩ := H
            refine u_gI (q := 104) (r := (RX1, TX1, 4)) x24e dX11_would_101 w0287 rfl (by decide) rfl rfl ?_
            refine v_isub (q := 105) dX11_would_104 rfl ?_
            cases H
            exact v_ireturn rfl dX11_would_105
          · replace H := ine c19 H
            refine v_lookup (off := 49) (q := 106) dX11_would_57 (by decide) ((lv_osw c18 (by decide)).trans ((lv_osw c19 (by decide)).trans (rfl))) (by decide) ?_
            refine v_aload_n (q := 107) 2 dX11_would_106 rfl rfl rfl ?_
            replace H := bs H; obtain ⟨x25, x25e, H⟩ := H
            refine u_gR (q := 110) (r := (RX11, TX11, 14)) x25e dX11_would_107 w0532 rfl (by decide) rfl rfl ?_
            replace H := bs H; obtain ⟨x26, x26e, H⟩ := H
            refine u_gI (q := 113) (r := (RX3, TX3, 8)) x26e dX11_would_110 w0355 rfl (by decide) rfl rfl ?_
            refine v_aload_n (q := 114) 1 dX11_would_113 rfl rfl rfl ?_
            replace H := bs H; obtain ⟨x27, x27e, H⟩ := H
            refine u_gI (q := 117) (r := (RX3, TX3, 8)) x27e dX11_would_114 w0355 rfl (by decide) rfl rfl ?_
            refine v_isub (q := 118) dX11_would_117 rfl ?_
            cases H
            exact v_ireturn rfl dX11_would_118
      · replace H := ine c6 H
        exact V.sub [] rfl (sjX11_would_20 hd H)

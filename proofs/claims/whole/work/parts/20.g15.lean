def mX12_swap : MI := (yX12_swap, cX12_swap, 3, some .boolean)
theorem oX12_swap : mOK mX12_swap 2 := ⟨by decide +kernel, by decide +kernel, by decide +kernel, by decide, w1745, w0150⟩
def fX12_swap (h : Hp) (v0 : Nat) (v1 : Int32) (v2 : Int32) : Option (Int32 × Hp) :=
(gO h 12 v0).bind fun _ =>
(fX12_isPair h v0 v1 v2).bind fun x2 =>
if x2 = 0 then (
some (((0 : Int32), h))) else (
(gO h 12 v0).bind fun _ =>
(fX12_keepAct h v0).bind fun x5 =>
(gO x5 12 v0).bind fun _ =>
(fX12_swapSteps x5 v0 v1 v2).bind fun x7 =>
some (((1 : Int32), x7)))
set_option maxRecDepth 20000 in
set_option maxHeartbeats 4000000 in
theorem sX12_swap {Γ : Gm} {d : Nat} (hd : 4 ≤ d) {h : Hp} {v0 : Nat} {v1 : Int32} {v2 : Int32} {r : Int32 × Hp} (H : fX12_swap h v0 v1 v2 = some r) : V Γ d mX12_swap 0 [(0, .ref v0), (1, .int v1), (2, .int v2)] [] h (some (.int r.1), r.2) := by
  unfold fX12_swap at H
  refine v_aload_n (q := 1) 0 dX12_swap_0 rfl rfl rfl ?_
  refine v_iload_n (q := 2) 1 dX12_swap_1 rfl rfl rfl ?_
  refine v_iload_n (q := 3) 2 dX12_swap_2 rfl rfl rfl ?_
  obtain ⟨_, o1, H⟩ := bs H
  obtain ⟨x2, x2e, H⟩ := bs H
  refine u_callV1 (M' := mX12_isPair) (d' := 3) (rc := (RX12, TX12, 58)) (As := [.int v1, .int v2]) (st := []) (q := 6) oX12_isPair dX12_swap_3 w1746 w1748 w0097 rfl rfl (gO_sp o1).1 (gO_sp o1).2 rfl (Nat.le_of_ble_eq_true rfl) (Nat.le_of_ble_eq_true rfl) (Nat.lt_of_lt_of_le (by decide) hd) rfl (sX12_isPair (Nat.le_refl _) x2e) rfl ?_
  refine v_if_ne (q1 := 11) (q2 := 9) dX12_swap_6 (by decide) rfl (fun c3 => ?_) (fun c3 => ?_)
  · have H := ine c3 H
    refine v_aload_n (q := 12) 0 dX12_swap_11 rfl rfl rfl ?_
    obtain ⟨_, o4, H⟩ := bs H
    obtain ⟨x5, x5e, H⟩ := bs H
    refine u_callV0 (M' := mX12_keepAct) (d' := 1) (rc := (RX12, TX12, 58)) (As := []) (st := []) (q := 15) oX12_keepAct dX12_swap_12 w1633 w1635 w0072 rfl rfl (gO_sp o4).1 (gO_sp o4).2 rfl (Nat.le_of_ble_eq_true rfl) (Nat.le_of_ble_eq_true rfl) (Nat.lt_of_lt_of_le (by decide) hd) rfl (sX12_keepAct (Nat.le_refl _) x5e) rfl ?_
    refine v_aload_n (q := 16) 0 dX12_swap_15 rfl rfl rfl ?_
    refine v_iload_n (q := 17) 1 dX12_swap_16 rfl rfl rfl ?_
    refine v_iload_n (q := 18) 2 dX12_swap_17 rfl rfl rfl ?_
    obtain ⟨_, o6, H⟩ := bs H
    obtain ⟨x7, x7e, H⟩ := bs H
    refine u_callV0 (M' := mX12_swapSteps) (d' := 2) (rc := (RX12, TX12, 58)) (As := [.int v1, .int v2]) (st := []) (q := 21) oX12_swapSteps dX12_swap_18 w1750 w1752 w0098 rfl rfl (gO_sp o6).1 (gO_sp o6).2 rfl (Nat.le_of_ble_eq_true rfl) (Nat.le_of_ble_eq_true rfl) (Nat.lt_of_lt_of_le (by decide) hd) rfl (sX12_swapSteps (Nat.le_refl _) x7e) rfl ?_
    refine v_iconst (v := 1) (q := 22) dX12_swap_21 (by decide) rfl ?_
    cases H
    exact v_zreturn rfl (by decide) dX12_swap_22
  · have H := ip c3 H
    refine v_iconst (v := 0) (q := 10) dX12_swap_9 (by decide) rfl ?_
    cases H
    exact v_zreturn rfl (by decide) dX12_swap_10
def mX12_undo : MI := (yX12_undo, cX12_undo, 1, some .boolean)
theorem oX12_undo : mOK mX12_undo 0 := ⟨by decide +kernel, by decide +kernel, by decide +kernel, by decide, w2011, w0150⟩
def fX12_undo (h : Hp) (v0 : Nat) : Option (Int32 × Hp) :=
(gI h 12 v0 56).bind fun x1 =>
if x1 = 0 then (
some (((0 : Int32), h))) else (
(gI h 12 v0 56).bind fun x3 =>
(pI h 12 v0 56 (x3 - (1 : Int32))).bind fun h4 =>
(gI h4 12 v0 57).bind fun x5 =>
(pI h4 12 v0 57 (x5 + (1 : Int32))).bind fun h6 =>
(gO h6 12 v0).bind fun _ =>
(fX12_swapAll h6 v0).bind fun x8 =>
some (((1 : Int32), x8)))
set_option maxRecDepth 20000 in
set_option maxHeartbeats 4000000 in
theorem sX12_undo {Γ : Gm} {d : Nat} (hd : 2 ≤ d) {h : Hp} {v0 : Nat} {r : Int32 × Hp} (H : fX12_undo h v0 = some r) : V Γ d mX12_undo 0 [(0, .ref v0)] [] h (some (.int r.1), r.2) := by
  unfold fX12_undo at H
  refine v_aload_n (q := 1) 0 dX12_undo_0 rfl rfl rfl ?_
  obtain ⟨x1, x1e, H⟩ := bs H
  refine u_gI (q := 4) (r := (RX12, TX12, 58)) x1e dX12_undo_1 w1412 rfl (by decide) rfl rfl ?_
  refine v_if_ne (q1 := 9) (q2 := 7) dX12_undo_4 (by decide) rfl (fun c2 => ?_) (fun c2 => ?_)
  · have H := ine c2 H
    refine v_aload_n (q := 10) 0 dX12_undo_9 rfl rfl rfl ?_
    refine v_dup (q := 11) dX12_undo_10 rfl rfl ?_
    obtain ⟨x3, x3e, H⟩ := bs H
    refine u_gI (q := 14) (r := (RX12, TX12, 58)) x3e dX12_undo_11 w1412 rfl (by decide) rfl rfl ?_
    refine v_iconst (v := 1) (q := 15) dX12_undo_14 (by decide) rfl ?_
    refine v_isub (q := 16) dX12_undo_15 rfl ?_
    obtain ⟨h4, h4e, H⟩ := bs H
    refine u_pI (q := 19) (r := (RX12, TX12, 58)) h4e dX12_undo_16 w1412 rfl (by decide) (Or.inl rfl) rfl rfl ?_
    refine v_aload_n (q := 20) 0 dX12_undo_19 rfl rfl rfl ?_
    refine v_dup (q := 21) dX12_undo_20 rfl rfl ?_
    obtain ⟨x5, x5e, H⟩ := bs H
    refine u_gI (q := 24) (r := (RX12, TX12, 58)) x5e dX12_undo_21 w1413 rfl (by decide) rfl rfl ?_
    refine v_iconst (v := 1) (q := 25) dX12_undo_24 (by decide) rfl ?_
    refine v_iadd (q := 26) dX12_undo_25 rfl ?_
    obtain ⟨h6, h6e, H⟩ := bs H
    refine u_pI (q := 29) (r := (RX12, TX12, 58)) h6e dX12_undo_26 w1413 rfl (by decide) (Or.inl rfl) rfl rfl ?_
    refine v_aload_n (q := 30) 0 dX12_undo_29 rfl rfl rfl ?_
    obtain ⟨_, o7, H⟩ := bs H
    obtain ⟨x8, x8e, H⟩ := bs H
    refine u_callV0 (M' := mX12_swapAll) (d' := 1) (rc := (RX12, TX12, 58)) (As := []) (st := []) (q := 33) oX12_swapAll dX12_undo_30 w2012 w2014 w0136 rfl rfl (gO_sp o7).1 (gO_sp o7).2 rfl (Nat.le_of_ble_eq_true rfl) (Nat.le_of_ble_eq_true rfl) (Nat.lt_of_lt_of_le (by decide) hd) rfl (sX12_swapAll (Nat.le_refl _) x8e) rfl ?_
    refine v_iconst (v := 1) (q := 34) dX12_undo_33 (by decide) rfl ?_
    cases H
    exact v_zreturn rfl (by decide) dX12_undo_34
  · have H := ip c2 H
    refine v_iconst (v := 0) (q := 8) dX12_undo_7 (by decide) rfl ?_
    cases H
    exact v_zreturn rfl (by decide) dX12_undo_8
def mX12_uses : MI := (yX12_uses, cX12_uses, 2, some .int)
theorem oX12_uses : mOK mX12_uses 1 := ⟨by decide +kernel, by decide +kernel, by decide +kernel, by decide, w1780, w0150⟩
def jX12_uses_21 (y0 : Int32) (h : Hp) : Option (Int32) :=
some y0
set_option maxRecDepth 20000 in
set_option maxHeartbeats 4000000 in
theorem sjX12_uses_21 {Γ : Gm} {d : Nat} (hd : 3 ≤ d) {y0 : Int32} {h : Hp} {r : Int32} (H : jX12_uses_21 y0 h = some r) : V Γ d mX12_uses 21 [] [.int y0] h (some (.int r), h) := by
  unfold jX12_uses_21 at H
  cases H
  exact v_ireturn rfl dX12_uses_21
def fX12_uses (h : Hp) (v0 : Nat) (v1 : Int32) : Option (Int32) :=
(fX12_isNode h v1).bind fun x1 =>
if x1 = 0 then (
jX12_uses_21 (0 : Int32) h) else (
(gR h 12 v0 0).bind fun x3 =>
(lI h .int x3 ((256 : Int32) + v1)).bind fun x4 =>
jX12_uses_21 x4 h)
set_option maxRecDepth 20000 in
set_option maxHeartbeats 4000000 in
theorem sX12_uses {Γ : Gm} {d : Nat} (hd : 3 ≤ d) {h : Hp} {v0 : Nat} {v1 : Int32} {r : Int32} (H : fX12_uses h v0 v1 = some r) : V Γ d mX12_uses 0 [(0, .ref v0), (1, .int v1)] [] h (some (.int r), h) := by
  unfold fX12_uses at H
  refine v_iload_n (q := 1) 1 dX12_uses_0 rfl rfl rfl ?_
  obtain ⟨x1, x1e, H⟩ := bs H
  refine u_callS1 (M' := mX12_isNode) (d' := 2) (As := [.int v1]) (st := []) (q := 4) oX12_isNode dX12_uses_1 w1774 w1775 rfl (Nat.le_of_ble_eq_true rfl) (Nat.le_of_ble_eq_true rfl) (Nat.lt_of_lt_of_le (by decide) hd) rfl (sX12_isNode (Nat.le_refl _) x1e) rfl ?_
  refine v_if_eq (q1 := 20) (q2 := 7) dX12_uses_4 (by decide) rfl (fun c2 => ?_) (fun c2 => ?_)
  · have H := ip c2 H
    refine v_iconst (v := 0) (q := 21) dX12_uses_20 (by decide) rfl ?_
    exact V.sub [] rfl (sjX12_uses_21 hd H)
  · have H := ine c2 H
    refine v_aload_n (q := 8) 0 dX12_uses_7 rfl rfl rfl ?_
    obtain ⟨x3, x3e, H⟩ := bs H
    refine u_gR (q := 11) (r := (RX12, TX12, 58)) x3e dX12_uses_8 w1356 rfl (by decide) rfl rfl ?_
    refine v_sipush (v := 256) (q := 14) dX12_uses_11 (by decide) rfl ?_
    refine v_iload_n (q := 15) 1 dX12_uses_14 rfl rfl rfl ?_
    refine v_iadd (q := 16) dX12_uses_15 rfl ?_
    obtain ⟨x4, x4e, H⟩ := bs H
    refine u_lI (q := 17) x4e dX12_uses_16 rfl ?_
    refine v_goto (q := 21) dX12_uses_17 (by decide) ?_
    exact V.sub [] rfl (sjX12_uses_21 hd H)
def mX12_way : MI := (yX12_way, cX12_way, 5, some .int)
theorem oX12_way : mOK mX12_way 3 := ⟨by decide +kernel, by decide +kernel, by decide +kernel, by decide, w1784, w0150⟩
def jX12_way_67 (y0 : Int32) (h : Hp) : Option (Int32 × Hp) :=
some (y0, h)
set_option maxRecDepth 20000 in
set_option maxHeartbeats 4000000 in
theorem sjX12_way_67 {Γ : Gm} {d : Nat} (hd : 3 ≤ d) {y0 : Int32} {h : Hp} {r : Int32 × Hp} (H : jX12_way_67 y0 h = some r) : V Γ d mX12_way 67 [] [.int y0] h (some (.int r.1), r.2) := by
  unfold jX12_way_67 at H
  cases H
  exact v_ireturn rfl dX12_way_67
def jX12_way_24 (v0 : Nat) (v3 : Int32) (y0 : Int32) (h : Hp) : Option (Int32 × Hp) :=
if y0 = 0 then (
some (((-1 : Int32), h))) else (
if v3 = (-1 : Int32) then (
jX12_way_67 (y0 - (1 : Int32)) h) else (
(fX12_isIn h v3 (0 : Int32) (y0 - (1 : Int32))).bind fun x5 =>
if x5 = 0 then (
jX12_way_67 (-1 : Int32) h) else (
(gR h 12 v0 28).bind fun x7 =>
(lI h .int x7 v3).bind fun x8 =>
jX12_way_67 x8 h)))
set_option maxRecDepth 20000 in
set_option maxHeartbeats 4000000 in
theorem sjX12_way_24 {Γ : Gm} {d : Nat} (hd : 3 ≤ d) {v0 : Nat} {v3 : Int32} {y0 : Int32} {h : Hp} {r : Int32 × Hp} (H : jX12_way_24 v0 v3 y0 h = some r) : V Γ d mX12_way 24 [(0, .ref v0), (3, .int v3)] [.int y0] h (some (.int r.1), r.2) := by
  unfold jX12_way_24 at H
  refine v_istore (L' := [(4, .int y0), (0, .ref v0), (3, .int v3)]) (q := 26) dX12_way_24 (by decide) rfl rfl ?_
  refine v_iload (q := 28) 0 dX12_way_26 rfl rfl ?_
  refine v_if_ne (q1 := 33) (q2 := 31) dX12_way_28 (by decide) rfl (fun c3 => ?_) (fun c3 => ?_)
  · have H := ine c3 H
    refine v_iload_n (q := 34) 2 dX12_way_33 rfl rfl rfl ?_
    refine v_iconst (v := -1) (q := 35) dX12_way_34 (by decide) rfl ?_
    refine v_icmp_ne (q1 := 45) (q2 := 38) dX12_way_35 (by decide) rfl (fun c4 => ?_) (fun c4 => ?_)
    · have H := ine c4 H
      refine v_iload_n (q := 46) 2 dX12_way_45 rfl rfl rfl ?_
      refine v_iconst (v := 0) (q := 47) dX12_way_46 (by decide) rfl ?_
      refine v_iload (q := 49) 0 dX12_way_47 rfl rfl ?_
      refine v_iconst (v := 1) (q := 50) dX12_way_49 (by decide) rfl ?_
      refine v_isub (q := 51) dX12_way_50 rfl ?_
      obtain ⟨x5, x5e, H⟩ := bs H
      refine u_callS1 (M' := mX12_isIn) (d' := 1) (As := [.int v3, .int (0 : Int32), .int (y0 - (1 : Int32))]) (st := []) (q := 54) oX12_isIn dX12_way_51 w1618 w1619 rfl (Nat.le_of_ble_eq_true rfl) (Nat.le_of_ble_eq_true rfl) (Nat.lt_of_lt_of_le (by decide) hd) rfl (sX12_isIn (Nat.le_refl _) x5e) rfl ?_
      refine v_if_eq (q1 := 66) (q2 := 57) dX12_way_54 (by decide) rfl (fun c6 => ?_) (fun c6 => ?_)
      · have H := ip c6 H
        refine v_iconst (v := -1) (q := 67) dX12_way_66 (by decide) rfl ?_
        exact V.sub [] rfl (sjX12_way_67 hd H)
      · have H := ine c6 H
        refine v_aload_n (q := 58) 1 dX12_way_57 rfl rfl rfl ?_
        obtain ⟨x7, x7e, H⟩ := bs H
        refine u_gR (q := 61) (r := (RX12, TX12, 58)) x7e dX12_way_58 w1384 rfl (by decide) rfl rfl ?_
        refine v_iload_n (q := 62) 2 dX12_way_61 rfl rfl rfl ?_
        obtain ⟨x8, x8e, H⟩ := bs H
        refine u_lI (q := 63) x8e dX12_way_62 rfl ?_
        refine v_goto (q := 67) dX12_way_63 (by decide) ?_
        exact V.sub [] rfl (sjX12_way_67 hd H)
    · have H := ip c4 H
      refine v_iload (q := 40) 0 dX12_way_38 rfl rfl ?_
      refine v_iconst (v := 1) (q := 41) dX12_way_40 (by decide) rfl ?_
      refine v_isub (q := 42) dX12_way_41 rfl ?_
      refine v_goto (q := 67) dX12_way_42 (by decide) ?_
      exact V.sub [] rfl (sjX12_way_67 hd H)
  · have H := ip c3 H
    refine v_iconst (v := -1) (q := 32) dX12_way_31 (by decide) rfl ?_
    cases H
    exact v_ireturn rfl dX12_way_32
def jX12_way_23 (v0 : Nat) (v3 : Int32) (h : Hp) : Option (Int32 × Hp) :=
jX12_way_24 v0 v3 (0 : Int32) h
set_option maxRecDepth 20000 in
set_option maxHeartbeats 4000000 in
theorem sjX12_way_23 {Γ : Gm} {d : Nat} (hd : 3 ≤ d) {v0 : Nat} {v3 : Int32} {h : Hp} {r : Int32 × Hp} (H : jX12_way_23 v0 v3 h = some r) : V Γ d mX12_way 23 [(0, .ref v0), (3, .int v3)] [] h (some (.int r.1), r.2) := by
  unfold jX12_way_23 at H
  refine v_iconst (v := 0) (q := 24) dX12_way_23 (by decide) rfl ?_
  exact V.sub [0, 1] rfl (sjX12_way_24 hd H)
def fX12_way (h : Hp) (v0 : Nat) (v1 : Int32) (v2 : Int32) (v3 : Int32) : Option (Int32 × Hp) :=
(fX12_isNode h v1).bind fun x1 =>
if x1 = 0 then (
jX12_way_23 v0 v3 h) else (
(fX12_isNode h v2).bind fun x9 =>
if x9 = 0 then (
jX12_way_23 v0 v3 h) else (
(gO h 12 v0).bind fun _ =>
(fX12_layWay h v0 v1 v2).bind fun x12 =>
jX12_way_24 v0 v3 x12.1 x12.2))
set_option maxRecDepth 20000 in
set_option maxHeartbeats 4000000 in
theorem sX12_way {Γ : Gm} {d : Nat} (hd : 3 ≤ d) {h : Hp} {v0 : Nat} {v1 : Int32} {v2 : Int32} {v3 : Int32} {r : Int32 × Hp} (H : fX12_way h v0 v1 v2 v3 = some r) : V Γ d mX12_way 0 [(0, .ref v0), (1, .int v1), (2, .int v2), (3, .int v3)] [] h (some (.int r.1), r.2) := by
  unfold fX12_way at H
  refine v_iload_n (q := 1) 1 dX12_way_0 rfl rfl rfl ?_
  obtain ⟨x1, x1e, H⟩ := bs H
  refine u_callS1 (M' := mX12_isNode) (d' := 2) (As := [.int v1]) (st := []) (q := 4) oX12_isNode dX12_way_1 w1774 w1775 rfl (Nat.le_of_ble_eq_true rfl) (Nat.le_of_ble_eq_true rfl) (Nat.lt_of_lt_of_le (by decide) hd) rfl (sX12_isNode (Nat.le_refl _) x1e) rfl ?_
  refine v_if_eq (q1 := 23) (q2 := 7) dX12_way_4 (by decide) rfl (fun c2 => ?_) (fun c2 => ?_)
  · have H := ip c2 H
    exact V.sub [0, 3] rfl (sjX12_way_23 hd H)
  · have H := ine c2 H
    refine v_iload_n (q := 8) 2 dX12_way_7 rfl rfl rfl ?_
    obtain ⟨x9, x9e, H⟩ := bs H
    refine u_callS1 (M' := mX12_isNode) (d' := 2) (As := [.int v2]) (st := []) (q := 11) oX12_isNode dX12_way_8 w1774 w1775 rfl (Nat.le_of_ble_eq_true rfl) (Nat.le_of_ble_eq_true rfl) (Nat.lt_of_lt_of_le (by decide) hd) rfl (sX12_isNode (Nat.le_refl _) x9e) rfl ?_
    refine v_if_eq (q1 := 23) (q2 := 14) dX12_way_11 (by decide) rfl (fun c10 => ?_) (fun c10 => ?_)
    · have H := ip c10 H
      exact V.sub [0, 3] rfl (sjX12_way_23 hd H)
    · have H := ine c10 H
      refine v_aload_n (q := 15) 0 dX12_way_14 rfl rfl rfl ?_
      refine v_iload_n (q := 16) 1 dX12_way_15 rfl rfl rfl ?_
      refine v_iload_n (q := 17) 2 dX12_way_16 rfl rfl rfl ?_
      obtain ⟨_, o11, H⟩ := bs H
      obtain ⟨x12, x12e, H⟩ := bs H
      refine u_callV1 (M' := mX12_layWay) (d' := 2) (rc := (RX12, TX12, 58)) (As := [.int v1, .int v2]) (st := []) (q := 20) oX12_layWay dX12_way_17 w1709 w1711 w0090 rfl rfl (gO_sp o11).1 (gO_sp o11).2 rfl (Nat.le_of_ble_eq_true rfl) (Nat.le_of_ble_eq_true rfl) (Nat.lt_of_lt_of_le (by decide) hd) rfl (sX12_layWay (Nat.le_refl _) x12e) rfl ?_
      refine v_goto (q := 24) dX12_way_20 (by decide) ?_
      exact V.sub [0, 3] rfl (sjX12_way_24 hd H)
def mX12_would : MI := (yX12_would, cX12_would, 5, some .int)
theorem oX12_would : mOK mX12_would 2 := ⟨by decide +kernel, by decide +kernel, by decide +kernel, by decide, w1808, w0150⟩
def jX12_would_17 (h : Hp) : Option (Int32 × Hp) :=
some (((-1 : Int32), h))
set_option maxRecDepth 20000 in
set_option maxHeartbeats 4000000 in
theorem sjX12_would_17 {Γ : Gm} {d : Nat} (hd : 8 ≤ d) {h : Hp} {r : Int32 × Hp} (H : jX12_would_17 h = some r) : V Γ d mX12_would 17 [] [] h (some (.int r.1), r.2) := by
  unfold jX12_would_17 at H
  refine v_iconst (v := -1) (q := 18) dX12_would_17 (by decide) rfl ?_
  cases H
  exact v_ireturn rfl dX12_would_18
def jX12_would_99 (v0 : Nat) (v3 : Int32) (y0 : Int32) (h : Hp) : Option (Int32 × Hp) :=
(some (y0 - v3)).bind fun x18 =>
(gO h 12 v0).bind fun _ =>
(fX12_bringBack h v0).bind fun x20 =>
some (x18, x20)
set_option maxRecDepth 20000 in
set_option maxHeartbeats 4000000 in
theorem sjX12_would_99 {Γ : Gm} {d : Nat} (hd : 8 ≤ d) {v0 : Nat} {v3 : Int32} {y0 : Int32} {h : Hp} {r : Int32 × Hp} (H : jX12_would_99 v0 v3 y0 h = some r) : V Γ d mX12_would 99 [(0, .ref v0), (3, .int v3)] [.int y0] h (some (.int r.1), r.2) := by
  unfold jX12_would_99 at H
  refine v_iload_n (q := 100) 1 dX12_would_99 rfl rfl rfl ?_
  refine v_isub (q := 101) dX12_would_100 rfl ?_
  obtain ⟨x18, x18e, H⟩ := bs H
  refine v_topi (Option.some.inj x18e) ?_
  refine v_istore (L' := [(4, .int x18), (0, .ref v0), (3, .int v3)]) (q := 103) dX12_would_101 (by decide) rfl rfl ?_
  refine v_aload_n (q := 104) 1 dX12_would_103 rfl rfl rfl ?_
  obtain ⟨_, o19, H⟩ := bs H
  obtain ⟨x20, x20e, H⟩ := bs H
  refine u_callV0 (M' := mX12_bringBack) (d' := 1) (rc := (RX12, TX12, 58)) (As := []) (st := []) (q := 107) oX12_bringBack dX12_would_104 w1817 w1819 w0104 rfl rfl (gO_sp o19).1 (gO_sp o19).2 rfl (Nat.le_of_ble_eq_true rfl) (Nat.le_of_ble_eq_true rfl) (Nat.lt_of_lt_of_le (by decide) hd) rfl (sX12_bringBack (Nat.le_refl _) x20e) rfl ?_
  refine v_iload (q := 109) 0 dX12_would_107 rfl rfl ?_
  cases H
  exact v_ireturn rfl dX12_would_109
def jX12_would_58 (v0 : Nat) (v1 : Int32) (v2 : Int32) (y0 : Int32) (h : Hp) : Option (Int32 × Hp) :=
(gO h 12 v0).bind fun _ =>
(fX12_goRun h v0 v1).bind fun x13 =>
if v2 = 0 then (
(gR x13 12 v0 0).bind fun x23 =>
(lI x13 .int x23 (272 : Int32)).bind fun x24 =>
jX12_would_99 v0 y0 x24 x13) else (
if v2 = (1 : Int32) then (
(gO x13 12 v0).bind fun _ =>
(fX12_edges x13 v0).bind fun x22 =>
jX12_would_99 v0 y0 x22 x13) else (
(gR x13 12 v0 0).bind fun x16 =>
(lI x13 .int x16 (1539 : Int32)).bind fun x17 =>
jX12_would_99 v0 y0 x17 x13))
set_option maxRecDepth 20000 in
set_option maxHeartbeats 4000000 in
theorem sjX12_would_58 {Γ : Gm} {d : Nat} (hd : 8 ≤ d) {v0 : Nat} {v1 : Int32} {v2 : Int32} {y0 : Int32} {h : Hp} {r : Int32 × Hp} (H : jX12_would_58 v0 v1 v2 y0 h = some r) : V Γ d mX12_would 58 [(0, .ref v0), (1, .int v1), (2, .int v2)] [.int y0] h (some (.int r.1), r.2) := by
  unfold jX12_would_58 at H
  refine v_istore_n (L' := [(3, .int y0), (0, .ref v0), (1, .int v1), (2, .int v2)]) (q := 59) dX12_would_58 rfl (by decide) rfl rfl ?_
  refine v_aload_n (q := 60) 1 dX12_would_59 rfl rfl rfl ?_
  refine v_iload_n (q := 61) 2 dX12_would_60 rfl rfl rfl ?_
  obtain ⟨_, o12, H⟩ := bs H
  obtain ⟨x13, x13e, H⟩ := bs H
  refine u_callV0 (M' := mX12_goRun) (d' := 7) (rc := (RX12, TX12, 58)) (As := [.int v1]) (st := []) (q := 64) oX12_goRun dX12_would_61 w1638 w1640 w0073 rfl rfl (gO_sp o12).1 (gO_sp o12).2 rfl (Nat.le_of_ble_eq_true rfl) (Nat.le_of_ble_eq_true rfl) (Nat.lt_of_lt_of_le (by decide) hd) rfl (sX12_goRun (Nat.le_refl _) x13e) rfl ?_
  refine v_iload_n (q := 65) 3 dX12_would_64 rfl rfl rfl ?_
  refine v_if_ne (q1 := 79) (q2 := 68) dX12_would_65 (by decide) rfl (fun c14 => ?_) (fun c14 => ?_)
  · have H := ine c14 H
    refine v_iload_n (q := 80) 3 dX12_would_79 rfl rfl rfl ?_
    refine v_iconst (v := 1) (q := 81) dX12_would_80 (by decide) rfl ?_
    refine v_icmp_ne (q1 := 91) (q2 := 84) dX12_would_81 (by decide) rfl (fun c15 => ?_) (fun c15 => ?_)
    · have H := ine c15 H
      refine v_aload_n (q := 92) 1 dX12_would_91 rfl rfl rfl ?_
      obtain ⟨x16, x16e, H⟩ := bs H
      refine u_gR (q := 95) (r := (RX12, TX12, 58)) x16e dX12_would_92 w1356 rfl (by decide) rfl rfl ?_
      refine v_sipush (v := 1539) (q := 98) dX12_would_95 (by decide) rfl ?_
      obtain ⟨x17, x17e, H⟩ := bs H
      refine u_lI (q := 99) x17e dX12_would_98 rfl ?_
      exact V.sub [1, 0] rfl (sjX12_would_99 hd H)
    · have H := ip c15 H
      refine v_aload_n (q := 85) 1 dX12_would_84 rfl rfl rfl ?_
      obtain ⟨_, o21, H⟩ := bs H
      obtain ⟨x22, x22e, H⟩ := bs H
      refine u_callV1 (M' := mX12_edges) (d' := 1) (rc := (RX12, TX12, 58)) (As := []) (st := []) (q := 88) oX12_edges dX12_would_85 w1813 w1815 w0103 rfl rfl (gO_sp o21).1 (gO_sp o21).2 rfl (Nat.le_of_ble_eq_true rfl) (Nat.le_of_ble_eq_true rfl) (Nat.lt_of_lt_of_le (by decide) hd) rfl (sX12_edges (Nat.le_refl _) x22e) rfl ?_
      refine v_goto (q := 99) dX12_would_88 (by decide) ?_
      exact V.sub [1, 0] rfl (sjX12_would_99 hd H)
  · have H := ip c14 H
    refine v_aload_n (q := 69) 1 dX12_would_68 rfl rfl rfl ?_
    obtain ⟨x23, x23e, H⟩ := bs H
    refine u_gR (q := 72) (r := (RX12, TX12, 58)) x23e dX12_would_69 w1356 rfl (by decide) rfl rfl ?_
    refine v_sipush (v := 272) (q := 75) dX12_would_72 (by decide) rfl ?_
    obtain ⟨x24, x24e, H⟩ := bs H
    refine u_lI (q := 76) x24e dX12_would_75 rfl ?_
    refine v_goto (q := 99) dX12_would_76 (by decide) ?_
    exact V.sub [1, 0] rfl (sjX12_would_99 hd H)
def fX12_would (h : Hp) (v0 : Nat) (v1 : Int32) (v2 : Int32) : Option (Int32 × Hp) :=
(gO h 12 v0).bind fun _ =>
(fX12_isProgram h v0 v1).bind fun x2 =>
if x2 = 0 then (
jX12_would_17 h) else (
(fX12_isIn h v2 (0 : Int32) (2 : Int32)).bind fun x4 =>
if x4 = 0 then (
jX12_would_17 h) else (
(gO h 12 v0).bind fun _ =>
(fX12_putAside h v0).bind fun x7 =>
if v2 = 0 then (
(gR x7 12 v0 0).bind fun x27 =>
(lI x7 .int x27 (272 : Int32)).bind fun x28 =>
jX12_would_58 v0 v1 v2 x28 x7) else (
if v2 = (1 : Int32) then (
(gO x7 12 v0).bind fun _ =>
(fX12_edges x7 v0).bind fun x26 =>
jX12_would_58 v0 v1 v2 x26 x7) else (
(gR x7 12 v0 0).bind fun x10 =>
(lI x7 .int x10 (1539 : Int32)).bind fun x11 =>
jX12_would_58 v0 v1 v2 x11 x7))))
set_option maxRecDepth 20000 in
set_option maxHeartbeats 4000000 in
theorem sX12_would {Γ : Gm} {d : Nat} (hd : 8 ≤ d) {h : Hp} {v0 : Nat} {v1 : Int32} {v2 : Int32} {r : Int32 × Hp} (H : fX12_would h v0 v1 v2 = some r) : V Γ d mX12_would 0 [(0, .ref v0), (1, .int v1), (2, .int v2)] [] h (some (.int r.1), r.2) := by
  unfold fX12_would at H
  refine v_aload_n (q := 1) 0 dX12_would_0 rfl rfl rfl ?_
  refine v_iload_n (q := 2) 1 dX12_would_1 rfl rfl rfl ?_
  obtain ⟨_, o1, H⟩ := bs H
  obtain ⟨x2, x2e, H⟩ := bs H
  refine u_callV1 (M' := mX12_isProgram) (d' := 2) (rc := (RX12, TX12, 58)) (As := [.int v1]) (st := []) (q := 5) oX12_isProgram dX12_would_2 w1629 w1631 w0071 rfl rfl (gO_sp o1).1 (gO_sp o1).2 rfl (Nat.le_of_ble_eq_true rfl) (Nat.le_of_ble_eq_true rfl) (Nat.lt_of_lt_of_le (by decide) hd) rfl (sX12_isProgram (Nat.le_refl _) x2e) rfl ?_
  refine v_if_eq (q1 := 17) (q2 := 8) dX12_would_5 (by decide) rfl (fun c3 => ?_) (fun c3 => ?_)
  · have H := ip c3 H
    exact V.sub [] rfl (sjX12_would_17 hd H)
  · have H := ine c3 H
    refine v_iload_n (q := 9) 2 dX12_would_8 rfl rfl rfl ?_
    refine v_iconst (v := 0) (q := 10) dX12_would_9 (by decide) rfl ?_
    refine v_iconst (v := 2) (q := 11) dX12_would_10 (by decide) rfl ?_
    obtain ⟨x4, x4e, H⟩ := bs H
    refine u_callS1 (M' := mX12_isIn) (d' := 1) (As := [.int v2, .int (0 : Int32), .int (2 : Int32)]) (st := []) (q := 14) oX12_isIn dX12_would_11 w1618 w1619 rfl (Nat.le_of_ble_eq_true rfl) (Nat.le_of_ble_eq_true rfl) (Nat.lt_of_lt_of_le (by decide) hd) rfl (sX12_isIn (Nat.le_refl _) x4e) rfl ?_
    refine v_if_ne (q1 := 19) (q2 := 17) dX12_would_14 (by decide) rfl (fun c5 => ?_) (fun c5 => ?_)
    · have H := ine c5 H
      refine v_aload_n (q := 20) 0 dX12_would_19 rfl rfl rfl ?_
      obtain ⟨_, o6, H⟩ := bs H
      obtain ⟨x7, x7e, H⟩ := bs H
      refine u_callV0 (M' := mX12_putAside) (d' := 1) (rc := (RX12, TX12, 58)) (As := []) (st := []) (q := 23) oX12_putAside dX12_would_20 w1809 w1811 w0102 rfl rfl (gO_sp o6).1 (gO_sp o6).2 rfl (Nat.le_of_ble_eq_true rfl) (Nat.le_of_ble_eq_true rfl) (Nat.lt_of_lt_of_le (by decide) hd) rfl (sX12_putAside (Nat.le_refl _) x7e) rfl ?_
      refine v_iload_n (q := 24) 2 dX12_would_23 rfl rfl rfl ?_
      refine v_if_ne (q1 := 38) (q2 := 27) dX12_would_24 (by decide) rfl (fun c8 => ?_) (fun c8 => ?_)
      · have H := ine c8 H
        refine v_iload_n (q := 39) 2 dX12_would_38 rfl rfl rfl ?_
        refine v_iconst (v := 1) (q := 40) dX12_would_39 (by decide) rfl ?_
        refine v_icmp_ne (q1 := 50) (q2 := 43) dX12_would_40 (by decide) rfl (fun c9 => ?_) (fun c9 => ?_)
        · have H := ine c9 H
          refine v_aload_n (q := 51) 0 dX12_would_50 rfl rfl rfl ?_
          obtain ⟨x10, x10e, H⟩ := bs H
          refine u_gR (q := 54) (r := (RX12, TX12, 58)) x10e dX12_would_51 w1356 rfl (by decide) rfl rfl ?_
          refine v_sipush (v := 1539) (q := 57) dX12_would_54 (by decide) rfl ?_
          obtain ⟨x11, x11e, H⟩ := bs H
          refine u_lI (q := 58) x11e dX12_would_57 rfl ?_
          exact V.sub [0, 1, 2] rfl (sjX12_would_58 hd H)
        · have H := ip c9 H
          refine v_aload_n (q := 44) 0 dX12_would_43 rfl rfl rfl ?_
          obtain ⟨_, o25, H⟩ := bs H
          obtain ⟨x26, x26e, H⟩ := bs H
          refine u_callV1 (M' := mX12_edges) (d' := 1) (rc := (RX12, TX12, 58)) (As := []) (st := []) (q := 47) oX12_edges dX12_would_44 w1813 w1815 w0103 rfl rfl (gO_sp o25).1 (gO_sp o25).2 rfl (Nat.le_of_ble_eq_true rfl) (Nat.le_of_ble_eq_true rfl) (Nat.lt_of_lt_of_le (by decide) hd) rfl (sX12_edges (Nat.le_refl _) x26e) rfl ?_
          refine v_goto (q := 58) dX12_would_47 (by decide) ?_
          exact V.sub [0, 1, 2] rfl (sjX12_would_58 hd H)
      · have H := ip c8 H
        refine v_aload_n (q := 28) 0 dX12_would_27 rfl rfl rfl ?_
        obtain ⟨x27, x27e, H⟩ := bs H
        refine u_gR (q := 31) (r := (RX12, TX12, 58)) x27e dX12_would_28 w1356 rfl (by decide) rfl rfl ?_
        refine v_sipush (v := 272) (q := 34) dX12_would_31 (by decide) rfl ?_
        obtain ⟨x28, x28e, H⟩ := bs H
        refine u_lI (q := 35) x28e dX12_would_34 rfl ?_
        refine v_goto (q := 58) dX12_would_35 (by decide) ?_
        exact V.sub [0, 1, 2] rfl (sjX12_would_58 hd H)
    · have H := ip c5 H
      exact V.sub [] rfl (sjX12_would_17 hd H)

def mX12_sortOf : MI := (yX12_sortOf, cX12_sortOf, 2, some .int)
theorem oX12_sortOf : mOK mX12_sortOf 1 := ⟨by decide +kernel, by decide +kernel, by decide +kernel, by decide, w1721, w0150⟩
def gX12_sortOf (m : Mem) (v1 : Int32) : Option (Int32) :=
(rd m 6 12 (((6 : Int32) * (m 0 9)) + v1)).bind fun x1 =>
some x1
set_option maxRecDepth 20000 in
set_option maxHeartbeats 4000000 in
theorem sgX12_sortOf {Γ : Gm} {d : Nat} (hd : 1 ≤ d) {T : Nat} {h : Hp} (rs : RS T h) {m : Mem} {v1 : Int32} {r : Int32} (H : gX12_sortOf m v1 = some r) : V Γ d mX12_sortOf 0 [(0, .ref T), (1, .int v1)] [] (hm T h m) (some (.int r), (hm T h m)) := by
  unfold gX12_sortOf at H
  refine v_aload_n (q := 1) 0 dX12_sortOf_0 rfl rfl rfl ?_
  refine ur_arr (q := 4) rs rt5 dX12_sortOf_1 w1361 (Nat.le_of_ble_eq_true rfl) rfl rfl ?_
  refine v_bipush (v := 6) (q := 6) dX12_sortOf_4 (by decide) rfl ?_
  refine v_aload_n (q := 7) 0 dX12_sortOf_6 rfl rfl rfl ?_
  refine ur_gI (q := 10) (x := 0) (k := 9) rs dX12_sortOf_7 w1365 (Nat.le_of_ble_eq_true rfl) rfl rfl ?_
  refine v_imul (q := 11) dX12_sortOf_10 rfl ?_
  refine v_iload_n (q := 12) 1 dX12_sortOf_11 rfl rfl rfl ?_
  refine v_iadd (q := 13) dX12_sortOf_12 rfl ?_
  replace H := bs H; obtain ⟨x1, x1e, H⟩ := H
  refine ur_rd (q := 14) rs rt5 x1e dX12_sortOf_13 rfl ?_
  cases H
  exact v_ireturn rfl dX12_sortOf_14
def mX12_isOn : MI := (yX12_isOn, cX12_isOn, 8, some .boolean)
theorem oX12_isOn : mOK mX12_isOn 3 := ⟨by decide +kernel, by decide +kernel, by decide +kernel, by decide, w1725, w0150⟩
def gjX12_isOn_98 (u1 : Int32) (u2 : Int32) (u3 : Int32) (u5 : Int32) (v6 : Int32) (v7 : Int32) (m : Mem) : Option ((Int32 × Int32) ⊕ (Int32)) :=
(some (v7 + (1 : Int32))).bind fun x11 =>
some (.inl (v6, x11))
set_option maxRecDepth 20000 in
set_option maxHeartbeats 4000000 in
theorem sgjX12_isOn_98 {Γ : Gm} {d : Nat} (hd : 2 ≤ d) {T : Nat} {h : Hp} (rs : RS T h) {u1 : Int32} {u2 : Int32} {u3 : Int32} {u5 : Int32} {v6 : Int32} {v7 : Int32} {m : Mem} {r : (Int32 × Int32) ⊕ (Int32)} {t : Option Value × Hp} (H : gjX12_isOn_98 u1 u2 u3 u5 v6 v7 m = some r) (kI : ∀ s, r = .inl s → (fun s44 => V Γ d mX12_isOn 44 [(0, .ref T), (1, .int u1), (2, .int u2), (3, .int u3), (5, .int u5), (6, .int s44.1), (7, .int s44.2)] [] (hm T h m) t) s) (kE : ∀ e, r = .inr e → (fun e => V Γ d mX12_isOn 104 [(6, .int e)] [] (hm T h m) t) e) : V Γ d mX12_isOn 98 [(0, .ref T), (1, .int u1), (2, .int u2), (3, .int u3), (5, .int u5), (6, .int v6), (7, .int v7)] [] (hm T h m) t := by
  unfold gjX12_isOn_98 at H
  replace H := bs H; obtain ⟨x11, x11e, H⟩ := H
  refine v_iinc (v := x11) (L' := [(7, .int x11), (0, .ref T), (1, .int u1), (2, .int u2), (3, .int u3), (5, .int u5), (6, .int v6)]) (q := 101) 6 dX12_isOn_98 rfl (Option.some.inj x11e) (by decide) rfl rfl ?_
  refine v_goto (q := 44) dX12_isOn_101 (by decide) ?_
  exact V.sub [1, 2, 3, 4, 5, 6, 0] rfl (kI (v6, x11) (Option.some.inj H).symm)
def gjX12_isOn_91 (u1 : Int32) (u2 : Int32) (u3 : Int32) (u5 : Int32) (v6 : Int32) (v7 : Int32) (y0 : Int32) (y1 : Int32) (m : Mem) : Option ((Int32 × Int32) ⊕ (Int32)) :=
if y1 = y0 then (
gjX12_isOn_98 u1 u2 u3 u5 u5 v7 m) else (
gjX12_isOn_98 u1 u2 u3 u5 v6 v7 m)
set_option maxRecDepth 20000 in
set_option maxHeartbeats 4000000 in
theorem sgjX12_isOn_91 {Γ : Gm} {d : Nat} (hd : 2 ≤ d) {T : Nat} {h : Hp} (rs : RS T h) {u1 : Int32} {u2 : Int32} {u3 : Int32} {u5 : Int32} {v6 : Int32} {v7 : Int32} {y0 : Int32} {y1 : Int32} {m : Mem} {r : (Int32 × Int32) ⊕ (Int32)} {t : Option Value × Hp} (H : gjX12_isOn_91 u1 u2 u3 u5 v6 v7 y0 y1 m = some r) (kI : ∀ s, r = .inl s → (fun s44 => V Γ d mX12_isOn 44 [(0, .ref T), (1, .int u1), (2, .int u2), (3, .int u3), (5, .int u5), (6, .int s44.1), (7, .int s44.2)] [] (hm T h m) t) s) (kE : ∀ e, r = .inr e → (fun e => V Γ d mX12_isOn 104 [(6, .int e)] [] (hm T h m) t) e) : V Γ d mX12_isOn 91 [(0, .ref T), (1, .int u1), (2, .int u2), (3, .int u3), (5, .int u5), (6, .int v6), (7, .int v7)] [.int y0, .int y1] (hm T h m) t := by
  unfold gjX12_isOn_91 at H
  refine v_icmp_ne (q1 := 98) (q2 := 94) dX12_isOn_91 (by decide) rfl (fun c10 => ?_) (fun c10 => ?_)
  · replace H := ine c10 H
    exact V.sub [0, 1, 2, 3, 4, 5, 6] rfl (sgjX12_isOn_98 hd rs H kI kE)
  · replace H := ip c10 H
    refine v_iload (q := 96) 4 dX12_isOn_94 rfl rfl ?_
    refine v_istore (L' := [(6, .int u5), (0, .ref T), (1, .int u1), (2, .int u2), (3, .int u3), (5, .int u5), (7, .int v7)]) (q := 98) dX12_isOn_96 (by decide) rfl rfl ?_
    exact V.sub [1, 2, 3, 4, 5, 0, 6] rfl (sgjX12_isOn_98 hd rs H kI kE)
def gjX12_isOn_73 (u1 : Int32) (u2 : Int32) (u3 : Int32) (u5 : Int32) (v6 : Int32) (v7 : Int32) (m : Mem) : Option ((Int32 × Int32) ⊕ (Int32)) :=
(gX12_opOf m u1 v7).bind fun x8 =>
if u3 = 0 then (
gjX12_isOn_91 u1 u2 u3 u5 v6 v7 (8 : Int32) x8 m) else (
gjX12_isOn_91 u1 u2 u3 u5 v6 v7 (6 : Int32) x8 m)
set_option maxRecDepth 20000 in
set_option maxHeartbeats 4000000 in
theorem sgjX12_isOn_73 {Γ : Gm} {d : Nat} (hd : 2 ≤ d) {T : Nat} {h : Hp} (rs : RS T h) {u1 : Int32} {u2 : Int32} {u3 : Int32} {u5 : Int32} {v6 : Int32} {v7 : Int32} {m : Mem} {r : (Int32 × Int32) ⊕ (Int32)} {t : Option Value × Hp} (H : gjX12_isOn_73 u1 u2 u3 u5 v6 v7 m = some r) (kI : ∀ s, r = .inl s → (fun s44 => V Γ d mX12_isOn 44 [(0, .ref T), (1, .int u1), (2, .int u2), (3, .int u3), (5, .int u5), (6, .int s44.1), (7, .int s44.2)] [] (hm T h m) t) s) (kE : ∀ e, r = .inr e → (fun e => V Γ d mX12_isOn 104 [(6, .int e)] [] (hm T h m) t) e) : V Γ d mX12_isOn 73 [(0, .ref T), (1, .int u1), (2, .int u2), (3, .int u3), (5, .int u5), (6, .int v6), (7, .int v7)] [] (hm T h m) t := by
  unfold gjX12_isOn_73 at H
  refine v_aload_n (q := 74) 0 dX12_isOn_73 rfl rfl rfl ?_
  refine v_iload_n (q := 75) 1 dX12_isOn_74 rfl rfl rfl ?_
  refine v_iload (q := 77) 6 dX12_isOn_75 rfl rfl ?_
  replace H := bs H; obtain ⟨x8, x8e, H⟩ := H
  refine u_callV1 (M' := mX12_opOf) (d' := 1) (rc := (RX12, TX12, 58)) (As := [.int u1, .int v7]) (st := []) (q := 80) oX12_opOf dX12_isOn_77 w1646 w1648 w0075 rfl rfl (RS.rc rs).1 (RS.rc rs).2 rfl (Nat.le_of_ble_eq_true rfl) (Nat.le_of_ble_eq_true rfl) (Nat.lt_of_lt_of_le (by decide) hd) rfl (sgX12_opOf (Nat.le_refl _) rs x8e) rfl ?_
  refine v_iload_n (q := 81) 3 dX12_isOn_80 rfl rfl rfl ?_
  refine v_if_eq (q1 := 89) (q2 := 84) dX12_isOn_81 (by decide) rfl (fun c9 => ?_) (fun c9 => ?_)
  · replace H := ip c9 H
    refine v_bipush (v := 8) (q := 91) dX12_isOn_89 (by decide) rfl ?_
    exact V.sub [0, 1, 2, 3, 4, 5, 6] rfl (sgjX12_isOn_91 hd rs H kI kE)
  · replace H := ine c9 H
    refine v_bipush (v := 6) (q := 86) dX12_isOn_84 (by decide) rfl ?_
    refine v_goto (q := 91) dX12_isOn_86 (by decide) ?_
    exact V.sub [0, 1, 2, 3, 4, 5, 6] rfl (sgjX12_isOn_91 hd rs H kI kE)
def gjX12_isOn_67 (u1 : Int32) (u2 : Int32) (u3 : Int32) (u5 : Int32) (v6 : Int32) (v7 : Int32) (y0 : Int32) (y1 : Int32) (m : Mem) : Option ((Int32 × Int32) ⊕ (Int32)) :=
if y1 = y0 then (
gjX12_isOn_73 u1 u2 u3 u5 (0 : Int32) v7 m) else (
gjX12_isOn_73 u1 u2 u3 u5 v6 v7 m)
set_option maxRecDepth 20000 in
set_option maxHeartbeats 4000000 in
theorem sgjX12_isOn_67 {Γ : Gm} {d : Nat} (hd : 2 ≤ d) {T : Nat} {h : Hp} (rs : RS T h) {u1 : Int32} {u2 : Int32} {u3 : Int32} {u5 : Int32} {v6 : Int32} {v7 : Int32} {y0 : Int32} {y1 : Int32} {m : Mem} {r : (Int32 × Int32) ⊕ (Int32)} {t : Option Value × Hp} (H : gjX12_isOn_67 u1 u2 u3 u5 v6 v7 y0 y1 m = some r) (kI : ∀ s, r = .inl s → (fun s44 => V Γ d mX12_isOn 44 [(0, .ref T), (1, .int u1), (2, .int u2), (3, .int u3), (5, .int u5), (6, .int s44.1), (7, .int s44.2)] [] (hm T h m) t) s) (kE : ∀ e, r = .inr e → (fun e => V Γ d mX12_isOn 104 [(6, .int e)] [] (hm T h m) t) e) : V Γ d mX12_isOn 67 [(0, .ref T), (1, .int u1), (2, .int u2), (3, .int u3), (5, .int u5), (6, .int v6), (7, .int v7)] [.int y0, .int y1] (hm T h m) t := by
  unfold gjX12_isOn_67 at H
  refine v_icmp_ne (q1 := 73) (q2 := 70) dX12_isOn_67 (by decide) rfl (fun c7 => ?_) (fun c7 => ?_)
  · replace H := ine c7 H
    exact V.sub [0, 1, 2, 3, 4, 5, 6] rfl (sgjX12_isOn_73 hd rs H kI kE)
  · replace H := ip c7 H
    refine v_iconst (v := 0) (q := 71) dX12_isOn_70 (by decide) rfl ?_
    refine v_istore (L' := [(6, .int (0 : Int32)), (0, .ref T), (1, .int u1), (2, .int u2), (3, .int u3), (5, .int u5), (7, .int v7)]) (q := 73) dX12_isOn_71 (by decide) rfl rfl ?_
    exact V.sub [1, 2, 3, 4, 5, 0, 6] rfl (sgjX12_isOn_73 hd rs H kI kE)
def gbX12_isOn_44 (u1 : Int32) (u2 : Int32) (u3 : Int32) (u5 : Int32) (m : Mem) (s44 : Int32 × Int32) : Option ((Int32 × Int32) ⊕ (Int32)) :=
if u2 ≤ s44.2 then (
some (.inr s44.1)) else (
(gX12_opOf m u1 s44.2).bind fun x5 =>
if u3 = 0 then (
gjX12_isOn_67 u1 u2 u3 u5 s44.1 s44.2 (7 : Int32) x5 m) else (
gjX12_isOn_67 u1 u2 u3 u5 s44.1 s44.2 (5 : Int32) x5 m))
set_option maxRecDepth 20000 in
set_option maxHeartbeats 4000000 in
theorem sgbX12_isOn_44 {Γ : Gm} {d : Nat} (hd : 2 ≤ d) {T : Nat} {h : Hp} (rs : RS T h) {u1 : Int32} {u2 : Int32} {u3 : Int32} {u5 : Int32} {m : Mem} {s44 : Int32 × Int32} {r : (Int32 × Int32) ⊕ (Int32)} {t : Option Value × Hp} (H : gbX12_isOn_44 u1 u2 u3 u5 m s44 = some r) (kI : ∀ s, r = .inl s → (fun s44 => V Γ d mX12_isOn 44 [(0, .ref T), (1, .int u1), (2, .int u2), (3, .int u3), (5, .int u5), (6, .int s44.1), (7, .int s44.2)] [] (hm T h m) t) s) (kE : ∀ e, r = .inr e → (fun e => V Γ d mX12_isOn 104 [(6, .int e)] [] (hm T h m) t) e) : V Γ d mX12_isOn 44 [(0, .ref T), (1, .int u1), (2, .int u2), (3, .int u3), (5, .int u5), (6, .int s44.1), (7, .int s44.2)] [] (hm T h m) t := by
  unfold gbX12_isOn_44 at H
  refine v_iload (q := 46) 6 dX12_isOn_44 rfl rfl ?_
  refine v_iload_n (q := 47) 2 dX12_isOn_46 rfl rfl rfl ?_
  refine v_icmp_ge (q1 := 104) (q2 := 50) dX12_isOn_47 (by decide) rfl (fun c4 => ?_) (fun c4 => ?_)
  · replace H := ip c4 H
    exact V.sub [5] rfl (kE s44.1 (Option.some.inj H).symm)
  · replace H := ine c4 H
    refine v_aload_n (q := 51) 0 dX12_isOn_50 rfl rfl rfl ?_
    refine v_iload_n (q := 52) 1 dX12_isOn_51 rfl rfl rfl ?_
    refine v_iload (q := 54) 6 dX12_isOn_52 rfl rfl ?_
    replace H := bs H; obtain ⟨x5, x5e, H⟩ := H
    refine u_callV1 (M' := mX12_opOf) (d' := 1) (rc := (RX12, TX12, 58)) (As := [.int u1, .int s44.2]) (st := []) (q := 57) oX12_opOf dX12_isOn_54 w1646 w1648 w0075 rfl rfl (RS.rc rs).1 (RS.rc rs).2 rfl (Nat.le_of_ble_eq_true rfl) (Nat.le_of_ble_eq_true rfl) (Nat.lt_of_lt_of_le (by decide) hd) rfl (sgX12_opOf (Nat.le_refl _) rs x5e) rfl ?_
    refine v_iload_n (q := 58) 3 dX12_isOn_57 rfl rfl rfl ?_
    refine v_if_eq (q1 := 65) (q2 := 61) dX12_isOn_58 (by decide) rfl (fun c6 => ?_) (fun c6 => ?_)
    · replace H := ip c6 H
      refine v_bipush (v := 7) (q := 67) dX12_isOn_65 (by decide) rfl ?_
      exact V.sub [0, 1, 2, 3, 4, 5, 6] rfl (sgjX12_isOn_67 hd rs H kI kE)
    · replace H := ine c6 H
      refine v_iconst (v := 5) (q := 62) dX12_isOn_61 (by decide) rfl ?_
      refine v_goto (q := 67) dX12_isOn_62 (by decide) ?_
      exact V.sub [0, 1, 2, 3, 4, 5, 6] rfl (sgjX12_isOn_67 hd rs H kI kE)
def gjX12_isOn_35 (v1 : Int32) (v2 : Int32) (v3 : Int32) (y0 : Int32) (m : Mem) : Option (Int32) :=
(lp (gbX12_isOn_44 v1 v2 v3 y0 m) FU (y0, (0 : Int32))).bind fun e12 =>
(bz e12).bind fun x13 =>
some x13
set_option maxRecDepth 20000 in
set_option maxHeartbeats 4000000 in
theorem sgjX12_isOn_35 {Γ : Gm} {d : Nat} (hd : 2 ≤ d) {T : Nat} {h : Hp} (rs : RS T h) {v1 : Int32} {v2 : Int32} {v3 : Int32} {y0 : Int32} {m : Mem} {r : Int32} (H : gjX12_isOn_35 v1 v2 v3 y0 m = some r) : V Γ d mX12_isOn 35 [(0, .ref T), (1, .int v1), (2, .int v2), (3, .int v3)] [.int y0] (hm T h m) (some (.int r), (hm T h m)) := by
  unfold gjX12_isOn_35 at H
  refine v_istore (L' := [(5, .int y0), (0, .ref T), (1, .int v1), (2, .int v2), (3, .int v3)]) (q := 37) dX12_isOn_35 (by decide) rfl rfl ?_
  refine v_iload (q := 39) 0 dX12_isOn_37 rfl rfl ?_
  refine v_istore (L' := [(6, .int y0), (5, .int y0), (0, .ref T), (1, .int v1), (2, .int v2), (3, .int v3)]) (q := 41) dX12_isOn_39 (by decide) rfl rfl ?_
  refine v_iconst (v := 0) (q := 42) dX12_isOn_41 (by decide) rfl ?_
  refine v_istore (L' := [(7, .int (0 : Int32)), (6, .int y0), (5, .int y0), (0, .ref T), (1, .int v1), (2, .int v2), (3, .int v3)]) (q := 44) dX12_isOn_42 (by decide) rfl rfl ?_
  replace H := bs H; obtain ⟨e12, e12L, H⟩ := H
  refine V.sub [3, 4, 5, 6, 2, 1, 0] rfl ?_
  refine lp_V (P := (fun s44 => V Γ d mX12_isOn 44 [(0, .ref T), (1, .int v1), (2, .int v2), (3, .int v3), (5, .int y0), (6, .int s44.1), (7, .int s44.2)] [] (hm T h m) (some (.int r), (hm T h m)))) (E := (fun e => V Γ d mX12_isOn 104 [(6, .int e)] [] (hm T h m) (some (.int r), (hm T h m)))) (fun s r hb kI kE => sgbX12_isOn_44 hd rs (s44 := s) (r := r) hb kI kE) FU (y0, (0 : Int32)) e12 e12L ?_
  refine v_iload (q := 106) 0 dX12_isOn_104 rfl rfl ?_
  replace H := bs H; obtain ⟨x13, x13e, H⟩ := H
  obtain ⟨x13q, x13z⟩ := bz_sp x13e
  refine v_topi x13q.symm ?_
  cases H
  exact v_zreturn rfl (by rw [x13q]; exact x13z) dX12_isOn_106
def gX12_isOn (m : Mem) (v1 : Int32) (v2 : Int32) (v3 : Int32) : Option (Int32) :=
(gX12_sortOf m v1).bind fun x1 =>
if v3 = 0 then (
if x1 = 0 then (
gjX12_isOn_35 v1 v2 v3 (1 : Int32) m) else (
gjX12_isOn_35 v1 v2 v3 (0 : Int32) m)) else (
if x1 = (2 : Int32) then (
gjX12_isOn_35 v1 v2 v3 (0 : Int32) m) else (
gjX12_isOn_35 v1 v2 v3 (1 : Int32) m))
set_option maxRecDepth 20000 in
set_option maxHeartbeats 4000000 in
theorem sgX12_isOn {Γ : Gm} {d : Nat} (hd : 2 ≤ d) {T : Nat} {h : Hp} (rs : RS T h) {m : Mem} {v1 : Int32} {v2 : Int32} {v3 : Int32} {r : Int32} (H : gX12_isOn m v1 v2 v3 = some r) : V Γ d mX12_isOn 0 [(0, .ref T), (1, .int v1), (2, .int v2), (3, .int v3)] [] (hm T h m) (some (.int r), (hm T h m)) := by
  unfold gX12_isOn at H
  refine v_aload_n (q := 1) 0 dX12_isOn_0 rfl rfl rfl ?_
  refine v_iload_n (q := 2) 1 dX12_isOn_1 rfl rfl rfl ?_
  replace H := bs H; obtain ⟨x1, x1e, H⟩ := H
  refine u_callV1 (M' := mX12_sortOf) (d' := 1) (rc := (RX12, TX12, 58)) (As := [.int v1]) (st := []) (q := 5) oX12_sortOf dX12_isOn_2 w1718 w1720 w0092 rfl rfl (RS.rc rs).1 (RS.rc rs).2 rfl (Nat.le_of_ble_eq_true rfl) (Nat.le_of_ble_eq_true rfl) (Nat.lt_of_lt_of_le (by decide) hd) rfl (sgX12_sortOf (Nat.le_refl _) rs x1e) rfl ?_
  refine v_istore (L' := [(4, .int x1), (0, .ref T), (1, .int v1), (2, .int v2), (3, .int v3)]) (q := 7) dX12_isOn_5 (by decide) rfl rfl ?_
  refine v_iload_n (q := 8) 4 dX12_isOn_7 rfl rfl rfl ?_
  refine v_if_eq (q1 := 25) (q2 := 11) dX12_isOn_8 (by decide) rfl (fun c2 => ?_) (fun c2 => ?_)
  · replace H := ip c2 H
    refine v_iload (q := 27) 0 dX12_isOn_25 rfl rfl ?_
    refine v_if_ne (q1 := 34) (q2 := 30) dX12_isOn_27 (by decide) rfl (fun c3 => ?_) (fun c3 => ?_)
    · replace H := ine c3 H
      refine v_iconst (v := 0) (q := 35) dX12_isOn_34 (by decide) rfl ?_
      exact V.sub [1, 2, 3, 4] rfl (sgjX12_isOn_35 hd rs H)
    · replace H := ip c3 H
      refine v_iconst (v := 1) (q := 31) dX12_isOn_30 (by decide) rfl ?_
      refine v_goto (q := 35) dX12_isOn_31 (by decide) ?_
      exact V.sub [1, 2, 3, 4] rfl (sgjX12_isOn_35 hd rs H)
  · replace H := ine c2 H
    refine v_iload (q := 13) 0 dX12_isOn_11 rfl rfl ?_
    refine v_iconst (v := 2) (q := 14) dX12_isOn_13 (by decide) rfl ?_
    refine v_icmp_eq (q1 := 21) (q2 := 17) dX12_isOn_14 (by decide) rfl (fun c14 => ?_) (fun c14 => ?_)
    · replace H := ip c14 H
      refine v_iconst (v := 0) (q := 22) dX12_isOn_21 (by decide) rfl ?_
      refine v_goto (q := 35) dX12_isOn_22 (by decide) ?_
      exact V.sub [1, 2, 3, 4] rfl (sgjX12_isOn_35 hd rs H)
    · replace H := ine c14 H
      refine v_iconst (v := 1) (q := 18) dX12_isOn_17 (by decide) rfl ?_
      refine v_goto (q := 35) dX12_isOn_18 (by decide) ?_
      exact V.sub [1, 2, 3, 4] rfl (sgjX12_isOn_35 hd rs H)
def mX12_canSoft : MI := (yX12_canSoft, cX12_canSoft, 3, some .boolean)
theorem oX12_canSoft : mOK mX12_canSoft 2 := ⟨by decide +kernel, by decide +kernel, by decide +kernel, by decide, w1729, w0150⟩
def gjX12_canSoft_25 (y0 : Int32) (m : Mem) : Option (Int32) :=
(bz y0).bind fun x3 =>
some x3
set_option maxRecDepth 20000 in
set_option maxHeartbeats 4000000 in
theorem sgjX12_canSoft_25 {Γ : Gm} {d : Nat} (hd : 3 ≤ d) {T : Nat} {h : Hp} (rs : RS T h) {y0 : Int32} {m : Mem} {r : Int32} (H : gjX12_canSoft_25 y0 m = some r) : V Γ d mX12_canSoft 25 [] [.int y0] (hm T h m) (some (.int r), (hm T h m)) := by
  unfold gjX12_canSoft_25 at H
  replace H := bs H; obtain ⟨x3, x3e, H⟩ := H
  obtain ⟨x3q, x3z⟩ := bz_sp x3e
  refine v_topi x3q.symm ?_
  cases H
  exact v_zreturn rfl (by rw [x3q]; exact x3z) dX12_canSoft_25
def gjX12_canSoft_24 (m : Mem) : Option (Int32) :=
gjX12_canSoft_25 (0 : Int32) m
set_option maxRecDepth 20000 in
set_option maxHeartbeats 4000000 in
theorem sgjX12_canSoft_24 {Γ : Gm} {d : Nat} (hd : 3 ≤ d) {T : Nat} {h : Hp} (rs : RS T h) {m : Mem} {r : Int32} (H : gjX12_canSoft_24 m = some r) : V Γ d mX12_canSoft 24 [] [] (hm T h m) (some (.int r), (hm T h m)) := by
  unfold gjX12_canSoft_24 at H
  refine v_iconst (v := 0) (q := 25) dX12_canSoft_24 (by decide) rfl ?_
  exact V.sub [] rfl (sgjX12_canSoft_25 hd rs H)
def gX12_canSoft (m : Mem) (v1 : Int32) (v2 : Int32) : Option (Int32) :=
(gX12_isOn m v1 v2 (1 : Int32)).bind fun x1 =>
if x1 = 0 then (
gjX12_canSoft_24 m) else (
(gX12_isOn m v1 v2 (0 : Int32)).bind fun x4 =>
if x4 = 0 then (
gjX12_canSoft_24 m) else (
gjX12_canSoft_25 (1 : Int32) m))
set_option maxRecDepth 20000 in
set_option maxHeartbeats 4000000 in
theorem sgX12_canSoft {Γ : Gm} {d : Nat} (hd : 3 ≤ d) {T : Nat} {h : Hp} (rs : RS T h) {m : Mem} {v1 : Int32} {v2 : Int32} {r : Int32} (H : gX12_canSoft m v1 v2 = some r) : V Γ d mX12_canSoft 0 [(0, .ref T), (1, .int v1), (2, .int v2)] [] (hm T h m) (some (.int r), (hm T h m)) := by
  unfold gX12_canSoft at H
  refine v_aload_n (q := 1) 0 dX12_canSoft_0 rfl rfl rfl ?_
  refine v_iload_n (q := 2) 1 dX12_canSoft_1 rfl rfl rfl ?_
  refine v_iload_n (q := 3) 2 dX12_canSoft_2 rfl rfl rfl ?_
  refine v_iconst (v := 1) (q := 4) dX12_canSoft_3 (by decide) rfl ?_
  replace H := bs H; obtain ⟨x1, x1e, H⟩ := H
  refine u_callV1 (M' := mX12_isOn) (d' := 2) (rc := (RX12, TX12, 58)) (As := [.int v1, .int v2, .int (1 : Int32)]) (st := []) (q := 7) oX12_isOn dX12_canSoft_4 w1722 w1724 w0093 rfl rfl (RS.rc rs).1 (RS.rc rs).2 rfl (Nat.le_of_ble_eq_true rfl) (Nat.le_of_ble_eq_true rfl) (Nat.lt_of_lt_of_le (by decide) hd) rfl (sgX12_isOn (Nat.le_refl _) rs x1e) rfl ?_
  refine v_if_eq (q1 := 24) (q2 := 10) dX12_canSoft_7 (by decide) rfl (fun c2 => ?_) (fun c2 => ?_)
  · replace H := ip c2 H
    exact V.sub [] rfl (sgjX12_canSoft_24 hd rs H)
  · replace H := ine c2 H
    refine v_aload_n (q := 11) 0 dX12_canSoft_10 rfl rfl rfl ?_
    refine v_iload_n (q := 12) 1 dX12_canSoft_11 rfl rfl rfl ?_
    refine v_iload_n (q := 13) 2 dX12_canSoft_12 rfl rfl rfl ?_
    refine v_iconst (v := 0) (q := 14) dX12_canSoft_13 (by decide) rfl ?_
    replace H := bs H; obtain ⟨x4, x4e, H⟩ := H
    refine u_callV1 (M' := mX12_isOn) (d' := 2) (rc := (RX12, TX12, 58)) (As := [.int v1, .int v2, .int (0 : Int32)]) (st := []) (q := 17) oX12_isOn dX12_canSoft_14 w1722 w1724 w0093 rfl rfl (RS.rc rs).1 (RS.rc rs).2 rfl (Nat.le_of_ble_eq_true rfl) (Nat.le_of_ble_eq_true rfl) (Nat.lt_of_lt_of_le (by decide) hd) rfl (sgX12_isOn (Nat.le_refl _) rs x4e) rfl ?_
    refine v_if_eq (q1 := 24) (q2 := 20) dX12_canSoft_17 (by decide) rfl (fun c5 => ?_) (fun c5 => ?_)
    · replace H := ip c5 H
      exact V.sub [] rfl (sgjX12_canSoft_24 hd rs H)
    · replace H := ine c5 H
      refine v_iconst (v := 1) (q := 21) dX12_canSoft_20 (by decide) rfl ?_
      refine v_goto (q := 25) dX12_canSoft_21 (by decide) ?_
      exact V.sub [] rfl (sgjX12_canSoft_25 hd rs H)
def mX12_use : MI := (yX12_use, cX12_use, 5, none)
theorem oX12_use : mOK mX12_use 3 := ⟨by decide +kernel, by decide +kernel, by decide +kernel, by decide, w1717, w0150⟩
def gjX12_use_157 (m : Mem) : Option (Mem) :=
some m
set_option maxRecDepth 20000 in
set_option maxHeartbeats 4000000 in
theorem sgjX12_use_157 {Γ : Gm} {d : Nat} (hd : 5 ≤ d) {T : Nat} {h : Hp} (rs : RS T h) {m : Mem} {r : Mem} (H : gjX12_use_157 m = some r) : V Γ d mX12_use 157 [] [] (hm T h m) (none, (hm T h r)) := by
  unfold gjX12_use_157 at H
  cases H
  exact v_return rfl dX12_use_157
def gjX12_use_118 (v1 : Int32) (v2 : Int32) (v3 : Int32) (m : Mem) : Option (Mem) :=
(rd m 1 9685 ((256 : Int32) + v3)).bind fun x14 =>
if (x14 &&& (2 : Int32)) ≤ 0 then (
gjX12_use_157 m) else (
(rd m 1 9685 ((256 : Int32) + v3)).bind fun x16 =>
if (x16 &&& (8 : Int32)) ≤ 0 then (
gjX12_use_157 m) else (
(gX12_reportOnce m (5 : Int32) v1 v2 v3).bind fun x18 =>
gjX12_use_157 x18))
set_option maxRecDepth 20000 in
set_option maxHeartbeats 4000000 in
theorem sgjX12_use_118 {Γ : Gm} {d : Nat} (hd : 5 ≤ d) {T : Nat} {h : Hp} (rs : RS T h) {v1 : Int32} {v2 : Int32} {v3 : Int32} {m : Mem} {r : Mem} (H : gjX12_use_118 v1 v2 v3 m = some r) : V Γ d mX12_use 118 [(0, .ref T), (1, .int v1), (2, .int v2), (3, .int v3)] [] (hm T h m) (none, (hm T h r)) := by
  unfold gjX12_use_118 at H
  refine v_aload_n (q := 119) 0 dX12_use_118 rfl rfl rfl ?_
  refine ur_arr (q := 122) rs rt0 dX12_use_119 w1356 (Nat.le_of_ble_eq_true rfl) rfl rfl ?_
  refine v_sipush (v := 256) (q := 125) dX12_use_122 (by decide) rfl ?_
  refine v_iload_n (q := 126) 3 dX12_use_125 rfl rfl rfl ?_
  refine v_iadd (q := 127) dX12_use_126 rfl ?_
  replace H := bs H; obtain ⟨x14, x14e, H⟩ := H
  refine ur_rd (q := 128) rs rt0 x14e dX12_use_127 rfl ?_
  refine v_iconst (v := 2) (q := 129) dX12_use_128 (by decide) rfl ?_
  refine v_iand (q := 130) dX12_use_129 rfl ?_
  refine v_if_le (q1 := 157) (q2 := 133) dX12_use_130 (by decide) rfl (fun c15 => ?_) (fun c15 => ?_)
  · replace H := ip c15 H
    exact V.sub [] rfl (sgjX12_use_157 hd rs H)
  · replace H := ine c15 H
    refine v_aload_n (q := 134) 0 dX12_use_133 rfl rfl rfl ?_
    refine ur_arr (q := 137) rs rt0 dX12_use_134 w1356 (Nat.le_of_ble_eq_true rfl) rfl rfl ?_
    refine v_sipush (v := 256) (q := 140) dX12_use_137 (by decide) rfl ?_
    refine v_iload_n (q := 141) 3 dX12_use_140 rfl rfl rfl ?_
    refine v_iadd (q := 142) dX12_use_141 rfl ?_
    replace H := bs H; obtain ⟨x16, x16e, H⟩ := H
    refine ur_rd (q := 143) rs rt0 x16e dX12_use_142 rfl ?_
    refine v_bipush (v := 8) (q := 145) dX12_use_143 (by decide) rfl ?_
    refine v_iand (q := 146) dX12_use_145 rfl ?_
    refine v_if_le (q1 := 157) (q2 := 149) dX12_use_146 (by decide) rfl (fun c17 => ?_) (fun c17 => ?_)
    · replace H := ip c17 H
      exact V.sub [] rfl (sgjX12_use_157 hd rs H)
    · replace H := ine c17 H
      refine v_aload_n (q := 150) 0 dX12_use_149 rfl rfl rfl ?_
      refine v_iconst (v := 5) (q := 151) dX12_use_150 (by decide) rfl ?_
      refine v_iload_n (q := 152) 1 dX12_use_151 rfl rfl rfl ?_
      refine v_iload_n (q := 153) 2 dX12_use_152 rfl rfl rfl ?_
      refine v_iload_n (q := 154) 3 dX12_use_153 rfl rfl rfl ?_
      replace H := bs H; obtain ⟨x18, x18e, H⟩ := H
      refine u_callV0 (M' := mX12_reportOnce) (d' := 4) (rc := (RX12, TX12, 58)) (As := [.int (5 : Int32), .int v1, .int v2, .int v3]) (st := []) (q := 157) oX12_reportOnce dX12_use_154 w1685 w1687 w0084 rfl rfl (RS.rc rs).1 (RS.rc rs).2 rfl (Nat.le_of_ble_eq_true rfl) (Nat.le_of_ble_eq_true rfl) (Nat.lt_of_lt_of_le (by decide) hd) rfl (sgX12_reportOnce (Nat.le_refl _) rs x18e) rfl ?_
      exact V.sub [] rfl (sgjX12_use_157 hd rs H)
def gjX12_use_61 (v1 : Int32) (v2 : Int32) (v3 : Int32) (y0 : Int32) (y1 : Int32) (y2 : Int32) (m : Mem) : Option (Mem) :=
(some (y2 ||| (y1 ||| y0))).bind fun x9 =>
(rd m 1 9685 ((256 : Int32) + v3)).bind fun x10 =>
(wr m 1 9685 ((256 : Int32) + v3) (x10 ||| x9)).bind fun m11 =>
(rd m11 1 9685 ((256 : Int32) + v3)).bind fun x12 =>
if (x12 &&& (1 : Int32)) ≤ 0 then (
gjX12_use_118 v1 v2 v3 m11) else (
(rd m11 1 9685 ((256 : Int32) + v3)).bind fun x19 =>
if (x19 &&& (4 : Int32)) ≤ 0 then (
gjX12_use_118 v1 v2 v3 m11) else (
(gX12_reportOnce m11 (4 : Int32) v1 v2 v3).bind fun x21 =>
gjX12_use_118 v1 v2 v3 x21))
set_option maxRecDepth 20000 in
set_option maxHeartbeats 4000000 in
theorem sgjX12_use_61 {Γ : Gm} {d : Nat} (hd : 5 ≤ d) {T : Nat} {h : Hp} (rs : RS T h) {v1 : Int32} {v2 : Int32} {v3 : Int32} {y0 : Int32} {y1 : Int32} {y2 : Int32} {m : Mem} {r : Mem} (H : gjX12_use_61 v1 v2 v3 y0 y1 y2 m = some r) : V Γ d mX12_use 61 [(0, .ref T), (1, .int v1), (2, .int v2), (3, .int v3)] [.int y0, .int y1, .int y2] (hm T h m) (none, (hm T h r)) := by
  unfold gjX12_use_61 at H
  refine v_ior (q := 62) dX12_use_61 rfl ?_
  refine v_ior (q := 63) dX12_use_62 rfl ?_
  replace H := bs H; obtain ⟨x9, x9e, H⟩ := H
  refine v_topi (Option.some.inj x9e) ?_
  refine v_istore (L' := [(4, .int x9), (0, .ref T), (1, .int v1), (2, .int v2), (3, .int v3)]) (q := 65) dX12_use_63 (by decide) rfl rfl ?_
  refine v_aload_n (q := 66) 1 dX12_use_65 rfl rfl rfl ?_
  refine ur_arr (q := 69) rs rt0 dX12_use_66 w1356 (Nat.le_of_ble_eq_true rfl) rfl rfl ?_
  refine v_sipush (v := 256) (q := 72) dX12_use_69 (by decide) rfl ?_
  refine v_iload_n (q := 73) 4 dX12_use_72 rfl rfl rfl ?_
  refine v_iadd (q := 74) dX12_use_73 rfl ?_
  refine v_dup2 (q := 75) dX12_use_74 rfl rfl rfl ?_
  replace H := bs H; obtain ⟨x10, x10e, H⟩ := H
  refine ur_rd (q := 76) rs rt0 x10e dX12_use_75 rfl ?_
  refine v_iload (q := 78) 0 dX12_use_76 rfl rfl ?_
  refine v_ior (q := 79) dX12_use_78 rfl ?_
  replace H := bs H; obtain ⟨m11, m11e, H⟩ := H
  refine ur_wr (q := 80) rs rt0 m11e dX12_use_79 rfl ?_
  refine v_aload_n (q := 81) 1 dX12_use_80 rfl rfl rfl ?_
  refine ur_arr (q := 84) rs rt0 dX12_use_81 w1356 (Nat.le_of_ble_eq_true rfl) rfl rfl ?_
  refine v_sipush (v := 256) (q := 87) dX12_use_84 (by decide) rfl ?_
  refine v_iload_n (q := 88) 4 dX12_use_87 rfl rfl rfl ?_
  refine v_iadd (q := 89) dX12_use_88 rfl ?_
  replace H := bs H; obtain ⟨x12, x12e, H⟩ := H
  refine ur_rd (q := 90) rs rt0 x12e dX12_use_89 rfl ?_
  refine v_iconst (v := 1) (q := 91) dX12_use_90 (by decide) rfl ?_
  refine v_iand (q := 92) dX12_use_91 rfl ?_
  refine v_if_le (q1 := 118) (q2 := 95) dX12_use_92 (by decide) rfl (fun c13 => ?_) (fun c13 => ?_)
  · replace H := ip c13 H
    exact V.sub [1, 2, 3, 4] rfl (sgjX12_use_118 hd rs H)
  · replace H := ine c13 H
    refine v_aload_n (q := 96) 1 dX12_use_95 rfl rfl rfl ?_
    refine ur_arr (q := 99) rs rt0 dX12_use_96 w1356 (Nat.le_of_ble_eq_true rfl) rfl rfl ?_
    refine v_sipush (v := 256) (q := 102) dX12_use_99 (by decide) rfl ?_
    refine v_iload_n (q := 103) 4 dX12_use_102 rfl rfl rfl ?_
    refine v_iadd (q := 104) dX12_use_103 rfl ?_
    replace H := bs H; obtain ⟨x19, x19e, H⟩ := H
    refine ur_rd (q := 105) rs rt0 x19e dX12_use_104 rfl ?_
    refine v_iconst (v := 4) (q := 106) dX12_use_105 (by decide) rfl ?_
    refine v_iand (q := 107) dX12_use_106 rfl ?_
    refine v_if_le (q1 := 118) (q2 := 110) dX12_use_107 (by decide) rfl (fun c20 => ?_) (fun c20 => ?_)
    · replace H := ip c20 H
      exact V.sub [1, 2, 3, 4] rfl (sgjX12_use_118 hd rs H)
    · replace H := ine c20 H
      refine v_aload_n (q := 111) 1 dX12_use_110 rfl rfl rfl ?_
      refine v_iconst (v := 4) (q := 112) dX12_use_111 (by decide) rfl ?_
      refine v_iload_n (q := 113) 2 dX12_use_112 rfl rfl rfl ?_
      refine v_iload_n (q := 114) 3 dX12_use_113 rfl rfl rfl ?_
      refine v_iload_n (q := 115) 4 dX12_use_114 rfl rfl rfl ?_
      replace H := bs H; obtain ⟨x21, x21e, H⟩ := H
      refine u_callV0 (M' := mX12_reportOnce) (d' := 4) (rc := (RX12, TX12, 58)) (As := [.int (4 : Int32), .int v1, .int v2, .int v3]) (st := []) (q := 118) oX12_reportOnce dX12_use_115 w1685 w1687 w0084 rfl rfl (RS.rc rs).1 (RS.rc rs).2 rfl (Nat.le_of_ble_eq_true rfl) (Nat.le_of_ble_eq_true rfl) (Nat.lt_of_lt_of_le (by decide) hd) rfl (sgX12_reportOnce (Nat.le_refl _) rs x21e) rfl ?_
      exact V.sub [1, 2, 3, 4] rfl (sgjX12_use_118 hd rs H)
def gjX12_use_46 (v1 : Int32) (v2 : Int32) (v3 : Int32) (y0 : Int32) (y1 : Int32) (m : Mem) : Option (Mem) :=
(gX12_canSoft m v1 v2).bind fun x7 =>
if x7 = 0 then (
gjX12_use_61 v1 v2 v3 (0 : Int32) y0 y1 m) else (
gjX12_use_61 v1 v2 v3 (8 : Int32) y0 y1 m)
set_option maxRecDepth 20000 in
set_option maxHeartbeats 4000000 in
theorem sgjX12_use_46 {Γ : Gm} {d : Nat} (hd : 5 ≤ d) {T : Nat} {h : Hp} (rs : RS T h) {v1 : Int32} {v2 : Int32} {v3 : Int32} {y0 : Int32} {y1 : Int32} {m : Mem} {r : Mem} (H : gjX12_use_46 v1 v2 v3 y0 y1 m = some r) : V Γ d mX12_use 46 [(0, .ref T), (1, .int v1), (2, .int v2), (3, .int v3)] [.int y0, .int y1] (hm T h m) (none, (hm T h r)) := by
  unfold gjX12_use_46 at H
  refine v_aload_n (q := 47) 0 dX12_use_46 rfl rfl rfl ?_
  refine v_iload_n (q := 48) 1 dX12_use_47 rfl rfl rfl ?_
  refine v_iload_n (q := 49) 2 dX12_use_48 rfl rfl rfl ?_
  replace H := bs H; obtain ⟨x7, x7e, H⟩ := H
  refine u_callV1 (M' := mX12_canSoft) (d' := 3) (rc := (RX12, TX12, 58)) (As := [.int v1, .int v2]) (st := [.int y0, .int y1]) (q := 52) oX12_canSoft dX12_use_49 w1726 w1728 w0094 rfl rfl (RS.rc rs).1 (RS.rc rs).2 rfl (Nat.le_of_ble_eq_true rfl) (Nat.le_of_ble_eq_true rfl) (Nat.lt_of_lt_of_le (by decide) hd) rfl (sgX12_canSoft (Nat.le_refl _) rs x7e) rfl ?_
  refine v_if_eq (q1 := 60) (q2 := 55) dX12_use_52 (by decide) rfl (fun c8 => ?_) (fun c8 => ?_)
  · replace H := ip c8 H
    refine v_iconst (v := 0) (q := 61) dX12_use_60 (by decide) rfl ?_
    exact V.sub [0, 1, 2, 3] rfl (sgjX12_use_61 hd rs H)
  · replace H := ine c8 H
    refine v_bipush (v := 8) (q := 57) dX12_use_55 (by decide) rfl ?_
    refine v_goto (q := 61) dX12_use_57 (by decide) ?_
    exact V.sub [0, 1, 2, 3] rfl (sgjX12_use_61 hd rs H)
def gjX12_use_27 (v1 : Int32) (v2 : Int32) (v3 : Int32) (y0 : Int32) (m : Mem) : Option (Mem) :=
(gX12_isOn m v1 v2 (1 : Int32)).bind fun x5 =>
if x5 = 0 then (
gjX12_use_46 v1 v2 v3 (0 : Int32) y0 m) else (
gjX12_use_46 v1 v2 v3 (4 : Int32) y0 m)
set_option maxRecDepth 20000 in
set_option maxHeartbeats 4000000 in
theorem sgjX12_use_27 {Γ : Gm} {d : Nat} (hd : 5 ≤ d) {T : Nat} {h : Hp} (rs : RS T h) {v1 : Int32} {v2 : Int32} {v3 : Int32} {y0 : Int32} {m : Mem} {r : Mem} (H : gjX12_use_27 v1 v2 v3 y0 m = some r) : V Γ d mX12_use 27 [(0, .ref T), (1, .int v1), (2, .int v2), (3, .int v3)] [.int y0] (hm T h m) (none, (hm T h r)) := by
  unfold gjX12_use_27 at H
  refine v_istore (L' := [(4, .int y0), (0, .ref T), (1, .int v1), (2, .int v2), (3, .int v3)]) (q := 29) dX12_use_27 (by decide) rfl rfl ?_
  refine v_iload (q := 31) 0 dX12_use_29 rfl rfl ?_
  refine v_aload_n (q := 32) 1 dX12_use_31 rfl rfl rfl ?_
  refine v_iload_n (q := 33) 2 dX12_use_32 rfl rfl rfl ?_
  refine v_iload_n (q := 34) 3 dX12_use_33 rfl rfl rfl ?_
  refine v_iconst (v := 1) (q := 35) dX12_use_34 (by decide) rfl ?_
  replace H := bs H; obtain ⟨x5, x5e, H⟩ := H
  refine u_callV1 (M' := mX12_isOn) (d' := 2) (rc := (RX12, TX12, 58)) (As := [.int v1, .int v2, .int (1 : Int32)]) (st := [.int y0]) (q := 38) oX12_isOn dX12_use_35 w1722 w1724 w0093 rfl rfl (RS.rc rs).1 (RS.rc rs).2 rfl (Nat.le_of_ble_eq_true rfl) (Nat.le_of_ble_eq_true rfl) (Nat.lt_of_lt_of_le (by decide) hd) rfl (sgX12_isOn (Nat.le_refl _) rs x5e) rfl ?_
  refine v_if_eq (q1 := 45) (q2 := 41) dX12_use_38 (by decide) rfl (fun c6 => ?_) (fun c6 => ?_)
  · replace H := ip c6 H
    refine v_iconst (v := 0) (q := 46) dX12_use_45 (by decide) rfl ?_
    exact V.sub [1, 2, 3, 4] rfl (sgjX12_use_46 hd rs H)
  · replace H := ine c6 H
    refine v_iconst (v := 4) (q := 42) dX12_use_41 (by decide) rfl ?_
    refine v_goto (q := 46) dX12_use_42 (by decide) ?_
    exact V.sub [1, 2, 3, 4] rfl (sgjX12_use_46 hd rs H)
def gX12_use (m : Mem) (v1 : Int32) (v2 : Int32) (v3 : Int32) : Option (Mem) :=
(gX12_sortOf m v1).bind fun x1 =>
if x1 = (2 : Int32) then (
gjX12_use_27 v1 v2 v3 (1 : Int32) m) else (
(gX12_sortOf m v1).bind fun x3 =>
if x3 = (1 : Int32) then (
gjX12_use_27 v1 v2 v3 (2 : Int32) m) else (
gjX12_use_27 v1 v2 v3 (0 : Int32) m))
set_option maxRecDepth 20000 in
set_option maxHeartbeats 4000000 in
theorem sgX12_use {Γ : Gm} {d : Nat} (hd : 5 ≤ d) {T : Nat} {h : Hp} (rs : RS T h) {m : Mem} {v1 : Int32} {v2 : Int32} {v3 : Int32} {r : Mem} (H : gX12_use m v1 v2 v3 = some r) : V Γ d mX12_use 0 [(0, .ref T), (1, .int v1), (2, .int v2), (3, .int v3)] [] (hm T h m) (none, (hm T h r)) := by
  unfold gX12_use at H
  refine v_aload_n (q := 1) 0 dX12_use_0 rfl rfl rfl ?_
  refine v_iload_n (q := 2) 1 dX12_use_1 rfl rfl rfl ?_
  replace H := bs H; obtain ⟨x1, x1e, H⟩ := H
  refine u_callV1 (M' := mX12_sortOf) (d' := 1) (rc := (RX12, TX12, 58)) (As := [.int v1]) (st := []) (q := 5) oX12_sortOf dX12_use_2 w1718 w1720 w0092 rfl rfl (RS.rc rs).1 (RS.rc rs).2 rfl (Nat.le_of_ble_eq_true rfl) (Nat.le_of_ble_eq_true rfl) (Nat.lt_of_lt_of_le (by decide) hd) rfl (sgX12_sortOf (Nat.le_refl _) rs x1e) rfl ?_
  refine v_iconst (v := 2) (q := 6) dX12_use_5 (by decide) rfl ?_
  refine v_icmp_ne (q1 := 13) (q2 := 9) dX12_use_6 (by decide) rfl (fun c2 => ?_) (fun c2 => ?_)
  · replace H := ine c2 H
    refine v_aload_n (q := 14) 0 dX12_use_13 rfl rfl rfl ?_
    refine v_iload_n (q := 15) 1 dX12_use_14 rfl rfl rfl ?_
    replace H := bs H; obtain ⟨x3, x3e, H⟩ := H
    refine u_callV1 (M' := mX12_sortOf) (d' := 1) (rc := (RX12, TX12, 58)) (As := [.int v1]) (st := []) (q := 18) oX12_sortOf dX12_use_15 w1718 w1720 w0092 rfl rfl (RS.rc rs).1 (RS.rc rs).2 rfl (Nat.le_of_ble_eq_true rfl) (Nat.le_of_ble_eq_true rfl) (Nat.lt_of_lt_of_le (by decide) hd) rfl (sgX12_sortOf (Nat.le_refl _) rs x3e) rfl ?_
    refine v_iconst (v := 1) (q := 19) dX12_use_18 (by decide) rfl ?_
    refine v_icmp_ne (q1 := 26) (q2 := 22) dX12_use_19 (by decide) rfl (fun c4 => ?_) (fun c4 => ?_)
    · replace H := ine c4 H
      refine v_iconst (v := 0) (q := 27) dX12_use_26 (by decide) rfl ?_
      exact V.sub [0, 1, 2, 3] rfl (sgjX12_use_27 hd rs H)
    · replace H := ip c4 H
      refine v_iconst (v := 2) (q := 23) dX12_use_22 (by decide) rfl ?_
      refine v_goto (q := 27) dX12_use_23 (by decide) ?_
      exact V.sub [0, 1, 2, 3] rfl (sgjX12_use_27 hd rs H)
  · replace H := ip c2 H
    refine v_iconst (v := 1) (q := 10) dX12_use_9 (by decide) rfl ?_
    refine v_goto (q := 27) dX12_use_10 (by decide) ?_
    exact V.sub [0, 1, 2, 3] rfl (sgjX12_use_27 hd rs H)
def mX12_lookUnsafe : MI := (yX12_lookUnsafe, cX12_lookUnsafe, 9, none)
theorem oX12_lookUnsafe : mOK mX12_lookUnsafe 5 := ⟨by decide +kernel, by decide +kernel, by decide +kernel, by decide, w1733, w0150⟩
def gjX12_lookUnsafe_100 (u1 : Int32) (u2 : Int32) (u3 : Int32) (u4 : Int32) (u5 : Int32) (u6 : Int32) (v7 : Int32) (m : Mem) : Option ((Int32 × Mem) ⊕ (Mem)) :=
(some (v7 + (1 : Int32))).bind fun x4 =>
some (.inl (x4, m))
set_option maxRecDepth 20000 in
set_option maxHeartbeats 4000000 in
theorem sgjX12_lookUnsafe_100 {Γ : Gm} {d : Nat} (hd : 4 ≤ d) {T : Nat} {h : Hp} (rs : RS T h) {u1 : Int32} {u2 : Int32} {u3 : Int32} {u4 : Int32} {u5 : Int32} {u6 : Int32} {v7 : Int32} {m : Mem} {r : (Int32 × Mem) ⊕ (Mem)} {t : Option Value × Hp} (H : gjX12_lookUnsafe_100 u1 u2 u3 u4 u5 u6 v7 m = some r) (kI : ∀ s, r = .inl s → (fun s13 => V Γ d mX12_lookUnsafe 13 [(0, .ref T), (1, .int u1), (2, .int u2), (3, .int u3), (4, .int u4), (5, .int u5), (6, .int u6), (7, .int s13.1)] [] (hm T h s13.2) t) s) (kE : ∀ e, r = .inr e → (fun e => V Γ d mX12_lookUnsafe 106 [(0, .ref T), (1, .int u1), (2, .int u2), (3, .int u3), (4, .int u4), (5, .int u5), (6, .int u6)] [] (hm T h e) t) e) : V Γ d mX12_lookUnsafe 100 [(0, .ref T), (1, .int u1), (2, .int u2), (3, .int u3), (4, .int u4), (5, .int u5), (6, .int u6), (7, .int v7)] [] (hm T h m) t := by
  unfold gjX12_lookUnsafe_100 at H
  replace H := bs H; obtain ⟨x4, x4e, H⟩ := H
  refine v_iinc (v := x4) (L' := [(7, .int x4), (0, .ref T), (1, .int u1), (2, .int u2), (3, .int u3), (4, .int u4), (5, .int u5), (6, .int u6)]) (q := 103) 7 dX12_lookUnsafe_100 rfl (Option.some.inj x4e) (by decide) rfl rfl ?_
  refine v_goto (q := 13) dX12_lookUnsafe_103 (by decide) ?_
  exact V.sub [1, 2, 3, 4, 5, 6, 7, 0] rfl (kI (x4, m) (Option.some.inj H).symm)
def gbX12_lookUnsafe_13 (u1 : Int32) (u2 : Int32) (u3 : Int32) (u4 : Int32) (u5 : Int32) (u6 : Int32) (s13 : Int32 × Mem) : Option ((Int32 × Mem) ⊕ (Mem)) :=
if (16 : Int32) ≤ s13.1 then (
some (.inr s13.2)) else (
if u6 = s13.1 then (
gjX12_lookUnsafe_100 u1 u2 u3 u4 u5 u6 s13.1 s13.2) else (
(rd s13.2 1 9685 ((256 : Int32) + u6)).bind fun x5 =>
if (x5 &&& u4) = 0 then (
gjX12_lookUnsafe_100 u1 u2 u3 u4 u5 u6 s13.1 s13.2) else (
(rd s13.2 1 9685 ((256 : Int32) + s13.1)).bind fun x7 =>
if (x7 &&& u5) = 0 then (
gjX12_lookUnsafe_100 u1 u2 u3 u4 u5 u6 s13.1 s13.2) else (
(gX12_isReported s13.2 u3 u6 s13.1).bind fun x9 =>
if x9 = 0 then (
(gX12_layWay s13.2 u6 s13.1).bind fun x11 =>
if x11.1 ≤ 0 then (
gjX12_lookUnsafe_100 u1 u2 u3 u4 u5 u6 s13.1 x11.2) else (
(gX12_report x11.2 u3 u1 u2 x11.1).bind fun x13 =>
gjX12_lookUnsafe_100 u1 u2 u3 u4 u5 u6 s13.1 x13)) else (
gjX12_lookUnsafe_100 u1 u2 u3 u4 u5 u6 s13.1 s13.2)))))
set_option maxRecDepth 20000 in
set_option maxHeartbeats 4000000 in
theorem sgbX12_lookUnsafe_13 {Γ : Gm} {d : Nat} (hd : 4 ≤ d) {T : Nat} {h : Hp} (rs : RS T h) {u1 : Int32} {u2 : Int32} {u3 : Int32} {u4 : Int32} {u5 : Int32} {u6 : Int32} {s13 : Int32 × Mem} {r : (Int32 × Mem) ⊕ (Mem)} {t : Option Value × Hp} (H : gbX12_lookUnsafe_13 u1 u2 u3 u4 u5 u6 s13 = some r) (kI : ∀ s, r = .inl s → (fun s13 => V Γ d mX12_lookUnsafe 13 [(0, .ref T), (1, .int u1), (2, .int u2), (3, .int u3), (4, .int u4), (5, .int u5), (6, .int u6), (7, .int s13.1)] [] (hm T h s13.2) t) s) (kE : ∀ e, r = .inr e → (fun e => V Γ d mX12_lookUnsafe 106 [(0, .ref T), (1, .int u1), (2, .int u2), (3, .int u3), (4, .int u4), (5, .int u5), (6, .int u6)] [] (hm T h e) t) e) : V Γ d mX12_lookUnsafe 13 [(0, .ref T), (1, .int u1), (2, .int u2), (3, .int u3), (4, .int u4), (5, .int u5), (6, .int u6), (7, .int s13.1)] [] (hm T h s13.2) t := by
  unfold gbX12_lookUnsafe_13 at H
  refine v_iload (q := 15) 7 dX12_lookUnsafe_13 rfl rfl ?_
  refine v_bipush (v := 16) (q := 17) dX12_lookUnsafe_15 (by decide) rfl ?_
  refine v_icmp_ge (q1 := 106) (q2 := 20) dX12_lookUnsafe_17 (by decide) rfl (fun c2 => ?_) (fun c2 => ?_)
  · replace H := ip c2 H
    exact V.sub [0, 1, 2, 3, 4, 5, 6] rfl (kE s13.2 (Option.some.inj H).symm)
  · replace H := ine c2 H
    refine v_iload (q := 22) 6 dX12_lookUnsafe_20 rfl rfl ?_
    refine v_iload (q := 24) 7 dX12_lookUnsafe_22 rfl rfl ?_
    refine v_icmp_eq (q1 := 100) (q2 := 27) dX12_lookUnsafe_24 (by decide) rfl (fun c3 => ?_) (fun c3 => ?_)
    · replace H := ip c3 H
      exact V.sub [0, 1, 2, 3, 4, 5, 6, 7] rfl (sgjX12_lookUnsafe_100 hd rs H kI kE)
    · replace H := ine c3 H
      refine v_aload_n (q := 28) 0 dX12_lookUnsafe_27 rfl rfl rfl ?_
      refine ur_arr (q := 31) rs rt0 dX12_lookUnsafe_28 w1356 (Nat.le_of_ble_eq_true rfl) rfl rfl ?_
      refine v_sipush (v := 256) (q := 34) dX12_lookUnsafe_31 (by decide) rfl ?_
      refine v_iload (q := 36) 6 dX12_lookUnsafe_34 rfl rfl ?_
      refine v_iadd (q := 37) dX12_lookUnsafe_36 rfl ?_
      replace H := bs H; obtain ⟨x5, x5e, H⟩ := H
      refine ur_rd (q := 38) rs rt0 x5e dX12_lookUnsafe_37 rfl ?_
      refine v_iload (q := 40) 4 dX12_lookUnsafe_38 rfl rfl ?_
      refine v_iand (q := 41) dX12_lookUnsafe_40 rfl ?_
      refine v_if_eq (q1 := 100) (q2 := 44) dX12_lookUnsafe_41 (by decide) rfl (fun c6 => ?_) (fun c6 => ?_)
      · replace H := ip c6 H
        exact V.sub [0, 1, 2, 3, 4, 5, 6, 7] rfl (sgjX12_lookUnsafe_100 hd rs H kI kE)
      · replace H := ine c6 H
        refine v_aload_n (q := 45) 0 dX12_lookUnsafe_44 rfl rfl rfl ?_
        refine ur_arr (q := 48) rs rt0 dX12_lookUnsafe_45 w1356 (Nat.le_of_ble_eq_true rfl) rfl rfl ?_
        refine v_sipush (v := 256) (q := 51) dX12_lookUnsafe_48 (by decide) rfl ?_
        refine v_iload (q := 53) 7 dX12_lookUnsafe_51 rfl rfl ?_
        refine v_iadd (q := 54) dX12_lookUnsafe_53 rfl ?_
        replace H := bs H; obtain ⟨x7, x7e, H⟩ := H
        refine ur_rd (q := 55) rs rt0 x7e dX12_lookUnsafe_54 rfl ?_
        refine v_iload (q := 57) 5 dX12_lookUnsafe_55 rfl rfl ?_
        refine v_iand (q := 58) dX12_lookUnsafe_57 rfl ?_
        refine v_if_eq (q1 := 100) (q2 := 61) dX12_lookUnsafe_58 (by decide) rfl (fun c8 => ?_) (fun c8 => ?_)
        · replace H := ip c8 H
          exact V.sub [0, 1, 2, 3, 4, 5, 6, 7] rfl (sgjX12_lookUnsafe_100 hd rs H kI kE)
        · replace H := ine c8 H
          refine v_aload_n (q := 62) 0 dX12_lookUnsafe_61 rfl rfl rfl ?_
          refine v_iload_n (q := 63) 3 dX12_lookUnsafe_62 rfl rfl rfl ?_
          refine v_iload (q := 65) 6 dX12_lookUnsafe_63 rfl rfl ?_
          refine v_iload (q := 67) 7 dX12_lookUnsafe_65 rfl rfl ?_
          replace H := bs H; obtain ⟨x9, x9e, H⟩ := H
          refine u_callV1 (M' := mX12_isReported) (d' := 3) (rc := (RX12, TX12, 58)) (As := [.int u3, .int u6, .int s13.1]) (st := []) (q := 70) oX12_isReported dX12_lookUnsafe_67 w1689 w1691 w0085 rfl rfl (RS.rc rs).1 (RS.rc rs).2 rfl (Nat.le_of_ble_eq_true rfl) (Nat.le_of_ble_eq_true rfl) (Nat.lt_of_lt_of_le (by decide) hd) rfl (sgX12_isReported (Nat.le_refl _) rs x9e) rfl ?_
          refine v_if_eq (q1 := 76) (q2 := 73) dX12_lookUnsafe_70 (by decide) rfl (fun c10 => ?_) (fun c10 => ?_)
          · replace H := ip c10 H
            refine v_aload_n (q := 77) 0 dX12_lookUnsafe_76 rfl rfl rfl ?_
            refine v_iload (q := 79) 6 dX12_lookUnsafe_77 rfl rfl ?_
            refine v_iload (q := 81) 7 dX12_lookUnsafe_79 rfl rfl ?_
            replace H := bs H; obtain ⟨x11, x11e, H⟩ := H
            refine u_callV1 (M' := mX12_layWay) (d' := 2) (rc := (RX12, TX12, 58)) (As := [.int u6, .int s13.1]) (st := []) (q := 84) oX12_layWay dX12_lookUnsafe_81 w1709 w1711 w0090 rfl rfl (RS.rc rs).1 (RS.rc rs).2 rfl (Nat.le_of_ble_eq_true rfl) (Nat.le_of_ble_eq_true rfl) (Nat.lt_of_lt_of_le (by decide) hd) rfl (sgX12_layWay (Nat.le_refl _) rs x11e) rfl ?_
            refine v_istore (L' := [(8, .int x11.1), (0, .ref T), (1, .int u1), (2, .int u2), (3, .int u3), (4, .int u4), (5, .int u5), (6, .int u6), (7, .int s13.1)]) (q := 86) dX12_lookUnsafe_84 (by decide) rfl rfl ?_
            refine v_iload (q := 88) 0 dX12_lookUnsafe_86 rfl rfl ?_
            refine v_if_le (q1 := 100) (q2 := 91) dX12_lookUnsafe_88 (by decide) rfl (fun c12 => ?_) (fun c12 => ?_)
            · replace H := ip c12 H
              exact V.sub [1, 2, 3, 4, 5, 6, 7, 8] rfl (sgjX12_lookUnsafe_100 hd rs H kI kE)
            · replace H := ine c12 H
              refine v_aload_n (q := 92) 1 dX12_lookUnsafe_91 rfl rfl rfl ?_
              refine v_iload_n (q := 93) 4 dX12_lookUnsafe_92 rfl rfl rfl ?_
              refine v_iload_n (q := 94) 2 dX12_lookUnsafe_93 rfl rfl rfl ?_
              refine v_iload_n (q := 95) 3 dX12_lookUnsafe_94 rfl rfl rfl ?_
              refine v_iload (q := 97) 0 dX12_lookUnsafe_95 rfl rfl ?_
              replace H := bs H; obtain ⟨x13, x13e, H⟩ := H
              refine u_callV0 (M' := mX12_report) (d' := 2) (rc := (RX12, TX12, 58)) (As := [.int u3, .int u1, .int u2, .int x11.1]) (st := []) (q := 100) oX12_report dX12_lookUnsafe_97 w1666 w1668 w0080 rfl rfl (RS.rc rs).1 (RS.rc rs).2 rfl (Nat.le_of_ble_eq_true rfl) (Nat.le_of_ble_eq_true rfl) (Nat.lt_of_lt_of_le (by decide) hd) rfl (sgX12_report (Nat.le_refl _) rs x13e) rfl ?_
              exact V.sub [1, 2, 3, 4, 5, 6, 7, 8] rfl (sgjX12_lookUnsafe_100 hd rs H kI kE)
          · replace H := ine c10 H
            refine v_goto (q := 100) dX12_lookUnsafe_73 (by decide) ?_
            exact V.sub [0, 1, 2, 3, 4, 5, 6, 7] rfl (sgjX12_lookUnsafe_100 hd rs H kI kE)
def gbX12_lookUnsafe_3 (u1 : Int32) (u2 : Int32) (u3 : Int32) (u4 : Int32) (u5 : Int32) (s3 : Int32 × Mem) : Option ((Int32 × Mem) ⊕ (Mem)) :=
if (16 : Int32) ≤ s3.1 then (
some (.inr s3.2)) else (
(lp (gbX12_lookUnsafe_13 u1 u2 u3 u4 u5 s3.1) FU ((0 : Int32), s3.2)).bind fun e14 =>
(some (s3.1 + (1 : Int32))).bind fun x15 =>
some (.inl (x15, e14)))
set_option maxRecDepth 20000 in
set_option maxHeartbeats 4000000 in
theorem sgbX12_lookUnsafe_3 {Γ : Gm} {d : Nat} (hd : 4 ≤ d) {T : Nat} {h : Hp} (rs : RS T h) {u1 : Int32} {u2 : Int32} {u3 : Int32} {u4 : Int32} {u5 : Int32} {s3 : Int32 × Mem} {r : (Int32 × Mem) ⊕ (Mem)} {t : Option Value × Hp} (H : gbX12_lookUnsafe_3 u1 u2 u3 u4 u5 s3 = some r) (kI : ∀ s, r = .inl s → (fun s3 => V Γ d mX12_lookUnsafe 3 [(0, .ref T), (1, .int u1), (2, .int u2), (3, .int u3), (4, .int u4), (5, .int u5), (6, .int s3.1)] [] (hm T h s3.2) t) s) (kE : ∀ e, r = .inr e → (fun e => V Γ d mX12_lookUnsafe 112 [] [] (hm T h e) t) e) : V Γ d mX12_lookUnsafe 3 [(0, .ref T), (1, .int u1), (2, .int u2), (3, .int u3), (4, .int u4), (5, .int u5), (6, .int s3.1)] [] (hm T h s3.2) t := by
  unfold gbX12_lookUnsafe_3 at H
  refine v_iload (q := 5) 6 dX12_lookUnsafe_3 rfl rfl ?_
  refine v_bipush (v := 16) (q := 7) dX12_lookUnsafe_5 (by decide) rfl ?_
  refine v_icmp_ge (q1 := 112) (q2 := 10) dX12_lookUnsafe_7 (by decide) rfl (fun c1 => ?_) (fun c1 => ?_)
  · replace H := ip c1 H
    exact V.sub [] rfl (kE s3.2 (Option.some.inj H).symm)
  · replace H := ine c1 H
    refine v_iconst (v := 0) (q := 11) dX12_lookUnsafe_10 (by decide) rfl ?_
    refine v_istore (L' := [(7, .int (0 : Int32)), (0, .ref T), (1, .int u1), (2, .int u2), (3, .int u3), (4, .int u4), (5, .int u5), (6, .int s3.1)]) (q := 13) dX12_lookUnsafe_11 (by decide) rfl rfl ?_
    replace H := bs H; obtain ⟨e14, e14L, H⟩ := H
    refine V.sub [1, 2, 3, 4, 5, 6, 7, 0] rfl ?_
    refine lp_V (P := (fun s13 => V Γ d mX12_lookUnsafe 13 [(0, .ref T), (1, .int u1), (2, .int u2), (3, .int u3), (4, .int u4), (5, .int u5), (6, .int s3.1), (7, .int s13.1)] [] (hm T h s13.2) t)) (E := (fun e => V Γ d mX12_lookUnsafe 106 [(0, .ref T), (1, .int u1), (2, .int u2), (3, .int u3), (4, .int u4), (5, .int u5), (6, .int s3.1)] [] (hm T h e) t)) (fun s r hb kI kE => sgbX12_lookUnsafe_13 hd rs (s13 := s) (r := r) hb kI kE) FU ((0 : Int32), s3.2) e14 e14L ?_
    replace H := bs H; obtain ⟨x15, x15e, H⟩ := H
    refine v_iinc (v := x15) (L' := [(6, .int x15), (0, .ref T), (1, .int u1), (2, .int u2), (3, .int u3), (4, .int u4), (5, .int u5)]) (q := 109) 6 dX12_lookUnsafe_106 rfl (Option.some.inj x15e) (by decide) rfl rfl ?_
    refine v_goto (q := 3) dX12_lookUnsafe_109 (by decide) ?_
    exact V.sub [1, 2, 3, 4, 5, 6, 0] rfl (kI (x15, e14) (Option.some.inj H).symm)
def gX12_lookUnsafe (m : Mem) (v1 : Int32) (v2 : Int32) (v3 : Int32) (v4 : Int32) (v5 : Int32) : Option (Mem) :=
(lp (gbX12_lookUnsafe_3 v1 v2 v3 v4 v5) FU ((0 : Int32), m)).bind fun e16 =>
some e16
set_option maxRecDepth 20000 in
set_option maxHeartbeats 4000000 in
theorem sgX12_lookUnsafe {Γ : Gm} {d : Nat} (hd : 4 ≤ d) {T : Nat} {h : Hp} (rs : RS T h) {m : Mem} {v1 : Int32} {v2 : Int32} {v3 : Int32} {v4 : Int32} {v5 : Int32} {r : Mem} (H : gX12_lookUnsafe m v1 v2 v3 v4 v5 = some r) : V Γ d mX12_lookUnsafe 0 [(0, .ref T), (1, .int v1), (2, .int v2), (3, .int v3), (4, .int v4), (5, .int v5)] [] (hm T h m) (none, (hm T h r)) := by
  unfold gX12_lookUnsafe at H
  refine v_iconst (v := 0) (q := 1) dX12_lookUnsafe_0 (by decide) rfl ?_
  refine v_istore (L' := [(6, .int (0 : Int32)), (0, .ref T), (1, .int v1), (2, .int v2), (3, .int v3), (4, .int v4), (5, .int v5)]) (q := 3) dX12_lookUnsafe_1 (by decide) rfl rfl ?_
  replace H := bs H; obtain ⟨e16, e16L, H⟩ := H
  refine V.sub [1, 2, 3, 4, 5, 6, 0] rfl ?_
  refine lp_V (P := (fun s3 => V Γ d mX12_lookUnsafe 3 [(0, .ref T), (1, .int v1), (2, .int v2), (3, .int v3), (4, .int v4), (5, .int v5), (6, .int s3.1)] [] (hm T h s3.2) (none, (hm T h r)))) (E := (fun e => V Γ d mX12_lookUnsafe 112 [] [] (hm T h e) (none, (hm T h r)))) (fun s r hb kI kE => sgbX12_lookUnsafe_3 hd rs (s3 := s) (r := r) hb kI kE) FU ((0 : Int32), m) e16 e16L ?_
  cases H
  exact v_return rfl dX12_lookUnsafe_112
def mX12_doTake : MI := (yX12_doTake, cX12_doTake, 6, none)
theorem oX12_doTake : mOK mX12_doTake 2 := ⟨by decide +kernel, by decide +kernel, by decide +kernel, by decide, w1653, w0150⟩
def gjX12_doTake_83 (v1 : Int32) (v2 : Int32) (v3 : Int32) (v5 : Int32) (m : Mem) : Option (Mem) :=
(gX12_use m v1 v2 v5).bind fun x11 =>
(gX12_lookUnsafe x11 v1 v2 (6 : Int32) (1 : Int32) (4 : Int32)).bind fun x12 =>
(gX12_lookUnsafe x12 v1 v2 (7 : Int32) (2 : Int32) (8 : Int32)).bind fun x13 =>
(wr x13 18 10 (x13 0 31) v3).bind fun m14 =>
(wr m14 19 10 (m14 0 31) v5).bind fun m15 =>
(some (up m15 0 31 ((m15 0 31) + (1 : Int32)))).bind fun m16 =>
some m16
set_option maxRecDepth 20000 in
set_option maxHeartbeats 4000000 in
theorem sgjX12_doTake_83 {Γ : Gm} {d : Nat} (hd : 6 ≤ d) {T : Nat} {h : Hp} (rs : RS T h) {v1 : Int32} {v2 : Int32} {v3 : Int32} {v5 : Int32} {m : Mem} {r : Mem} (H : gjX12_doTake_83 v1 v2 v3 v5 m = some r) : V Γ d mX12_doTake 83 [(0, .ref T), (1, .int v1), (2, .int v2), (3, .int v3), (5, .int v5)] [] (hm T h m) (none, (hm T h r)) := by
  unfold gjX12_doTake_83 at H
  refine v_aload_n (q := 84) 0 dX12_doTake_83 rfl rfl rfl ?_
  refine v_iload_n (q := 85) 1 dX12_doTake_84 rfl rfl rfl ?_
  refine v_iload_n (q := 86) 2 dX12_doTake_85 rfl rfl rfl ?_
  refine v_iload (q := 88) 4 dX12_doTake_86 rfl rfl ?_
  replace H := bs H; obtain ⟨x11, x11e, H⟩ := H
  refine u_callV0 (M' := mX12_use) (d' := 5) (rc := (RX12, TX12, 58)) (As := [.int v1, .int v2, .int v5]) (st := []) (q := 91) oX12_use dX12_doTake_88 w1714 w1716 w0091 rfl rfl (RS.rc rs).1 (RS.rc rs).2 rfl (Nat.le_of_ble_eq_true rfl) (Nat.le_of_ble_eq_true rfl) (Nat.lt_of_lt_of_le (by decide) hd) rfl (sgX12_use (Nat.le_refl _) rs x11e) rfl ?_
  refine v_aload_n (q := 92) 0 dX12_doTake_91 rfl rfl rfl ?_
  refine v_iload_n (q := 93) 1 dX12_doTake_92 rfl rfl rfl ?_
  refine v_iload_n (q := 94) 2 dX12_doTake_93 rfl rfl rfl ?_
  refine v_bipush (v := 6) (q := 96) dX12_doTake_94 (by decide) rfl ?_
  refine v_iconst (v := 1) (q := 97) dX12_doTake_96 (by decide) rfl ?_
  refine v_iconst (v := 4) (q := 98) dX12_doTake_97 (by decide) rfl ?_
  replace H := bs H; obtain ⟨x12, x12e, H⟩ := H
  refine u_callV0 (M' := mX12_lookUnsafe) (d' := 4) (rc := (RX12, TX12, 58)) (As := [.int v1, .int v2, .int (6 : Int32), .int (1 : Int32), .int (4 : Int32)]) (st := []) (q := 101) oX12_lookUnsafe dX12_doTake_98 w1730 w1732 w0095 rfl rfl (RS.rc rs).1 (RS.rc rs).2 rfl (Nat.le_of_ble_eq_true rfl) (Nat.le_of_ble_eq_true rfl) (Nat.lt_of_lt_of_le (by decide) hd) rfl (sgX12_lookUnsafe (Nat.le_refl _) rs x12e) rfl ?_
  refine v_aload_n (q := 102) 0 dX12_doTake_101 rfl rfl rfl ?_
  refine v_iload_n (q := 103) 1 dX12_doTake_102 rfl rfl rfl ?_
  refine v_iload_n (q := 104) 2 dX12_doTake_103 rfl rfl rfl ?_
  refine v_bipush (v := 7) (q := 106) dX12_doTake_104 (by decide) rfl ?_
  refine v_iconst (v := 2) (q := 107) dX12_doTake_106 (by decide) rfl ?_
  refine v_bipush (v := 8) (q := 109) dX12_doTake_107 (by decide) rfl ?_
  replace H := bs H; obtain ⟨x13, x13e, H⟩ := H
  refine u_callV0 (M' := mX12_lookUnsafe) (d' := 4) (rc := (RX12, TX12, 58)) (As := [.int v1, .int v2, .int (7 : Int32), .int (2 : Int32), .int (8 : Int32)]) (st := []) (q := 112) oX12_lookUnsafe dX12_doTake_109 w1730 w1732 w0095 rfl rfl (RS.rc rs).1 (RS.rc rs).2 rfl (Nat.le_of_ble_eq_true rfl) (Nat.le_of_ble_eq_true rfl) (Nat.lt_of_lt_of_le (by decide) hd) rfl (sgX12_lookUnsafe (Nat.le_refl _) rs x13e) rfl ?_
  refine v_aload_n (q := 113) 0 dX12_doTake_112 rfl rfl rfl ?_
  refine ur_arr (q := 116) rs rt29 dX12_doTake_113 w1385 (Nat.le_of_ble_eq_true rfl) rfl rfl ?_
  refine v_aload_n (q := 117) 0 dX12_doTake_116 rfl rfl rfl ?_
  refine ur_gI (q := 120) (x := 0) (k := 31) rs dX12_doTake_117 w1387 (Nat.le_of_ble_eq_true rfl) rfl rfl ?_
  refine v_iload_n (q := 121) 3 dX12_doTake_120 rfl rfl rfl ?_
  replace H := bs H; obtain ⟨m14, m14e, H⟩ := H
  refine ur_wr (q := 122) rs rt29 m14e dX12_doTake_121 rfl ?_
  refine v_aload_n (q := 123) 0 dX12_doTake_122 rfl rfl rfl ?_
  refine ur_arr (q := 126) rs rt30 dX12_doTake_123 w1386 (Nat.le_of_ble_eq_true rfl) rfl rfl ?_
  refine v_aload_n (q := 127) 0 dX12_doTake_126 rfl rfl rfl ?_
  refine ur_gI (q := 130) (x := 0) (k := 31) rs dX12_doTake_127 w1387 (Nat.le_of_ble_eq_true rfl) rfl rfl ?_
  refine v_iload (q := 132) 4 dX12_doTake_130 rfl rfl ?_
  replace H := bs H; obtain ⟨m15, m15e, H⟩ := H
  refine ur_wr (q := 133) rs rt30 m15e dX12_doTake_132 rfl ?_
  refine v_aload_n (q := 134) 0 dX12_doTake_133 rfl rfl rfl ?_
  refine v_dup (q := 135) dX12_doTake_134 rfl rfl ?_
  refine ur_gI (q := 138) (x := 0) (k := 31) rs dX12_doTake_135 w1387 (Nat.le_of_ble_eq_true rfl) rfl rfl ?_
  refine v_iconst (v := 1) (q := 139) dX12_doTake_138 (by decide) rfl ?_
  refine v_iadd (q := 140) dX12_doTake_139 rfl ?_
  replace H := bs H; obtain ⟨m16, m16e, H⟩ := H
  refine ur_pI (q := 143) (k := 31) rs m16e dX12_doTake_140 w1387 (Nat.le_of_ble_eq_true rfl) rfl rfl rfl ?_
  cases H
  exact v_return rfl dX12_doTake_143
def gjX12_doTake_56 (v1 : Int32) (v2 : Int32) (v3 : Int32) (y0 : Int32) (y1 : Int32) (m : Mem) : Option (Mem) :=
(some (y1 + y0)).bind fun x7 =>
(gX12_keepChain m x7).bind fun x8 =>
(gX12_opOf x8 v1 v2).bind fun x9 =>
if x9 = (3 : Int32) then (
gjX12_doTake_83 v1 v2 v3 x7 x8) else (
(gX12_learn x8 v1 v2 x7).bind fun x17 =>
gjX12_doTake_83 v1 v2 v3 x7 x17)
set_option maxRecDepth 20000 in
set_option maxHeartbeats 4000000 in
theorem sgjX12_doTake_56 {Γ : Gm} {d : Nat} (hd : 6 ≤ d) {T : Nat} {h : Hp} (rs : RS T h) {v1 : Int32} {v2 : Int32} {v3 : Int32} {y0 : Int32} {y1 : Int32} {m : Mem} {r : Mem} (H : gjX12_doTake_56 v1 v2 v3 y0 y1 m = some r) : V Γ d mX12_doTake 56 [(0, .ref T), (1, .int v1), (2, .int v2), (3, .int v3)] [.int y0, .int y1] (hm T h m) (none, (hm T h r)) := by
  unfold gjX12_doTake_56 at H
  refine v_iadd (q := 57) dX12_doTake_56 rfl ?_
  replace H := bs H; obtain ⟨x7, x7e, H⟩ := H
  refine v_topi (Option.some.inj x7e) ?_
  refine v_istore (L' := [(5, .int x7), (0, .ref T), (1, .int v1), (2, .int v2), (3, .int v3)]) (q := 59) dX12_doTake_57 (by decide) rfl rfl ?_
  refine v_aload_n (q := 60) 1 dX12_doTake_59 rfl rfl rfl ?_
  refine v_iload (q := 62) 0 dX12_doTake_60 rfl rfl ?_
  replace H := bs H; obtain ⟨x8, x8e, H⟩ := H
  refine u_callV0 (M' := mX12_keepChain) (d' := 1) (rc := (RX12, TX12, 58)) (As := [.int x7]) (st := []) (q := 65) oX12_keepChain dX12_doTake_62 w1677 w1679 w0082 rfl rfl (RS.rc rs).1 (RS.rc rs).2 rfl (Nat.le_of_ble_eq_true rfl) (Nat.le_of_ble_eq_true rfl) (Nat.lt_of_lt_of_le (by decide) hd) rfl (sgX12_keepChain (Nat.le_refl _) rs x8e) rfl ?_
  refine v_aload_n (q := 66) 1 dX12_doTake_65 rfl rfl rfl ?_
  refine v_iload_n (q := 67) 2 dX12_doTake_66 rfl rfl rfl ?_
  refine v_iload_n (q := 68) 3 dX12_doTake_67 rfl rfl rfl ?_
  replace H := bs H; obtain ⟨x9, x9e, H⟩ := H
  refine u_callV1 (M' := mX12_opOf) (d' := 1) (rc := (RX12, TX12, 58)) (As := [.int v1, .int v2]) (st := []) (q := 71) oX12_opOf dX12_doTake_68 w1646 w1648 w0075 rfl rfl (RS.rc rs).1 (RS.rc rs).2 rfl (Nat.le_of_ble_eq_true rfl) (Nat.le_of_ble_eq_true rfl) (Nat.lt_of_lt_of_le (by decide) hd) rfl (sgX12_opOf (Nat.le_refl _) rs x9e) rfl ?_
  refine v_iconst (v := 3) (q := 72) dX12_doTake_71 (by decide) rfl ?_
  refine v_icmp_eq (q1 := 83) (q2 := 75) dX12_doTake_72 (by decide) rfl (fun c10 => ?_) (fun c10 => ?_)
  · replace H := ip c10 H
    exact V.sub [1, 2, 3, 4, 0] rfl (sgjX12_doTake_83 hd rs H)
  · replace H := ine c10 H
    refine v_aload_n (q := 76) 1 dX12_doTake_75 rfl rfl rfl ?_
    refine v_iload_n (q := 77) 2 dX12_doTake_76 rfl rfl rfl ?_
    refine v_iload_n (q := 78) 3 dX12_doTake_77 rfl rfl rfl ?_
    refine v_iload (q := 80) 0 dX12_doTake_78 rfl rfl ?_
    replace H := bs H; obtain ⟨x17, x17e, H⟩ := H
    refine u_callV0 (M' := mX12_learn) (d' := 5) (rc := (RX12, TX12, 58)) (As := [.int v1, .int v2, .int x7]) (st := []) (q := 83) oX12_learn dX12_doTake_80 w1681 w1683 w0083 rfl rfl (RS.rc rs).1 (RS.rc rs).2 rfl (Nat.le_of_ble_eq_true rfl) (Nat.le_of_ble_eq_true rfl) (Nat.lt_of_lt_of_le (by decide) hd) rfl (sgX12_learn (Nat.le_refl _) rs x17e) rfl ?_
    exact V.sub [1, 2, 3, 4, 0] rfl (sgjX12_doTake_83 hd rs H)
def gX12_doTake (m : Mem) (v1 : Int32) (v2 : Int32) : Option (Mem) :=
(gX12_lockOf m v1 v2).bind fun x1 =>
(gX12_placeHeld m x1).bind fun x2 =>
if x2 < 0 then (
(gX12_kind m x1).bind fun x4 =>
(gX12_opOf m v1 v2).bind fun x5 =>
if x5 = (1 : Int32) then (
gjX12_doTake_56 v1 v2 x1 (1 : Int32) ((2 : Int32) * x4) m) else (
gjX12_doTake_56 v1 v2 x1 (0 : Int32) ((2 : Int32) * x4) m)) else (
(rd m 19 10 x2).bind fun x18 =>
(gX12_reportOne m (1 : Int32) v1 v2 x18).bind fun x19 =>
some x19)
set_option maxRecDepth 20000 in
set_option maxHeartbeats 4000000 in
theorem sgX12_doTake {Γ : Gm} {d : Nat} (hd : 6 ≤ d) {T : Nat} {h : Hp} (rs : RS T h) {m : Mem} {v1 : Int32} {v2 : Int32} {r : Mem} (H : gX12_doTake m v1 v2 = some r) : V Γ d mX12_doTake 0 [(0, .ref T), (1, .int v1), (2, .int v2)] [] (hm T h m) (none, (hm T h r)) := by
  unfold gX12_doTake at H
  refine v_aload_n (q := 1) 0 dX12_doTake_0 rfl rfl rfl ?_
  refine v_iload_n (q := 2) 1 dX12_doTake_1 rfl rfl rfl ?_
  refine v_iload_n (q := 3) 2 dX12_doTake_2 rfl rfl rfl ?_
  replace H := bs H; obtain ⟨x1, x1e, H⟩ := H
  refine u_callV1 (M' := mX12_lockOf) (d' := 1) (rc := (RX12, TX12, 58)) (As := [.int v1, .int v2]) (st := []) (q := 6) oX12_lockOf dX12_doTake_3 w1654 w1656 w0077 rfl rfl (RS.rc rs).1 (RS.rc rs).2 rfl (Nat.le_of_ble_eq_true rfl) (Nat.le_of_ble_eq_true rfl) (Nat.lt_of_lt_of_le (by decide) hd) rfl (sgX12_lockOf (Nat.le_refl _) rs x1e) rfl ?_
  refine v_istore_n (L' := [(3, .int x1), (0, .ref T), (1, .int v1), (2, .int v2)]) (q := 7) dX12_doTake_6 rfl (by decide) rfl rfl ?_
  refine v_aload_n (q := 8) 1 dX12_doTake_7 rfl rfl rfl ?_
  refine v_iload_n (q := 9) 0 dX12_doTake_8 rfl rfl rfl ?_
  replace H := bs H; obtain ⟨x2, x2e, H⟩ := H
  refine u_callV1 (M' := mX12_placeHeld) (d' := 1) (rc := (RX12, TX12, 58)) (As := [.int x1]) (st := []) (q := 12) oX12_placeHeld dX12_doTake_9 w1658 w1660 w0078 rfl rfl (RS.rc rs).1 (RS.rc rs).2 rfl (Nat.le_of_ble_eq_true rfl) (Nat.le_of_ble_eq_true rfl) (Nat.lt_of_lt_of_le (by decide) hd) rfl (sgX12_placeHeld (Nat.le_refl _) rs x2e) rfl ?_
  refine v_istore (L' := [(4, .int x2), (3, .int x1), (0, .ref T), (1, .int v1), (2, .int v2)]) (q := 14) dX12_doTake_12 (by decide) rfl rfl ?_
  refine v_iload (q := 16) 0 dX12_doTake_14 rfl rfl ?_
  refine v_if_lt (q1 := 34) (q2 := 19) dX12_doTake_16 (by decide) rfl (fun c3 => ?_) (fun c3 => ?_)
  · replace H := ip c3 H
    refine v_iconst (v := 2) (q := 35) dX12_doTake_34 (by decide) rfl ?_
    refine v_aload_n (q := 36) 2 dX12_doTake_35 rfl rfl rfl ?_
    refine v_iload_n (q := 37) 1 dX12_doTake_36 rfl rfl rfl ?_
    replace H := bs H; obtain ⟨x4, x4e, H⟩ := H
    refine u_callV1 (M' := mX12_kind) (d' := 1) (rc := (RX12, TX12, 58)) (As := [.int x1]) (st := [.int (2 : Int32)]) (q := 40) oX12_kind dX12_doTake_37 w1673 w1675 w0081 rfl rfl (RS.rc rs).1 (RS.rc rs).2 rfl (Nat.le_of_ble_eq_true rfl) (Nat.le_of_ble_eq_true rfl) (Nat.lt_of_lt_of_le (by decide) hd) rfl (sgX12_kind (Nat.le_refl _) rs x4e) rfl ?_
    refine v_imul (q := 41) dX12_doTake_40 rfl ?_
    refine v_aload_n (q := 42) 2 dX12_doTake_41 rfl rfl rfl ?_
    refine v_iload_n (q := 43) 3 dX12_doTake_42 rfl rfl rfl ?_
    refine v_iload_n (q := 44) 4 dX12_doTake_43 rfl rfl rfl ?_
    replace H := bs H; obtain ⟨x5, x5e, H⟩ := H
    refine u_callV1 (M' := mX12_opOf) (d' := 1) (rc := (RX12, TX12, 58)) (As := [.int v1, .int v2]) (st := [.int ((2 : Int32) * x4)]) (q := 47) oX12_opOf dX12_doTake_44 w1646 w1648 w0075 rfl rfl (RS.rc rs).1 (RS.rc rs).2 rfl (Nat.le_of_ble_eq_true rfl) (Nat.le_of_ble_eq_true rfl) (Nat.lt_of_lt_of_le (by decide) hd) rfl (sgX12_opOf (Nat.le_refl _) rs x5e) rfl ?_
    refine v_iconst (v := 1) (q := 48) dX12_doTake_47 (by decide) rfl ?_
    refine v_icmp_ne (q1 := 55) (q2 := 51) dX12_doTake_48 (by decide) rfl (fun c6 => ?_) (fun c6 => ?_)
    · replace H := ine c6 H
      refine v_iconst (v := 0) (q := 56) dX12_doTake_55 (by decide) rfl ?_
      exact V.sub [2, 3, 4, 1] rfl (sgjX12_doTake_56 hd rs H)
    · replace H := ip c6 H
      refine v_iconst (v := 1) (q := 52) dX12_doTake_51 (by decide) rfl ?_
      refine v_goto (q := 56) dX12_doTake_52 (by decide) ?_
      exact V.sub [2, 3, 4, 1] rfl (sgjX12_doTake_56 hd rs H)
  · replace H := ine c3 H
    refine v_aload_n (q := 20) 2 dX12_doTake_19 rfl rfl rfl ?_
    refine v_iconst (v := 1) (q := 21) dX12_doTake_20 (by decide) rfl ?_
    refine v_iload_n (q := 22) 3 dX12_doTake_21 rfl rfl rfl ?_
    refine v_iload_n (q := 23) 4 dX12_doTake_22 rfl rfl rfl ?_
    refine v_aload_n (q := 24) 2 dX12_doTake_23 rfl rfl rfl ?_
    refine ur_arr (q := 27) rs rt30 dX12_doTake_24 w1386 (Nat.le_of_ble_eq_true rfl) rfl rfl ?_
    refine v_iload (q := 29) 0 dX12_doTake_27 rfl rfl ?_
    replace H := bs H; obtain ⟨x18, x18e, H⟩ := H
    refine ur_rd (q := 30) rs rt30 x18e dX12_doTake_29 rfl ?_
    replace H := bs H; obtain ⟨x19, x19e, H⟩ := H
    refine u_callV0 (M' := mX12_reportOne) (d' := 3) (rc := (RX12, TX12, 58)) (As := [.int (1 : Int32), .int v1, .int v2, .int x18]) (st := []) (q := 33) oX12_reportOne dX12_doTake_30 w1662 w1664 w0079 rfl rfl (RS.rc rs).1 (RS.rc rs).2 rfl (Nat.le_of_ble_eq_true rfl) (Nat.le_of_ble_eq_true rfl) (Nat.lt_of_lt_of_le (by decide) hd) rfl (sgX12_reportOne (Nat.le_refl _) rs x19e) rfl ?_
    cases H
    exact v_return rfl dX12_doTake_33
def mX12_doDrop : MI := (yX12_doDrop, cX12_doDrop, 5, none)
theorem oX12_doDrop : mOK mX12_doDrop 2 := ⟨by decide +kernel, by decide +kernel, by decide +kernel, by decide, w1737, w0150⟩
def gbX12_doDrop_49  (s49 : Int32 × Mem) : Option ((Int32 × Mem) ⊕ (Mem)) :=
if (s49.2 0 31) ≤ s49.1 then (
some (.inr s49.2)) else (
(rd s49.2 18 10 (s49.1 + (1 : Int32))).bind fun x6 =>
(wr s49.2 18 10 s49.1 x6).bind fun m7 =>
(rd m7 19 10 (s49.1 + (1 : Int32))).bind fun x8 =>
(wr m7 19 10 s49.1 x8).bind fun m9 =>
(some (s49.1 + (1 : Int32))).bind fun x10 =>
some (.inl (x10, m9)))
set_option maxRecDepth 20000 in
set_option maxHeartbeats 4000000 in
theorem sgbX12_doDrop_49 {Γ : Gm} {d : Nat} (hd : 4 ≤ d) {T : Nat} {h : Hp} (rs : RS T h)  {s49 : Int32 × Mem} {r : (Int32 × Mem) ⊕ (Mem)} {t : Option Value × Hp} (H : gbX12_doDrop_49  s49 = some r) (kI : ∀ s, r = .inl s → (fun s49 => V Γ d mX12_doDrop 49 [(0, .ref T), (4, .int s49.1)] [] (hm T h s49.2) t) s) (kE : ∀ e, r = .inr e → (fun e => V Γ d mX12_doDrop 96 [] [] (hm T h e) t) e) : V Γ d mX12_doDrop 49 [(0, .ref T), (4, .int s49.1)] [] (hm T h s49.2) t := by
  unfold gbX12_doDrop_49 at H
  refine v_iload (q := 51) 1 dX12_doDrop_49 rfl rfl ?_
  refine v_aload_n (q := 52) 0 dX12_doDrop_51 rfl rfl rfl ?_
  refine ur_gI (q := 55) (x := 0) (k := 31) rs dX12_doDrop_52 w1387 (Nat.le_of_ble_eq_true rfl) rfl rfl ?_
  refine v_icmp_ge (q1 := 96) (q2 := 58) dX12_doDrop_55 (by decide) rfl (fun c5 => ?_) (fun c5 => ?_)
  · replace H := ip c5 H
    exact V.sub [] rfl (kE s49.2 (Option.some.inj H).symm)
  · replace H := ine c5 H
    refine v_aload_n (q := 59) 0 dX12_doDrop_58 rfl rfl rfl ?_
    refine ur_arr (q := 62) rs rt29 dX12_doDrop_59 w1385 (Nat.le_of_ble_eq_true rfl) rfl rfl ?_
    refine v_iload (q := 64) 1 dX12_doDrop_62 rfl rfl ?_
    refine v_aload_n (q := 65) 0 dX12_doDrop_64 rfl rfl rfl ?_
    refine ur_arr (q := 68) rs rt29 dX12_doDrop_65 w1385 (Nat.le_of_ble_eq_true rfl) rfl rfl ?_
    refine v_iload (q := 70) 1 dX12_doDrop_68 rfl rfl ?_
    refine v_iconst (v := 1) (q := 71) dX12_doDrop_70 (by decide) rfl ?_
    refine v_iadd (q := 72) dX12_doDrop_71 rfl ?_
    replace H := bs H; obtain ⟨x6, x6e, H⟩ := H
    refine ur_rd (q := 73) rs rt29 x6e dX12_doDrop_72 rfl ?_
    replace H := bs H; obtain ⟨m7, m7e, H⟩ := H
    refine ur_wr (q := 74) rs rt29 m7e dX12_doDrop_73 rfl ?_
    refine v_aload_n (q := 75) 0 dX12_doDrop_74 rfl rfl rfl ?_
    refine ur_arr (q := 78) rs rt30 dX12_doDrop_75 w1386 (Nat.le_of_ble_eq_true rfl) rfl rfl ?_
    refine v_iload (q := 80) 1 dX12_doDrop_78 rfl rfl ?_
    refine v_aload_n (q := 81) 0 dX12_doDrop_80 rfl rfl rfl ?_
    refine ur_arr (q := 84) rs rt30 dX12_doDrop_81 w1386 (Nat.le_of_ble_eq_true rfl) rfl rfl ?_
    refine v_iload (q := 86) 1 dX12_doDrop_84 rfl rfl ?_
    refine v_iconst (v := 1) (q := 87) dX12_doDrop_86 (by decide) rfl ?_
    refine v_iadd (q := 88) dX12_doDrop_87 rfl ?_
    replace H := bs H; obtain ⟨x8, x8e, H⟩ := H
    refine ur_rd (q := 89) rs rt30 x8e dX12_doDrop_88 rfl ?_
    replace H := bs H; obtain ⟨m9, m9e, H⟩ := H
    refine ur_wr (q := 90) rs rt30 m9e dX12_doDrop_89 rfl ?_
    replace H := bs H; obtain ⟨x10, x10e, H⟩ := H
    refine v_iinc (v := x10) (L' := [(4, .int x10), (0, .ref T)]) (q := 93) 1 dX12_doDrop_90 rfl (Option.some.inj x10e) (by decide) rfl rfl ?_
    refine v_goto (q := 49) dX12_doDrop_93 (by decide) ?_
    exact V.sub [1, 0] rfl (kI (x10, m9) (Option.some.inj H).symm)
def gX12_doDrop (m : Mem) (v1 : Int32) (v2 : Int32) : Option (Mem) :=
(gX12_lockOf m v1 v2).bind fun x1 =>
(gX12_placeHeld m x1).bind fun x2 =>
if 0 ≤ x2 then (
(some (up m 0 31 ((m 0 31) - (1 : Int32)))).bind fun m4 =>
(lp (gbX12_doDrop_49) FU (x2, m4)).bind fun e11 =>
some e11) else (
(gX12_lockOf m v1 v2).bind fun x12 =>
(gX12_kind m x12).bind fun x13 =>
(gX12_reportOne m (8 : Int32) v1 v2 ((2 : Int32) * x13)).bind fun x14 =>
some x14)
set_option maxRecDepth 20000 in
set_option maxHeartbeats 4000000 in
theorem sgX12_doDrop {Γ : Gm} {d : Nat} (hd : 4 ≤ d) {T : Nat} {h : Hp} (rs : RS T h) {m : Mem} {v1 : Int32} {v2 : Int32} {r : Mem} (H : gX12_doDrop m v1 v2 = some r) : V Γ d mX12_doDrop 0 [(0, .ref T), (1, .int v1), (2, .int v2)] [] (hm T h m) (none, (hm T h r)) := by
  unfold gX12_doDrop at H
  refine v_aload_n (q := 1) 0 dX12_doDrop_0 rfl rfl rfl ?_
  refine v_aload_n (q := 2) 0 dX12_doDrop_1 rfl rfl rfl ?_
  refine v_iload_n (q := 3) 1 dX12_doDrop_2 rfl rfl rfl ?_
  refine v_iload_n (q := 4) 2 dX12_doDrop_3 rfl rfl rfl ?_
  replace H := bs H; obtain ⟨x1, x1e, H⟩ := H
  refine u_callV1 (M' := mX12_lockOf) (d' := 1) (rc := (RX12, TX12, 58)) (As := [.int v1, .int v2]) (st := [.ref T]) (q := 7) oX12_lockOf dX12_doDrop_4 w1654 w1656 w0077 rfl rfl (RS.rc rs).1 (RS.rc rs).2 rfl (Nat.le_of_ble_eq_true rfl) (Nat.le_of_ble_eq_true rfl) (Nat.lt_of_lt_of_le (by decide) hd) rfl (sgX12_lockOf (Nat.le_refl _) rs x1e) rfl ?_
  replace H := bs H; obtain ⟨x2, x2e, H⟩ := H
  refine u_callV1 (M' := mX12_placeHeld) (d' := 1) (rc := (RX12, TX12, 58)) (As := [.int x1]) (st := []) (q := 10) oX12_placeHeld dX12_doDrop_7 w1658 w1660 w0078 rfl rfl (RS.rc rs).1 (RS.rc rs).2 rfl (Nat.le_of_ble_eq_true rfl) (Nat.le_of_ble_eq_true rfl) (Nat.lt_of_lt_of_le (by decide) hd) rfl (sgX12_placeHeld (Nat.le_refl _) rs x2e) rfl ?_
  refine v_istore_n (L' := [(3, .int x2), (0, .ref T), (1, .int v1), (2, .int v2)]) (q := 11) dX12_doDrop_10 rfl (by decide) rfl rfl ?_
  refine v_iload_n (q := 12) 0 dX12_doDrop_11 rfl rfl rfl ?_
  refine v_if_ge (q1 := 36) (q2 := 15) dX12_doDrop_12 (by decide) rfl (fun c3 => ?_) (fun c3 => ?_)
  · replace H := ip c3 H
    refine v_aload_n (q := 37) 1 dX12_doDrop_36 rfl rfl rfl ?_
    refine v_dup (q := 38) dX12_doDrop_37 rfl rfl ?_
    refine ur_gI (q := 41) (x := 0) (k := 31) rs dX12_doDrop_38 w1387 (Nat.le_of_ble_eq_true rfl) rfl rfl ?_
    refine v_iconst (v := 1) (q := 42) dX12_doDrop_41 (by decide) rfl ?_
    refine v_isub (q := 43) dX12_doDrop_42 rfl ?_
    replace H := bs H; obtain ⟨m4, m4e, H⟩ := H
    refine ur_pI (q := 46) (k := 31) rs m4e dX12_doDrop_43 w1387 (Nat.le_of_ble_eq_true rfl) rfl rfl rfl ?_
    refine v_iload_n (q := 47) 0 dX12_doDrop_46 rfl rfl rfl ?_
    refine v_istore (L' := [(4, .int x2), (3, .int x2), (0, .ref T), (1, .int v1), (2, .int v2)]) (q := 49) dX12_doDrop_47 (by decide) rfl rfl ?_
    replace H := bs H; obtain ⟨e11, e11L, H⟩ := H
    refine V.sub [2, 0] rfl ?_
    refine lp_V (P := (fun s49 => V Γ d mX12_doDrop 49 [(0, .ref T), (4, .int s49.1)] [] (hm T h s49.2) (none, (hm T h r)))) (E := (fun e => V Γ d mX12_doDrop 96 [] [] (hm T h e) (none, (hm T h r)))) (fun s r hb kI kE => sgbX12_doDrop_49 hd rs (s49 := s) (r := r) hb kI kE) FU (x2, m4) e11 e11L ?_
    cases H
    exact v_return rfl dX12_doDrop_96
  · replace H := ine c3 H
    refine v_aload_n (q := 16) 1 dX12_doDrop_15 rfl rfl rfl ?_
    refine v_bipush (v := 8) (q := 18) dX12_doDrop_16 (by decide) rfl ?_
    refine v_iload_n (q := 19) 2 dX12_doDrop_18 rfl rfl rfl ?_
    refine v_iload_n (q := 20) 3 dX12_doDrop_19 rfl rfl rfl ?_
    refine v_iconst (v := 2) (q := 21) dX12_doDrop_20 (by decide) rfl ?_
    refine v_aload_n (q := 22) 1 dX12_doDrop_21 rfl rfl rfl ?_
    refine v_aload_n (q := 23) 1 dX12_doDrop_22 rfl rfl rfl ?_
    refine v_iload_n (q := 24) 2 dX12_doDrop_23 rfl rfl rfl ?_
    refine v_iload_n (q := 25) 3 dX12_doDrop_24 rfl rfl rfl ?_
    replace H := bs H; obtain ⟨x12, x12e, H⟩ := H
    refine u_callV1 (M' := mX12_lockOf) (d' := 1) (rc := (RX12, TX12, 58)) (As := [.int v1, .int v2]) (st := [.ref T, .int (2 : Int32), .int v2, .int v1, .int (8 : Int32), .ref T]) (q := 28) oX12_lockOf dX12_doDrop_25 w1654 w1656 w0077 rfl rfl (RS.rc rs).1 (RS.rc rs).2 rfl (Nat.le_of_ble_eq_true rfl) (Nat.le_of_ble_eq_true rfl) (Nat.lt_of_lt_of_le (by decide) hd) rfl (sgX12_lockOf (Nat.le_refl _) rs x12e) rfl ?_
    replace H := bs H; obtain ⟨x13, x13e, H⟩ := H
    refine u_callV1 (M' := mX12_kind) (d' := 1) (rc := (RX12, TX12, 58)) (As := [.int x12]) (st := [.int (2 : Int32), .int v2, .int v1, .int (8 : Int32), .ref T]) (q := 31) oX12_kind dX12_doDrop_28 w1673 w1675 w0081 rfl rfl (RS.rc rs).1 (RS.rc rs).2 rfl (Nat.le_of_ble_eq_true rfl) (Nat.le_of_ble_eq_true rfl) (Nat.lt_of_lt_of_le (by decide) hd) rfl (sgX12_kind (Nat.le_refl _) rs x13e) rfl ?_
    refine v_imul (q := 32) dX12_doDrop_31 rfl ?_
    replace H := bs H; obtain ⟨x14, x14e, H⟩ := H
    refine u_callV0 (M' := mX12_reportOne) (d' := 3) (rc := (RX12, TX12, 58)) (As := [.int (8 : Int32), .int v1, .int v2, .int ((2 : Int32) * x13)]) (st := []) (q := 35) oX12_reportOne dX12_doDrop_32 w1662 w1664 w0079 rfl rfl (RS.rc rs).1 (RS.rc rs).2 rfl (Nat.le_of_ble_eq_true rfl) (Nat.le_of_ble_eq_true rfl) (Nat.lt_of_lt_of_le (by decide) hd) rfl (sgX12_reportOne (Nat.le_refl _) rs x14e) rfl ?_
    cases H
    exact v_return rfl dX12_doDrop_35
def mX12_goRun : MI := (yX12_goRun, cX12_goRun, 3, none)
theorem oX12_goRun : mOK mX12_goRun 1 := ⟨by decide +kernel, by decide +kernel, by decide +kernel, by decide, w1641, w0150⟩
def gjX12_goRun_51 (u1 : Int32) (v2 : Int32) (m : Mem) : Option ((Int32 × Mem) ⊕ (Mem)) :=
(some (v2 + (1 : Int32))).bind fun x8 =>
some (.inl (x8, m))
set_option maxRecDepth 20000 in
set_option maxHeartbeats 4000000 in
theorem sgjX12_goRun_51 {Γ : Gm} {d : Nat} (hd : 7 ≤ d) {T : Nat} {h : Hp} (rs : RS T h) {u1 : Int32} {v2 : Int32} {m : Mem} {r : (Int32 × Mem) ⊕ (Mem)} {t : Option Value × Hp} (H : gjX12_goRun_51 u1 v2 m = some r) (kI : ∀ s, r = .inl s → (fun s7 => V Γ d mX12_goRun 7 [(0, .ref T), (1, .int u1), (2, .int s7.1)] [] (hm T h s7.2) t) s) (kE : ∀ e, r = .inr e → (fun e => V Γ d mX12_goRun 57 [(0, .ref T), (1, .int u1)] [] (hm T h e) t) e) : V Γ d mX12_goRun 51 [(0, .ref T), (1, .int u1), (2, .int v2)] [] (hm T h m) t := by
  unfold gjX12_goRun_51 at H
  replace H := bs H; obtain ⟨x8, x8e, H⟩ := H
  refine v_iinc (v := x8) (L' := [(2, .int x8), (0, .ref T), (1, .int u1)]) (q := 54) 2 dX12_goRun_51 rfl (Option.some.inj x8e) (by decide) rfl rfl ?_
  refine v_goto (q := 7) dX12_goRun_54 (by decide) ?_
  exact V.sub [1, 2, 0] rfl (kI (x8, m) (Option.some.inj H).symm)
def gbX12_goRun_7 (u1 : Int32) (s7 : Int32 × Mem) : Option ((Int32 × Mem) ⊕ (Mem)) :=
(gX12_stepsOf s7.2 u1).bind fun x2 =>
if x2 ≤ s7.1 then (
some (.inr s7.2)) else (
(gX12_opOf s7.2 u1 s7.1).bind fun x4 =>
if (4 : Int32) ≤ x4 then (
(gX12_opOf s7.2 u1 s7.1).bind fun x6 =>
if x6 = (4 : Int32) then (
(gX12_doDrop s7.2 u1 s7.1).bind fun x9 =>
gjX12_goRun_51 u1 s7.1 x9) else (
gjX12_goRun_51 u1 s7.1 s7.2)) else (
(gX12_doTake s7.2 u1 s7.1).bind fun x10 =>
gjX12_goRun_51 u1 s7.1 x10))
set_option maxRecDepth 20000 in
set_option maxHeartbeats 4000000 in
theorem sgbX12_goRun_7 {Γ : Gm} {d : Nat} (hd : 7 ≤ d) {T : Nat} {h : Hp} (rs : RS T h) {u1 : Int32} {s7 : Int32 × Mem} {r : (Int32 × Mem) ⊕ (Mem)} {t : Option Value × Hp} (H : gbX12_goRun_7 u1 s7 = some r) (kI : ∀ s, r = .inl s → (fun s7 => V Γ d mX12_goRun 7 [(0, .ref T), (1, .int u1), (2, .int s7.1)] [] (hm T h s7.2) t) s) (kE : ∀ e, r = .inr e → (fun e => V Γ d mX12_goRun 57 [(0, .ref T), (1, .int u1)] [] (hm T h e) t) e) : V Γ d mX12_goRun 7 [(0, .ref T), (1, .int u1), (2, .int s7.1)] [] (hm T h s7.2) t := by
  unfold gbX12_goRun_7 at H
  refine v_iload_n (q := 8) 2 dX12_goRun_7 rfl rfl rfl ?_
  refine v_aload_n (q := 9) 0 dX12_goRun_8 rfl rfl rfl ?_
  refine v_iload_n (q := 10) 1 dX12_goRun_9 rfl rfl rfl ?_
  replace H := bs H; obtain ⟨x2, x2e, H⟩ := H
  refine u_callV1 (M' := mX12_stepsOf) (d' := 1) (rc := (RX12, TX12, 58)) (As := [.int u1]) (st := [.int s7.1]) (q := 13) oX12_stepsOf dX12_goRun_10 w1642 w1644 w0074 rfl rfl (RS.rc rs).1 (RS.rc rs).2 rfl (Nat.le_of_ble_eq_true rfl) (Nat.le_of_ble_eq_true rfl) (Nat.lt_of_lt_of_le (by decide) hd) rfl (sgX12_stepsOf (Nat.le_refl _) rs x2e) rfl ?_
  refine v_icmp_ge (q1 := 57) (q2 := 16) dX12_goRun_13 (by decide) rfl (fun c3 => ?_) (fun c3 => ?_)
  · replace H := ip c3 H
    exact V.sub [0, 1] rfl (kE s7.2 (Option.some.inj H).symm)
  · replace H := ine c3 H
    refine v_aload_n (q := 17) 0 dX12_goRun_16 rfl rfl rfl ?_
    refine v_iload_n (q := 18) 1 dX12_goRun_17 rfl rfl rfl ?_
    refine v_iload_n (q := 19) 2 dX12_goRun_18 rfl rfl rfl ?_
    replace H := bs H; obtain ⟨x4, x4e, H⟩ := H
    refine u_callV1 (M' := mX12_opOf) (d' := 1) (rc := (RX12, TX12, 58)) (As := [.int u1, .int s7.1]) (st := []) (q := 22) oX12_opOf dX12_goRun_19 w1646 w1648 w0075 rfl rfl (RS.rc rs).1 (RS.rc rs).2 rfl (Nat.le_of_ble_eq_true rfl) (Nat.le_of_ble_eq_true rfl) (Nat.lt_of_lt_of_le (by decide) hd) rfl (sgX12_opOf (Nat.le_refl _) rs x4e) rfl ?_
    refine v_iconst (v := 4) (q := 23) dX12_goRun_22 (by decide) rfl ?_
    refine v_icmp_ge (q1 := 35) (q2 := 26) dX12_goRun_23 (by decide) rfl (fun c5 => ?_) (fun c5 => ?_)
    · replace H := ip c5 H
      refine v_aload_n (q := 36) 0 dX12_goRun_35 rfl rfl rfl ?_
      refine v_iload_n (q := 37) 1 dX12_goRun_36 rfl rfl rfl ?_
      refine v_iload_n (q := 38) 2 dX12_goRun_37 rfl rfl rfl ?_
      replace H := bs H; obtain ⟨x6, x6e, H⟩ := H
      refine u_callV1 (M' := mX12_opOf) (d' := 1) (rc := (RX12, TX12, 58)) (As := [.int u1, .int s7.1]) (st := []) (q := 41) oX12_opOf dX12_goRun_38 w1646 w1648 w0075 rfl rfl (RS.rc rs).1 (RS.rc rs).2 rfl (Nat.le_of_ble_eq_true rfl) (Nat.le_of_ble_eq_true rfl) (Nat.lt_of_lt_of_le (by decide) hd) rfl (sgX12_opOf (Nat.le_refl _) rs x6e) rfl ?_
      refine v_iconst (v := 4) (q := 42) dX12_goRun_41 (by decide) rfl ?_
      refine v_icmp_ne (q1 := 51) (q2 := 45) dX12_goRun_42 (by decide) rfl (fun c7 => ?_) (fun c7 => ?_)
      · replace H := ine c7 H
        exact V.sub [0, 1, 2] rfl (sgjX12_goRun_51 hd rs H kI kE)
      · replace H := ip c7 H
        refine v_aload_n (q := 46) 0 dX12_goRun_45 rfl rfl rfl ?_
        refine v_iload_n (q := 47) 1 dX12_goRun_46 rfl rfl rfl ?_
        refine v_iload_n (q := 48) 2 dX12_goRun_47 rfl rfl rfl ?_
        replace H := bs H; obtain ⟨x9, x9e, H⟩ := H
        refine u_callV0 (M' := mX12_doDrop) (d' := 4) (rc := (RX12, TX12, 58)) (As := [.int u1, .int s7.1]) (st := []) (q := 51) oX12_doDrop dX12_goRun_48 w1734 w1736 w0096 rfl rfl (RS.rc rs).1 (RS.rc rs).2 rfl (Nat.le_of_ble_eq_true rfl) (Nat.le_of_ble_eq_true rfl) (Nat.lt_of_lt_of_le (by decide) hd) rfl (sgX12_doDrop (Nat.le_refl _) rs x9e) rfl ?_
        exact V.sub [0, 1, 2] rfl (sgjX12_goRun_51 hd rs H kI kE)
    · replace H := ine c5 H
      refine v_aload_n (q := 27) 0 dX12_goRun_26 rfl rfl rfl ?_
      refine v_iload_n (q := 28) 1 dX12_goRun_27 rfl rfl rfl ?_
      refine v_iload_n (q := 29) 2 dX12_goRun_28 rfl rfl rfl ?_
      replace H := bs H; obtain ⟨x10, x10e, H⟩ := H
      refine u_callV0 (M' := mX12_doTake) (d' := 6) (rc := (RX12, TX12, 58)) (As := [.int u1, .int s7.1]) (st := []) (q := 32) oX12_doTake dX12_goRun_29 w1650 w1652 w0076 rfl rfl (RS.rc rs).1 (RS.rc rs).2 rfl (Nat.le_of_ble_eq_true rfl) (Nat.le_of_ble_eq_true rfl) (Nat.lt_of_lt_of_le (by decide) hd) rfl (sgX12_doTake (Nat.le_refl _) rs x10e) rfl ?_
      refine v_goto (q := 51) dX12_goRun_32 (by decide) ?_
      exact V.sub [0, 1, 2] rfl (sgjX12_goRun_51 hd rs H kI kE)
def gbX12_goRun_59 (u1 : Int32) (s59 : Int32 × Mem) : Option ((Int32 × Mem) ⊕ (Mem)) :=
if (s59.2 0 31) ≤ s59.1 then (
some (.inr s59.2)) else (
(gX12_stepsOf s59.2 u1).bind fun x13 =>
(rd s59.2 19 10 s59.1).bind fun x14 =>
(gX12_reportOne s59.2 (9 : Int32) u1 x13 x14).bind fun x15 =>
(some (s59.1 + (1 : Int32))).bind fun x16 =>
some (.inl (x16, x15)))
set_option maxRecDepth 20000 in
set_option maxHeartbeats 4000000 in
theorem sgbX12_goRun_59 {Γ : Gm} {d : Nat} (hd : 7 ≤ d) {T : Nat} {h : Hp} (rs : RS T h) {u1 : Int32} {s59 : Int32 × Mem} {r : (Int32 × Mem) ⊕ (Mem)} {t : Option Value × Hp} (H : gbX12_goRun_59 u1 s59 = some r) (kI : ∀ s, r = .inl s → (fun s59 => V Γ d mX12_goRun 59 [(0, .ref T), (1, .int u1), (2, .int s59.1)] [] (hm T h s59.2) t) s) (kE : ∀ e, r = .inr e → (fun e => V Γ d mX12_goRun 91 [(0, .ref T), (1, .int u1)] [] (hm T h e) t) e) : V Γ d mX12_goRun 59 [(0, .ref T), (1, .int u1), (2, .int s59.1)] [] (hm T h s59.2) t := by
  unfold gbX12_goRun_59 at H
  refine v_iload_n (q := 60) 2 dX12_goRun_59 rfl rfl rfl ?_
  refine v_aload_n (q := 61) 0 dX12_goRun_60 rfl rfl rfl ?_
  refine ur_gI (q := 64) (x := 0) (k := 31) rs dX12_goRun_61 w1387 (Nat.le_of_ble_eq_true rfl) rfl rfl ?_
  refine v_icmp_ge (q1 := 91) (q2 := 67) dX12_goRun_64 (by decide) rfl (fun c12 => ?_) (fun c12 => ?_)
  · replace H := ip c12 H
    exact V.sub [0, 1] rfl (kE s59.2 (Option.some.inj H).symm)
  · replace H := ine c12 H
    refine v_aload_n (q := 68) 0 dX12_goRun_67 rfl rfl rfl ?_
    refine v_bipush (v := 9) (q := 70) dX12_goRun_68 (by decide) rfl ?_
    refine v_iload_n (q := 71) 1 dX12_goRun_70 rfl rfl rfl ?_
    refine v_aload_n (q := 72) 0 dX12_goRun_71 rfl rfl rfl ?_
    refine v_iload_n (q := 73) 1 dX12_goRun_72 rfl rfl rfl ?_
    replace H := bs H; obtain ⟨x13, x13e, H⟩ := H
    refine u_callV1 (M' := mX12_stepsOf) (d' := 1) (rc := (RX12, TX12, 58)) (As := [.int u1]) (st := [.int u1, .int (9 : Int32), .ref T]) (q := 76) oX12_stepsOf dX12_goRun_73 w1642 w1644 w0074 rfl rfl (RS.rc rs).1 (RS.rc rs).2 rfl (Nat.le_of_ble_eq_true rfl) (Nat.le_of_ble_eq_true rfl) (Nat.lt_of_lt_of_le (by decide) hd) rfl (sgX12_stepsOf (Nat.le_refl _) rs x13e) rfl ?_
    refine v_aload_n (q := 77) 0 dX12_goRun_76 rfl rfl rfl ?_
    refine ur_arr (q := 80) rs rt30 dX12_goRun_77 w1386 (Nat.le_of_ble_eq_true rfl) rfl rfl ?_
    refine v_iload_n (q := 81) 2 dX12_goRun_80 rfl rfl rfl ?_
    replace H := bs H; obtain ⟨x14, x14e, H⟩ := H
    refine ur_rd (q := 82) rs rt30 x14e dX12_goRun_81 rfl ?_
    replace H := bs H; obtain ⟨x15, x15e, H⟩ := H
    refine u_callV0 (M' := mX12_reportOne) (d' := 3) (rc := (RX12, TX12, 58)) (As := [.int (9 : Int32), .int u1, .int x13, .int x14]) (st := []) (q := 85) oX12_reportOne dX12_goRun_82 w1662 w1664 w0079 rfl rfl (RS.rc rs).1 (RS.rc rs).2 rfl (Nat.le_of_ble_eq_true rfl) (Nat.le_of_ble_eq_true rfl) (Nat.lt_of_lt_of_le (by decide) hd) rfl (sgX12_reportOne (Nat.le_refl _) rs x15e) rfl ?_
    replace H := bs H; obtain ⟨x16, x16e, H⟩ := H
    refine v_iinc (v := x16) (L' := [(2, .int x16), (0, .ref T), (1, .int u1)]) (q := 88) 2 dX12_goRun_85 rfl (Option.some.inj x16e) (by decide) rfl rfl ?_
    refine v_goto (q := 59) dX12_goRun_88 (by decide) ?_
    exact V.sub [1, 2, 0] rfl (kI (x16, x15) (Option.some.inj H).symm)
def gX12_goRun (m : Mem) (v1 : Int32) : Option (Mem) :=
(some (up m 0 31 (0 : Int32))).bind fun m1 =>
(lp (gbX12_goRun_7 v1) FU ((0 : Int32), m1)).bind fun e11 =>
(lp (gbX12_goRun_59 v1) FU ((0 : Int32), e11)).bind fun e17 =>
(rd e17 1 9685 ((1533 : Int32) + v1)).bind fun x18 =>
(wr e17 1 9685 ((1533 : Int32) + v1) (x18 + (1 : Int32))).bind fun m19 =>
some m19
set_option maxRecDepth 20000 in
set_option maxHeartbeats 4000000 in
theorem sgX12_goRun {Γ : Gm} {d : Nat} (hd : 7 ≤ d) {T : Nat} {h : Hp} (rs : RS T h) {m : Mem} {v1 : Int32} {r : Mem} (H : gX12_goRun m v1 = some r) : V Γ d mX12_goRun 0 [(0, .ref T), (1, .int v1)] [] (hm T h m) (none, (hm T h r)) := by
  unfold gX12_goRun at H
  refine v_aload_n (q := 1) 0 dX12_goRun_0 rfl rfl rfl ?_
  refine v_iconst (v := 0) (q := 2) dX12_goRun_1 (by decide) rfl ?_
  replace H := bs H; obtain ⟨m1, m1e, H⟩ := H
  refine ur_pI (q := 5) (k := 31) rs m1e dX12_goRun_2 w1387 (Nat.le_of_ble_eq_true rfl) rfl rfl rfl ?_
  refine v_iconst (v := 0) (q := 6) dX12_goRun_5 (by decide) rfl ?_
  refine v_istore_n (L' := [(2, .int (0 : Int32)), (0, .ref T), (1, .int v1)]) (q := 7) dX12_goRun_6 rfl (by decide) rfl rfl ?_
  replace H := bs H; obtain ⟨e11, e11L, H⟩ := H
  refine V.sub [1, 2, 0] rfl ?_
  refine lp_V (P := (fun s7 => V Γ d mX12_goRun 7 [(0, .ref T), (1, .int v1), (2, .int s7.1)] [] (hm T h s7.2) (none, (hm T h r)))) (E := (fun e => V Γ d mX12_goRun 57 [(0, .ref T), (1, .int v1)] [] (hm T h e) (none, (hm T h r)))) (fun s r hb kI kE => sgbX12_goRun_7 hd rs (s7 := s) (r := r) hb kI kE) FU ((0 : Int32), m1) e11 e11L ?_
  refine v_iconst (v := 0) (q := 58) dX12_goRun_57 (by decide) rfl ?_
  refine v_istore_n (L' := [(2, .int (0 : Int32)), (0, .ref T), (1, .int v1)]) (q := 59) dX12_goRun_58 rfl (by decide) rfl rfl ?_
  replace H := bs H; obtain ⟨e17, e17L, H⟩ := H
  refine V.sub [1, 2, 0] rfl ?_
  refine lp_V (P := (fun s59 => V Γ d mX12_goRun 59 [(0, .ref T), (1, .int v1), (2, .int s59.1)] [] (hm T h s59.2) (none, (hm T h r)))) (E := (fun e => V Γ d mX12_goRun 91 [(0, .ref T), (1, .int v1)] [] (hm T h e) (none, (hm T h r)))) (fun s r hb kI kE => sgbX12_goRun_59 hd rs (s59 := s) (r := r) hb kI kE) FU ((0 : Int32), e11) e17 e17L ?_
  refine v_aload_n (q := 92) 0 dX12_goRun_91 rfl rfl rfl ?_
  refine ur_arr (q := 95) rs rt0 dX12_goRun_92 w1356 (Nat.le_of_ble_eq_true rfl) rfl rfl ?_
  refine v_sipush (v := 1533) (q := 98) dX12_goRun_95 (by decide) rfl ?_
  refine v_iload_n (q := 99) 1 dX12_goRun_98 rfl rfl rfl ?_
  refine v_iadd (q := 100) dX12_goRun_99 rfl ?_
  refine v_dup2 (q := 101) dX12_goRun_100 rfl rfl rfl ?_
  replace H := bs H; obtain ⟨x18, x18e, H⟩ := H
  refine ur_rd (q := 102) rs rt0 x18e dX12_goRun_101 rfl ?_
  refine v_iconst (v := 1) (q := 103) dX12_goRun_102 (by decide) rfl ?_
  refine v_iadd (q := 104) dX12_goRun_103 rfl ?_
  replace H := bs H; obtain ⟨m19, m19e, H⟩ := H
  refine ur_wr (q := 105) rs rt0 m19e dX12_goRun_104 rfl ?_
  cases H
  exact v_return rfl dX12_goRun_105
def mX12_goAll : MI := (yX12_goAll, cX12_goAll, 2, none)
theorem oX12_goAll : mOK mX12_goAll 0 := ⟨by decide +kernel, by decide +kernel, by decide +kernel, by decide, w1828, w0150⟩
def gbX12_goAll_10  (s10 : Int32 × Mem) : Option ((Int32 × Mem) ⊕ (Mem)) :=
(rd s10.2 4 2 (s10.2 0 9)).bind fun x3 =>
if x3 ≤ s10.1 then (
some (.inr s10.2)) else (
(gX12_goRun s10.2 s10.1).bind fun x5 =>
(some (s10.1 + (1 : Int32))).bind fun x6 =>
some (.inl (x6, x5)))
set_option maxRecDepth 20000 in
set_option maxHeartbeats 4000000 in
theorem sgbX12_goAll_10 {Γ : Gm} {d : Nat} (hd : 8 ≤ d) {T : Nat} {h : Hp} (rs : RS T h)  {s10 : Int32 × Mem} {r : (Int32 × Mem) ⊕ (Mem)} {t : Option Value × Hp} (H : gbX12_goAll_10  s10 = some r) (kI : ∀ s, r = .inl s → (fun s10 => V Γ d mX12_goAll 10 [(0, .ref T), (1, .int s10.1)] [] (hm T h s10.2) t) s) (kE : ∀ e, r = .inr e → (fun e => V Γ d mX12_goAll 34 [] [] (hm T h e) t) e) : V Γ d mX12_goAll 10 [(0, .ref T), (1, .int s10.1)] [] (hm T h s10.2) t := by
  unfold gbX12_goAll_10 at H
  refine v_iload_n (q := 11) 1 dX12_goAll_10 rfl rfl rfl ?_
  refine v_aload_n (q := 12) 0 dX12_goAll_11 rfl rfl rfl ?_
  refine ur_arr (q := 15) rs rt3 dX12_goAll_12 w1359 (Nat.le_of_ble_eq_true rfl) rfl rfl ?_
  refine v_aload_n (q := 16) 0 dX12_goAll_15 rfl rfl rfl ?_
  refine ur_gI (q := 19) (x := 0) (k := 9) rs dX12_goAll_16 w1365 (Nat.le_of_ble_eq_true rfl) rfl rfl ?_
  replace H := bs H; obtain ⟨x3, x3e, H⟩ := H
  refine ur_rd (q := 20) rs rt3 x3e dX12_goAll_19 rfl ?_
  refine v_icmp_ge (q1 := 34) (q2 := 23) dX12_goAll_20 (by decide) rfl (fun c4 => ?_) (fun c4 => ?_)
  · replace H := ip c4 H
    exact V.sub [] rfl (kE s10.2 (Option.some.inj H).symm)
  · replace H := ine c4 H
    refine v_aload_n (q := 24) 0 dX12_goAll_23 rfl rfl rfl ?_
    refine v_iload_n (q := 25) 1 dX12_goAll_24 rfl rfl rfl ?_
    replace H := bs H; obtain ⟨x5, x5e, H⟩ := H
    refine u_callV0 (M' := mX12_goRun) (d' := 7) (rc := (RX12, TX12, 58)) (As := [.int s10.1]) (st := []) (q := 28) oX12_goRun dX12_goAll_25 w1638 w1640 w0073 rfl rfl (RS.rc rs).1 (RS.rc rs).2 rfl (Nat.le_of_ble_eq_true rfl) (Nat.le_of_ble_eq_true rfl) (Nat.lt_of_lt_of_le (by decide) hd) rfl (sgX12_goRun (Nat.le_refl _) rs x5e) rfl ?_
    replace H := bs H; obtain ⟨x6, x6e, H⟩ := H
    refine v_iinc (v := x6) (L' := [(1, .int x6), (0, .ref T)]) (q := 31) 1 dX12_goAll_28 rfl (Option.some.inj x6e) (by decide) rfl rfl ?_
    refine v_goto (q := 10) dX12_goAll_31 (by decide) ?_
    exact V.sub [1, 0] rfl (kI (x6, x5) (Option.some.inj H).symm)
def gX12_goAll (m : Mem)  : Option (Mem) :=
(gX12_putAside m).bind fun x1 =>
(gX12_clearAll x1).bind fun x2 =>
(lp (gbX12_goAll_10) FU ((0 : Int32), x2)).bind fun e7 =>
some e7
set_option maxRecDepth 20000 in
set_option maxHeartbeats 4000000 in
theorem sgX12_goAll {Γ : Gm} {d : Nat} (hd : 8 ≤ d) {T : Nat} {h : Hp} (rs : RS T h) {m : Mem}  {r : Mem} (H : gX12_goAll m  = some r) : V Γ d mX12_goAll 0 [(0, .ref T)] [] (hm T h m) (none, (hm T h r)) := by
  unfold gX12_goAll at H
  refine v_aload_n (q := 1) 0 dX12_goAll_0 rfl rfl rfl ?_
  replace H := bs H; obtain ⟨x1, x1e, H⟩ := H
  refine u_callV0 (M' := mX12_putAside) (d' := 1) (rc := (RX12, TX12, 58)) (As := []) (st := []) (q := 4) oX12_putAside dX12_goAll_1 w1809 w1811 w0102 rfl rfl (RS.rc rs).1 (RS.rc rs).2 rfl (Nat.le_of_ble_eq_true rfl) (Nat.le_of_ble_eq_true rfl) (Nat.lt_of_lt_of_le (by decide) hd) rfl (sgX12_putAside (Nat.le_refl _) rs x1e) rfl ?_
  refine v_aload_n (q := 5) 0 dX12_goAll_4 rfl rfl rfl ?_
  replace H := bs H; obtain ⟨x2, x2e, H⟩ := H
  refine u_callV0 (M' := mX12_clearAll) (d' := 1) (rc := (RX12, TX12, 58)) (As := []) (st := []) (q := 8) oX12_clearAll dX12_goAll_5 w1352 w1354 w0052 rfl rfl (RS.rc rs).1 (RS.rc rs).2 rfl (Nat.le_of_ble_eq_true rfl) (Nat.le_of_ble_eq_true rfl) (Nat.lt_of_lt_of_le (by decide) hd) rfl (sgX12_clearAll (Nat.le_refl _) rs x2e) rfl ?_
  refine v_iconst (v := 0) (q := 9) dX12_goAll_8 (by decide) rfl ?_
  refine v_istore_n (L' := [(1, .int (0 : Int32)), (0, .ref T)]) (q := 10) dX12_goAll_9 rfl (by decide) rfl rfl ?_
  replace H := bs H; obtain ⟨e7, e7L, H⟩ := H
  refine V.sub [1, 0] rfl ?_
  refine lp_V (P := (fun s10 => V Γ d mX12_goAll 10 [(0, .ref T), (1, .int s10.1)] [] (hm T h s10.2) (none, (hm T h r)))) (E := (fun e => V Γ d mX12_goAll 34 [] [] (hm T h e) (none, (hm T h r)))) (fun s r hb kI kE => sgbX12_goAll_10 hd rs (s10 := s) (r := r) hb kI kE) FU ((0 : Int32), x2) e7 e7L ?_
  cases H
  exact v_return rfl dX12_goAll_34
def mX12_bringBack : MI := (yX12_bringBack, cX12_bringBack, 2, none)
theorem oX12_bringBack : mOK mX12_bringBack 0 := ⟨by decide +kernel, by decide +kernel, by decide +kernel, by decide, w1820, w0150⟩
def gbX12_bringBack_2  (s2 : Int32 × Mem) : Option ((Int32 × Mem) ⊕ (Mem)) :=
if (9685 : Int32) ≤ s2.1 then (
some (.inr s2.2)) else (
(rd s2.2 20 9685 s2.1).bind fun x2 =>
(wr s2.2 1 9685 s2.1 x2).bind fun m3 =>
(some (s2.1 + (1 : Int32))).bind fun x4 =>
some (.inl (x4, m3)))
set_option maxRecDepth 20000 in
set_option maxHeartbeats 4000000 in
theorem sgbX12_bringBack_2 {Γ : Gm} {d : Nat} (hd : 1 ≤ d) {T : Nat} {h : Hp} (rs : RS T h)  {s2 : Int32 × Mem} {r : (Int32 × Mem) ⊕ (Mem)} {t : Option Value × Hp} (H : gbX12_bringBack_2  s2 = some r) (kI : ∀ s, r = .inl s → (fun s2 => V Γ d mX12_bringBack 2 [(0, .ref T), (1, .int s2.1)] [] (hm T h s2.2) t) s) (kE : ∀ e, r = .inr e → (fun e => V Γ d mX12_bringBack 27 [] [] (hm T h e) t) e) : V Γ d mX12_bringBack 2 [(0, .ref T), (1, .int s2.1)] [] (hm T h s2.2) t := by
  unfold gbX12_bringBack_2 at H
  refine v_iload_n (q := 3) 1 dX12_bringBack_2 rfl rfl rfl ?_
  refine v_sipush (v := 9685) (q := 6) dX12_bringBack_3 (by decide) rfl ?_
  refine v_icmp_ge (q1 := 27) (q2 := 9) dX12_bringBack_6 (by decide) rfl (fun c1 => ?_) (fun c1 => ?_)
  · replace H := ip c1 H
    exact V.sub [] rfl (kE s2.2 (Option.some.inj H).symm)
  · replace H := ine c1 H
    refine v_aload_n (q := 10) 0 dX12_bringBack_9 rfl rfl rfl ?_
    refine ur_arr (q := 13) rs rt0 dX12_bringBack_10 w1356 (Nat.le_of_ble_eq_true rfl) rfl rfl ?_
    refine v_iload_n (q := 14) 1 dX12_bringBack_13 rfl rfl rfl ?_
    refine v_aload_n (q := 15) 0 dX12_bringBack_14 rfl rfl rfl ?_
    refine ur_arr (q := 18) rs rt32 dX12_bringBack_15 w1388 (Nat.le_of_ble_eq_true rfl) rfl rfl ?_
    refine v_iload_n (q := 19) 1 dX12_bringBack_18 rfl rfl rfl ?_
    replace H := bs H; obtain ⟨x2, x2e, H⟩ := H
    refine ur_rd (q := 20) rs rt32 x2e dX12_bringBack_19 rfl ?_
    replace H := bs H; obtain ⟨m3, m3e, H⟩ := H
    refine ur_wr (q := 21) rs rt0 m3e dX12_bringBack_20 rfl ?_
    replace H := bs H; obtain ⟨x4, x4e, H⟩ := H
    refine v_iinc (v := x4) (L' := [(1, .int x4), (0, .ref T)]) (q := 24) 1 dX12_bringBack_21 rfl (Option.some.inj x4e) (by decide) rfl rfl ?_
    refine v_goto (q := 2) dX12_bringBack_24 (by decide) ?_
    exact V.sub [1, 0] rfl (kI (x4, m3) (Option.some.inj H).symm)
def gX12_bringBack (m : Mem)  : Option (Mem) :=
(lp (gbX12_bringBack_2) FU ((0 : Int32), m)).bind fun e5 =>
some e5
set_option maxRecDepth 20000 in
set_option maxHeartbeats 4000000 in
theorem sgX12_bringBack {Γ : Gm} {d : Nat} (hd : 1 ≤ d) {T : Nat} {h : Hp} (rs : RS T h) {m : Mem}  {r : Mem} (H : gX12_bringBack m  = some r) : V Γ d mX12_bringBack 0 [(0, .ref T)] [] (hm T h m) (none, (hm T h r)) := by
  unfold gX12_bringBack at H
  refine v_iconst (v := 0) (q := 1) dX12_bringBack_0 (by decide) rfl ?_
  refine v_istore_n (L' := [(1, .int (0 : Int32)), (0, .ref T)]) (q := 2) dX12_bringBack_1 rfl (by decide) rfl rfl ?_
  replace H := bs H; obtain ⟨e5, e5L, H⟩ := H
  refine V.sub [1, 0] rfl ?_
  refine lp_V (P := (fun s2 => V Γ d mX12_bringBack 2 [(0, .ref T), (1, .int s2.1)] [] (hm T h s2.2) (none, (hm T h r)))) (E := (fun e => V Γ d mX12_bringBack 27 [] [] (hm T h e) (none, (hm T h r)))) (fun s r hb kI kE => sgbX12_bringBack_2 hd rs (s2 := s) (r := r) hb kI kE) FU ((0 : Int32), m) e5 e5L ?_
  cases H
  exact v_return rfl dX12_bringBack_27
def mX12_all : MI := (yX12_all, cX12_all, 4, some .int)
theorem oX12_all : mOK mX12_all 1 := ⟨by decide +kernel, by decide +kernel, by decide +kernel, by decide, w1824, w0150⟩
def gjX12_all_52 (u1 : Int32) (v3 : Int32) (y0 : Int32) (y1 : Int32) (m : Mem) : Option ((Int32 × Int32) ⊕ (Int32)) :=
(some (y1 + y0)).bind fun x9 =>
(some (v3 + (1 : Int32))).bind fun x10 =>
some (.inl (x9, x10))
set_option maxRecDepth 20000 in
set_option maxHeartbeats 4000000 in
theorem sgjX12_all_52 {Γ : Gm} {d : Nat} (hd : 9 ≤ d) {T : Nat} {h : Hp} (rs : RS T h) {u1 : Int32} {v3 : Int32} {y0 : Int32} {y1 : Int32} {m : Mem} {r : (Int32 × Int32) ⊕ (Int32)} {t : Option Value × Hp} (H : gjX12_all_52 u1 v3 y0 y1 m = some r) (kI : ∀ s, r = .inl s → (fun s20 => V Γ d mX12_all 20 [(0, .ref T), (1, .int u1), (2, .int s20.1), (3, .int s20.2)] [] (hm T h m) t) s) (kE : ∀ e, r = .inr e → (fun e => V Γ d mX12_all 60 [(0, .ref T), (2, .int e)] [] (hm T h m) t) e) : V Γ d mX12_all 52 [(0, .ref T), (1, .int u1), (3, .int v3)] [.int y0, .int y1] (hm T h m) t := by
  unfold gjX12_all_52 at H
  refine v_iadd (q := 53) dX12_all_52 rfl ?_
  replace H := bs H; obtain ⟨x9, x9e, H⟩ := H
  refine v_topi (Option.some.inj x9e) ?_
  refine v_istore_n (L' := [(2, .int x9), (0, .ref T), (1, .int u1), (3, .int v3)]) (q := 54) dX12_all_53 rfl (by decide) rfl rfl ?_
  replace H := bs H; obtain ⟨x10, x10e, H⟩ := H
  refine v_iinc (v := x10) (L' := [(3, .int x10), (2, .int x9), (0, .ref T), (1, .int u1)]) (q := 57) 3 dX12_all_54 rfl (Option.some.inj x10e) (by decide) rfl rfl ?_
  refine v_goto (q := 20) dX12_all_57 (by decide) ?_
  exact V.sub [2, 3, 1, 0] rfl (kI (x9, x10) (Option.some.inj H).symm)
def gbX12_all_20 (u1 : Int32) (m : Mem) (s20 : Int32 × Int32) : Option ((Int32 × Int32) ⊕ (Int32)) :=
(rd m 1 9685 (272 : Int32)).bind fun x4 =>
if x4 ≤ s20.2 then (
some (.inr s20.1)) else (
(gX12_atReport s20.2 (0 : Int32)).bind fun x6 =>
(rd m 1 9685 x6).bind fun x7 =>
if x7 = u1 then (
gjX12_all_52 u1 s20.2 (1 : Int32) s20.1 m) else (
gjX12_all_52 u1 s20.2 (0 : Int32) s20.1 m))
set_option maxRecDepth 20000 in
set_option maxHeartbeats 4000000 in
theorem sgbX12_all_20 {Γ : Gm} {d : Nat} (hd : 9 ≤ d) {T : Nat} {h : Hp} (rs : RS T h) {u1 : Int32} {m : Mem} {s20 : Int32 × Int32} {r : (Int32 × Int32) ⊕ (Int32)} {t : Option Value × Hp} (H : gbX12_all_20 u1 m s20 = some r) (kI : ∀ s, r = .inl s → (fun s20 => V Γ d mX12_all 20 [(0, .ref T), (1, .int u1), (2, .int s20.1), (3, .int s20.2)] [] (hm T h m) t) s) (kE : ∀ e, r = .inr e → (fun e => V Γ d mX12_all 60 [(0, .ref T), (2, .int e)] [] (hm T h m) t) e) : V Γ d mX12_all 20 [(0, .ref T), (1, .int u1), (2, .int s20.1), (3, .int s20.2)] [] (hm T h m) t := by
  unfold gbX12_all_20 at H
  refine v_iload_n (q := 21) 3 dX12_all_20 rfl rfl rfl ?_
  refine v_aload_n (q := 22) 0 dX12_all_21 rfl rfl rfl ?_
  refine ur_arr (q := 25) rs rt0 dX12_all_22 w1356 (Nat.le_of_ble_eq_true rfl) rfl rfl ?_
  refine v_sipush (v := 272) (q := 28) dX12_all_25 (by decide) rfl ?_
  replace H := bs H; obtain ⟨x4, x4e, H⟩ := H
  refine ur_rd (q := 29) rs rt0 x4e dX12_all_28 rfl ?_
  refine v_icmp_ge (q1 := 60) (q2 := 32) dX12_all_29 (by decide) rfl (fun c5 => ?_) (fun c5 => ?_)
  · replace H := ip c5 H
    exact V.sub [0, 2] rfl (kE s20.1 (Option.some.inj H).symm)
  · replace H := ine c5 H
    refine v_iload_n (q := 33) 2 dX12_all_32 rfl rfl rfl ?_
    refine v_aload_n (q := 34) 0 dX12_all_33 rfl rfl rfl ?_
    refine ur_arr (q := 37) rs rt0 dX12_all_34 w1356 (Nat.le_of_ble_eq_true rfl) rfl rfl ?_
    refine v_iload_n (q := 38) 3 dX12_all_37 rfl rfl rfl ?_
    refine v_iconst (v := 0) (q := 39) dX12_all_38 (by decide) rfl ?_
    replace H := bs H; obtain ⟨x6, x6e, H⟩ := H
    refine u_callS1 (M' := mX12_atReport) (d' := 1) (As := [.int s20.2, .int (0 : Int32)]) (st := [.ref (T + 1), .int s20.1]) (q := 42) oX12_atReport dX12_all_39 w1670 w1671 rfl (Nat.le_of_ble_eq_true rfl) (Nat.le_of_ble_eq_true rfl) (Nat.lt_of_lt_of_le (by decide) hd) rfl (sgX12_atReport (Nat.le_refl _) x6e) rfl ?_
    replace H := bs H; obtain ⟨x7, x7e, H⟩ := H
    refine ur_rd (q := 43) rs rt0 x7e dX12_all_42 rfl ?_
    refine v_iload_n (q := 44) 1 dX12_all_43 rfl rfl rfl ?_
    refine v_icmp_ne (q1 := 51) (q2 := 47) dX12_all_44 (by decide) rfl (fun c8 => ?_) (fun c8 => ?_)
    · replace H := ine c8 H
      refine v_iconst (v := 0) (q := 52) dX12_all_51 (by decide) rfl ?_
      exact V.sub [0, 1, 3] rfl (sgjX12_all_52 hd rs H kI kE)
    · replace H := ip c8 H
      refine v_iconst (v := 1) (q := 48) dX12_all_47 (by decide) rfl ?_
      refine v_goto (q := 52) dX12_all_48 (by decide) ?_
      exact V.sub [0, 1, 3] rfl (sgjX12_all_52 hd rs H kI kE)
def gX12_all (m : Mem) (v1 : Int32) : Option (Int32 × Mem) :=
(gX12_isIn v1 (1 : Int32) (9 : Int32)).bind fun x1 =>
if x1 = 0 then (
some (((-1 : Int32), m))) else (
(gX12_goAll m).bind fun x3 =>
(lp (gbX12_all_20 v1 x3) FU ((0 : Int32), (0 : Int32))).bind fun e11 =>
(gX12_bringBack x3).bind fun x12 =>
some (e11, x12))
set_option maxRecDepth 20000 in
set_option maxHeartbeats 4000000 in
theorem sgX12_all {Γ : Gm} {d : Nat} (hd : 9 ≤ d) {T : Nat} {h : Hp} (rs : RS T h) {m : Mem} {v1 : Int32} {r : Int32 × Mem} (H : gX12_all m v1 = some r) : V Γ d mX12_all 0 [(0, .ref T), (1, .int v1)] [] (hm T h m) (some (.int r.1), (hm T h r.2)) := by
  unfold gX12_all at H
  refine v_iload_n (q := 1) 1 dX12_all_0 rfl rfl rfl ?_
  refine v_iconst (v := 1) (q := 2) dX12_all_1 (by decide) rfl ?_
  refine v_bipush (v := 9) (q := 4) dX12_all_2 (by decide) rfl ?_
  replace H := bs H; obtain ⟨x1, x1e, H⟩ := H
  refine u_callS1 (M' := mX12_isIn) (d' := 1) (As := [.int v1, .int (1 : Int32), .int (9 : Int32)]) (st := []) (q := 7) oX12_isIn dX12_all_4 w1618 w1619 rfl (Nat.le_of_ble_eq_true rfl) (Nat.le_of_ble_eq_true rfl) (Nat.lt_of_lt_of_le (by decide) hd) rfl (sgX12_isIn (Nat.le_refl _) x1e) rfl ?_
  refine v_if_ne (q1 := 12) (q2 := 10) dX12_all_7 (by decide) rfl (fun c2 => ?_) (fun c2 => ?_)
  · replace H := ine c2 H
    refine v_aload_n (q := 13) 0 dX12_all_12 rfl rfl rfl ?_
    replace H := bs H; obtain ⟨x3, x3e, H⟩ := H
    refine u_callV0 (M' := mX12_goAll) (d' := 8) (rc := (RX12, TX12, 58)) (As := []) (st := []) (q := 16) oX12_goAll dX12_all_13 w1825 w1827 w0105 rfl rfl (RS.rc rs).1 (RS.rc rs).2 rfl (Nat.le_of_ble_eq_true rfl) (Nat.le_of_ble_eq_true rfl) (Nat.lt_of_lt_of_le (by decide) hd) rfl (sgX12_goAll (Nat.le_refl _) rs x3e) rfl ?_
    refine v_iconst (v := 0) (q := 17) dX12_all_16 (by decide) rfl ?_
    refine v_istore_n (L' := [(2, .int (0 : Int32)), (0, .ref T), (1, .int v1)]) (q := 18) dX12_all_17 rfl (by decide) rfl rfl ?_
    refine v_iconst (v := 0) (q := 19) dX12_all_18 (by decide) rfl ?_
    refine v_istore_n (L' := [(3, .int (0 : Int32)), (2, .int (0 : Int32)), (0, .ref T), (1, .int v1)]) (q := 20) dX12_all_19 rfl (by decide) rfl rfl ?_
    replace H := bs H; obtain ⟨e11, e11L, H⟩ := H
    refine V.sub [2, 3, 1, 0] rfl ?_
    refine lp_V (P := (fun s20 => V Γ d mX12_all 20 [(0, .ref T), (1, .int v1), (2, .int s20.1), (3, .int s20.2)] [] (hm T h x3) (some (.int r.1), (hm T h r.2)))) (E := (fun e => V Γ d mX12_all 60 [(0, .ref T), (2, .int e)] [] (hm T h x3) (some (.int r.1), (hm T h r.2)))) (fun s r hb kI kE => sgbX12_all_20 hd rs (s20 := s) (r := r) hb kI kE) FU ((0 : Int32), (0 : Int32)) e11 e11L ?_
    refine v_aload_n (q := 61) 0 dX12_all_60 rfl rfl rfl ?_
    replace H := bs H; obtain ⟨x12, x12e, H⟩ := H
    refine u_callV0 (M' := mX12_bringBack) (d' := 1) (rc := (RX12, TX12, 58)) (As := []) (st := []) (q := 64) oX12_bringBack dX12_all_61 w1817 w1819 w0104 rfl rfl (RS.rc rs).1 (RS.rc rs).2 rfl (Nat.le_of_ble_eq_true rfl) (Nat.le_of_ble_eq_true rfl) (Nat.lt_of_lt_of_le (by decide) hd) rfl (sgX12_bringBack (Nat.le_refl _) rs x12e) rfl ?_
    refine v_iload_n (q := 65) 1 dX12_all_64 rfl rfl rfl ?_
    cases H
    exact v_ireturn rfl dX12_all_65
  · replace H := ip c2 H
    refine v_iconst (v := -1) (q := 11) dX12_all_10 (by decide) rfl ?_
    cases H
    exact v_ireturn rfl dX12_all_11
def mX12_has : MI := (yX12_has, cX12_has, 2, some .boolean)
theorem oX12_has : mOK mX12_has 2 := ⟨by decide +kernel, by decide +kernel, by decide +kernel, by decide, w1848, w0150⟩
def gjX12_has_14 (y0 : Int32) : Option (Int32) :=
(bz y0).bind fun x2 =>
some x2
set_option maxRecDepth 20000 in
set_option maxHeartbeats 4000000 in
theorem sgjX12_has_14 {Γ : Gm} {d : Nat} (hd : 1 ≤ d) {h : Hp} {y0 : Int32} {r : Int32} (H : gjX12_has_14 y0 = some r) : V Γ d mX12_has 14 [] [.int y0] h (some (.int r), h) := by
  unfold gjX12_has_14 at H
  replace H := bs H; obtain ⟨x2, x2e, H⟩ := H
  obtain ⟨x2q, x2z⟩ := bz_sp x2e
  refine v_topi x2q.symm ?_
  cases H
  exact v_zreturn rfl (by rw [x2q]; exact x2z) dX12_has_14
def gX12_has (v0 : Int32) (v1 : Int32) : Option (Int32) :=
if ((v0 >>> (v1 &&& 31)) &&& (1 : Int32)) = (1 : Int32) then (
gjX12_has_14 (1 : Int32)) else (
gjX12_has_14 (0 : Int32))
set_option maxRecDepth 20000 in
set_option maxHeartbeats 4000000 in
theorem sgX12_has {Γ : Gm} {d : Nat} (hd : 1 ≤ d) {h : Hp} {v0 : Int32} {v1 : Int32} {r : Int32} (H : gX12_has v0 v1 = some r) : V Γ d mX12_has 0 [(0, .int v0), (1, .int v1)] [] h (some (.int r), h) := by
  unfold gX12_has at H
  refine v_iload_n (q := 1) 0 dX12_has_0 rfl rfl rfl ?_
  refine v_iload_n (q := 2) 1 dX12_has_1 rfl rfl rfl ?_
  refine v_ishr (q := 3) dX12_has_2 rfl ?_
  refine v_iconst (v := 1) (q := 4) dX12_has_3 (by decide) rfl ?_
  refine v_iand (q := 5) dX12_has_4 rfl ?_
  refine v_iconst (v := 1) (q := 6) dX12_has_5 (by decide) rfl ?_
  refine v_icmp_ne (q1 := 13) (q2 := 9) dX12_has_6 (by decide) rfl (fun c1 => ?_) (fun c1 => ?_)
  · replace H := ine c1 H
    refine v_iconst (v := 0) (q := 14) dX12_has_13 (by decide) rfl ?_
    exact V.sub [] rfl (sgjX12_has_14 hd H)
  · replace H := ip c1 H
    refine v_iconst (v := 1) (q := 10) dX12_has_9 (by decide) rfl ?_
    refine v_goto (q := 14) dX12_has_10 (by decide) ?_
    exact V.sub [] rfl (sgjX12_has_14 hd H)
def mX12_areOf : MI := (yX12_areOf, cX12_areOf, 4, some .boolean)
theorem oX12_areOf : mOK mX12_areOf 2 := ⟨by decide +kernel, by decide +kernel, by decide +kernel, by decide, w2007, w0150⟩
def gjX12_areOf_30 (u1 : Int32) (u2 : Int32) (v3 : Int32) (m : Mem) : Option ((Int32) ⊕ ((Unit) ⊕ (Unit))) :=
(some (v3 + (1 : Int32))).bind fun x4 =>
some (.inl x4)
set_option maxRecDepth 20000 in
set_option maxHeartbeats 4000000 in
theorem sgjX12_areOf_30 {Γ : Gm} {d : Nat} (hd : 2 ≤ d) {T : Nat} {h : Hp} (rs : RS T h) {u1 : Int32} {u2 : Int32} {v3 : Int32} {m : Mem} {r : (Int32) ⊕ ((Unit) ⊕ (Unit))} {t : Option Value × Hp} (H : gjX12_areOf_30 u1 u2 v3 m = some r) (kI : ∀ s, r = .inl s → (fun s2 => V Γ d mX12_areOf 2 [(0, .ref T), (1, .int u1), (2, .int u2), (3, .int s2)] [] (hm T h m) t) s) (kE : ∀ e, r = .inr e → (fun e => (match e with | .inl a0 => V Γ d mX12_areOf 36 [] [] (hm T h m) t | .inr b0 => V Γ d mX12_areOf 28 [] [] (hm T h m) t)) e) : V Γ d mX12_areOf 30 [(0, .ref T), (1, .int u1), (2, .int u2), (3, .int v3)] [] (hm T h m) t := by
  unfold gjX12_areOf_30 at H
  replace H := bs H; obtain ⟨x4, x4e, H⟩ := H
  refine v_iinc (v := x4) (L' := [(3, .int x4), (0, .ref T), (1, .int u1), (2, .int u2)]) (q := 33) 3 dX12_areOf_30 rfl (Option.some.inj x4e) (by decide) rfl rfl ?_
  refine v_goto (q := 2) dX12_areOf_33 (by decide) ?_
  exact V.sub [1, 2, 3, 0] rfl (kI x4 (Option.some.inj H).symm)
def gbX12_areOf_2 (u1 : Int32) (u2 : Int32) (m : Mem) (s2 : Int32) : Option ((Int32) ⊕ ((Unit) ⊕ (Unit))) :=
if (10 : Int32) ≤ s2 then (
some (.inr (.inl ()))) else (
(gX12_has u1 s2).bind fun x2 =>
if x2 = 0 then (
gjX12_areOf_30 u1 u2 s2 m) else (
(gX12_kind m s2).bind fun x5 =>
(gX12_has u2 x5).bind fun x6 =>
if x6 = 0 then (
some (.inr (.inr ()))) else (
gjX12_areOf_30 u1 u2 s2 m)))
set_option maxRecDepth 20000 in
set_option maxHeartbeats 4000000 in
theorem sgbX12_areOf_2 {Γ : Gm} {d : Nat} (hd : 2 ≤ d) {T : Nat} {h : Hp} (rs : RS T h) {u1 : Int32} {u2 : Int32} {m : Mem} {s2 : Int32} {r : (Int32) ⊕ ((Unit) ⊕ (Unit))} {t : Option Value × Hp} (H : gbX12_areOf_2 u1 u2 m s2 = some r) (kI : ∀ s, r = .inl s → (fun s2 => V Γ d mX12_areOf 2 [(0, .ref T), (1, .int u1), (2, .int u2), (3, .int s2)] [] (hm T h m) t) s) (kE : ∀ e, r = .inr e → (fun e => (match e with | .inl a0 => V Γ d mX12_areOf 36 [] [] (hm T h m) t | .inr b0 => V Γ d mX12_areOf 28 [] [] (hm T h m) t)) e) : V Γ d mX12_areOf 2 [(0, .ref T), (1, .int u1), (2, .int u2), (3, .int s2)] [] (hm T h m) t := by
  unfold gbX12_areOf_2 at H
  refine v_iload_n (q := 3) 3 dX12_areOf_2 rfl rfl rfl ?_
  refine v_bipush (v := 10) (q := 5) dX12_areOf_3 (by decide) rfl ?_
  refine v_icmp_ge (q1 := 36) (q2 := 8) dX12_areOf_5 (by decide) rfl (fun c1 => ?_) (fun c1 => ?_)
  · replace H := ip c1 H
    exact V.sub [] rfl (kE (.inl ()) (Option.some.inj H).symm)
  · replace H := ine c1 H
    refine v_iload_n (q := 9) 1 dX12_areOf_8 rfl rfl rfl ?_
    refine v_iload_n (q := 10) 3 dX12_areOf_9 rfl rfl rfl ?_
    replace H := bs H; obtain ⟨x2, x2e, H⟩ := H
    refine u_callS1 (M' := mX12_has) (d' := 1) (As := [.int u1, .int s2]) (st := []) (q := 13) oX12_has dX12_areOf_10 w1846 w1847 rfl (Nat.le_of_ble_eq_true rfl) (Nat.le_of_ble_eq_true rfl) (Nat.lt_of_lt_of_le (by decide) hd) rfl (sgX12_has (Nat.le_refl _) x2e) rfl ?_
    refine v_if_eq (q1 := 30) (q2 := 16) dX12_areOf_13 (by decide) rfl (fun c3 => ?_) (fun c3 => ?_)
    · replace H := ip c3 H
      exact V.sub [0, 1, 2, 3] rfl (sgjX12_areOf_30 hd rs H kI kE)
    · replace H := ine c3 H
      refine v_iload_n (q := 17) 2 dX12_areOf_16 rfl rfl rfl ?_
      refine v_aload_n (q := 18) 0 dX12_areOf_17 rfl rfl rfl ?_
      refine v_iload_n (q := 19) 3 dX12_areOf_18 rfl rfl rfl ?_
      replace H := bs H; obtain ⟨x5, x5e, H⟩ := H
      refine u_callV1 (M' := mX12_kind) (d' := 1) (rc := (RX12, TX12, 58)) (As := [.int s2]) (st := [.int u2]) (q := 22) oX12_kind dX12_areOf_19 w1673 w1675 w0081 rfl rfl (RS.rc rs).1 (RS.rc rs).2 rfl (Nat.le_of_ble_eq_true rfl) (Nat.le_of_ble_eq_true rfl) (Nat.lt_of_lt_of_le (by decide) hd) rfl (sgX12_kind (Nat.le_refl _) rs x5e) rfl ?_
      replace H := bs H; obtain ⟨x6, x6e, H⟩ := H
      refine u_callS1 (M' := mX12_has) (d' := 1) (As := [.int u2, .int x5]) (st := []) (q := 25) oX12_has dX12_areOf_22 w1846 w1847 rfl (Nat.le_of_ble_eq_true rfl) (Nat.le_of_ble_eq_true rfl) (Nat.lt_of_lt_of_le (by decide) hd) rfl (sgX12_has (Nat.le_refl _) x6e) rfl ?_
      refine v_if_ne (q1 := 30) (q2 := 28) dX12_areOf_25 (by decide) rfl (fun c7 => ?_) (fun c7 => ?_)
      · replace H := ine c7 H
        exact V.sub [0, 1, 2, 3] rfl (sgjX12_areOf_30 hd rs H kI kE)
      · replace H := ip c7 H
        exact V.sub [] rfl (kE (.inr ()) (Option.some.inj H).symm)
def gX12_areOf (m : Mem) (v1 : Int32) (v2 : Int32) : Option (Int32) :=
(lp (gbX12_areOf_2 v1 v2 m) FU (0 : Int32)).bind fun e8 =>
(match e8 with
| .inl e9 => (
some (1 : Int32))
| .inr e10 => (
some (0 : Int32)))
set_option maxRecDepth 20000 in
set_option maxHeartbeats 4000000 in
theorem sgX12_areOf {Γ : Gm} {d : Nat} (hd : 2 ≤ d) {T : Nat} {h : Hp} (rs : RS T h) {m : Mem} {v1 : Int32} {v2 : Int32} {r : Int32} (H : gX12_areOf m v1 v2 = some r) : V Γ d mX12_areOf 0 [(0, .ref T), (1, .int v1), (2, .int v2)] [] (hm T h m) (some (.int r), (hm T h m)) := by
  unfold gX12_areOf at H
  refine v_iconst (v := 0) (q := 1) dX12_areOf_0 (by decide) rfl ?_
  refine v_istore_n (L' := [(3, .int (0 : Int32)), (0, .ref T), (1, .int v1), (2, .int v2)]) (q := 2) dX12_areOf_1 rfl (by decide) rfl rfl ?_
  replace H := bs H; obtain ⟨e8, e8L, H⟩ := H
  refine V.sub [1, 2, 3, 0] rfl ?_
  refine lp_V (P := (fun s2 => V Γ d mX12_areOf 2 [(0, .ref T), (1, .int v1), (2, .int v2), (3, .int s2)] [] (hm T h m) (some (.int r), (hm T h m)))) (E := (fun e => (match e with | .inl a0 => V Γ d mX12_areOf 36 [] [] (hm T h m) (some (.int r), (hm T h m)) | .inr b0 => V Γ d mX12_areOf 28 [] [] (hm T h m) (some (.int r), (hm T h m))))) (fun s r hb kI kE => sgbX12_areOf_2 hd rs (s2 := s) (r := r) hb kI kE) FU (0 : Int32) e8 e8L ?_
  rcases e8 with e9 | e10
  · skip
    refine v_iconst (v := 1) (q := 37) dX12_areOf_36 (by decide) rfl ?_
    cases H
    exact v_zreturn rfl (by decide) dX12_areOf_37
  · skip
    refine v_iconst (v := 0) (q := 29) dX12_areOf_28 (by decide) rfl ?_
    cases H
    exact v_zreturn rfl (by decide) dX12_areOf_29
def mX12_back : MI := (yX12_back, cX12_back, 3, some .int)
theorem oX12_back : mOK mX12_back 1 := ⟨by decide +kernel, by decide +kernel, by decide +kernel, by decide, w2027, w0150⟩
def gjX12_back_18 (m : Mem) : Option (Int32 × Mem) :=
some (((-1 : Int32), m))
set_option maxRecDepth 20000 in
set_option maxHeartbeats 4000000 in
theorem sgjX12_back_18 {Γ : Gm} {d : Nat} (hd : 2 ≤ d) {T : Nat} {h : Hp} (rs : RS T h) {m : Mem} {r : Int32 × Mem} (H : gjX12_back_18 m = some r) : V Γ d mX12_back 18 [] [] (hm T h m) (some (.int r.1), (hm T h r.2)) := by
  unfold gjX12_back_18 at H
  refine v_iconst (v := -1) (q := 19) dX12_back_18 (by decide) rfl ?_
  cases H
  exact v_ireturn rfl dX12_back_19
def gbX12_back_22 (u1 : Int32) (s22 : Int32 × Mem) : Option ((Int32 × Mem) ⊕ (Mem)) :=
if (9685 : Int32) ≤ s22.1 then (
some (.inr s22.2)) else (
(rd s22.2 37 19370 (((9685 : Int32) * u1) + s22.1)).bind fun x6 =>
(wr s22.2 1 9685 s22.1 x6).bind fun m7 =>
(some (s22.1 + (1 : Int32))).bind fun x8 =>
some (.inl (x8, m7)))
set_option maxRecDepth 20000 in
set_option maxHeartbeats 4000000 in
theorem sgbX12_back_22 {Γ : Gm} {d : Nat} (hd : 2 ≤ d) {T : Nat} {h : Hp} (rs : RS T h) {u1 : Int32} {s22 : Int32 × Mem} {r : (Int32 × Mem) ⊕ (Mem)} {t : Option Value × Hp} (H : gbX12_back_22 u1 s22 = some r) (kI : ∀ s, r = .inl s → (fun s22 => V Γ d mX12_back 22 [(0, .ref T), (1, .int u1), (2, .int s22.1)] [] (hm T h s22.2) t) s) (kE : ∀ e, r = .inr e → (fun e => V Γ d mX12_back 53 [(0, .ref T)] [] (hm T h e) t) e) : V Γ d mX12_back 22 [(0, .ref T), (1, .int u1), (2, .int s22.1)] [] (hm T h s22.2) t := by
  unfold gbX12_back_22 at H
  refine v_iload_n (q := 23) 2 dX12_back_22 rfl rfl rfl ?_
  refine v_sipush (v := 9685) (q := 26) dX12_back_23 (by decide) rfl ?_
  refine v_icmp_ge (q1 := 53) (q2 := 29) dX12_back_26 (by decide) rfl (fun c5 => ?_) (fun c5 => ?_)
  · replace H := ip c5 H
    exact V.sub [0] rfl (kE s22.2 (Option.some.inj H).symm)
  · replace H := ine c5 H
    refine v_aload_n (q := 30) 0 dX12_back_29 rfl rfl rfl ?_
    refine ur_arr (q := 33) rs rt0 dX12_back_30 w1356 (Nat.le_of_ble_eq_true rfl) rfl rfl ?_
    refine v_iload_n (q := 34) 2 dX12_back_33 rfl rfl rfl ?_
    refine v_aload_n (q := 35) 0 dX12_back_34 rfl rfl rfl ?_
    refine ur_arr (q := 38) rs rt54 dX12_back_35 w1410 (Nat.le_of_ble_eq_true rfl) rfl rfl ?_
    refine v_sipush (v := 9685) (q := 41) dX12_back_38 (by decide) rfl ?_
    refine v_iload_n (q := 42) 1 dX12_back_41 rfl rfl rfl ?_
    refine v_imul (q := 43) dX12_back_42 rfl ?_
    refine v_iload_n (q := 44) 2 dX12_back_43 rfl rfl rfl ?_
    refine v_iadd (q := 45) dX12_back_44 rfl ?_
    replace H := bs H; obtain ⟨x6, x6e, H⟩ := H
    refine ur_rd (q := 46) rs rt54 x6e dX12_back_45 rfl ?_
    replace H := bs H; obtain ⟨m7, m7e, H⟩ := H
    refine ur_wr (q := 47) rs rt0 m7e dX12_back_46 rfl ?_
    replace H := bs H; obtain ⟨x8, x8e, H⟩ := H
    refine v_iinc (v := x8) (L' := [(2, .int x8), (0, .ref T), (1, .int u1)]) (q := 50) 2 dX12_back_47 rfl (Option.some.inj x8e) (by decide) rfl rfl ?_
    refine v_goto (q := 22) dX12_back_50 (by decide) ?_
    exact V.sub [1, 2, 0] rfl (kI (x8, m7) (Option.some.inj H).symm)
def gX12_back (m : Mem) (v1 : Int32) : Option (Int32 × Mem) :=
(gX12_isIn v1 (0 : Int32) (1 : Int32)).bind fun x1 =>
if x1 = 0 then (
gjX12_back_18 m) else (
(rd m 38 2 v1).bind fun x3 =>
if x3 = 0 then (
gjX12_back_18 m) else (
(lp (gbX12_back_22 v1) FU ((0 : Int32), m)).bind fun e9 =>
(some (up e9 0 56 (0 : Int32))).bind fun m10 =>
(some (up m10 0 57 (0 : Int32))).bind fun m11 =>
(rd m11 1 9685 (272 : Int32)).bind fun x12 =>
some (x12, m11)))
set_option maxRecDepth 20000 in
set_option maxHeartbeats 4000000 in
theorem sgX12_back {Γ : Gm} {d : Nat} (hd : 2 ≤ d) {T : Nat} {h : Hp} (rs : RS T h) {m : Mem} {v1 : Int32} {r : Int32 × Mem} (H : gX12_back m v1 = some r) : V Γ d mX12_back 0 [(0, .ref T), (1, .int v1)] [] (hm T h m) (some (.int r.1), (hm T h r.2)) := by
  unfold gX12_back at H
  refine v_iload_n (q := 1) 1 dX12_back_0 rfl rfl rfl ?_
  refine v_iconst (v := 0) (q := 2) dX12_back_1 (by decide) rfl ?_
  refine v_iconst (v := 1) (q := 3) dX12_back_2 (by decide) rfl ?_
  replace H := bs H; obtain ⟨x1, x1e, H⟩ := H
  refine u_callS1 (M' := mX12_isIn) (d' := 1) (As := [.int v1, .int (0 : Int32), .int (1 : Int32)]) (st := []) (q := 6) oX12_isIn dX12_back_3 w1618 w1619 rfl (Nat.le_of_ble_eq_true rfl) (Nat.le_of_ble_eq_true rfl) (Nat.lt_of_lt_of_le (by decide) hd) rfl (sgX12_isIn (Nat.le_refl _) x1e) rfl ?_
  refine v_if_eq (q1 := 18) (q2 := 9) dX12_back_6 (by decide) rfl (fun c2 => ?_) (fun c2 => ?_)
  · replace H := ip c2 H
    exact V.sub [] rfl (sgjX12_back_18 hd rs H)
  · replace H := ine c2 H
    refine v_aload_n (q := 10) 0 dX12_back_9 rfl rfl rfl ?_
    refine ur_arr (q := 13) rs rt55 dX12_back_10 w1411 (Nat.le_of_ble_eq_true rfl) rfl rfl ?_
    refine v_iload_n (q := 14) 1 dX12_back_13 rfl rfl rfl ?_
    replace H := bs H; obtain ⟨x3, x3e, H⟩ := H
    refine ur_rdZ (q := 15) rs rt55 x3e dX12_back_14 rfl ?_
    refine v_if_ne (q1 := 20) (q2 := 18) dX12_back_15 (by decide) rfl (fun c4 => ?_) (fun c4 => ?_)
    · replace H := ine c4 H
      refine v_iconst (v := 0) (q := 21) dX12_back_20 (by decide) rfl ?_
      refine v_istore_n (L' := [(2, .int (0 : Int32)), (0, .ref T), (1, .int v1)]) (q := 22) dX12_back_21 rfl (by decide) rfl rfl ?_
      replace H := bs H; obtain ⟨e9, e9L, H⟩ := H
      refine V.sub [1, 2, 0] rfl ?_
      refine lp_V (P := (fun s22 => V Γ d mX12_back 22 [(0, .ref T), (1, .int v1), (2, .int s22.1)] [] (hm T h s22.2) (some (.int r.1), (hm T h r.2)))) (E := (fun e => V Γ d mX12_back 53 [(0, .ref T)] [] (hm T h e) (some (.int r.1), (hm T h r.2)))) (fun s r hb kI kE => sgbX12_back_22 hd rs (s22 := s) (r := r) hb kI kE) FU ((0 : Int32), m) e9 e9L ?_
      refine v_aload_n (q := 54) 0 dX12_back_53 rfl rfl rfl ?_
      refine v_iconst (v := 0) (q := 55) dX12_back_54 (by decide) rfl ?_
      replace H := bs H; obtain ⟨m10, m10e, H⟩ := H
      refine ur_pI (q := 58) (k := 56) rs m10e dX12_back_55 w1412 (Nat.le_of_ble_eq_true rfl) rfl rfl rfl ?_
      refine v_aload_n (q := 59) 0 dX12_back_58 rfl rfl rfl ?_
      refine v_iconst (v := 0) (q := 60) dX12_back_59 (by decide) rfl ?_
      replace H := bs H; obtain ⟨m11, m11e, H⟩ := H
      refine ur_pI (q := 63) (k := 57) rs m11e dX12_back_60 w1413 (Nat.le_of_ble_eq_true rfl) rfl rfl rfl ?_
      refine v_aload_n (q := 64) 0 dX12_back_63 rfl rfl rfl ?_
      refine ur_arr (q := 67) rs rt0 dX12_back_64 w1356 (Nat.le_of_ble_eq_true rfl) rfl rfl ?_
      refine v_sipush (v := 272) (q := 70) dX12_back_67 (by decide) rfl ?_
      replace H := bs H; obtain ⟨x12, x12e, H⟩ := H
      refine ur_rd (q := 71) rs rt0 x12e dX12_back_70 rfl ?_
      cases H
      exact v_ireturn rfl dX12_back_71
    · replace H := ip c4 H
      exact V.sub [] rfl (sgjX12_back_18 hd rs H)
def mX12_isIn0 : MI := (yX12_isIn0, cX12_isIn0, 2, some .boolean)
theorem oX12_isIn0 : mOK mX12_isIn0 1 := ⟨by decide +kernel, by decide +kernel, by decide +kernel, by decide, w1860, w0150⟩
def gX12_isIn0 (m : Mem) (v1 : Int32) : Option (Int32) :=
(gX12_has (m 0 40) v1).bind fun x1 =>
(bz x1).bind fun x2 =>
some x2
set_option maxRecDepth 20000 in
set_option maxHeartbeats 4000000 in
theorem sgX12_isIn0 {Γ : Gm} {d : Nat} (hd : 2 ≤ d) {T : Nat} {h : Hp} (rs : RS T h) {m : Mem} {v1 : Int32} {r : Int32} (H : gX12_isIn0 m v1 = some r) : V Γ d mX12_isIn0 0 [(0, .ref T), (1, .int v1)] [] (hm T h m) (some (.int r), (hm T h m)) := by
  unfold gX12_isIn0 at H
  refine v_aload_n (q := 1) 0 dX12_isIn0_0 rfl rfl rfl ?_
  refine ur_gI (q := 4) (x := 0) (k := 40) rs dX12_isIn0_1 w1396 (Nat.le_of_ble_eq_true rfl) rfl rfl ?_
  refine v_iload_n (q := 5) 1 dX12_isIn0_4 rfl rfl rfl ?_
  replace H := bs H; obtain ⟨x1, x1e, H⟩ := H
  refine u_callS1 (M' := mX12_has) (d' := 1) (As := [.int (m 0 40), .int v1]) (st := []) (q := 8) oX12_has dX12_isIn0_5 w1846 w1847 rfl (Nat.le_of_ble_eq_true rfl) (Nat.le_of_ble_eq_true rfl) (Nat.lt_of_lt_of_le (by decide) hd) rfl (sgX12_has (Nat.le_refl _) x1e) rfl ?_
  replace H := bs H; obtain ⟨x2, x2e, H⟩ := H
  obtain ⟨x2q, x2z⟩ := bz_sp x2e
  refine v_topi x2q.symm ?_
  cases H
  exact v_zreturn rfl (by rw [x2q]; exact x2z) dX12_isIn0_8
def mX12_beginMoments : MI := (yX12_beginMoments, cX12_beginMoments, 4, none)
theorem oX12_beginMoments : mOK mX12_beginMoments 1 := ⟨by decide +kernel, by decide +kernel, by decide +kernel, by decide, w1856, w0150⟩
def gbX12_beginMoments_17  (s17 : Int32 × Mem) : Option ((Int32 × Mem) ⊕ (Mem)) :=
if (16384 : Int32) ≤ s17.1 then (
some (.inr s17.2)) else (
(wr s17.2 31 16384 s17.1 (-1 : Int32)).bind fun m5 =>
(some (s17.1 + (1 : Int32))).bind fun x6 =>
some (.inl (x6, m5)))
set_option maxRecDepth 20000 in
set_option maxHeartbeats 4000000 in
theorem sgbX12_beginMoments_17 {Γ : Gm} {d : Nat} (hd : 3 ≤ d) {T : Nat} {h : Hp} (rs : RS T h)  {s17 : Int32 × Mem} {r : (Int32 × Mem) ⊕ (Mem)} {t : Option Value × Hp} (H : gbX12_beginMoments_17  s17 = some r) (kI : ∀ s, r = .inl s → (fun s17 => V Γ d mX12_beginMoments 17 [(0, .ref T), (2, .int s17.1)] [] (hm T h s17.2) t) s) (kE : ∀ e, r = .inr e → (fun e => V Γ d mX12_beginMoments 37 [(0, .ref T)] [] (hm T h e) t) e) : V Γ d mX12_beginMoments 17 [(0, .ref T), (2, .int s17.1)] [] (hm T h s17.2) t := by
  unfold gbX12_beginMoments_17 at H
  refine v_iload_n (q := 18) 1 dX12_beginMoments_17 rfl rfl rfl ?_
  refine v_sipush (v := 16384) (q := 21) dX12_beginMoments_18 (by decide) rfl ?_
  refine v_icmp_ge (q1 := 37) (q2 := 24) dX12_beginMoments_21 (by decide) rfl (fun c4 => ?_) (fun c4 => ?_)
  · replace H := ip c4 H
    exact V.sub [0] rfl (kE s17.2 (Option.some.inj H).symm)
  · replace H := ine c4 H
    refine v_aload_n (q := 25) 0 dX12_beginMoments_24 rfl rfl rfl ?_
    refine ur_arr (q := 28) rs rt45 dX12_beginMoments_25 w1401 (Nat.le_of_ble_eq_true rfl) rfl rfl ?_
    refine v_iload_n (q := 29) 1 dX12_beginMoments_28 rfl rfl rfl ?_
    refine v_iconst (v := -1) (q := 30) dX12_beginMoments_29 (by decide) rfl ?_
    replace H := bs H; obtain ⟨m5, m5e, H⟩ := H
    refine ur_wr (q := 31) rs rt45 m5e dX12_beginMoments_30 rfl ?_
    replace H := bs H; obtain ⟨x6, x6e, H⟩ := H
    refine v_iinc (v := x6) (L' := [(2, .int x6), (0, .ref T)]) (q := 34) 1 dX12_beginMoments_31 rfl (Option.some.inj x6e) (by decide) rfl rfl ?_
    refine v_goto (q := 17) dX12_beginMoments_34 (by decide) ?_
    exact V.sub [1, 0] rfl (kI (x6, m5) (Option.some.inj H).symm)
def gjX12_beginMoments_96 (v2 : Int32) (y0 : Int32) (y1 : Int32) (m : Mem) : Option ((Int32 × Mem) ⊕ (Mem)) :=
(wr m 24 6 y1 y0).bind fun m14 =>
(some (v2 + (1 : Int32))).bind fun x15 =>
some (.inl (x15, m14))
set_option maxRecDepth 20000 in
set_option maxHeartbeats 4000000 in
theorem sgjX12_beginMoments_96 {Γ : Gm} {d : Nat} (hd : 3 ≤ d) {T : Nat} {h : Hp} (rs : RS T h) {v2 : Int32} {y0 : Int32} {y1 : Int32} {m : Mem} {r : (Int32 × Mem) ⊕ (Mem)} {t : Option Value × Hp} (H : gjX12_beginMoments_96 v2 y0 y1 m = some r) (kI : ∀ s, r = .inl s → (fun s39 => V Γ d mX12_beginMoments 39 [(0, .ref T), (2, .int s39.1)] [] (hm T h s39.2) t) s) (kE : ∀ e, r = .inr e → (fun e => V Γ d mX12_beginMoments 103 [(0, .ref T)] [] (hm T h e) t) e) : V Γ d mX12_beginMoments 96 [(0, .ref T), (2, .int v2)] [.int y0, .int y1, .ref (T + 24)] (hm T h m) t := by
  unfold gjX12_beginMoments_96 at H
  replace H := bs H; obtain ⟨m14, m14e, H⟩ := H
  refine ur_wr (q := 97) rs rt37 m14e dX12_beginMoments_96 rfl ?_
  replace H := bs H; obtain ⟨x15, x15e, H⟩ := H
  refine v_iinc (v := x15) (L' := [(2, .int x15), (0, .ref T)]) (q := 100) 1 dX12_beginMoments_97 rfl (Option.some.inj x15e) (by decide) rfl rfl ?_
  refine v_goto (q := 39) dX12_beginMoments_100 (by decide) ?_
  exact V.sub [1, 0] rfl (kI (x15, m14) (Option.some.inj H).symm)
def gjX12_beginMoments_81 (v2 : Int32) (v3 : Int32) (y0 : Int32) (y1 : Int32) (m : Mem) : Option ((Int32 × Mem) ⊕ (Mem)) :=
(wr m 23 6 y1 y0).bind fun m12 =>
if v3 = 0 then (
gjX12_beginMoments_96 v2 (-1 : Int32) v2 m12) else (
gjX12_beginMoments_96 v2 v2 v2 m12)
set_option maxRecDepth 20000 in
set_option maxHeartbeats 4000000 in
theorem sgjX12_beginMoments_81 {Γ : Gm} {d : Nat} (hd : 3 ≤ d) {T : Nat} {h : Hp} (rs : RS T h) {v2 : Int32} {v3 : Int32} {y0 : Int32} {y1 : Int32} {m : Mem} {r : (Int32 × Mem) ⊕ (Mem)} {t : Option Value × Hp} (H : gjX12_beginMoments_81 v2 v3 y0 y1 m = some r) (kI : ∀ s, r = .inl s → (fun s39 => V Γ d mX12_beginMoments 39 [(0, .ref T), (2, .int s39.1)] [] (hm T h s39.2) t) s) (kE : ∀ e, r = .inr e → (fun e => V Γ d mX12_beginMoments 103 [(0, .ref T)] [] (hm T h e) t) e) : V Γ d mX12_beginMoments 81 [(0, .ref T), (2, .int v2), (3, .int v3)] [.int y0, .int y1, .ref (T + 23)] (hm T h m) t := by
  unfold gjX12_beginMoments_81 at H
  replace H := bs H; obtain ⟨m12, m12e, H⟩ := H
  refine ur_wr (q := 82) rs rt36 m12e dX12_beginMoments_81 rfl ?_
  refine v_aload_n (q := 83) 0 dX12_beginMoments_82 rfl rfl rfl ?_
  refine ur_arr (q := 86) rs rt37 dX12_beginMoments_83 w1393 (Nat.le_of_ble_eq_true rfl) rfl rfl ?_
  refine v_iload_n (q := 87) 1 dX12_beginMoments_86 rfl rfl rfl ?_
  refine v_iload_n (q := 88) 2 dX12_beginMoments_87 rfl rfl rfl ?_
  refine v_if_eq (q1 := 95) (q2 := 91) dX12_beginMoments_88 (by decide) rfl (fun c13 => ?_) (fun c13 => ?_)
  · replace H := ip c13 H
    refine v_iconst (v := -1) (q := 96) dX12_beginMoments_95 (by decide) rfl ?_
    exact V.sub [0, 1] rfl (sgjX12_beginMoments_96 hd rs H kI kE)
  · replace H := ine c13 H
    refine v_iload_n (q := 92) 1 dX12_beginMoments_91 rfl rfl rfl ?_
    refine v_goto (q := 96) dX12_beginMoments_92 (by decide) ?_
    exact V.sub [0, 1] rfl (sgjX12_beginMoments_96 hd rs H kI kE)
def gjX12_beginMoments_66 (v2 : Int32) (y0 : Int32) (m : Mem) : Option ((Int32 × Mem) ⊕ (Mem)) :=
if y0 = 0 then (
gjX12_beginMoments_81 v2 y0 (-1 : Int32) v2 m) else (
gjX12_beginMoments_81 v2 y0 (0 : Int32) v2 m)
set_option maxRecDepth 20000 in
set_option maxHeartbeats 4000000 in
theorem sgjX12_beginMoments_66 {Γ : Gm} {d : Nat} (hd : 3 ≤ d) {T : Nat} {h : Hp} (rs : RS T h) {v2 : Int32} {y0 : Int32} {m : Mem} {r : (Int32 × Mem) ⊕ (Mem)} {t : Option Value × Hp} (H : gjX12_beginMoments_66 v2 y0 m = some r) (kI : ∀ s, r = .inl s → (fun s39 => V Γ d mX12_beginMoments 39 [(0, .ref T), (2, .int s39.1)] [] (hm T h s39.2) t) s) (kE : ∀ e, r = .inr e → (fun e => V Γ d mX12_beginMoments 103 [(0, .ref T)] [] (hm T h e) t) e) : V Γ d mX12_beginMoments 66 [(0, .ref T), (2, .int v2)] [.int y0] (hm T h m) t := by
  unfold gjX12_beginMoments_66 at H
  refine v_istore_n (L' := [(3, .int y0), (0, .ref T), (2, .int v2)]) (q := 67) dX12_beginMoments_66 rfl (by decide) rfl rfl ?_
  refine v_aload_n (q := 68) 1 dX12_beginMoments_67 rfl rfl rfl ?_
  refine ur_arr (q := 71) rs rt36 dX12_beginMoments_68 w1392 (Nat.le_of_ble_eq_true rfl) rfl rfl ?_
  refine v_iload_n (q := 72) 2 dX12_beginMoments_71 rfl rfl rfl ?_
  refine v_iload_n (q := 73) 0 dX12_beginMoments_72 rfl rfl rfl ?_
  refine v_if_eq (q1 := 80) (q2 := 76) dX12_beginMoments_73 (by decide) rfl (fun c11 => ?_) (fun c11 => ?_)
  · replace H := ip c11 H
    refine v_iconst (v := -1) (q := 81) dX12_beginMoments_80 (by decide) rfl ?_
    exact V.sub [1, 2, 0] rfl (sgjX12_beginMoments_81 hd rs H kI kE)
  · replace H := ine c11 H
    refine v_iconst (v := 0) (q := 77) dX12_beginMoments_76 (by decide) rfl ?_
    refine v_goto (q := 81) dX12_beginMoments_77 (by decide) ?_
    exact V.sub [1, 2, 0] rfl (sgjX12_beginMoments_81 hd rs H kI kE)
def gjX12_beginMoments_65 (v2 : Int32) (m : Mem) : Option ((Int32 × Mem) ⊕ (Mem)) :=
gjX12_beginMoments_66 v2 (0 : Int32) m
set_option maxRecDepth 20000 in
set_option maxHeartbeats 4000000 in
theorem sgjX12_beginMoments_65 {Γ : Gm} {d : Nat} (hd : 3 ≤ d) {T : Nat} {h : Hp} (rs : RS T h) {v2 : Int32} {m : Mem} {r : (Int32 × Mem) ⊕ (Mem)} {t : Option Value × Hp} (H : gjX12_beginMoments_65 v2 m = some r) (kI : ∀ s, r = .inl s → (fun s39 => V Γ d mX12_beginMoments 39 [(0, .ref T), (2, .int s39.1)] [] (hm T h s39.2) t) s) (kE : ∀ e, r = .inr e → (fun e => V Γ d mX12_beginMoments 103 [(0, .ref T)] [] (hm T h e) t) e) : V Γ d mX12_beginMoments 65 [(0, .ref T), (2, .int v2)] [] (hm T h m) t := by
  unfold gjX12_beginMoments_65 at H
  refine v_iconst (v := 0) (q := 66) dX12_beginMoments_65 (by decide) rfl ?_
  exact V.sub [0, 1] rfl (sgjX12_beginMoments_66 hd rs H kI kE)
def gbX12_beginMoments_39  (s39 : Int32 × Mem) : Option ((Int32 × Mem) ⊕ (Mem)) :=
if (6 : Int32) ≤ s39.1 then (
some (.inr s39.2)) else (
(gX12_isIn0 s39.2 s39.1).bind fun x9 =>
if x9 = 0 then (
gjX12_beginMoments_65 s39.1 s39.2) else (
(gX12_sortOf s39.2 s39.1).bind fun x16 =>
if x16 = 0 then (
gjX12_beginMoments_66 s39.1 (1 : Int32) s39.2) else (
gjX12_beginMoments_65 s39.1 s39.2)))
set_option maxRecDepth 20000 in
set_option maxHeartbeats 4000000 in
theorem sgbX12_beginMoments_39 {Γ : Gm} {d : Nat} (hd : 3 ≤ d) {T : Nat} {h : Hp} (rs : RS T h)  {s39 : Int32 × Mem} {r : (Int32 × Mem) ⊕ (Mem)} {t : Option Value × Hp} (H : gbX12_beginMoments_39  s39 = some r) (kI : ∀ s, r = .inl s → (fun s39 => V Γ d mX12_beginMoments 39 [(0, .ref T), (2, .int s39.1)] [] (hm T h s39.2) t) s) (kE : ∀ e, r = .inr e → (fun e => V Γ d mX12_beginMoments 103 [(0, .ref T)] [] (hm T h e) t) e) : V Γ d mX12_beginMoments 39 [(0, .ref T), (2, .int s39.1)] [] (hm T h s39.2) t := by
  unfold gbX12_beginMoments_39 at H
  refine v_iload_n (q := 40) 1 dX12_beginMoments_39 rfl rfl rfl ?_
  refine v_bipush (v := 6) (q := 42) dX12_beginMoments_40 (by decide) rfl ?_
  refine v_icmp_ge (q1 := 103) (q2 := 45) dX12_beginMoments_42 (by decide) rfl (fun c8 => ?_) (fun c8 => ?_)
  · replace H := ip c8 H
    exact V.sub [0] rfl (kE s39.2 (Option.some.inj H).symm)
  · replace H := ine c8 H
    refine v_aload_n (q := 46) 0 dX12_beginMoments_45 rfl rfl rfl ?_
    refine v_iload_n (q := 47) 1 dX12_beginMoments_46 rfl rfl rfl ?_
    replace H := bs H; obtain ⟨x9, x9e, H⟩ := H
    refine u_callV1 (M' := mX12_isIn0) (d' := 2) (rc := (RX12, TX12, 58)) (As := [.int s39.1]) (st := []) (q := 50) oX12_isIn0 dX12_beginMoments_47 w1857 w1859 w0109 rfl rfl (RS.rc rs).1 (RS.rc rs).2 rfl (Nat.le_of_ble_eq_true rfl) (Nat.le_of_ble_eq_true rfl) (Nat.lt_of_lt_of_le (by decide) hd) rfl (sgX12_isIn0 (Nat.le_refl _) rs x9e) rfl ?_
    refine v_if_eq (q1 := 65) (q2 := 53) dX12_beginMoments_50 (by decide) rfl (fun c10 => ?_) (fun c10 => ?_)
    · replace H := ip c10 H
      exact V.sub [0, 1] rfl (sgjX12_beginMoments_65 hd rs H kI kE)
    · replace H := ine c10 H
      refine v_aload_n (q := 54) 0 dX12_beginMoments_53 rfl rfl rfl ?_
      refine v_iload_n (q := 55) 1 dX12_beginMoments_54 rfl rfl rfl ?_
      replace H := bs H; obtain ⟨x16, x16e, H⟩ := H
      refine u_callV1 (M' := mX12_sortOf) (d' := 1) (rc := (RX12, TX12, 58)) (As := [.int s39.1]) (st := []) (q := 58) oX12_sortOf dX12_beginMoments_55 w1718 w1720 w0092 rfl rfl (RS.rc rs).1 (RS.rc rs).2 rfl (Nat.le_of_ble_eq_true rfl) (Nat.le_of_ble_eq_true rfl) (Nat.lt_of_lt_of_le (by decide) hd) rfl (sgX12_sortOf (Nat.le_refl _) rs x16e) rfl ?_
      refine v_if_ne (q1 := 65) (q2 := 61) dX12_beginMoments_58 (by decide) rfl (fun c17 => ?_) (fun c17 => ?_)
      · replace H := ine c17 H
        exact V.sub [0, 1] rfl (sgjX12_beginMoments_65 hd rs H kI kE)
      · replace H := ip c17 H
        refine v_iconst (v := 1) (q := 62) dX12_beginMoments_61 (by decide) rfl ?_
        refine v_goto (q := 66) dX12_beginMoments_62 (by decide) ?_
        exact V.sub [0, 1] rfl (sgjX12_beginMoments_66 hd rs H kI kE)
def gbX12_beginMoments_105  (s105 : Int32 × Mem) : Option ((Int32 × Mem) ⊕ (Mem)) :=
if (10 : Int32) ≤ s105.1 then (
some (.inr s105.2)) else (
(wr s105.2 25 10 s105.1 (-1 : Int32)).bind fun m20 =>
(wr m20 26 10 s105.1 (0 : Int32)).bind fun m21 =>
(some (s105.1 + (1 : Int32))).bind fun x22 =>
some (.inl (x22, m21)))
set_option maxRecDepth 20000 in
set_option maxHeartbeats 4000000 in
theorem sgbX12_beginMoments_105 {Γ : Gm} {d : Nat} (hd : 3 ≤ d) {T : Nat} {h : Hp} (rs : RS T h)  {s105 : Int32 × Mem} {r : (Int32 × Mem) ⊕ (Mem)} {t : Option Value × Hp} (H : gbX12_beginMoments_105  s105 = some r) (kI : ∀ s, r = .inl s → (fun s105 => V Γ d mX12_beginMoments 105 [(0, .ref T), (2, .int s105.1)] [] (hm T h s105.2) t) s) (kE : ∀ e, r = .inr e → (fun e => V Γ d mX12_beginMoments 131 [] [] (hm T h e) t) e) : V Γ d mX12_beginMoments 105 [(0, .ref T), (2, .int s105.1)] [] (hm T h s105.2) t := by
  unfold gbX12_beginMoments_105 at H
  refine v_iload_n (q := 106) 1 dX12_beginMoments_105 rfl rfl rfl ?_
  refine v_bipush (v := 10) (q := 108) dX12_beginMoments_106 (by decide) rfl ?_
  refine v_icmp_ge (q1 := 131) (q2 := 111) dX12_beginMoments_108 (by decide) rfl (fun c19 => ?_) (fun c19 => ?_)
  · replace H := ip c19 H
    exact V.sub [] rfl (kE s105.2 (Option.some.inj H).symm)
  · replace H := ine c19 H
    refine v_aload_n (q := 112) 0 dX12_beginMoments_111 rfl rfl rfl ?_
    refine ur_arr (q := 115) rs rt38 dX12_beginMoments_112 w1394 (Nat.le_of_ble_eq_true rfl) rfl rfl ?_
    refine v_iload_n (q := 116) 1 dX12_beginMoments_115 rfl rfl rfl ?_
    refine v_iconst (v := -1) (q := 117) dX12_beginMoments_116 (by decide) rfl ?_
    replace H := bs H; obtain ⟨m20, m20e, H⟩ := H
    refine ur_wr (q := 118) rs rt38 m20e dX12_beginMoments_117 rfl ?_
    refine v_aload_n (q := 119) 0 dX12_beginMoments_118 rfl rfl rfl ?_
    refine ur_arr (q := 122) rs rt39 dX12_beginMoments_119 w1395 (Nat.le_of_ble_eq_true rfl) rfl rfl ?_
    refine v_iload_n (q := 123) 1 dX12_beginMoments_122 rfl rfl rfl ?_
    refine v_iconst (v := 0) (q := 124) dX12_beginMoments_123 (by decide) rfl ?_
    replace H := bs H; obtain ⟨m21, m21e, H⟩ := H
    refine ur_wr (q := 125) rs rt39 m21e dX12_beginMoments_124 rfl ?_
    replace H := bs H; obtain ⟨x22, x22e, H⟩ := H
    refine v_iinc (v := x22) (L' := [(2, .int x22), (0, .ref T)]) (q := 128) 1 dX12_beginMoments_125 rfl (Option.some.inj x22e) (by decide) rfl rfl ?_
    refine v_goto (q := 105) dX12_beginMoments_128 (by decide) ?_
    exact V.sub [1, 0] rfl (kI (x22, m21) (Option.some.inj H).symm)
def gX12_beginMoments (m : Mem) (v1 : Int32) : Option (Mem) :=
(some (up m 0 40 v1)).bind fun m1 =>
(some (up m1 0 46 (0 : Int32))).bind fun m2 =>
(some (up m2 0 47 (-1 : Int32))).bind fun m3 =>
(lp (gbX12_beginMoments_17) FU ((0 : Int32), m3)).bind fun e7 =>
(lp (gbX12_beginMoments_39) FU ((0 : Int32), e7)).bind fun e18 =>
(lp (gbX12_beginMoments_105) FU ((0 : Int32), e18)).bind fun e23 =>
some e23
set_option maxRecDepth 20000 in
set_option maxHeartbeats 4000000 in
theorem sgX12_beginMoments {Γ : Gm} {d : Nat} (hd : 3 ≤ d) {T : Nat} {h : Hp} (rs : RS T h) {m : Mem} {v1 : Int32} {r : Mem} (H : gX12_beginMoments m v1 = some r) : V Γ d mX12_beginMoments 0 [(0, .ref T), (1, .int v1)] [] (hm T h m) (none, (hm T h r)) := by
  unfold gX12_beginMoments at H
  refine v_aload_n (q := 1) 0 dX12_beginMoments_0 rfl rfl rfl ?_
  refine v_iload_n (q := 2) 1 dX12_beginMoments_1 rfl rfl rfl ?_
  replace H := bs H; obtain ⟨m1, m1e, H⟩ := H
  refine ur_pI (q := 5) (k := 40) rs m1e dX12_beginMoments_2 w1396 (Nat.le_of_ble_eq_true rfl) rfl rfl rfl ?_
  refine v_aload_n (q := 6) 0 dX12_beginMoments_5 rfl rfl rfl ?_
  refine v_iconst (v := 0) (q := 7) dX12_beginMoments_6 (by decide) rfl ?_
  replace H := bs H; obtain ⟨m2, m2e, H⟩ := H
  refine ur_pI (q := 10) (k := 46) rs m2e dX12_beginMoments_7 w1402 (Nat.le_of_ble_eq_true rfl) rfl rfl rfl ?_
  refine v_aload_n (q := 11) 0 dX12_beginMoments_10 rfl rfl rfl ?_
  refine v_iconst (v := -1) (q := 12) dX12_beginMoments_11 (by decide) rfl ?_
  replace H := bs H; obtain ⟨m3, m3e, H⟩ := H
  refine ur_pI (q := 15) (k := 47) rs m3e dX12_beginMoments_12 w1403 (Nat.le_of_ble_eq_true rfl) rfl rfl rfl ?_
  refine v_iconst (v := 0) (q := 16) dX12_beginMoments_15 (by decide) rfl ?_
  refine v_istore_n (L' := [(2, .int (0 : Int32)), (0, .ref T), (1, .int v1)]) (q := 17) dX12_beginMoments_16 rfl (by decide) rfl rfl ?_
  replace H := bs H; obtain ⟨e7, e7L, H⟩ := H
  refine V.sub [1, 0] rfl ?_
  refine lp_V (P := (fun s17 => V Γ d mX12_beginMoments 17 [(0, .ref T), (2, .int s17.1)] [] (hm T h s17.2) (none, (hm T h r)))) (E := (fun e => V Γ d mX12_beginMoments 37 [(0, .ref T)] [] (hm T h e) (none, (hm T h r)))) (fun s r hb kI kE => sgbX12_beginMoments_17 hd rs (s17 := s) (r := r) hb kI kE) FU ((0 : Int32), m3) e7 e7L ?_
  refine v_iconst (v := 0) (q := 38) dX12_beginMoments_37 (by decide) rfl ?_
  refine v_istore_n (L' := [(2, .int (0 : Int32)), (0, .ref T)]) (q := 39) dX12_beginMoments_38 rfl (by decide) rfl rfl ?_
  replace H := bs H; obtain ⟨e18, e18L, H⟩ := H
  refine V.sub [1, 0] rfl ?_
  refine lp_V (P := (fun s39 => V Γ d mX12_beginMoments 39 [(0, .ref T), (2, .int s39.1)] [] (hm T h s39.2) (none, (hm T h r)))) (E := (fun e => V Γ d mX12_beginMoments 103 [(0, .ref T)] [] (hm T h e) (none, (hm T h r)))) (fun s r hb kI kE => sgbX12_beginMoments_39 hd rs (s39 := s) (r := r) hb kI kE) FU ((0 : Int32), e7) e18 e18L ?_
  refine v_iconst (v := 0) (q := 104) dX12_beginMoments_103 (by decide) rfl ?_
  refine v_istore_n (L' := [(2, .int (0 : Int32)), (0, .ref T)]) (q := 105) dX12_beginMoments_104 rfl (by decide) rfl rfl ?_
  replace H := bs H; obtain ⟨e23, e23L, H⟩ := H
  refine V.sub [1, 0] rfl ?_
  refine lp_V (P := (fun s105 => V Γ d mX12_beginMoments 105 [(0, .ref T), (2, .int s105.1)] [] (hm T h s105.2) (none, (hm T h r)))) (E := (fun e => V Γ d mX12_beginMoments 131 [] [] (hm T h e) (none, (hm T h r)))) (fun s r hb kI kE => sgbX12_beginMoments_105 hd rs (s105 := s) (r := r) hb kI kE) FU ((0 : Int32), e18) e23 e23L ?_
  cases H
  exact v_return rfl dX12_beginMoments_131
def mX12_swapAt : MI := (yX12_swapAt, cX12_swapAt, 3, none)
theorem oX12_swapAt : mOK mX12_swapAt 1 := ⟨by decide +kernel, by decide +kernel, by decide +kernel, by decide, w1757, w0150⟩
def gX12_swapAt (m : Mem) (v1 : Int32) : Option (Mem) :=
(rd m 1 9685 v1).bind fun x1 =>
(rd m 1 9685 (v1 + (1 : Int32))).bind fun x2 =>
(wr m 1 9685 v1 x2).bind fun m3 =>
(wr m3 1 9685 (v1 + (1 : Int32)) x1).bind fun m4 =>
some m4
set_option maxRecDepth 20000 in
set_option maxHeartbeats 4000000 in
theorem sgX12_swapAt {Γ : Gm} {d : Nat} (hd : 1 ≤ d) {T : Nat} {h : Hp} (rs : RS T h) {m : Mem} {v1 : Int32} {r : Mem} (H : gX12_swapAt m v1 = some r) : V Γ d mX12_swapAt 0 [(0, .ref T), (1, .int v1)] [] (hm T h m) (none, (hm T h r)) := by
  unfold gX12_swapAt at H
  refine v_aload_n (q := 1) 0 dX12_swapAt_0 rfl rfl rfl ?_
  refine ur_arr (q := 4) rs rt0 dX12_swapAt_1 w1356 (Nat.le_of_ble_eq_true rfl) rfl rfl ?_
  refine v_iload_n (q := 5) 1 dX12_swapAt_4 rfl rfl rfl ?_
  replace H := bs H; obtain ⟨x1, x1e, H⟩ := H
  refine ur_rd (q := 6) rs rt0 x1e dX12_swapAt_5 rfl ?_
  refine v_istore_n (L' := [(2, .int x1), (0, .ref T), (1, .int v1)]) (q := 7) dX12_swapAt_6 rfl (by decide) rfl rfl ?_
  refine v_aload_n (q := 8) 1 dX12_swapAt_7 rfl rfl rfl ?_
  refine ur_arr (q := 11) rs rt0 dX12_swapAt_8 w1356 (Nat.le_of_ble_eq_true rfl) rfl rfl ?_
  refine v_iload_n (q := 12) 2 dX12_swapAt_11 rfl rfl rfl ?_
  refine v_aload_n (q := 13) 1 dX12_swapAt_12 rfl rfl rfl ?_
  refine ur_arr (q := 16) rs rt0 dX12_swapAt_13 w1356 (Nat.le_of_ble_eq_true rfl) rfl rfl ?_
  refine v_iload_n (q := 17) 2 dX12_swapAt_16 rfl rfl rfl ?_
  refine v_iconst (v := 1) (q := 18) dX12_swapAt_17 (by decide) rfl ?_
  refine v_iadd (q := 19) dX12_swapAt_18 rfl ?_
  replace H := bs H; obtain ⟨x2, x2e, H⟩ := H
  refine ur_rd (q := 20) rs rt0 x2e dX12_swapAt_19 rfl ?_
  replace H := bs H; obtain ⟨m3, m3e, H⟩ := H
  refine ur_wr (q := 21) rs rt0 m3e dX12_swapAt_20 rfl ?_
  refine v_aload_n (q := 22) 1 dX12_swapAt_21 rfl rfl rfl ?_
  refine ur_arr (q := 25) rs rt0 dX12_swapAt_22 w1356 (Nat.le_of_ble_eq_true rfl) rfl rfl ?_
  refine v_iload_n (q := 26) 2 dX12_swapAt_25 rfl rfl rfl ?_
  refine v_iconst (v := 1) (q := 27) dX12_swapAt_26 (by decide) rfl ?_
  refine v_iadd (q := 28) dX12_swapAt_27 rfl ?_
  refine v_iload_n (q := 29) 0 dX12_swapAt_28 rfl rfl rfl ?_
  replace H := bs H; obtain ⟨m4, m4e, H⟩ := H
  refine ur_wr (q := 30) rs rt0 m4e dX12_swapAt_29 rfl ?_
  cases H
  exact v_return rfl dX12_swapAt_30
def mX12_swapSteps : MI := (yX12_swapSteps, cX12_swapSteps, 3, none)
theorem oX12_swapSteps : mOK mX12_swapSteps 2 := ⟨by decide +kernel, by decide +kernel, by decide +kernel, by decide, w1753, w0150⟩
def gX12_swapSteps (m : Mem) (v1 : Int32) (v2 : Int32) : Option (Mem) :=
(gX12_swapAt m (((1541 : Int32) + ((12 : Int32) * v1)) + v2)).bind fun x1 =>
(gX12_swapAt x1 (((1613 : Int32) + ((12 : Int32) * v1)) + v2)).bind fun x2 =>
some x2
set_option maxRecDepth 20000 in
set_option maxHeartbeats 4000000 in
theorem sgX12_swapSteps {Γ : Gm} {d : Nat} (hd : 2 ≤ d) {T : Nat} {h : Hp} (rs : RS T h) {m : Mem} {v1 : Int32} {v2 : Int32} {r : Mem} (H : gX12_swapSteps m v1 v2 = some r) : V Γ d mX12_swapSteps 0 [(0, .ref T), (1, .int v1), (2, .int v2)] [] (hm T h m) (none, (hm T h r)) := by
  unfold gX12_swapSteps at H
  refine v_aload_n (q := 1) 0 dX12_swapSteps_0 rfl rfl rfl ?_
  refine v_sipush (v := 1541) (q := 4) dX12_swapSteps_1 (by decide) rfl ?_
  refine v_bipush (v := 12) (q := 6) dX12_swapSteps_4 (by decide) rfl ?_
  refine v_iload_n (q := 7) 1 dX12_swapSteps_6 rfl rfl rfl ?_
  refine v_imul (q := 8) dX12_swapSteps_7 rfl ?_
  refine v_iadd (q := 9) dX12_swapSteps_8 rfl ?_
  refine v_iload_n (q := 10) 2 dX12_swapSteps_9 rfl rfl rfl ?_
  refine v_iadd (q := 11) dX12_swapSteps_10 rfl ?_
  replace H := bs H; obtain ⟨x1, x1e, H⟩ := H
  refine u_callV0 (M' := mX12_swapAt) (d' := 1) (rc := (RX12, TX12, 58)) (As := [.int (((1541 : Int32) + ((12 : Int32) * v1)) + v2)]) (st := []) (q := 14) oX12_swapAt dX12_swapSteps_11 w1754 w1756 w0099 rfl rfl (RS.rc rs).1 (RS.rc rs).2 rfl (Nat.le_of_ble_eq_true rfl) (Nat.le_of_ble_eq_true rfl) (Nat.lt_of_lt_of_le (by decide) hd) rfl (sgX12_swapAt (Nat.le_refl _) rs x1e) rfl ?_
  refine v_aload_n (q := 15) 0 dX12_swapSteps_14 rfl rfl rfl ?_
  refine v_sipush (v := 1613) (q := 18) dX12_swapSteps_15 (by decide) rfl ?_
  refine v_bipush (v := 12) (q := 20) dX12_swapSteps_18 (by decide) rfl ?_
  refine v_iload_n (q := 21) 1 dX12_swapSteps_20 rfl rfl rfl ?_
  refine v_imul (q := 22) dX12_swapSteps_21 rfl ?_
  refine v_iadd (q := 23) dX12_swapSteps_22 rfl ?_
  refine v_iload_n (q := 24) 2 dX12_swapSteps_23 rfl rfl rfl ?_
  refine v_iadd (q := 25) dX12_swapSteps_24 rfl ?_
  replace H := bs H; obtain ⟨x2, x2e, H⟩ := H
  refine u_callV0 (M' := mX12_swapAt) (d' := 1) (rc := (RX12, TX12, 58)) (As := [.int (((1613 : Int32) + ((12 : Int32) * v1)) + v2)]) (st := []) (q := 28) oX12_swapAt dX12_swapSteps_25 w1754 w1756 w0099 rfl rfl (RS.rc rs).1 (RS.rc rs).2 rfl (Nat.le_of_ble_eq_true rfl) (Nat.le_of_ble_eq_true rfl) (Nat.lt_of_lt_of_le (by decide) hd) rfl (sgX12_swapAt (Nat.le_refl _) rs x2e) rfl ?_
  cases H
  exact v_return rfl dX12_swapSteps_28

def mX12_isWaiting : MI := (yX12_isWaiting, cX12_isWaiting, 4, some .boolean)
theorem oX12_isWaiting : mOK mX12_isWaiting 1 := ⟨by decide +kernel, by decide +kernel, by decide +kernel, by decide, w1896, w0150⟩
def gjX12_isWaiting_56 (y0 : Int32) (m : Mem) : Option (Int32) :=
(bz y0).bind fun x7 =>
some x7
set_option maxRecDepth 20000 in
set_option maxHeartbeats 4000000 in
theorem sgjX12_isWaiting_56 {Γ : Gm} {d : Nat} (hd : 2 ≤ d) {T : Nat} {h : Hp} (rs : RS T h) {y0 : Int32} {m : Mem} {r : Int32} (H : gjX12_isWaiting_56 y0 m = some r) : V Γ d mX12_isWaiting 56 [] [.int y0] (hm T h m) (some (.int r), (hm T h m)) := by
  unfold gjX12_isWaiting_56 at H
  replace H := bs H; obtain ⟨x7, x7e, H⟩ := H
  obtain ⟨x7q, x7z⟩ := bz_sp x7e
  refine v_topi x7q.symm ?_
  cases H
  exact v_zreturn rfl (by rw [x7q]; exact x7z) dX12_isWaiting_56
def gjX12_isWaiting_51 (m : Mem) : Option (Int32) :=
gjX12_isWaiting_56 (1 : Int32) m
set_option maxRecDepth 20000 in
set_option maxHeartbeats 4000000 in
theorem sgjX12_isWaiting_51 {Γ : Gm} {d : Nat} (hd : 2 ≤ d) {T : Nat} {h : Hp} (rs : RS T h) {m : Mem} {r : Int32} (H : gjX12_isWaiting_51 m = some r) : V Γ d mX12_isWaiting 51 [] [] (hm T h m) (some (.int r), (hm T h m)) := by
  unfold gjX12_isWaiting_51 at H
  refine v_iconst (v := 1) (q := 52) dX12_isWaiting_51 (by decide) rfl ?_
  refine v_goto (q := 56) dX12_isWaiting_52 (by decide) ?_
  exact V.sub [] rfl (sgjX12_isWaiting_56 hd rs H)
def gjX12_isWaiting_23 (v1 : Int32) (v2 : Int32) (m : Mem) : Option (Int32) :=
(gX12_lockOf m v1 v2).bind fun x4 =>
(rd m 25 10 x4).bind fun x5 =>
if 0 ≤ x5 then (
gjX12_isWaiting_51 m) else (
(gX12_lockOf m v1 v2).bind fun x8 =>
(rd m 26 10 x8).bind fun x9 =>
if x9 = 0 then (
gjX12_isWaiting_56 (0 : Int32) m) else (
gjX12_isWaiting_51 m))
set_option maxRecDepth 20000 in
set_option maxHeartbeats 4000000 in
theorem sgjX12_isWaiting_23 {Γ : Gm} {d : Nat} (hd : 2 ≤ d) {T : Nat} {h : Hp} (rs : RS T h) {v1 : Int32} {v2 : Int32} {m : Mem} {r : Int32} (H : gjX12_isWaiting_23 v1 v2 m = some r) : V Γ d mX12_isWaiting 23 [(0, .ref T), (1, .int v1), (2, .int v2)] [] (hm T h m) (some (.int r), (hm T h m)) := by
  unfold gjX12_isWaiting_23 at H
  refine v_aload_n (q := 24) 0 dX12_isWaiting_23 rfl rfl rfl ?_
  refine ur_arr (q := 27) rs rt38 dX12_isWaiting_24 w1394 (Nat.le_of_ble_eq_true rfl) rfl rfl ?_
  refine v_aload_n (q := 28) 0 dX12_isWaiting_27 rfl rfl rfl ?_
  refine v_iload_n (q := 29) 1 dX12_isWaiting_28 rfl rfl rfl ?_
  refine v_iload_n (q := 30) 2 dX12_isWaiting_29 rfl rfl rfl ?_
  replace H := bs H; obtain ⟨x4, x4e, H⟩ := H
  refine u_callV1 (M' := mX12_lockOf) (d' := 1) (rc := (RX12, TX12, 58)) (As := [.int v1, .int v2]) (st := [.ref (T + 25)]) (q := 33) oX12_lockOf dX12_isWaiting_30 w1654 w1656 w0077 rfl rfl (RS.rc rs).1 (RS.rc rs).2 rfl (Nat.le_of_ble_eq_true rfl) (Nat.le_of_ble_eq_true rfl) (Nat.lt_of_lt_of_le (by decide) hd) rfl (sgX12_lockOf (Nat.le_refl _) rs x4e) rfl ?_
  replace H := bs H; obtain ⟨x5, x5e, H⟩ := H
  refine ur_rd (q := 34) rs rt38 x5e dX12_isWaiting_33 rfl ?_
  refine v_if_ge (q1 := 51) (q2 := 37) dX12_isWaiting_34 (by decide) rfl (fun c6 => ?_) (fun c6 => ?_)
  · replace H := ip c6 H
    exact V.sub [] rfl (sgjX12_isWaiting_51 hd rs H)
  · replace H := ine c6 H
    refine v_aload_n (q := 38) 0 dX12_isWaiting_37 rfl rfl rfl ?_
    refine ur_arr (q := 41) rs rt39 dX12_isWaiting_38 w1395 (Nat.le_of_ble_eq_true rfl) rfl rfl ?_
    refine v_aload_n (q := 42) 0 dX12_isWaiting_41 rfl rfl rfl ?_
    refine v_iload_n (q := 43) 1 dX12_isWaiting_42 rfl rfl rfl ?_
    refine v_iload_n (q := 44) 2 dX12_isWaiting_43 rfl rfl rfl ?_
    replace H := bs H; obtain ⟨x8, x8e, H⟩ := H
    refine u_callV1 (M' := mX12_lockOf) (d' := 1) (rc := (RX12, TX12, 58)) (As := [.int v1, .int v2]) (st := [.ref (T + 26)]) (q := 47) oX12_lockOf dX12_isWaiting_44 w1654 w1656 w0077 rfl rfl (RS.rc rs).1 (RS.rc rs).2 rfl (Nat.le_of_ble_eq_true rfl) (Nat.le_of_ble_eq_true rfl) (Nat.lt_of_lt_of_le (by decide) hd) rfl (sgX12_lockOf (Nat.le_refl _) rs x8e) rfl ?_
    replace H := bs H; obtain ⟨x9, x9e, H⟩ := H
    refine ur_rd (q := 48) rs rt39 x9e dX12_isWaiting_47 rfl ?_
    refine v_if_eq (q1 := 55) (q2 := 51) dX12_isWaiting_48 (by decide) rfl (fun c10 => ?_) (fun c10 => ?_)
    · replace H := ip c10 H
      refine v_iconst (v := 0) (q := 56) dX12_isWaiting_55 (by decide) rfl ?_
      exact V.sub [] rfl (sgjX12_isWaiting_56 hd rs H)
    · replace H := ine c10 H
      exact V.sub [] rfl (sgjX12_isWaiting_51 hd rs H)
def gjX12_isWaiting_81 (y0 : Int32) (m : Mem) : Option (Int32) :=
(bz y0).bind fun x13 =>
some x13
set_option maxRecDepth 20000 in
set_option maxHeartbeats 4000000 in
theorem sgjX12_isWaiting_81 {Γ : Gm} {d : Nat} (hd : 2 ≤ d) {T : Nat} {h : Hp} (rs : RS T h) {y0 : Int32} {m : Mem} {r : Int32} (H : gjX12_isWaiting_81 y0 m = some r) : V Γ d mX12_isWaiting 81 [] [.int y0] (hm T h m) (some (.int r), (hm T h m)) := by
  unfold gjX12_isWaiting_81 at H
  replace H := bs H; obtain ⟨x13, x13e, H⟩ := H
  obtain ⟨x13q, x13z⟩ := bz_sp x13e
  refine v_topi x13q.symm ?_
  cases H
  exact v_zreturn rfl (by rw [x13q]; exact x13z) dX12_isWaiting_81
def gjX12_isWaiting_80 (m : Mem) : Option (Int32) :=
gjX12_isWaiting_81 (0 : Int32) m
set_option maxRecDepth 20000 in
set_option maxHeartbeats 4000000 in
theorem sgjX12_isWaiting_80 {Γ : Gm} {d : Nat} (hd : 2 ≤ d) {T : Nat} {h : Hp} (rs : RS T h) {m : Mem} {r : Int32} (H : gjX12_isWaiting_80 m = some r) : V Γ d mX12_isWaiting 80 [] [] (hm T h m) (some (.int r), (hm T h m)) := by
  unfold gjX12_isWaiting_80 at H
  refine v_iconst (v := 0) (q := 81) dX12_isWaiting_80 (by decide) rfl ?_
  exact V.sub [] rfl (sgjX12_isWaiting_81 hd rs H)
def gX12_isWaiting (m : Mem) (v1 : Int32) : Option (Int32) :=
(rd m 23 6 v1).bind fun x1 =>
(gX12_opOf m v1 x1).bind fun x2 =>
if x2 = 0 then (
gjX12_isWaiting_23 v1 x1 m) else (
if x2 = (1 : Int32) then (
gjX12_isWaiting_23 v1 x1 m) else (
if x2 = (2 : Int32) then (
(gX12_lockOf m v1 x1).bind fun x14 =>
(rd m 25 10 x14).bind fun x15 =>
if x15 < 0 then (
gjX12_isWaiting_80 m) else (
gjX12_isWaiting_81 (1 : Int32) m)) else (
gjX12_isWaiting_80 m)))
set_option maxRecDepth 20000 in
set_option maxHeartbeats 4000000 in
theorem sgX12_isWaiting {Γ : Gm} {d : Nat} (hd : 2 ≤ d) {T : Nat} {h : Hp} (rs : RS T h) {m : Mem} {v1 : Int32} {r : Int32} (H : gX12_isWaiting m v1 = some r) : V Γ d mX12_isWaiting 0 [(0, .ref T), (1, .int v1)] [] (hm T h m) (some (.int r), (hm T h m)) := by
  unfold gX12_isWaiting at H
  refine v_aload_n (q := 1) 0 dX12_isWaiting_0 rfl rfl rfl ?_
  refine ur_arr (q := 4) rs rt36 dX12_isWaiting_1 w1392 (Nat.le_of_ble_eq_true rfl) rfl rfl ?_
  refine v_iload_n (q := 5) 1 dX12_isWaiting_4 rfl rfl rfl ?_
  replace H := bs H; obtain ⟨x1, x1e, H⟩ := H
  refine ur_rd (q := 6) rs rt36 x1e dX12_isWaiting_5 rfl ?_
  refine v_istore_n (L' := [(2, .int x1), (0, .ref T), (1, .int v1)]) (q := 7) dX12_isWaiting_6 rfl (by decide) rfl rfl ?_
  refine v_aload_n (q := 8) 1 dX12_isWaiting_7 rfl rfl rfl ?_
  refine v_iload_n (q := 9) 2 dX12_isWaiting_8 rfl rfl rfl ?_
  refine v_iload_n (q := 10) 0 dX12_isWaiting_9 rfl rfl rfl ?_
  replace H := bs H; obtain ⟨x2, x2e, H⟩ := H
  refine u_callV1 (M' := mX12_opOf) (d' := 1) (rc := (RX12, TX12, 58)) (As := [.int v1, .int x1]) (st := []) (q := 13) oX12_opOf dX12_isWaiting_10 w1646 w1648 w0075 rfl rfl (RS.rc rs).1 (RS.rc rs).2 rfl (Nat.le_of_ble_eq_true rfl) (Nat.le_of_ble_eq_true rfl) (Nat.lt_of_lt_of_le (by decide) hd) rfl (sgX12_opOf (Nat.le_refl _) rs x2e) rfl ?_
  refine v_istore_n (L' := [(3, .int x2), (2, .int x1), (0, .ref T), (1, .int v1)]) (q := 14) dX12_isWaiting_13 rfl (by decide) rfl rfl ?_
  refine v_iload_n (q := 15) 0 dX12_isWaiting_14 rfl rfl rfl ?_
  refine v_if_eq (q1 := 23) (q2 := 18) dX12_isWaiting_15 (by decide) rfl (fun c3 => ?_) (fun c3 => ?_)
  · replace H := ip c3 H
    exact V.sub [2, 3, 1] rfl (sgjX12_isWaiting_23 hd rs H)
  · replace H := ine c3 H
    refine v_iload_n (q := 19) 0 dX12_isWaiting_18 rfl rfl rfl ?_
    refine v_iconst (v := 1) (q := 20) dX12_isWaiting_19 (by decide) rfl ?_
    refine v_icmp_ne (q1 := 57) (q2 := 23) dX12_isWaiting_20 (by decide) rfl (fun c11 => ?_) (fun c11 => ?_)
    · replace H := ine c11 H
      refine v_iload_n (q := 58) 0 dX12_isWaiting_57 rfl rfl rfl ?_
      refine v_iconst (v := 2) (q := 59) dX12_isWaiting_58 (by decide) rfl ?_
      refine v_icmp_ne (q1 := 80) (q2 := 62) dX12_isWaiting_59 (by decide) rfl (fun c12 => ?_) (fun c12 => ?_)
      · replace H := ine c12 H
        exact V.sub [] rfl (sgjX12_isWaiting_80 hd rs H)
      · replace H := ip c12 H
        refine v_aload_n (q := 63) 2 dX12_isWaiting_62 rfl rfl rfl ?_
        refine ur_arr (q := 66) rs rt38 dX12_isWaiting_63 w1394 (Nat.le_of_ble_eq_true rfl) rfl rfl ?_
        refine v_aload_n (q := 67) 2 dX12_isWaiting_66 rfl rfl rfl ?_
        refine v_iload_n (q := 68) 3 dX12_isWaiting_67 rfl rfl rfl ?_
        refine v_iload_n (q := 69) 1 dX12_isWaiting_68 rfl rfl rfl ?_
        replace H := bs H; obtain ⟨x14, x14e, H⟩ := H
        refine u_callV1 (M' := mX12_lockOf) (d' := 1) (rc := (RX12, TX12, 58)) (As := [.int v1, .int x1]) (st := [.ref (T + 25)]) (q := 72) oX12_lockOf dX12_isWaiting_69 w1654 w1656 w0077 rfl rfl (RS.rc rs).1 (RS.rc rs).2 rfl (Nat.le_of_ble_eq_true rfl) (Nat.le_of_ble_eq_true rfl) (Nat.lt_of_lt_of_le (by decide) hd) rfl (sgX12_lockOf (Nat.le_refl _) rs x14e) rfl ?_
        replace H := bs H; obtain ⟨x15, x15e, H⟩ := H
        refine ur_rd (q := 73) rs rt38 x15e dX12_isWaiting_72 rfl ?_
        refine v_if_lt (q1 := 80) (q2 := 76) dX12_isWaiting_73 (by decide) rfl (fun c16 => ?_) (fun c16 => ?_)
        · replace H := ip c16 H
          exact V.sub [] rfl (sgjX12_isWaiting_80 hd rs H)
        · replace H := ine c16 H
          refine v_iconst (v := 1) (q := 77) dX12_isWaiting_76 (by decide) rfl ?_
          refine v_goto (q := 81) dX12_isWaiting_77 (by decide) ?_
          exact V.sub [] rfl (sgjX12_isWaiting_81 hd rs H)
    · replace H := ip c11 H
      exact V.sub [2, 3, 1] rfl (sgjX12_isWaiting_23 hd rs H)
def mX12_layWaits : MI := (yX12_layWaits, cX12_layWaits, 5, none)
theorem oX12_layWaits : mOK mX12_layWaits 0 := ⟨by decide +kernel, by decide +kernel, by decide +kernel, by decide, w1880, w0150⟩
def gjX12_layWaits_133 (v1 : Int32) (m : Mem) : Option ((Int32 × Mem) ⊕ (Mem)) :=
(some (v1 + (1 : Int32))).bind fun x7 =>
some (.inl (x7, m))
set_option maxRecDepth 20000 in
set_option maxHeartbeats 4000000 in
theorem sgjX12_layWaits_133 {Γ : Gm} {d : Nat} (hd : 4 ≤ d) {T : Nat} {h : Hp} (rs : RS T h) {v1 : Int32} {m : Mem} {r : (Int32 × Mem) ⊕ (Mem)} {t : Option Value × Hp} (H : gjX12_layWaits_133 v1 m = some r) (kI : ∀ s, r = .inl s → (fun s2 => V Γ d mX12_layWaits 2 [(0, .ref T), (1, .int s2.1)] [] (hm T h s2.2) t) s) (kE : ∀ e, r = .inr e → (fun e => V Γ d mX12_layWaits 139 [] [] (hm T h e) t) e) : V Γ d mX12_layWaits 133 [(0, .ref T), (1, .int v1)] [] (hm T h m) t := by
  unfold gjX12_layWaits_133 at H
  replace H := bs H; obtain ⟨x7, x7e, H⟩ := H
  refine v_iinc (v := x7) (L' := [(1, .int x7), (0, .ref T)]) (q := 136) 1 dX12_layWaits_133 rfl (Option.some.inj x7e) (by decide) rfl rfl ?_
  refine v_goto (q := 2) dX12_layWaits_136 (by decide) ?_
  exact V.sub [1, 0] rfl (kI (x7, m) (Option.some.inj H).symm)
def gjX12_layWaits_127 (u1 : Int32) (u3 : Int32) (v4 : Int32) (m : Mem) : Option ((Int32 × Mem) ⊕ (Mem)) :=
(some (v4 + (1 : Int32))).bind fun x19 =>
some (.inl (x19, m))
set_option maxRecDepth 20000 in
set_option maxHeartbeats 4000000 in
theorem sgjX12_layWaits_127 {Γ : Gm} {d : Nat} (hd : 4 ≤ d) {T : Nat} {h : Hp} (rs : RS T h) {u1 : Int32} {u3 : Int32} {v4 : Int32} {m : Mem} {r : (Int32 × Mem) ⊕ (Mem)} {t : Option Value × Hp} (H : gjX12_layWaits_127 u1 u3 v4 m = some r) (kI : ∀ s, r = .inl s → (fun s77 => V Γ d mX12_layWaits 77 [(0, .ref T), (1, .int u1), (3, .int u3), (4, .int s77.1)] [] (hm T h s77.2) t) s) (kE : ∀ e, r = .inr e → (fun e => V Γ d mX12_layWaits 133 [(0, .ref T), (1, .int u1)] [] (hm T h e) t) e) : V Γ d mX12_layWaits 127 [(0, .ref T), (1, .int u1), (3, .int u3), (4, .int v4)] [] (hm T h m) t := by
  unfold gjX12_layWaits_127 at H
  replace H := bs H; obtain ⟨x19, x19e, H⟩ := H
  refine v_iinc (v := x19) (L' := [(4, .int x19), (0, .ref T), (1, .int u1), (3, .int u3)]) (q := 130) 3 dX12_layWaits_127 rfl (Option.some.inj x19e) (by decide) rfl rfl ?_
  refine v_goto (q := 77) dX12_layWaits_130 (by decide) ?_
  exact V.sub [1, 2, 3, 0] rfl (kI (x19, m) (Option.some.inj H).symm)
def gjX12_layWaits_109 (u1 : Int32) (u3 : Int32) (v4 : Int32) (m : Mem) : Option ((Int32 × Mem) ⊕ (Mem)) :=
(rd m 33 6 u1).bind fun x16 =>
(rd m 24 6 v4).bind fun x17 =>
(wr m 33 6 u1 (x16 ||| ((1 : Int32) <<< (x17 &&& 31)))).bind fun m18 =>
gjX12_layWaits_127 u1 u3 v4 m18
set_option maxRecDepth 20000 in
set_option maxHeartbeats 4000000 in
theorem sgjX12_layWaits_109 {Γ : Gm} {d : Nat} (hd : 4 ≤ d) {T : Nat} {h : Hp} (rs : RS T h) {u1 : Int32} {u3 : Int32} {v4 : Int32} {m : Mem} {r : (Int32 × Mem) ⊕ (Mem)} {t : Option Value × Hp} (H : gjX12_layWaits_109 u1 u3 v4 m = some r) (kI : ∀ s, r = .inl s → (fun s77 => V Γ d mX12_layWaits 77 [(0, .ref T), (1, .int u1), (3, .int u3), (4, .int s77.1)] [] (hm T h s77.2) t) s) (kE : ∀ e, r = .inr e → (fun e => V Γ d mX12_layWaits 133 [(0, .ref T), (1, .int u1)] [] (hm T h e) t) e) : V Γ d mX12_layWaits 109 [(0, .ref T), (1, .int u1), (3, .int u3), (4, .int v4)] [] (hm T h m) t := by
  unfold gjX12_layWaits_109 at H
  refine v_aload_n (q := 110) 0 dX12_layWaits_109 rfl rfl rfl ?_
  refine ur_arr (q := 113) rs rt49 dX12_layWaits_110 w1405 (Nat.le_of_ble_eq_true rfl) rfl rfl ?_
  refine v_iload_n (q := 114) 1 dX12_layWaits_113 rfl rfl rfl ?_
  refine v_dup2 (q := 115) dX12_layWaits_114 rfl rfl rfl ?_
  replace H := bs H; obtain ⟨x16, x16e, H⟩ := H
  refine ur_rd (q := 116) rs rt49 x16e dX12_layWaits_115 rfl ?_
  refine v_iconst (v := 1) (q := 117) dX12_layWaits_116 (by decide) rfl ?_
  refine v_aload_n (q := 118) 0 dX12_layWaits_117 rfl rfl rfl ?_
  refine ur_arr (q := 121) rs rt37 dX12_layWaits_118 w1393 (Nat.le_of_ble_eq_true rfl) rfl rfl ?_
  refine v_iload (q := 123) 3 dX12_layWaits_121 rfl rfl ?_
  replace H := bs H; obtain ⟨x17, x17e, H⟩ := H
  refine ur_rd (q := 124) rs rt37 x17e dX12_layWaits_123 rfl ?_
  refine v_ishl (q := 125) dX12_layWaits_124 rfl ?_
  refine v_ior (q := 126) dX12_layWaits_125 rfl ?_
  replace H := bs H; obtain ⟨m18, m18e, H⟩ := H
  refine ur_wr (q := 127) rs rt49 m18e dX12_layWaits_126 rfl ?_
  exact V.sub [0, 1, 2, 3] rfl (sgjX12_layWaits_127 hd rs H kI kE)
def gbX12_layWaits_77 (u1 : Int32) (u3 : Int32) (s77 : Int32 × Mem) : Option ((Int32 × Mem) ⊕ (Mem)) :=
if (6 : Int32) ≤ s77.1 then (
some (.inr s77.2)) else (
(rd s77.2 25 10 u3).bind fun x14 =>
if x14 = s77.1 then (
gjX12_layWaits_109 u1 u3 s77.1 s77.2) else (
(rd s77.2 26 10 u3).bind fun x20 =>
(gX12_has x20 s77.1).bind fun x21 =>
if x21 = 0 then (
gjX12_layWaits_127 u1 u3 s77.1 s77.2) else (
gjX12_layWaits_109 u1 u3 s77.1 s77.2)))
set_option maxRecDepth 20000 in
set_option maxHeartbeats 4000000 in
theorem sgbX12_layWaits_77 {Γ : Gm} {d : Nat} (hd : 4 ≤ d) {T : Nat} {h : Hp} (rs : RS T h) {u1 : Int32} {u3 : Int32} {s77 : Int32 × Mem} {r : (Int32 × Mem) ⊕ (Mem)} {t : Option Value × Hp} (H : gbX12_layWaits_77 u1 u3 s77 = some r) (kI : ∀ s, r = .inl s → (fun s77 => V Γ d mX12_layWaits 77 [(0, .ref T), (1, .int u1), (3, .int u3), (4, .int s77.1)] [] (hm T h s77.2) t) s) (kE : ∀ e, r = .inr e → (fun e => V Γ d mX12_layWaits 133 [(0, .ref T), (1, .int u1)] [] (hm T h e) t) e) : V Γ d mX12_layWaits 77 [(0, .ref T), (1, .int u1), (3, .int u3), (4, .int s77.1)] [] (hm T h s77.2) t := by
  unfold gbX12_layWaits_77 at H
  refine v_iload (q := 79) 3 dX12_layWaits_77 rfl rfl ?_
  refine v_bipush (v := 6) (q := 81) dX12_layWaits_79 (by decide) rfl ?_
  refine v_icmp_ge (q1 := 133) (q2 := 84) dX12_layWaits_81 (by decide) rfl (fun c13 => ?_) (fun c13 => ?_)
  · replace H := ip c13 H
    exact V.sub [0, 1] rfl (kE s77.2 (Option.some.inj H).symm)
  · replace H := ine c13 H
    refine v_aload_n (q := 85) 0 dX12_layWaits_84 rfl rfl rfl ?_
    refine ur_arr (q := 88) rs rt38 dX12_layWaits_85 w1394 (Nat.le_of_ble_eq_true rfl) rfl rfl ?_
    refine v_iload_n (q := 89) 2 dX12_layWaits_88 rfl rfl rfl ?_
    replace H := bs H; obtain ⟨x14, x14e, H⟩ := H
    refine ur_rd (q := 90) rs rt38 x14e dX12_layWaits_89 rfl ?_
    refine v_iload (q := 92) 3 dX12_layWaits_90 rfl rfl ?_
    refine v_icmp_eq (q1 := 109) (q2 := 95) dX12_layWaits_92 (by decide) rfl (fun c15 => ?_) (fun c15 => ?_)
    · replace H := ip c15 H
      exact V.sub [0, 1, 2, 3] rfl (sgjX12_layWaits_109 hd rs H kI kE)
    · replace H := ine c15 H
      refine v_aload_n (q := 96) 0 dX12_layWaits_95 rfl rfl rfl ?_
      refine ur_arr (q := 99) rs rt39 dX12_layWaits_96 w1395 (Nat.le_of_ble_eq_true rfl) rfl rfl ?_
      refine v_iload_n (q := 100) 2 dX12_layWaits_99 rfl rfl rfl ?_
      replace H := bs H; obtain ⟨x20, x20e, H⟩ := H
      refine ur_rd (q := 101) rs rt39 x20e dX12_layWaits_100 rfl ?_
      refine v_iload (q := 103) 3 dX12_layWaits_101 rfl rfl ?_
      replace H := bs H; obtain ⟨x21, x21e, H⟩ := H
      refine u_callS1 (M' := mX12_has) (d' := 1) (As := [.int x20, .int s77.1]) (st := []) (q := 106) oX12_has dX12_layWaits_103 w1846 w1847 rfl (Nat.le_of_ble_eq_true rfl) (Nat.le_of_ble_eq_true rfl) (Nat.lt_of_lt_of_le (by decide) hd) rfl (sgX12_has (Nat.le_refl _) x21e) rfl ?_
      refine v_if_eq (q1 := 127) (q2 := 109) dX12_layWaits_106 (by decide) rfl (fun c22 => ?_) (fun c22 => ?_)
      · replace H := ip c22 H
        exact V.sub [0, 1, 2, 3] rfl (sgjX12_layWaits_127 hd rs H kI kE)
      · replace H := ine c22 H
        exact V.sub [0, 1, 2, 3] rfl (sgjX12_layWaits_109 hd rs H kI kE)
def gjX12_layWaits_39 (v1 : Int32) (y0 : Int32) (m : Mem) : Option ((Int32 × Mem) ⊕ (Mem)) :=
if y0 < 0 then (
gjX12_layWaits_133 v1 m) else (
(gX12_isWaiting m y0).bind fun x8 =>
if x8 = 0 then (
gjX12_layWaits_133 v1 m) else (
(rd m 23 6 y0).bind fun x10 =>
(gX12_lockOf m y0 x10).bind fun x11 =>
(wr m 32 6 v1 x11).bind fun m12 =>
(lp (gbX12_layWaits_77 v1 x11) FU ((0 : Int32), m12)).bind fun e23 =>
gjX12_layWaits_133 v1 e23))
set_option maxRecDepth 20000 in
set_option maxHeartbeats 4000000 in
theorem sgjX12_layWaits_39 {Γ : Gm} {d : Nat} (hd : 4 ≤ d) {T : Nat} {h : Hp} (rs : RS T h) {v1 : Int32} {y0 : Int32} {m : Mem} {r : (Int32 × Mem) ⊕ (Mem)} {t : Option Value × Hp} (H : gjX12_layWaits_39 v1 y0 m = some r) (kI : ∀ s, r = .inl s → (fun s2 => V Γ d mX12_layWaits 2 [(0, .ref T), (1, .int s2.1)] [] (hm T h s2.2) t) s) (kE : ∀ e, r = .inr e → (fun e => V Γ d mX12_layWaits 139 [] [] (hm T h e) t) e) : V Γ d mX12_layWaits 39 [(0, .ref T), (1, .int v1)] [.int y0] (hm T h m) t := by
  unfold gjX12_layWaits_39 at H
  refine v_istore_n (L' := [(2, .int y0), (0, .ref T), (1, .int v1)]) (q := 40) dX12_layWaits_39 rfl (by decide) rfl rfl ?_
  refine v_iload_n (q := 41) 0 dX12_layWaits_40 rfl rfl rfl ?_
  refine v_if_lt (q1 := 133) (q2 := 44) dX12_layWaits_41 (by decide) rfl (fun c6 => ?_) (fun c6 => ?_)
  · replace H := ip c6 H
    exact V.sub [1, 2] rfl (sgjX12_layWaits_133 hd rs H kI kE)
  · replace H := ine c6 H
    refine v_aload_n (q := 45) 1 dX12_layWaits_44 rfl rfl rfl ?_
    refine v_iload_n (q := 46) 0 dX12_layWaits_45 rfl rfl rfl ?_
    replace H := bs H; obtain ⟨x8, x8e, H⟩ := H
    refine u_callV1 (M' := mX12_isWaiting) (d' := 2) (rc := (RX12, TX12, 58)) (As := [.int y0]) (st := []) (q := 49) oX12_isWaiting dX12_layWaits_46 w1893 w1895 w0118 rfl rfl (RS.rc rs).1 (RS.rc rs).2 rfl (Nat.le_of_ble_eq_true rfl) (Nat.le_of_ble_eq_true rfl) (Nat.lt_of_lt_of_le (by decide) hd) rfl (sgX12_isWaiting (Nat.le_refl _) rs x8e) rfl ?_
    refine v_if_ne (q1 := 55) (q2 := 52) dX12_layWaits_49 (by decide) rfl (fun c9 => ?_) (fun c9 => ?_)
    · replace H := ine c9 H
      refine v_aload_n (q := 56) 1 dX12_layWaits_55 rfl rfl rfl ?_
      refine v_iload_n (q := 57) 0 dX12_layWaits_56 rfl rfl rfl ?_
      refine v_aload_n (q := 58) 1 dX12_layWaits_57 rfl rfl rfl ?_
      refine ur_arr (q := 61) rs rt36 dX12_layWaits_58 w1392 (Nat.le_of_ble_eq_true rfl) rfl rfl ?_
      refine v_iload_n (q := 62) 0 dX12_layWaits_61 rfl rfl rfl ?_
      replace H := bs H; obtain ⟨x10, x10e, H⟩ := H
      refine ur_rd (q := 63) rs rt36 x10e dX12_layWaits_62 rfl ?_
      replace H := bs H; obtain ⟨x11, x11e, H⟩ := H
      refine u_callV1 (M' := mX12_lockOf) (d' := 1) (rc := (RX12, TX12, 58)) (As := [.int y0, .int x10]) (st := []) (q := 66) oX12_lockOf dX12_layWaits_63 w1654 w1656 w0077 rfl rfl (RS.rc rs).1 (RS.rc rs).2 rfl (Nat.le_of_ble_eq_true rfl) (Nat.le_of_ble_eq_true rfl) (Nat.lt_of_lt_of_le (by decide) hd) rfl (sgX12_lockOf (Nat.le_refl _) rs x11e) rfl ?_
      refine v_istore_n (L' := [(3, .int x11), (2, .int y0), (0, .ref T), (1, .int v1)]) (q := 67) dX12_layWaits_66 rfl (by decide) rfl rfl ?_
      refine v_aload_n (q := 68) 2 dX12_layWaits_67 rfl rfl rfl ?_
      refine ur_arr (q := 71) rs rt48 dX12_layWaits_68 w1404 (Nat.le_of_ble_eq_true rfl) rfl rfl ?_
      refine v_iload_n (q := 72) 3 dX12_layWaits_71 rfl rfl rfl ?_
      refine v_iload_n (q := 73) 0 dX12_layWaits_72 rfl rfl rfl ?_
      replace H := bs H; obtain ⟨m12, m12e, H⟩ := H
      refine ur_wr (q := 74) rs rt48 m12e dX12_layWaits_73 rfl ?_
      refine v_iconst (v := 0) (q := 75) dX12_layWaits_74 (by decide) rfl ?_
      refine v_istore (L' := [(4, .int (0 : Int32)), (3, .int x11), (2, .int y0), (0, .ref T), (1, .int v1)]) (q := 77) dX12_layWaits_75 (by decide) rfl rfl ?_
      replace H := bs H; obtain ⟨e23, e23L, H⟩ := H
      refine V.sub [3, 4, 1, 0] rfl ?_
      refine lp_V (P := (fun s77 => V Γ d mX12_layWaits 77 [(0, .ref T), (1, .int v1), (3, .int x11), (4, .int s77.1)] [] (hm T h s77.2) t)) (E := (fun e => V Γ d mX12_layWaits 133 [(0, .ref T), (1, .int v1)] [] (hm T h e) t)) (fun s r hb kI kE => sgbX12_layWaits_77 hd rs (s77 := s) (r := r) hb kI kE) FU ((0 : Int32), m12) e23 e23L ?_
      exact V.sub [0, 1] rfl (sgjX12_layWaits_133 hd rs H kI kE)
    · replace H := ip c9 H
      refine v_goto (q := 133) dX12_layWaits_52 (by decide) ?_
      exact V.sub [1, 2] rfl (sgjX12_layWaits_133 hd rs H kI kE)
def gbX12_layWaits_2  (s2 : Int32 × Mem) : Option ((Int32 × Mem) ⊕ (Mem)) :=
if (6 : Int32) ≤ s2.1 then (
some (.inr s2.2)) else (
(wr s2.2 32 6 s2.1 (-1 : Int32)).bind fun m2 =>
(wr m2 33 6 s2.1 (0 : Int32)).bind fun m3 =>
(gX12_isTask m3 s2.1).bind fun x4 =>
if x4 = 0 then (
gjX12_layWaits_39 s2.1 (-1 : Int32) m3) else (
(gX12_goesOn m3 s2.1).bind fun x24 =>
gjX12_layWaits_39 s2.1 x24 m3))
set_option maxRecDepth 20000 in
set_option maxHeartbeats 4000000 in
theorem sgbX12_layWaits_2 {Γ : Gm} {d : Nat} (hd : 4 ≤ d) {T : Nat} {h : Hp} (rs : RS T h)  {s2 : Int32 × Mem} {r : (Int32 × Mem) ⊕ (Mem)} {t : Option Value × Hp} (H : gbX12_layWaits_2  s2 = some r) (kI : ∀ s, r = .inl s → (fun s2 => V Γ d mX12_layWaits 2 [(0, .ref T), (1, .int s2.1)] [] (hm T h s2.2) t) s) (kE : ∀ e, r = .inr e → (fun e => V Γ d mX12_layWaits 139 [] [] (hm T h e) t) e) : V Γ d mX12_layWaits 2 [(0, .ref T), (1, .int s2.1)] [] (hm T h s2.2) t := by
  unfold gbX12_layWaits_2 at H
  refine v_iload_n (q := 3) 1 dX12_layWaits_2 rfl rfl rfl ?_
  refine v_bipush (v := 6) (q := 5) dX12_layWaits_3 (by decide) rfl ?_
  refine v_icmp_ge (q1 := 139) (q2 := 8) dX12_layWaits_5 (by decide) rfl (fun c1 => ?_) (fun c1 => ?_)
  · replace H := ip c1 H
    exact V.sub [] rfl (kE s2.2 (Option.some.inj H).symm)
  · replace H := ine c1 H
    refine v_aload_n (q := 9) 0 dX12_layWaits_8 rfl rfl rfl ?_
    refine ur_arr (q := 12) rs rt48 dX12_layWaits_9 w1404 (Nat.le_of_ble_eq_true rfl) rfl rfl ?_
    refine v_iload_n (q := 13) 1 dX12_layWaits_12 rfl rfl rfl ?_
    refine v_iconst (v := -1) (q := 14) dX12_layWaits_13 (by decide) rfl ?_
    replace H := bs H; obtain ⟨m2, m2e, H⟩ := H
    refine ur_wr (q := 15) rs rt48 m2e dX12_layWaits_14 rfl ?_
    refine v_aload_n (q := 16) 0 dX12_layWaits_15 rfl rfl rfl ?_
    refine ur_arr (q := 19) rs rt49 dX12_layWaits_16 w1405 (Nat.le_of_ble_eq_true rfl) rfl rfl ?_
    refine v_iload_n (q := 20) 1 dX12_layWaits_19 rfl rfl rfl ?_
    refine v_iconst (v := 0) (q := 21) dX12_layWaits_20 (by decide) rfl ?_
    replace H := bs H; obtain ⟨m3, m3e, H⟩ := H
    refine ur_wr (q := 22) rs rt49 m3e dX12_layWaits_21 rfl ?_
    refine v_aload_n (q := 23) 0 dX12_layWaits_22 rfl rfl rfl ?_
    refine v_iload_n (q := 24) 1 dX12_layWaits_23 rfl rfl rfl ?_
    replace H := bs H; obtain ⟨x4, x4e, H⟩ := H
    refine u_callV1 (M' := mX12_isTask) (d' := 3) (rc := (RX12, TX12, 58)) (As := [.int s2.1]) (st := []) (q := 27) oX12_isTask dX12_layWaits_24 w1881 w1883 w0115 rfl rfl (RS.rc rs).1 (RS.rc rs).2 rfl (Nat.le_of_ble_eq_true rfl) (Nat.le_of_ble_eq_true rfl) (Nat.lt_of_lt_of_le (by decide) hd) rfl (sgX12_isTask (Nat.le_refl _) rs x4e) rfl ?_
    refine v_if_eq (q1 := 38) (q2 := 30) dX12_layWaits_27 (by decide) rfl (fun c5 => ?_) (fun c5 => ?_)
    · replace H := ip c5 H
      refine v_iconst (v := -1) (q := 39) dX12_layWaits_38 (by decide) rfl ?_
      exact V.sub [0, 1] rfl (sgjX12_layWaits_39 hd rs H kI kE)
    · replace H := ine c5 H
      refine v_aload_n (q := 31) 0 dX12_layWaits_30 rfl rfl rfl ?_
      refine v_iload_n (q := 32) 1 dX12_layWaits_31 rfl rfl rfl ?_
      replace H := bs H; obtain ⟨x24, x24e, H⟩ := H
      refine u_callV1 (M' := mX12_goesOn) (d' := 3) (rc := (RX12, TX12, 58)) (As := [.int s2.1]) (st := []) (q := 35) oX12_goesOn dX12_layWaits_32 w1885 w1887 w0116 rfl rfl (RS.rc rs).1 (RS.rc rs).2 rfl (Nat.le_of_ble_eq_true rfl) (Nat.le_of_ble_eq_true rfl) (Nat.lt_of_lt_of_le (by decide) hd) rfl (sgX12_goesOn (Nat.le_refl _) rs x24e) rfl ?_
      refine v_goto (q := 39) dX12_layWaits_35 (by decide) ?_
      exact V.sub [0, 1] rfl (sgjX12_layWaits_39 hd rs H kI kE)
def gX12_layWaits (m : Mem)  : Option (Mem) :=
(lp (gbX12_layWaits_2) FU ((0 : Int32), m)).bind fun e25 =>
some e25
set_option maxRecDepth 20000 in
set_option maxHeartbeats 4000000 in
theorem sgX12_layWaits {Γ : Gm} {d : Nat} (hd : 4 ≤ d) {T : Nat} {h : Hp} (rs : RS T h) {m : Mem}  {r : Mem} (H : gX12_layWaits m  = some r) : V Γ d mX12_layWaits 0 [(0, .ref T)] [] (hm T h m) (none, (hm T h r)) := by
  unfold gX12_layWaits at H
  refine v_iconst (v := 0) (q := 1) dX12_layWaits_0 (by decide) rfl ?_
  refine v_istore_n (L' := [(1, .int (0 : Int32)), (0, .ref T)]) (q := 2) dX12_layWaits_1 rfl (by decide) rfl rfl ?_
  replace H := bs H; obtain ⟨e25, e25L, H⟩ := H
  refine V.sub [1, 0] rfl ?_
  refine lp_V (P := (fun s2 => V Γ d mX12_layWaits 2 [(0, .ref T), (1, .int s2.1)] [] (hm T h s2.2) (none, (hm T h r)))) (E := (fun e => V Γ d mX12_layWaits 139 [] [] (hm T h e) (none, (hm T h r)))) (fun s r hb kI kE => sgbX12_layWaits_2 hd rs (s2 := s) (r := r) hb kI kE) FU ((0 : Int32), m) e25 e25L ?_
  cases H
  exact v_return rfl dX12_layWaits_139
def mX12_layApart : MI := (yX12_layApart, cX12_layApart, 5, none)
theorem oX12_layApart : mOK mX12_layApart 1 := ⟨by decide +kernel, by decide +kernel, by decide +kernel, by decide, w1900, w0150⟩
def gjX12_layApart_25 (u1 : Int32) (v2 : Int32) (y0 : Int32) (y1 : Int32) (m : Mem) : Option ((Int32 × Mem) ⊕ (Mem)) :=
(wr m 35 6 y1 y0).bind fun m3 =>
(some (v2 + (1 : Int32))).bind fun x4 =>
some (.inl (x4, m3))
set_option maxRecDepth 20000 in
set_option maxHeartbeats 4000000 in
theorem sgjX12_layApart_25 {Γ : Gm} {d : Nat} (hd : 2 ≤ d) {T : Nat} {h : Hp} (rs : RS T h) {u1 : Int32} {v2 : Int32} {y0 : Int32} {y1 : Int32} {m : Mem} {r : (Int32 × Mem) ⊕ (Mem)} {t : Option Value × Hp} (H : gjX12_layApart_25 u1 v2 y0 y1 m = some r) (kI : ∀ s, r = .inl s → (fun s2 => V Γ d mX12_layApart 2 [(0, .ref T), (1, .int u1), (2, .int s2.1)] [] (hm T h s2.2) t) s) (kE : ∀ e, r = .inr e → (fun e => V Γ d mX12_layApart 32 [(0, .ref T), (1, .int u1)] [] (hm T h e) t) e) : V Γ d mX12_layApart 25 [(0, .ref T), (1, .int u1), (2, .int v2)] [.int y0, .int y1, .ref (T + 35)] (hm T h m) t := by
  unfold gjX12_layApart_25 at H
  replace H := bs H; obtain ⟨m3, m3e, H⟩ := H
  refine ur_wr (q := 26) rs rt51 m3e dX12_layApart_25 rfl ?_
  replace H := bs H; obtain ⟨x4, x4e, H⟩ := H
  refine v_iinc (v := x4) (L' := [(2, .int x4), (0, .ref T), (1, .int u1)]) (q := 29) 2 dX12_layApart_26 rfl (Option.some.inj x4e) (by decide) rfl rfl ?_
  refine v_goto (q := 2) dX12_layApart_29 (by decide) ?_
  exact V.sub [1, 2, 0] rfl (kI (x4, m3) (Option.some.inj H).symm)
def gbX12_layApart_2 (u1 : Int32) (s2 : Int32 × Mem) : Option ((Int32 × Mem) ⊕ (Mem)) :=
if (6 : Int32) ≤ s2.1 then (
some (.inr s2.2)) else (
if s2.1 = u1 then (
gjX12_layApart_25 u1 s2.1 (0 : Int32) s2.1 s2.2) else (
gjX12_layApart_25 u1 s2.1 (268435456 : Int32) s2.1 s2.2))
set_option maxRecDepth 20000 in
set_option maxHeartbeats 4000000 in
theorem sgbX12_layApart_2 {Γ : Gm} {d : Nat} (hd : 2 ≤ d) {T : Nat} {h : Hp} (rs : RS T h) {u1 : Int32} {s2 : Int32 × Mem} {r : (Int32 × Mem) ⊕ (Mem)} {t : Option Value × Hp} (H : gbX12_layApart_2 u1 s2 = some r) (kI : ∀ s, r = .inl s → (fun s2 => V Γ d mX12_layApart 2 [(0, .ref T), (1, .int u1), (2, .int s2.1)] [] (hm T h s2.2) t) s) (kE : ∀ e, r = .inr e → (fun e => V Γ d mX12_layApart 32 [(0, .ref T), (1, .int u1)] [] (hm T h e) t) e) : V Γ d mX12_layApart 2 [(0, .ref T), (1, .int u1), (2, .int s2.1)] [] (hm T h s2.2) t := by
  unfold gbX12_layApart_2 at H
  refine v_iload_n (q := 3) 2 dX12_layApart_2 rfl rfl rfl ?_
  refine v_bipush (v := 6) (q := 5) dX12_layApart_3 (by decide) rfl ?_
  refine v_icmp_ge (q1 := 32) (q2 := 8) dX12_layApart_5 (by decide) rfl (fun c1 => ?_) (fun c1 => ?_)
  · replace H := ip c1 H
    exact V.sub [0, 1] rfl (kE s2.2 (Option.some.inj H).symm)
  · replace H := ine c1 H
    refine v_aload_n (q := 9) 0 dX12_layApart_8 rfl rfl rfl ?_
    refine ur_arr (q := 12) rs rt51 dX12_layApart_9 w1407 (Nat.le_of_ble_eq_true rfl) rfl rfl ?_
    refine v_iload_n (q := 13) 2 dX12_layApart_12 rfl rfl rfl ?_
    refine v_iload_n (q := 14) 2 dX12_layApart_13 rfl rfl rfl ?_
    refine v_iload_n (q := 15) 1 dX12_layApart_14 rfl rfl rfl ?_
    refine v_icmp_ne (q1 := 22) (q2 := 18) dX12_layApart_15 (by decide) rfl (fun c2 => ?_) (fun c2 => ?_)
    · replace H := ine c2 H
      refine v_ldcw (v := 268435456) (q := 25) dX12_layApart_22 w1713 rfl ?_
      exact V.sub [0, 1, 2] rfl (sgjX12_layApart_25 hd rs H kI kE)
    · replace H := ip c2 H
      refine v_iconst (v := 0) (q := 19) dX12_layApart_18 (by decide) rfl ?_
      refine v_goto (q := 25) dX12_layApart_19 (by decide) ?_
      exact V.sub [0, 1, 2] rfl (sgjX12_layApart_25 hd rs H kI kE)
def gjX12_layApart_110 (u1 : Int32) (u2 : Int32) (u3 : Int32) (v4 : Int32) (m : Mem) : Option ((Int32 × Mem) ⊕ (Mem)) :=
(some (v4 + (1 : Int32))).bind fun x10 =>
some (.inl (x10, m))
set_option maxRecDepth 20000 in
set_option maxHeartbeats 4000000 in
theorem sgjX12_layApart_110 {Γ : Gm} {d : Nat} (hd : 2 ≤ d) {T : Nat} {h : Hp} (rs : RS T h) {u1 : Int32} {u2 : Int32} {u3 : Int32} {v4 : Int32} {m : Mem} {r : (Int32 × Mem) ⊕ (Mem)} {t : Option Value × Hp} (H : gjX12_layApart_110 u1 u2 u3 v4 m = some r) (kI : ∀ s, r = .inl s → (fun s51 => V Γ d mX12_layApart 51 [(0, .ref T), (1, .int u1), (2, .int u2), (3, .int u3), (4, .int s51.1)] [] (hm T h s51.2) t) s) (kE : ∀ e, r = .inr e → (fun e => V Γ d mX12_layApart 116 [(0, .ref T), (1, .int u1), (2, .int u2), (3, .int u3)] [] (hm T h e) t) e) : V Γ d mX12_layApart 110 [(0, .ref T), (1, .int u1), (2, .int u2), (3, .int u3), (4, .int v4)] [] (hm T h m) t := by
  unfold gjX12_layApart_110 at H
  replace H := bs H; obtain ⟨x10, x10e, H⟩ := H
  refine v_iinc (v := x10) (L' := [(4, .int x10), (0, .ref T), (1, .int u1), (2, .int u2), (3, .int u3)]) (q := 113) 4 dX12_layApart_110 rfl (Option.some.inj x10e) (by decide) rfl rfl ?_
  refine v_goto (q := 51) dX12_layApart_113 (by decide) ?_
  exact V.sub [1, 2, 3, 4, 0] rfl (kI (x10, m) (Option.some.inj H).symm)
def gbX12_layApart_51 (u1 : Int32) (u2 : Int32) (u3 : Int32) (s51 : Int32 × Mem) : Option ((Int32 × Mem) ⊕ (Mem)) :=
if (6 : Int32) ≤ s51.1 then (
some (.inr s51.2)) else (
if u3 = u1 then (
gjX12_layApart_110 u1 u2 u3 s51.1 s51.2) else (
(rd s51.2 33 6 u3).bind fun x11 =>
(gX12_has x11 s51.1).bind fun x12 =>
if x12 = 0 then (
gjX12_layApart_110 u1 u2 u3 s51.1 s51.2) else (
(rd s51.2 35 6 s51.1).bind fun x14 =>
(rd s51.2 35 6 u3).bind fun x15 =>
if x15 ≤ (x14 + (1 : Int32)) then (
gjX12_layApart_110 u1 u2 u3 s51.1 s51.2) else (
(rd s51.2 35 6 s51.1).bind fun x17 =>
(wr s51.2 35 6 u3 (x17 + (1 : Int32))).bind fun m18 =>
gjX12_layApart_110 u1 u2 u3 s51.1 m18))))
set_option maxRecDepth 20000 in
set_option maxHeartbeats 4000000 in
theorem sgbX12_layApart_51 {Γ : Gm} {d : Nat} (hd : 2 ≤ d) {T : Nat} {h : Hp} (rs : RS T h) {u1 : Int32} {u2 : Int32} {u3 : Int32} {s51 : Int32 × Mem} {r : (Int32 × Mem) ⊕ (Mem)} {t : Option Value × Hp} (H : gbX12_layApart_51 u1 u2 u3 s51 = some r) (kI : ∀ s, r = .inl s → (fun s51 => V Γ d mX12_layApart 51 [(0, .ref T), (1, .int u1), (2, .int u2), (3, .int u3), (4, .int s51.1)] [] (hm T h s51.2) t) s) (kE : ∀ e, r = .inr e → (fun e => V Γ d mX12_layApart 116 [(0, .ref T), (1, .int u1), (2, .int u2), (3, .int u3)] [] (hm T h e) t) e) : V Γ d mX12_layApart 51 [(0, .ref T), (1, .int u1), (2, .int u2), (3, .int u3), (4, .int s51.1)] [] (hm T h s51.2) t := by
  unfold gbX12_layApart_51 at H
  refine v_iload (q := 53) 4 dX12_layApart_51 rfl rfl ?_
  refine v_bipush (v := 6) (q := 55) dX12_layApart_53 (by decide) rfl ?_
  refine v_icmp_ge (q1 := 116) (q2 := 58) dX12_layApart_55 (by decide) rfl (fun c8 => ?_) (fun c8 => ?_)
  · replace H := ip c8 H
    exact V.sub [0, 1, 2, 3] rfl (kE s51.2 (Option.some.inj H).symm)
  · replace H := ine c8 H
    refine v_iload_n (q := 59) 3 dX12_layApart_58 rfl rfl rfl ?_
    refine v_iload_n (q := 60) 1 dX12_layApart_59 rfl rfl rfl ?_
    refine v_icmp_eq (q1 := 110) (q2 := 63) dX12_layApart_60 (by decide) rfl (fun c9 => ?_) (fun c9 => ?_)
    · replace H := ip c9 H
      exact V.sub [0, 1, 2, 3, 4] rfl (sgjX12_layApart_110 hd rs H kI kE)
    · replace H := ine c9 H
      refine v_aload_n (q := 64) 0 dX12_layApart_63 rfl rfl rfl ?_
      refine ur_arr (q := 67) rs rt49 dX12_layApart_64 w1405 (Nat.le_of_ble_eq_true rfl) rfl rfl ?_
      refine v_iload_n (q := 68) 3 dX12_layApart_67 rfl rfl rfl ?_
      replace H := bs H; obtain ⟨x11, x11e, H⟩ := H
      refine ur_rd (q := 69) rs rt49 x11e dX12_layApart_68 rfl ?_
      refine v_iload (q := 71) 4 dX12_layApart_69 rfl rfl ?_
      replace H := bs H; obtain ⟨x12, x12e, H⟩ := H
      refine u_callS1 (M' := mX12_has) (d' := 1) (As := [.int x11, .int s51.1]) (st := []) (q := 74) oX12_has dX12_layApart_71 w1846 w1847 rfl (Nat.le_of_ble_eq_true rfl) (Nat.le_of_ble_eq_true rfl) (Nat.lt_of_lt_of_le (by decide) hd) rfl (sgX12_has (Nat.le_refl _) x12e) rfl ?_
      refine v_if_eq (q1 := 110) (q2 := 77) dX12_layApart_74 (by decide) rfl (fun c13 => ?_) (fun c13 => ?_)
      · replace H := ip c13 H
        exact V.sub [0, 1, 2, 3, 4] rfl (sgjX12_layApart_110 hd rs H kI kE)
      · replace H := ine c13 H
        refine v_aload_n (q := 78) 0 dX12_layApart_77 rfl rfl rfl ?_
        refine ur_arr (q := 81) rs rt51 dX12_layApart_78 w1407 (Nat.le_of_ble_eq_true rfl) rfl rfl ?_
        refine v_iload (q := 83) 4 dX12_layApart_81 rfl rfl ?_
        replace H := bs H; obtain ⟨x14, x14e, H⟩ := H
        refine ur_rd (q := 84) rs rt51 x14e dX12_layApart_83 rfl ?_
        refine v_iconst (v := 1) (q := 85) dX12_layApart_84 (by decide) rfl ?_
        refine v_iadd (q := 86) dX12_layApart_85 rfl ?_
        refine v_aload_n (q := 87) 0 dX12_layApart_86 rfl rfl rfl ?_
        refine ur_arr (q := 90) rs rt51 dX12_layApart_87 w1407 (Nat.le_of_ble_eq_true rfl) rfl rfl ?_
        refine v_iload_n (q := 91) 3 dX12_layApart_90 rfl rfl rfl ?_
        replace H := bs H; obtain ⟨x15, x15e, H⟩ := H
        refine ur_rd (q := 92) rs rt51 x15e dX12_layApart_91 rfl ?_
        refine v_icmp_ge (q1 := 110) (q2 := 95) dX12_layApart_92 (by decide) rfl (fun c16 => ?_) (fun c16 => ?_)
        · replace H := ip c16 H
          exact V.sub [0, 1, 2, 3, 4] rfl (sgjX12_layApart_110 hd rs H kI kE)
        · replace H := ine c16 H
          refine v_aload_n (q := 96) 0 dX12_layApart_95 rfl rfl rfl ?_
          refine ur_arr (q := 99) rs rt51 dX12_layApart_96 w1407 (Nat.le_of_ble_eq_true rfl) rfl rfl ?_
          refine v_iload_n (q := 100) 3 dX12_layApart_99 rfl rfl rfl ?_
          refine v_aload_n (q := 101) 0 dX12_layApart_100 rfl rfl rfl ?_
          refine ur_arr (q := 104) rs rt51 dX12_layApart_101 w1407 (Nat.le_of_ble_eq_true rfl) rfl rfl ?_
          refine v_iload (q := 106) 4 dX12_layApart_104 rfl rfl ?_
          replace H := bs H; obtain ⟨x17, x17e, H⟩ := H
          refine ur_rd (q := 107) rs rt51 x17e dX12_layApart_106 rfl ?_
          refine v_iconst (v := 1) (q := 108) dX12_layApart_107 (by decide) rfl ?_
          refine v_iadd (q := 109) dX12_layApart_108 rfl ?_
          replace H := bs H; obtain ⟨m18, m18e, H⟩ := H
          refine ur_wr (q := 110) rs rt51 m18e dX12_layApart_109 rfl ?_
          exact V.sub [0, 1, 2, 3, 4] rfl (sgjX12_layApart_110 hd rs H kI kE)
def gbX12_layApart_42 (u1 : Int32) (u2 : Int32) (s42 : Int32 × Mem) : Option ((Int32 × Mem) ⊕ (Mem)) :=
if (6 : Int32) ≤ s42.1 then (
some (.inr s42.2)) else (
(lp (gbX12_layApart_51 u1 u2 s42.1) FU ((0 : Int32), s42.2)).bind fun e19 =>
(some (s42.1 + (1 : Int32))).bind fun x20 =>
some (.inl (x20, e19)))
set_option maxRecDepth 20000 in
set_option maxHeartbeats 4000000 in
theorem sgbX12_layApart_42 {Γ : Gm} {d : Nat} (hd : 2 ≤ d) {T : Nat} {h : Hp} (rs : RS T h) {u1 : Int32} {u2 : Int32} {s42 : Int32 × Mem} {r : (Int32 × Mem) ⊕ (Mem)} {t : Option Value × Hp} (H : gbX12_layApart_42 u1 u2 s42 = some r) (kI : ∀ s, r = .inl s → (fun s42 => V Γ d mX12_layApart 42 [(0, .ref T), (1, .int u1), (2, .int u2), (3, .int s42.1)] [] (hm T h s42.2) t) s) (kE : ∀ e, r = .inr e → (fun e => V Γ d mX12_layApart 122 [(0, .ref T), (1, .int u1), (2, .int u2)] [] (hm T h e) t) e) : V Γ d mX12_layApart 42 [(0, .ref T), (1, .int u1), (2, .int u2), (3, .int s42.1)] [] (hm T h s42.2) t := by
  unfold gbX12_layApart_42 at H
  refine v_iload_n (q := 43) 3 dX12_layApart_42 rfl rfl rfl ?_
  refine v_bipush (v := 6) (q := 45) dX12_layApart_43 (by decide) rfl ?_
  refine v_icmp_ge (q1 := 122) (q2 := 48) dX12_layApart_45 (by decide) rfl (fun c7 => ?_) (fun c7 => ?_)
  · replace H := ip c7 H
    exact V.sub [0, 1, 2] rfl (kE s42.2 (Option.some.inj H).symm)
  · replace H := ine c7 H
    refine v_iconst (v := 0) (q := 49) dX12_layApart_48 (by decide) rfl ?_
    refine v_istore (L' := [(4, .int (0 : Int32)), (0, .ref T), (1, .int u1), (2, .int u2), (3, .int s42.1)]) (q := 51) dX12_layApart_49 (by decide) rfl rfl ?_
    replace H := bs H; obtain ⟨e19, e19L, H⟩ := H
    refine V.sub [1, 2, 3, 4, 0] rfl ?_
    refine lp_V (P := (fun s51 => V Γ d mX12_layApart 51 [(0, .ref T), (1, .int u1), (2, .int u2), (3, .int s42.1), (4, .int s51.1)] [] (hm T h s51.2) t)) (E := (fun e => V Γ d mX12_layApart 116 [(0, .ref T), (1, .int u1), (2, .int u2), (3, .int s42.1)] [] (hm T h e) t)) (fun s r hb kI kE => sgbX12_layApart_51 hd rs (s51 := s) (r := r) hb kI kE) FU ((0 : Int32), s42.2) e19 e19L ?_
    replace H := bs H; obtain ⟨x20, x20e, H⟩ := H
    refine v_iinc (v := x20) (L' := [(3, .int x20), (0, .ref T), (1, .int u1), (2, .int u2)]) (q := 119) 3 dX12_layApart_116 rfl (Option.some.inj x20e) (by decide) rfl rfl ?_
    refine v_goto (q := 42) dX12_layApart_119 (by decide) ?_
    exact V.sub [1, 2, 3, 0] rfl (kI (x20, e19) (Option.some.inj H).symm)
def gbX12_layApart_34 (u1 : Int32) (s34 : Int32 × Mem) : Option ((Int32 × Mem) ⊕ (Mem)) :=
if (6 : Int32) ≤ s34.1 then (
some (.inr s34.2)) else (
(lp (gbX12_layApart_42 u1 s34.1) FU ((0 : Int32), s34.2)).bind fun e21 =>
(some (s34.1 + (1 : Int32))).bind fun x22 =>
some (.inl (x22, e21)))
set_option maxRecDepth 20000 in
set_option maxHeartbeats 4000000 in
theorem sgbX12_layApart_34 {Γ : Gm} {d : Nat} (hd : 2 ≤ d) {T : Nat} {h : Hp} (rs : RS T h) {u1 : Int32} {s34 : Int32 × Mem} {r : (Int32 × Mem) ⊕ (Mem)} {t : Option Value × Hp} (H : gbX12_layApart_34 u1 s34 = some r) (kI : ∀ s, r = .inl s → (fun s34 => V Γ d mX12_layApart 34 [(0, .ref T), (1, .int u1), (2, .int s34.1)] [] (hm T h s34.2) t) s) (kE : ∀ e, r = .inr e → (fun e => V Γ d mX12_layApart 128 [] [] (hm T h e) t) e) : V Γ d mX12_layApart 34 [(0, .ref T), (1, .int u1), (2, .int s34.1)] [] (hm T h s34.2) t := by
  unfold gbX12_layApart_34 at H
  refine v_iload_n (q := 35) 2 dX12_layApart_34 rfl rfl rfl ?_
  refine v_bipush (v := 6) (q := 37) dX12_layApart_35 (by decide) rfl ?_
  refine v_icmp_ge (q1 := 128) (q2 := 40) dX12_layApart_37 (by decide) rfl (fun c6 => ?_) (fun c6 => ?_)
  · replace H := ip c6 H
    exact V.sub [] rfl (kE s34.2 (Option.some.inj H).symm)
  · replace H := ine c6 H
    refine v_iconst (v := 0) (q := 41) dX12_layApart_40 (by decide) rfl ?_
    refine v_istore_n (L' := [(3, .int (0 : Int32)), (0, .ref T), (1, .int u1), (2, .int s34.1)]) (q := 42) dX12_layApart_41 rfl (by decide) rfl rfl ?_
    replace H := bs H; obtain ⟨e21, e21L, H⟩ := H
    refine V.sub [1, 2, 3, 0] rfl ?_
    refine lp_V (P := (fun s42 => V Γ d mX12_layApart 42 [(0, .ref T), (1, .int u1), (2, .int s34.1), (3, .int s42.1)] [] (hm T h s42.2) t)) (E := (fun e => V Γ d mX12_layApart 122 [(0, .ref T), (1, .int u1), (2, .int s34.1)] [] (hm T h e) t)) (fun s r hb kI kE => sgbX12_layApart_42 hd rs (s42 := s) (r := r) hb kI kE) FU ((0 : Int32), s34.2) e21 e21L ?_
    replace H := bs H; obtain ⟨x22, x22e, H⟩ := H
    refine v_iinc (v := x22) (L' := [(2, .int x22), (0, .ref T), (1, .int u1)]) (q := 125) 2 dX12_layApart_122 rfl (Option.some.inj x22e) (by decide) rfl rfl ?_
    refine v_goto (q := 34) dX12_layApart_125 (by decide) ?_
    exact V.sub [1, 2, 0] rfl (kI (x22, e21) (Option.some.inj H).symm)
def gX12_layApart (m : Mem) (v1 : Int32) : Option (Mem) :=
(lp (gbX12_layApart_2 v1) FU ((0 : Int32), m)).bind fun e5 =>
(lp (gbX12_layApart_34 v1) FU ((0 : Int32), e5)).bind fun e23 =>
some e23
set_option maxRecDepth 20000 in
set_option maxHeartbeats 4000000 in
theorem sgX12_layApart {Γ : Gm} {d : Nat} (hd : 2 ≤ d) {T : Nat} {h : Hp} (rs : RS T h) {m : Mem} {v1 : Int32} {r : Mem} (H : gX12_layApart m v1 = some r) : V Γ d mX12_layApart 0 [(0, .ref T), (1, .int v1)] [] (hm T h m) (none, (hm T h r)) := by
  unfold gX12_layApart at H
  refine v_iconst (v := 0) (q := 1) dX12_layApart_0 (by decide) rfl ?_
  refine v_istore_n (L' := [(2, .int (0 : Int32)), (0, .ref T), (1, .int v1)]) (q := 2) dX12_layApart_1 rfl (by decide) rfl rfl ?_
  replace H := bs H; obtain ⟨e5, e5L, H⟩ := H
  refine V.sub [1, 2, 0] rfl ?_
  refine lp_V (P := (fun s2 => V Γ d mX12_layApart 2 [(0, .ref T), (1, .int v1), (2, .int s2.1)] [] (hm T h s2.2) (none, (hm T h r)))) (E := (fun e => V Γ d mX12_layApart 32 [(0, .ref T), (1, .int v1)] [] (hm T h e) (none, (hm T h r)))) (fun s r hb kI kE => sgbX12_layApart_2 hd rs (s2 := s) (r := r) hb kI kE) FU ((0 : Int32), m) e5 e5L ?_
  refine v_iconst (v := 0) (q := 33) dX12_layApart_32 (by decide) rfl ?_
  refine v_istore_n (L' := [(2, .int (0 : Int32)), (0, .ref T), (1, .int v1)]) (q := 34) dX12_layApart_33 rfl (by decide) rfl rfl ?_
  replace H := bs H; obtain ⟨e23, e23L, H⟩ := H
  refine V.sub [1, 2, 0] rfl ?_
  refine lp_V (P := (fun s34 => V Γ d mX12_layApart 34 [(0, .ref T), (1, .int v1), (2, .int s34.1)] [] (hm T h s34.2) (none, (hm T h r)))) (E := (fun e => V Γ d mX12_layApart 128 [] [] (hm T h e) (none, (hm T h r)))) (fun s r hb kI kE => sgbX12_layApart_34 hd rs (s34 := s) (r := r) hb kI kE) FU ((0 : Int32), e5) e23 e23L ?_
  cases H
  exact v_return rfl dX12_layApart_128
def mX12_layRing : MI := (yX12_layRing, cX12_layRing, 5, some .boolean)
theorem oX12_layRing : mOK mX12_layRing 0 := ⟨by decide +kernel, by decide +kernel, by decide +kernel, by decide, w1876, w0150⟩
def gjX12_layRing_62 (u1 : Int32) (v3 : Int32) (y0 : Int32) (m : Mem) : Option ((Int32 × Int32) ⊕ (Int32)) :=
(some (v3 + (1 : Int32))).bind fun x8 =>
some (.inl (y0, x8))
set_option maxRecDepth 20000 in
set_option maxHeartbeats 4000000 in
theorem sgjX12_layRing_62 {Γ : Gm} {d : Nat} (hd : 5 ≤ d) {T : Nat} {h : Hp} (rs : RS T h) {u1 : Int32} {v3 : Int32} {y0 : Int32} {m : Mem} {r : (Int32 × Int32) ⊕ (Int32)} {t : Option Value × Hp} (H : gjX12_layRing_62 u1 v3 y0 m = some r) (kI : ∀ s, r = .inl s → (fun s23 => V Γ d mX12_layRing 23 [(0, .ref T), (1, .int u1), (2, .int s23.1), (3, .int s23.2)] [] (hm T h m) t) s) (kE : ∀ e, r = .inr e → (fun e => V Γ d mX12_layRing 69 [(0, .ref T), (1, .int u1), (2, .int e)] [] (hm T h m) t) e) : V Γ d mX12_layRing 62 [(0, .ref T), (1, .int u1), (3, .int v3)] [.int y0] (hm T h m) t := by
  unfold gjX12_layRing_62 at H
  refine v_istore_n (L' := [(2, .int y0), (0, .ref T), (1, .int u1), (3, .int v3)]) (q := 63) dX12_layRing_62 rfl (by decide) rfl rfl ?_
  replace H := bs H; obtain ⟨x8, x8e, H⟩ := H
  refine v_iinc (v := x8) (L' := [(3, .int x8), (2, .int y0), (0, .ref T), (1, .int u1)]) (q := 66) 3 dX12_layRing_63 rfl (Option.some.inj x8e) (by decide) rfl rfl ?_
  refine v_goto (q := 23) dX12_layRing_66 (by decide) ?_
  exact V.sub [2, 3, 1, 0] rfl (kI (y0, x8) (Option.some.inj H).symm)
def gjX12_layRing_61 (u1 : Int32) (v2 : Int32) (v3 : Int32) (m : Mem) : Option ((Int32 × Int32) ⊕ (Int32)) :=
gjX12_layRing_62 u1 v3 v2 m
set_option maxRecDepth 20000 in
set_option maxHeartbeats 4000000 in
theorem sgjX12_layRing_61 {Γ : Gm} {d : Nat} (hd : 5 ≤ d) {T : Nat} {h : Hp} (rs : RS T h) {u1 : Int32} {v2 : Int32} {v3 : Int32} {m : Mem} {r : (Int32 × Int32) ⊕ (Int32)} {t : Option Value × Hp} (H : gjX12_layRing_61 u1 v2 v3 m = some r) (kI : ∀ s, r = .inl s → (fun s23 => V Γ d mX12_layRing 23 [(0, .ref T), (1, .int u1), (2, .int s23.1), (3, .int s23.2)] [] (hm T h m) t) s) (kE : ∀ e, r = .inr e → (fun e => V Γ d mX12_layRing 69 [(0, .ref T), (1, .int u1), (2, .int e)] [] (hm T h m) t) e) : V Γ d mX12_layRing 61 [(0, .ref T), (1, .int u1), (2, .int v2), (3, .int v3)] [] (hm T h m) t := by
  unfold gjX12_layRing_61 at H
  refine v_iload_n (q := 62) 2 dX12_layRing_61 rfl rfl rfl ?_
  exact V.sub [0, 1, 3] rfl (sgjX12_layRing_62 hd rs H kI kE)
def gbX12_layRing_23 (u1 : Int32) (m : Mem) (s23 : Int32 × Int32) : Option ((Int32 × Int32) ⊕ (Int32)) :=
if (6 : Int32) ≤ s23.2 then (
some (.inr s23.1)) else (
(rd m 33 6 u1).bind fun x5 =>
(gX12_has x5 s23.2).bind fun x6 =>
if x6 = 0 then (
gjX12_layRing_61 u1 s23.1 s23.2 m) else (
(rd m 35 6 s23.2).bind fun x9 =>
if s23.1 ≤ x9 then (
gjX12_layRing_61 u1 s23.1 s23.2 m) else (
(rd m 35 6 s23.2).bind fun x11 =>
gjX12_layRing_62 u1 s23.2 x11 m)))
set_option maxRecDepth 20000 in
set_option maxHeartbeats 4000000 in
theorem sgbX12_layRing_23 {Γ : Gm} {d : Nat} (hd : 5 ≤ d) {T : Nat} {h : Hp} (rs : RS T h) {u1 : Int32} {m : Mem} {s23 : Int32 × Int32} {r : (Int32 × Int32) ⊕ (Int32)} {t : Option Value × Hp} (H : gbX12_layRing_23 u1 m s23 = some r) (kI : ∀ s, r = .inl s → (fun s23 => V Γ d mX12_layRing 23 [(0, .ref T), (1, .int u1), (2, .int s23.1), (3, .int s23.2)] [] (hm T h m) t) s) (kE : ∀ e, r = .inr e → (fun e => V Γ d mX12_layRing 69 [(0, .ref T), (1, .int u1), (2, .int e)] [] (hm T h m) t) e) : V Γ d mX12_layRing 23 [(0, .ref T), (1, .int u1), (2, .int s23.1), (3, .int s23.2)] [] (hm T h m) t := by
  unfold gbX12_layRing_23 at H
  refine v_iload_n (q := 24) 3 dX12_layRing_23 rfl rfl rfl ?_
  refine v_bipush (v := 6) (q := 26) dX12_layRing_24 (by decide) rfl ?_
  refine v_icmp_ge (q1 := 69) (q2 := 29) dX12_layRing_26 (by decide) rfl (fun c4 => ?_) (fun c4 => ?_)
  · replace H := ip c4 H
    exact V.sub [0, 1, 2] rfl (kE s23.1 (Option.some.inj H).symm)
  · replace H := ine c4 H
    refine v_aload_n (q := 30) 0 dX12_layRing_29 rfl rfl rfl ?_
    refine ur_arr (q := 33) rs rt49 dX12_layRing_30 w1405 (Nat.le_of_ble_eq_true rfl) rfl rfl ?_
    refine v_iload_n (q := 34) 1 dX12_layRing_33 rfl rfl rfl ?_
    replace H := bs H; obtain ⟨x5, x5e, H⟩ := H
    refine ur_rd (q := 35) rs rt49 x5e dX12_layRing_34 rfl ?_
    refine v_iload_n (q := 36) 3 dX12_layRing_35 rfl rfl rfl ?_
    replace H := bs H; obtain ⟨x6, x6e, H⟩ := H
    refine u_callS1 (M' := mX12_has) (d' := 1) (As := [.int x5, .int s23.2]) (st := []) (q := 39) oX12_has dX12_layRing_36 w1846 w1847 rfl (Nat.le_of_ble_eq_true rfl) (Nat.le_of_ble_eq_true rfl) (Nat.lt_of_lt_of_le (by decide) hd) rfl (sgX12_has (Nat.le_refl _) x6e) rfl ?_
    refine v_if_eq (q1 := 61) (q2 := 42) dX12_layRing_39 (by decide) rfl (fun c7 => ?_) (fun c7 => ?_)
    · replace H := ip c7 H
      exact V.sub [0, 1, 2, 3] rfl (sgjX12_layRing_61 hd rs H kI kE)
    · replace H := ine c7 H
      refine v_aload_n (q := 43) 0 dX12_layRing_42 rfl rfl rfl ?_
      refine ur_arr (q := 46) rs rt51 dX12_layRing_43 w1407 (Nat.le_of_ble_eq_true rfl) rfl rfl ?_
      refine v_iload_n (q := 47) 3 dX12_layRing_46 rfl rfl rfl ?_
      replace H := bs H; obtain ⟨x9, x9e, H⟩ := H
      refine ur_rd (q := 48) rs rt51 x9e dX12_layRing_47 rfl ?_
      refine v_iload_n (q := 49) 2 dX12_layRing_48 rfl rfl rfl ?_
      refine v_icmp_ge (q1 := 61) (q2 := 52) dX12_layRing_49 (by decide) rfl (fun c10 => ?_) (fun c10 => ?_)
      · replace H := ip c10 H
        exact V.sub [0, 1, 2, 3] rfl (sgjX12_layRing_61 hd rs H kI kE)
      · replace H := ine c10 H
        refine v_aload_n (q := 53) 0 dX12_layRing_52 rfl rfl rfl ?_
        refine ur_arr (q := 56) rs rt51 dX12_layRing_53 w1407 (Nat.le_of_ble_eq_true rfl) rfl rfl ?_
        refine v_iload_n (q := 57) 3 dX12_layRing_56 rfl rfl rfl ?_
        replace H := bs H; obtain ⟨x11, x11e, H⟩ := H
        refine ur_rd (q := 58) rs rt51 x11e dX12_layRing_57 rfl ?_
        refine v_goto (q := 62) dX12_layRing_58 (by decide) ?_
        exact V.sub [0, 1, 3] rfl (sgjX12_layRing_62 hd rs H kI kE)
def gbX12_layRing_6  (s6 : Int32 × Mem) : Option ((Int32 × Mem) ⊕ ((Mem) ⊕ (Int32 × Int32 × Mem))) :=
if (6 : Int32) ≤ s6.1 then (
some (.inr (.inl s6.2))) else (
(gX12_layApart s6.2 s6.1).bind fun x3 =>
(lp (gbX12_layRing_23 s6.1 x3) FU ((268435456 : Int32), (0 : Int32))).bind fun e12 =>
if e12 < (268435456 : Int32) then (
some (.inr (.inr (s6.1, e12, x3)))) else (
(some (s6.1 + (1 : Int32))).bind fun x14 =>
some (.inl (x14, x3))))
set_option maxRecDepth 20000 in
set_option maxHeartbeats 4000000 in
theorem sgbX12_layRing_6 {Γ : Gm} {d : Nat} (hd : 5 ≤ d) {T : Nat} {h : Hp} (rs : RS T h)  {s6 : Int32 × Mem} {r : (Int32 × Mem) ⊕ ((Mem) ⊕ (Int32 × Int32 × Mem))} {t : Option Value × Hp} (H : gbX12_layRing_6  s6 = some r) (kI : ∀ s, r = .inl s → (fun s6 => V Γ d mX12_layRing 6 [(0, .ref T), (1, .int s6.1)] [] (hm T h s6.2) t) s) (kE : ∀ e, r = .inr e → (fun e => (match e with | .inl a0 => V Γ d mX12_layRing 176 [] [] (hm T h a0) t | .inr b0 => V Γ d mX12_layRing 79 [(0, .ref T), (1, .int b0.1), (2, .int b0.2.1)] [] (hm T h b0.2.2) t)) e) : V Γ d mX12_layRing 6 [(0, .ref T), (1, .int s6.1)] [] (hm T h s6.2) t := by
  unfold gbX12_layRing_6 at H
  refine v_iload_n (q := 7) 1 dX12_layRing_6 rfl rfl rfl ?_
  refine v_bipush (v := 6) (q := 9) dX12_layRing_7 (by decide) rfl ?_
  refine v_icmp_ge (q1 := 176) (q2 := 12) dX12_layRing_9 (by decide) rfl (fun c2 => ?_) (fun c2 => ?_)
  · replace H := ip c2 H
    exact V.sub [] rfl (kE (.inl s6.2) (Option.some.inj H).symm)
  · replace H := ine c2 H
    refine v_aload_n (q := 13) 0 dX12_layRing_12 rfl rfl rfl ?_
    refine v_iload_n (q := 14) 1 dX12_layRing_13 rfl rfl rfl ?_
    replace H := bs H; obtain ⟨x3, x3e, H⟩ := H
    refine u_callV0 (M' := mX12_layApart) (d' := 2) (rc := (RX12, TX12, 58)) (As := [.int s6.1]) (st := []) (q := 17) oX12_layApart dX12_layRing_14 w1897 w1899 w0119 rfl rfl (RS.rc rs).1 (RS.rc rs).2 rfl (Nat.le_of_ble_eq_true rfl) (Nat.le_of_ble_eq_true rfl) (Nat.lt_of_lt_of_le (by decide) hd) rfl (sgX12_layApart (Nat.le_refl _) rs x3e) rfl ?_
    refine v_ldcw (v := 268435456) (q := 20) dX12_layRing_17 w1713 rfl ?_
    refine v_istore_n (L' := [(2, .int (268435456 : Int32)), (0, .ref T), (1, .int s6.1)]) (q := 21) dX12_layRing_20 rfl (by decide) rfl rfl ?_
    refine v_iconst (v := 0) (q := 22) dX12_layRing_21 (by decide) rfl ?_
    refine v_istore_n (L' := [(3, .int (0 : Int32)), (2, .int (268435456 : Int32)), (0, .ref T), (1, .int s6.1)]) (q := 23) dX12_layRing_22 rfl (by decide) rfl rfl ?_
    replace H := bs H; obtain ⟨e12, e12L, H⟩ := H
    refine V.sub [2, 3, 1, 0] rfl ?_
    refine lp_V (P := (fun s23 => V Γ d mX12_layRing 23 [(0, .ref T), (1, .int s6.1), (2, .int s23.1), (3, .int s23.2)] [] (hm T h x3) t)) (E := (fun e => V Γ d mX12_layRing 69 [(0, .ref T), (1, .int s6.1), (2, .int e)] [] (hm T h x3) t)) (fun s r hb kI kE => sgbX12_layRing_23 hd rs (s23 := s) (r := r) hb kI kE) FU ((268435456 : Int32), (0 : Int32)) e12 e12L ?_
    refine v_iload_n (q := 70) 2 dX12_layRing_69 rfl rfl rfl ?_
    refine v_ldcw (v := 268435456) (q := 73) dX12_layRing_70 w1713 rfl ?_
    refine v_icmp_lt (q1 := 79) (q2 := 76) dX12_layRing_73 (by decide) rfl (fun c13 => ?_) (fun c13 => ?_)
    · replace H := ip c13 H
      exact V.sub [0, 1, 2] rfl (kE (.inr (s6.1, e12, x3)) (Option.some.inj H).symm)
    · replace H := ine c13 H
      refine v_goto (q := 170) dX12_layRing_76 (by decide) ?_
      replace H := bs H; obtain ⟨x14, x14e, H⟩ := H
      refine v_iinc (v := x14) (L' := [(1, .int x14), (0, .ref T), (2, .int e12)]) (q := 173) 1 dX12_layRing_170 rfl (Option.some.inj x14e) (by decide) rfl rfl ?_
      refine v_goto (q := 6) dX12_layRing_173 (by decide) ?_
      exact V.sub [1, 0] rfl (kI (x14, x3) (Option.some.inj H).symm)
def gjX12_layRing_135 (u3 : Int32) (v4 : Int32) (m : Mem) : Option ((Int32) ⊕ (Int32)) :=
(some (v4 + (1 : Int32))).bind fun x25 =>
some (.inl x25)
set_option maxRecDepth 20000 in
set_option maxHeartbeats 4000000 in
theorem sgjX12_layRing_135 {Γ : Gm} {d : Nat} (hd : 5 ≤ d) {T : Nat} {h : Hp} (rs : RS T h) {u3 : Int32} {v4 : Int32} {m : Mem} {r : (Int32) ⊕ (Int32)} {t : Option Value × Hp} (H : gjX12_layRing_135 u3 v4 m = some r) (kI : ∀ s, r = .inl s → (fun s100 => V Γ d mX12_layRing 100 [(0, .ref T), (3, .int u3), (4, .int s100)] [] (hm T h m) t) s) (kE : ∀ e, r = .inr e → (fun e => V Γ d mX12_layRing 141 [(0, .ref T), (3, .int u3), (4, .int e)] [] (hm T h m) t) e) : V Γ d mX12_layRing 135 [(0, .ref T), (3, .int u3), (4, .int v4)] [] (hm T h m) t := by
  unfold gjX12_layRing_135 at H
  replace H := bs H; obtain ⟨x25, x25e, H⟩ := H
  refine v_iinc (v := x25) (L' := [(4, .int x25), (0, .ref T), (3, .int u3)]) (q := 138) 2 dX12_layRing_135 rfl (Option.some.inj x25e) (by decide) rfl rfl ?_
  refine v_goto (q := 100) dX12_layRing_138 (by decide) ?_
  exact V.sub [1, 2, 0] rfl (kI x25 (Option.some.inj H).symm)
def gbX12_layRing_100 (u3 : Int32) (m : Mem) (s100 : Int32) : Option ((Int32) ⊕ (Int32)) :=
(rd m 34 8 ((m 0 52) - (1 : Int32))).bind fun x21 =>
(rd m 33 6 x21).bind fun x22 =>
(gX12_has x22 s100).bind fun x23 =>
if x23 = 0 then (
gjX12_layRing_135 u3 s100 m) else (
(rd m 35 6 s100).bind fun x26 =>
if x26 = u3 then (
some (.inr s100)) else (
gjX12_layRing_135 u3 s100 m))
set_option maxRecDepth 20000 in
set_option maxHeartbeats 4000000 in
theorem sgbX12_layRing_100 {Γ : Gm} {d : Nat} (hd : 5 ≤ d) {T : Nat} {h : Hp} (rs : RS T h) {u3 : Int32} {m : Mem} {s100 : Int32} {r : (Int32) ⊕ (Int32)} {t : Option Value × Hp} (H : gbX12_layRing_100 u3 m s100 = some r) (kI : ∀ s, r = .inl s → (fun s100 => V Γ d mX12_layRing 100 [(0, .ref T), (3, .int u3), (4, .int s100)] [] (hm T h m) t) s) (kE : ∀ e, r = .inr e → (fun e => V Γ d mX12_layRing 141 [(0, .ref T), (3, .int u3), (4, .int e)] [] (hm T h m) t) e) : V Γ d mX12_layRing 100 [(0, .ref T), (3, .int u3), (4, .int s100)] [] (hm T h m) t := by
  unfold gbX12_layRing_100 at H
  refine v_aload_n (q := 101) 0 dX12_layRing_100 rfl rfl rfl ?_
  refine ur_arr (q := 104) rs rt49 dX12_layRing_101 w1405 (Nat.le_of_ble_eq_true rfl) rfl rfl ?_
  refine v_aload_n (q := 105) 0 dX12_layRing_104 rfl rfl rfl ?_
  refine ur_arr (q := 108) rs rt50 dX12_layRing_105 w1406 (Nat.le_of_ble_eq_true rfl) rfl rfl ?_
  refine v_aload_n (q := 109) 0 dX12_layRing_108 rfl rfl rfl ?_
  refine ur_gI (q := 112) (x := 0) (k := 52) rs dX12_layRing_109 w1408 (Nat.le_of_ble_eq_true rfl) rfl rfl ?_
  refine v_iconst (v := 1) (q := 113) dX12_layRing_112 (by decide) rfl ?_
  refine v_isub (q := 114) dX12_layRing_113 rfl ?_
  replace H := bs H; obtain ⟨x21, x21e, H⟩ := H
  refine ur_rd (q := 115) rs rt50 x21e dX12_layRing_114 rfl ?_
  replace H := bs H; obtain ⟨x22, x22e, H⟩ := H
  refine ur_rd (q := 116) rs rt49 x22e dX12_layRing_115 rfl ?_
  refine v_iload (q := 118) 2 dX12_layRing_116 rfl rfl ?_
  replace H := bs H; obtain ⟨x23, x23e, H⟩ := H
  refine u_callS1 (M' := mX12_has) (d' := 1) (As := [.int x22, .int s100]) (st := []) (q := 121) oX12_has dX12_layRing_118 w1846 w1847 rfl (Nat.le_of_ble_eq_true rfl) (Nat.le_of_ble_eq_true rfl) (Nat.lt_of_lt_of_le (by decide) hd) rfl (sgX12_has (Nat.le_refl _) x23e) rfl ?_
  refine v_if_eq (q1 := 135) (q2 := 124) dX12_layRing_121 (by decide) rfl (fun c24 => ?_) (fun c24 => ?_)
  · replace H := ip c24 H
    exact V.sub [0, 1, 2] rfl (sgjX12_layRing_135 hd rs H kI kE)
  · replace H := ine c24 H
    refine v_aload_n (q := 125) 0 dX12_layRing_124 rfl rfl rfl ?_
    refine ur_arr (q := 128) rs rt51 dX12_layRing_125 w1407 (Nat.le_of_ble_eq_true rfl) rfl rfl ?_
    refine v_iload (q := 130) 2 dX12_layRing_128 rfl rfl ?_
    replace H := bs H; obtain ⟨x26, x26e, H⟩ := H
    refine ur_rd (q := 131) rs rt51 x26e dX12_layRing_130 rfl ?_
    refine v_iload_n (q := 132) 1 dX12_layRing_131 rfl rfl rfl ?_
    refine v_icmp_eq (q1 := 141) (q2 := 135) dX12_layRing_132 (by decide) rfl (fun c27 => ?_) (fun c27 => ?_)
    · replace H := ip c27 H
      exact V.sub [0, 1, 2] rfl (kE s100 (Option.some.inj H).symm)
    · replace H := ine c27 H
      exact V.sub [0, 1, 2] rfl (sgjX12_layRing_135 hd rs H kI kE)
def gbX12_layRing_93  (s93 : Int32 × Mem) : Option ((Int32 × Mem) ⊕ (Mem)) :=
if s93.1 ≤ 0 then (
some (.inr s93.2)) else (
(lp (gbX12_layRing_100 s93.1 s93.2) FU (0 : Int32)).bind fun e28 =>
(wr s93.2 34 8 (s93.2 0 52) e28).bind fun m29 =>
(some (up m29 0 52 ((m29 0 52) + (1 : Int32)))).bind fun m30 =>
(some (s93.1 + (-1 : Int32))).bind fun x31 =>
some (.inl (x31, m30)))
set_option maxRecDepth 20000 in
set_option maxHeartbeats 4000000 in
theorem sgbX12_layRing_93 {Γ : Gm} {d : Nat} (hd : 5 ≤ d) {T : Nat} {h : Hp} (rs : RS T h)  {s93 : Int32 × Mem} {r : (Int32 × Mem) ⊕ (Mem)} {t : Option Value × Hp} (H : gbX12_layRing_93  s93 = some r) (kI : ∀ s, r = .inl s → (fun s93 => V Γ d mX12_layRing 93 [(0, .ref T), (3, .int s93.1)] [] (hm T h s93.2) t) s) (kE : ∀ e, r = .inr e → (fun e => V Γ d mX12_layRing 168 [] [] (hm T h e) t) e) : V Γ d mX12_layRing 93 [(0, .ref T), (3, .int s93.1)] [] (hm T h s93.2) t := by
  unfold gbX12_layRing_93 at H
  refine v_iload_n (q := 94) 1 dX12_layRing_93 rfl rfl rfl ?_
  refine v_if_le (q1 := 168) (q2 := 97) dX12_layRing_94 (by decide) rfl (fun c20 => ?_) (fun c20 => ?_)
  · replace H := ip c20 H
    exact V.sub [] rfl (kE s93.2 (Option.some.inj H).symm)
  · replace H := ine c20 H
    refine v_iconst (v := 0) (q := 98) dX12_layRing_97 (by decide) rfl ?_
    refine v_istore (L' := [(4, .int (0 : Int32)), (0, .ref T), (3, .int s93.1)]) (q := 100) dX12_layRing_98 (by decide) rfl rfl ?_
    replace H := bs H; obtain ⟨e28, e28L, H⟩ := H
    refine V.sub [1, 2, 0] rfl ?_
    refine lp_V (P := (fun s100 => V Γ d mX12_layRing 100 [(0, .ref T), (3, .int s93.1), (4, .int s100)] [] (hm T h s93.2) t)) (E := (fun e => V Γ d mX12_layRing 141 [(0, .ref T), (3, .int s93.1), (4, .int e)] [] (hm T h s93.2) t)) (fun s r hb kI kE => sgbX12_layRing_100 hd rs (s100 := s) (r := r) hb kI kE) FU (0 : Int32) e28 e28L ?_
    refine v_aload_n (q := 142) 0 dX12_layRing_141 rfl rfl rfl ?_
    refine ur_arr (q := 145) rs rt50 dX12_layRing_142 w1406 (Nat.le_of_ble_eq_true rfl) rfl rfl ?_
    refine v_aload_n (q := 146) 0 dX12_layRing_145 rfl rfl rfl ?_
    refine ur_gI (q := 149) (x := 0) (k := 52) rs dX12_layRing_146 w1408 (Nat.le_of_ble_eq_true rfl) rfl rfl ?_
    refine v_iload (q := 151) 2 dX12_layRing_149 rfl rfl ?_
    replace H := bs H; obtain ⟨m29, m29e, H⟩ := H
    refine ur_wr (q := 152) rs rt50 m29e dX12_layRing_151 rfl ?_
    refine v_aload_n (q := 153) 0 dX12_layRing_152 rfl rfl rfl ?_
    refine v_dup (q := 154) dX12_layRing_153 rfl rfl ?_
    refine ur_gI (q := 157) (x := 0) (k := 52) rs dX12_layRing_154 w1408 (Nat.le_of_ble_eq_true rfl) rfl rfl ?_
    refine v_iconst (v := 1) (q := 158) dX12_layRing_157 (by decide) rfl ?_
    refine v_iadd (q := 159) dX12_layRing_158 rfl ?_
    replace H := bs H; obtain ⟨m30, m30e, H⟩ := H
    refine ur_pI (q := 162) (k := 52) rs m30e dX12_layRing_159 w1408 (Nat.le_of_ble_eq_true rfl) rfl rfl rfl ?_
    replace H := bs H; obtain ⟨x31, x31e, H⟩ := H
    refine v_iinc (v := x31) (L' := [(3, .int x31), (0, .ref T), (4, .int e28)]) (q := 165) 1 dX12_layRing_162 rfl (Option.some.inj x31e) (by decide) rfl rfl ?_
    refine v_goto (q := 93) dX12_layRing_165 (by decide) ?_
    exact V.sub [1, 0] rfl (kI (x31, m30) (Option.some.inj H).symm)
def gX12_layRing (m : Mem)  : Option (Int32 × Mem) :=
(gX12_layWaits m).bind fun x1 =>
(lp (gbX12_layRing_6) FU ((0 : Int32), x1)).bind fun e15 =>
(match e15 with
| .inl e16 => (
some (((0 : Int32), e16)))
| .inr e17 => (
(wr e17.2.2 34 8 (0 : Int32) e17.1).bind fun m18 =>
(some (up m18 0 52 (1 : Int32))).bind fun m19 =>
(lp (gbX12_layRing_93) FU (e17.2.1, m19)).bind fun e32 =>
some (((1 : Int32), e32))))
set_option maxRecDepth 20000 in
set_option maxHeartbeats 4000000 in
theorem sgX12_layRing {Γ : Gm} {d : Nat} (hd : 5 ≤ d) {T : Nat} {h : Hp} (rs : RS T h) {m : Mem}  {r : Int32 × Mem} (H : gX12_layRing m  = some r) : V Γ d mX12_layRing 0 [(0, .ref T)] [] (hm T h m) (some (.int r.1), (hm T h r.2)) := by
  unfold gX12_layRing at H
  refine v_aload_n (q := 1) 0 dX12_layRing_0 rfl rfl rfl ?_
  replace H := bs H; obtain ⟨x1, x1e, H⟩ := H
  refine u_callV0 (M' := mX12_layWaits) (d' := 4) (rc := (RX12, TX12, 58)) (As := []) (st := []) (q := 4) oX12_layWaits dX12_layRing_1 w1877 w1879 w0114 rfl rfl (RS.rc rs).1 (RS.rc rs).2 rfl (Nat.le_of_ble_eq_true rfl) (Nat.le_of_ble_eq_true rfl) (Nat.lt_of_lt_of_le (by decide) hd) rfl (sgX12_layWaits (Nat.le_refl _) rs x1e) rfl ?_
  refine v_iconst (v := 0) (q := 5) dX12_layRing_4 (by decide) rfl ?_
  refine v_istore_n (L' := [(1, .int (0 : Int32)), (0, .ref T)]) (q := 6) dX12_layRing_5 rfl (by decide) rfl rfl ?_
  replace H := bs H; obtain ⟨e15, e15L, H⟩ := H
  refine V.sub [1, 0] rfl ?_
  refine lp_V (P := (fun s6 => V Γ d mX12_layRing 6 [(0, .ref T), (1, .int s6.1)] [] (hm T h s6.2) (some (.int r.1), (hm T h r.2)))) (E := (fun e => (match e with | .inl a0 => V Γ d mX12_layRing 176 [] [] (hm T h a0) (some (.int r.1), (hm T h r.2)) | .inr b0 => V Γ d mX12_layRing 79 [(0, .ref T), (1, .int b0.1), (2, .int b0.2.1)] [] (hm T h b0.2.2) (some (.int r.1), (hm T h r.2))))) (fun s r hb kI kE => sgbX12_layRing_6 hd rs (s6 := s) (r := r) hb kI kE) FU ((0 : Int32), x1) e15 e15L ?_
  rcases e15 with e16 | e17
  · skip
    refine v_iconst (v := 0) (q := 177) dX12_layRing_176 (by decide) rfl ?_
    cases H
    exact v_zreturn rfl (by decide) dX12_layRing_177
  · skip
    refine v_aload_n (q := 80) 0 dX12_layRing_79 rfl rfl rfl ?_
    refine ur_arr (q := 83) rs rt50 dX12_layRing_80 w1406 (Nat.le_of_ble_eq_true rfl) rfl rfl ?_
    refine v_iconst (v := 0) (q := 84) dX12_layRing_83 (by decide) rfl ?_
    refine v_iload_n (q := 85) 1 dX12_layRing_84 rfl rfl rfl ?_
    replace H := bs H; obtain ⟨m18, m18e, H⟩ := H
    refine ur_wr (q := 86) rs rt50 m18e dX12_layRing_85 rfl ?_
    refine v_aload_n (q := 87) 0 dX12_layRing_86 rfl rfl rfl ?_
    refine v_iconst (v := 1) (q := 88) dX12_layRing_87 (by decide) rfl ?_
    replace H := bs H; obtain ⟨m19, m19e, H⟩ := H
    refine ur_pI (q := 91) (k := 52) rs m19e dX12_layRing_88 w1408 (Nat.le_of_ble_eq_true rfl) rfl rfl rfl ?_
    refine v_iload_n (q := 92) 2 dX12_layRing_91 rfl rfl rfl ?_
    refine v_istore_n (L' := [(3, .int e17.2.1), (0, .ref T), (1, .int e17.1), (2, .int e17.2.1)]) (q := 93) dX12_layRing_92 rfl (by decide) rfl rfl ?_
    replace H := bs H; obtain ⟨e32, e32L, H⟩ := H
    refine V.sub [1, 0] rfl ?_
    refine lp_V (P := (fun s93 => V Γ d mX12_layRing 93 [(0, .ref T), (3, .int s93.1)] [] (hm T h s93.2) (some (.int r.1), (hm T h r.2)))) (E := (fun e => V Γ d mX12_layRing 168 [] [] (hm T h e) (some (.int r.1), (hm T h r.2)))) (fun s r hb kI kE => sgbX12_layRing_93 hd rs (s93 := s) (r := r) hb kI kE) FU (e17.2.1, m19) e32 e32L ?_
    refine v_iconst (v := 1) (q := 169) dX12_layRing_168 (by decide) rfl ?_
    cases H
    exact v_zreturn rfl (by decide) dX12_layRing_169
def mX12_come : MI := (yX12_come, cX12_come, 6, some .boolean)
theorem oX12_come : mOK mX12_come 3 := ⟨by decide +kernel, by decide +kernel, by decide +kernel, by decide, w1864, w0150⟩
def gbX12_come_14 (u1 : Int32) (u2 : Int32) (u3 : Int32) (m : Mem) (s14 : Int32 × Int32) : Option ((Int32 × Int32) ⊕ (Int32)) :=
if (5 : Int32) ≤ s14.2 then (
some (.inr s14.1)) else (
(rd m 27 20005 (((5 : Int32) * (m 0 46)) + s14.2)).bind fun x3 =>
(some (((31 : Int32) * s14.1) + x3)).bind fun x4 =>
(some (s14.2 + (1 : Int32))).bind fun x5 =>
some (.inl (x4, x5)))
set_option maxRecDepth 20000 in
set_option maxHeartbeats 4000000 in
theorem sgbX12_come_14 {Γ : Gm} {d : Nat} (hd : 6 ≤ d) {T : Nat} {h : Hp} (rs : RS T h) {u1 : Int32} {u2 : Int32} {u3 : Int32} {m : Mem} {s14 : Int32 × Int32} {r : (Int32 × Int32) ⊕ (Int32)} {t : Option Value × Hp} (H : gbX12_come_14 u1 u2 u3 m s14 = some r) (kI : ∀ s, r = .inl s → (fun s14 => V Γ d mX12_come 14 [(0, .ref T), (1, .int u1), (2, .int u2), (3, .int u3), (4, .int s14.1), (5, .int s14.2)] [] (hm T h m) t) s) (kE : ∀ e, r = .inr e → (fun e => V Γ d mX12_come 48 [(0, .ref T), (1, .int u1), (2, .int u2), (3, .int u3), (4, .int e)] [] (hm T h m) t) e) : V Γ d mX12_come 14 [(0, .ref T), (1, .int u1), (2, .int u2), (3, .int u3), (4, .int s14.1), (5, .int s14.2)] [] (hm T h m) t := by
  unfold gbX12_come_14 at H
  refine v_iload (q := 16) 5 dX12_come_14 rfl rfl ?_
  refine v_iconst (v := 5) (q := 17) dX12_come_16 (by decide) rfl ?_
  refine v_icmp_ge (q1 := 48) (q2 := 20) dX12_come_17 (by decide) rfl (fun c2 => ?_) (fun c2 => ?_)
  · replace H := ip c2 H
    exact V.sub [0, 1, 2, 3, 4] rfl (kE s14.1 (Option.some.inj H).symm)
  · replace H := ine c2 H
    refine v_bipush (v := 31) (q := 22) dX12_come_20 (by decide) rfl ?_
    refine v_iload (q := 24) 4 dX12_come_22 rfl rfl ?_
    refine v_imul (q := 25) dX12_come_24 rfl ?_
    refine v_aload_n (q := 26) 0 dX12_come_25 rfl rfl rfl ?_
    refine ur_arr (q := 29) rs rt41 dX12_come_26 w1397 (Nat.le_of_ble_eq_true rfl) rfl rfl ?_
    refine v_iconst (v := 5) (q := 30) dX12_come_29 (by decide) rfl ?_
    refine v_aload_n (q := 31) 0 dX12_come_30 rfl rfl rfl ?_
    refine ur_gI (q := 34) (x := 0) (k := 46) rs dX12_come_31 w1402 (Nat.le_of_ble_eq_true rfl) rfl rfl ?_
    refine v_imul (q := 35) dX12_come_34 rfl ?_
    refine v_iload (q := 37) 5 dX12_come_35 rfl rfl ?_
    refine v_iadd (q := 38) dX12_come_37 rfl ?_
    replace H := bs H; obtain ⟨x3, x3e, H⟩ := H
    refine ur_rd (q := 39) rs rt41 x3e dX12_come_38 rfl ?_
    refine v_iadd (q := 40) dX12_come_39 rfl ?_
    replace H := bs H; obtain ⟨x4, x4e, H⟩ := H
    refine v_topi (Option.some.inj x4e) ?_
    refine v_istore (L' := [(4, .int x4), (0, .ref T), (1, .int u1), (2, .int u2), (3, .int u3), (5, .int s14.2)]) (q := 42) dX12_come_40 (by decide) rfl rfl ?_
    replace H := bs H; obtain ⟨x5, x5e, H⟩ := H
    refine v_iinc (v := x5) (L' := [(5, .int x5), (4, .int x4), (0, .ref T), (1, .int u1), (2, .int u2), (3, .int u3)]) (q := 45) 5 dX12_come_42 rfl (Option.some.inj x5e) (by decide) rfl rfl ?_
    refine v_goto (q := 14) dX12_come_45 (by decide) ?_
    exact V.sub [2, 3, 4, 5, 1, 0] rfl (kI (x4, x5) (Option.some.inj H).symm)
def gbX12_come_62 (u1 : Int32) (u2 : Int32) (u3 : Int32) (m : Mem) (s62 : Int32) : Option ((Int32) ⊕ (Int32)) :=
(rd m 31 16384 s62).bind fun x8 =>
if x8 < 0 then (
some (.inr s62)) else (
(rd m 31 16384 s62).bind fun x10 =>
(gX12_isLike m x10 (m 0 46)).bind fun x11 =>
if x11 = 0 then (
(some ((s62 + (1 : Int32)) &&& (16383 : Int32))).bind fun x13 =>
some (.inl x13)) else (
some (.inr s62)))
set_option maxRecDepth 20000 in
set_option maxHeartbeats 4000000 in
theorem sgbX12_come_62 {Γ : Gm} {d : Nat} (hd : 6 ≤ d) {T : Nat} {h : Hp} (rs : RS T h) {u1 : Int32} {u2 : Int32} {u3 : Int32} {m : Mem} {s62 : Int32} {r : (Int32) ⊕ (Int32)} {t : Option Value × Hp} (H : gbX12_come_62 u1 u2 u3 m s62 = some r) (kI : ∀ s, r = .inl s → (fun s62 => V Γ d mX12_come 62 [(0, .ref T), (1, .int u1), (2, .int u2), (3, .int u3), (4, .int s62)] [] (hm T h m) t) s) (kE : ∀ e, r = .inr e → (fun e => V Γ d mX12_come 103 [(0, .ref T), (1, .int u1), (2, .int u2), (3, .int u3), (4, .int e)] [] (hm T h m) t) e) : V Γ d mX12_come 62 [(0, .ref T), (1, .int u1), (2, .int u2), (3, .int u3), (4, .int s62)] [] (hm T h m) t := by
  unfold gbX12_come_62 at H
  refine v_aload_n (q := 63) 0 dX12_come_62 rfl rfl rfl ?_
  refine ur_arr (q := 66) rs rt45 dX12_come_63 w1401 (Nat.le_of_ble_eq_true rfl) rfl rfl ?_
  refine v_iload (q := 68) 4 dX12_come_66 rfl rfl ?_
  replace H := bs H; obtain ⟨x8, x8e, H⟩ := H
  refine ur_rd (q := 69) rs rt45 x8e dX12_come_68 rfl ?_
  refine v_if_lt (q1 := 103) (q2 := 72) dX12_come_69 (by decide) rfl (fun c9 => ?_) (fun c9 => ?_)
  · replace H := ip c9 H
    exact V.sub [0, 1, 2, 3, 4] rfl (kE s62 (Option.some.inj H).symm)
  · replace H := ine c9 H
    refine v_aload_n (q := 73) 0 dX12_come_72 rfl rfl rfl ?_
    refine v_aload_n (q := 74) 0 dX12_come_73 rfl rfl rfl ?_
    refine ur_arr (q := 77) rs rt45 dX12_come_74 w1401 (Nat.le_of_ble_eq_true rfl) rfl rfl ?_
    refine v_iload (q := 79) 4 dX12_come_77 rfl rfl ?_
    replace H := bs H; obtain ⟨x10, x10e, H⟩ := H
    refine ur_rd (q := 80) rs rt45 x10e dX12_come_79 rfl ?_
    refine v_aload_n (q := 81) 0 dX12_come_80 rfl rfl rfl ?_
    refine ur_gI (q := 84) (x := 0) (k := 46) rs dX12_come_81 w1402 (Nat.le_of_ble_eq_true rfl) rfl rfl ?_
    replace H := bs H; obtain ⟨x11, x11e, H⟩ := H
    refine u_callV1 (M' := mX12_isLike) (d' := 1) (rc := (RX12, TX12, 58)) (As := [.int x10, .int (m 0 46)]) (st := []) (q := 87) oX12_isLike dX12_come_84 w1869 w1871 w0112 rfl rfl (RS.rc rs).1 (RS.rc rs).2 rfl (Nat.le_of_ble_eq_true rfl) (Nat.le_of_ble_eq_true rfl) (Nat.lt_of_lt_of_le (by decide) hd) rfl (sgX12_isLike (Nat.le_refl _) rs x11e) rfl ?_
    refine v_if_ne (q1 := 103) (q2 := 90) dX12_come_87 (by decide) rfl (fun c12 => ?_) (fun c12 => ?_)
    · replace H := ine c12 H
      exact V.sub [0, 1, 2, 3, 4] rfl (kE s62 (Option.some.inj H).symm)
    · replace H := ip c12 H
      refine v_iload (q := 92) 4 dX12_come_90 rfl rfl ?_
      refine v_iconst (v := 1) (q := 93) dX12_come_92 (by decide) rfl ?_
      refine v_iadd (q := 94) dX12_come_93 rfl ?_
      refine v_sipush (v := 16383) (q := 97) dX12_come_94 (by decide) rfl ?_
      refine v_iand (q := 98) dX12_come_97 rfl ?_
      replace H := bs H; obtain ⟨x13, x13e, H⟩ := H
      refine v_topi (Option.some.inj x13e) ?_
      refine v_istore (L' := [(4, .int x13), (0, .ref T), (1, .int u1), (2, .int u2), (3, .int u3)]) (q := 100) dX12_come_98 (by decide) rfl rfl ?_
      refine v_goto (q := 62) dX12_come_100 (by decide) ?_
      exact V.sub [1, 2, 3, 4, 0] rfl (kI x13 (Option.some.inj H).symm)
def gjX12_come_195 (m : Mem) : Option (Int32 × Mem) :=
some (((1 : Int32), m))
set_option maxRecDepth 20000 in
set_option maxHeartbeats 4000000 in
theorem sgjX12_come_195 {Γ : Gm} {d : Nat} (hd : 6 ≤ d) {T : Nat} {h : Hp} (rs : RS T h) {m : Mem} {r : Int32 × Mem} (H : gjX12_come_195 m = some r) : V Γ d mX12_come 195 [] [] (hm T h m) (some (.int r.1), (hm T h r.2)) := by
  unfold gjX12_come_195 at H
  refine v_iconst (v := 1) (q := 196) dX12_come_195 (by decide) rfl ?_
  cases H
  exact v_zreturn rfl (by decide) dX12_come_196
def gX12_come (m : Mem) (v1 : Int32) (v2 : Int32) (v3 : Int32) : Option (Int32 × Mem) :=
(gX12_pack m (m 0 46)).bind fun x1 =>
(lp (gbX12_come_14 v1 v2 v3 x1) FU ((0 : Int32), (0 : Int32))).bind fun e6 =>
(some ((e6 ^^^ ((e6.toUInt32 >>> ((15 : Int32).toUInt32 &&& Int32.toUInt32 31)).toInt32)) &&& (16383 : Int32))).bind fun x7 =>
(lp (gbX12_come_62 v1 v2 v3 x1) FU x7).bind fun e14 =>
(rd x1 31 16384 e14).bind fun x15 =>
if x15 < 0 then (
if (x1 0 46) = (4000 : Int32) then (
some (((0 : Int32), x1))) else (
(wr x1 31 16384 e14 (x1 0 46)).bind fun m18 =>
(wr m18 28 4001 (m18 0 46) v1).bind fun m19 =>
(wr m19 29 4001 (m19 0 46) v2).bind fun m20 =>
(wr m20 30 4001 (m20 0 46) v3).bind fun m21 =>
(some (up m21 0 46 ((m21 0 46) + (1 : Int32)))).bind fun m22 =>
(gX12_layRing m22).bind fun x23 =>
if x23.1 = 0 then (
gjX12_come_195 x23.2) else (
(some (up x23.2 0 47 ((x23.2 0 46) - (1 : Int32)))).bind fun m25 =>
gjX12_come_195 m25))) else (
some (((1 : Int32), x1)))
set_option maxRecDepth 20000 in
set_option maxHeartbeats 4000000 in
theorem sgX12_come {Γ : Gm} {d : Nat} (hd : 6 ≤ d) {T : Nat} {h : Hp} (rs : RS T h) {m : Mem} {v1 : Int32} {v2 : Int32} {v3 : Int32} {r : Int32 × Mem} (H : gX12_come m v1 v2 v3 = some r) : V Γ d mX12_come 0 [(0, .ref T), (1, .int v1), (2, .int v2), (3, .int v3)] [] (hm T h m) (some (.int r.1), (hm T h r.2)) := by
  unfold gX12_come at H
  refine v_aload_n (q := 1) 0 dX12_come_0 rfl rfl rfl ?_
  refine v_aload_n (q := 2) 0 dX12_come_1 rfl rfl rfl ?_
  refine ur_gI (q := 5) (x := 0) (k := 46) rs dX12_come_2 w1402 (Nat.le_of_ble_eq_true rfl) rfl rfl ?_
  replace H := bs H; obtain ⟨x1, x1e, H⟩ := H
  refine u_callV0 (M' := mX12_pack) (d' := 1) (rc := (RX12, TX12, 58)) (As := [.int (m 0 46)]) (st := []) (q := 8) oX12_pack dX12_come_5 w1865 w1867 w0111 rfl rfl (RS.rc rs).1 (RS.rc rs).2 rfl (Nat.le_of_ble_eq_true rfl) (Nat.le_of_ble_eq_true rfl) (Nat.lt_of_lt_of_le (by decide) hd) rfl (sgX12_pack (Nat.le_refl _) rs x1e) rfl ?_
  refine v_iconst (v := 0) (q := 9) dX12_come_8 (by decide) rfl ?_
  refine v_istore (L' := [(4, .int (0 : Int32)), (0, .ref T), (1, .int v1), (2, .int v2), (3, .int v3)]) (q := 11) dX12_come_9 (by decide) rfl rfl ?_
  refine v_iconst (v := 0) (q := 12) dX12_come_11 (by decide) rfl ?_
  refine v_istore (L' := [(5, .int (0 : Int32)), (4, .int (0 : Int32)), (0, .ref T), (1, .int v1), (2, .int v2), (3, .int v3)]) (q := 14) dX12_come_12 (by decide) rfl rfl ?_
  replace H := bs H; obtain ⟨e6, e6L, H⟩ := H
  refine V.sub [2, 3, 4, 5, 1, 0] rfl ?_
  refine lp_V (P := (fun s14 => V Γ d mX12_come 14 [(0, .ref T), (1, .int v1), (2, .int v2), (3, .int v3), (4, .int s14.1), (5, .int s14.2)] [] (hm T h x1) (some (.int r.1), (hm T h r.2)))) (E := (fun e => V Γ d mX12_come 48 [(0, .ref T), (1, .int v1), (2, .int v2), (3, .int v3), (4, .int e)] [] (hm T h x1) (some (.int r.1), (hm T h r.2)))) (fun s r hb kI kE => sgbX12_come_14 hd rs (s14 := s) (r := r) hb kI kE) FU ((0 : Int32), (0 : Int32)) e6 e6L ?_
  refine v_iload (q := 50) 4 dX12_come_48 rfl rfl ?_
  refine v_iload (q := 52) 4 dX12_come_50 rfl rfl ?_
  refine v_bipush (v := 15) (q := 54) dX12_come_52 (by decide) rfl ?_
  refine v_iushr (q := 55) dX12_come_54 rfl ?_
  refine v_ixor (q := 56) dX12_come_55 rfl ?_
  refine v_sipush (v := 16383) (q := 59) dX12_come_56 (by decide) rfl ?_
  refine v_iand (q := 60) dX12_come_59 rfl ?_
  replace H := bs H; obtain ⟨x7, x7e, H⟩ := H
  refine v_topi (Option.some.inj x7e) ?_
  refine v_istore (L' := [(4, .int x7), (0, .ref T), (1, .int v1), (2, .int v2), (3, .int v3)]) (q := 62) dX12_come_60 (by decide) rfl rfl ?_
  replace H := bs H; obtain ⟨e14, e14L, H⟩ := H
  refine V.sub [1, 2, 3, 4, 0] rfl ?_
  refine lp_V (P := (fun s62 => V Γ d mX12_come 62 [(0, .ref T), (1, .int v1), (2, .int v2), (3, .int v3), (4, .int s62)] [] (hm T h x1) (some (.int r.1), (hm T h r.2)))) (E := (fun e => V Γ d mX12_come 103 [(0, .ref T), (1, .int v1), (2, .int v2), (3, .int v3), (4, .int e)] [] (hm T h x1) (some (.int r.1), (hm T h r.2)))) (fun s r hb kI kE => sgbX12_come_62 hd rs (s62 := s) (r := r) hb kI kE) FU x7 e14 e14L ?_
  refine v_aload_n (q := 104) 0 dX12_come_103 rfl rfl rfl ?_
  refine ur_arr (q := 107) rs rt45 dX12_come_104 w1401 (Nat.le_of_ble_eq_true rfl) rfl rfl ?_
  refine v_iload (q := 109) 4 dX12_come_107 rfl rfl ?_
  replace H := bs H; obtain ⟨x15, x15e, H⟩ := H
  refine ur_rd (q := 110) rs rt45 x15e dX12_come_109 rfl ?_
  refine v_if_lt (q1 := 115) (q2 := 113) dX12_come_110 (by decide) rfl (fun c16 => ?_) (fun c16 => ?_)
  · replace H := ip c16 H
    refine v_aload_n (q := 116) 0 dX12_come_115 rfl rfl rfl ?_
    refine ur_gI (q := 119) (x := 0) (k := 46) rs dX12_come_116 w1402 (Nat.le_of_ble_eq_true rfl) rfl rfl ?_
    refine v_sipush (v := 4000) (q := 122) dX12_come_119 (by decide) rfl ?_
    refine v_icmp_ne (q1 := 127) (q2 := 125) dX12_come_122 (by decide) rfl (fun c17 => ?_) (fun c17 => ?_)
    · replace H := ine c17 H
      refine v_aload_n (q := 128) 0 dX12_come_127 rfl rfl rfl ?_
      refine ur_arr (q := 131) rs rt45 dX12_come_128 w1401 (Nat.le_of_ble_eq_true rfl) rfl rfl ?_
      refine v_iload (q := 133) 4 dX12_come_131 rfl rfl ?_
      refine v_aload_n (q := 134) 0 dX12_come_133 rfl rfl rfl ?_
      refine ur_gI (q := 137) (x := 0) (k := 46) rs dX12_come_134 w1402 (Nat.le_of_ble_eq_true rfl) rfl rfl ?_
      replace H := bs H; obtain ⟨m18, m18e, H⟩ := H
      refine ur_wr (q := 138) rs rt45 m18e dX12_come_137 rfl ?_
      refine v_aload_n (q := 139) 0 dX12_come_138 rfl rfl rfl ?_
      refine ur_arr (q := 142) rs rt42 dX12_come_139 w1398 (Nat.le_of_ble_eq_true rfl) rfl rfl ?_
      refine v_aload_n (q := 143) 0 dX12_come_142 rfl rfl rfl ?_
      refine ur_gI (q := 146) (x := 0) (k := 46) rs dX12_come_143 w1402 (Nat.le_of_ble_eq_true rfl) rfl rfl ?_
      refine v_iload_n (q := 147) 1 dX12_come_146 rfl rfl rfl ?_
      replace H := bs H; obtain ⟨m19, m19e, H⟩ := H
      refine ur_wr (q := 148) rs rt42 m19e dX12_come_147 rfl ?_
      refine v_aload_n (q := 149) 0 dX12_come_148 rfl rfl rfl ?_
      refine ur_arr (q := 152) rs rt43 dX12_come_149 w1399 (Nat.le_of_ble_eq_true rfl) rfl rfl ?_
      refine v_aload_n (q := 153) 0 dX12_come_152 rfl rfl rfl ?_
      refine ur_gI (q := 156) (x := 0) (k := 46) rs dX12_come_153 w1402 (Nat.le_of_ble_eq_true rfl) rfl rfl ?_
      refine v_iload_n (q := 157) 2 dX12_come_156 rfl rfl rfl ?_
      replace H := bs H; obtain ⟨m20, m20e, H⟩ := H
      refine ur_wr (q := 158) rs rt43 m20e dX12_come_157 rfl ?_
      refine v_aload_n (q := 159) 0 dX12_come_158 rfl rfl rfl ?_
      refine ur_arr (q := 162) rs rt44 dX12_come_159 w1400 (Nat.le_of_ble_eq_true rfl) rfl rfl ?_
      refine v_aload_n (q := 163) 0 dX12_come_162 rfl rfl rfl ?_
      refine ur_gI (q := 166) (x := 0) (k := 46) rs dX12_come_163 w1402 (Nat.le_of_ble_eq_true rfl) rfl rfl ?_
      refine v_iload_n (q := 167) 3 dX12_come_166 rfl rfl rfl ?_
      replace H := bs H; obtain ⟨m21, m21e, H⟩ := H
      refine ur_wr (q := 168) rs rt44 m21e dX12_come_167 rfl ?_
      refine v_aload_n (q := 169) 0 dX12_come_168 rfl rfl rfl ?_
      refine v_dup (q := 170) dX12_come_169 rfl rfl ?_
      refine ur_gI (q := 173) (x := 0) (k := 46) rs dX12_come_170 w1402 (Nat.le_of_ble_eq_true rfl) rfl rfl ?_
      refine v_iconst (v := 1) (q := 174) dX12_come_173 (by decide) rfl ?_
      refine v_iadd (q := 175) dX12_come_174 rfl ?_
      replace H := bs H; obtain ⟨m22, m22e, H⟩ := H
      refine ur_pI (q := 178) (k := 46) rs m22e dX12_come_175 w1402 (Nat.le_of_ble_eq_true rfl) rfl rfl rfl ?_
      refine v_aload_n (q := 179) 0 dX12_come_178 rfl rfl rfl ?_
      replace H := bs H; obtain ⟨x23, x23e, H⟩ := H
      refine u_callV1 (M' := mX12_layRing) (d' := 5) (rc := (RX12, TX12, 58)) (As := []) (st := []) (q := 182) oX12_layRing dX12_come_179 w1873 w1875 w0113 rfl rfl (RS.rc rs).1 (RS.rc rs).2 rfl (Nat.le_of_ble_eq_true rfl) (Nat.le_of_ble_eq_true rfl) (Nat.lt_of_lt_of_le (by decide) hd) rfl (sgX12_layRing (Nat.le_refl _) rs x23e) rfl ?_
      refine v_if_eq (q1 := 195) (q2 := 185) dX12_come_182 (by decide) rfl (fun c24 => ?_) (fun c24 => ?_)
      · replace H := ip c24 H
        exact V.sub [] rfl (sgjX12_come_195 hd rs H)
      · replace H := ine c24 H
        refine v_aload_n (q := 186) 0 dX12_come_185 rfl rfl rfl ?_
        refine v_aload_n (q := 187) 0 dX12_come_186 rfl rfl rfl ?_
        refine ur_gI (q := 190) (x := 0) (k := 46) rs dX12_come_187 w1402 (Nat.le_of_ble_eq_true rfl) rfl rfl ?_
        refine v_iconst (v := 1) (q := 191) dX12_come_190 (by decide) rfl ?_
        refine v_isub (q := 192) dX12_come_191 rfl ?_
        replace H := bs H; obtain ⟨m25, m25e, H⟩ := H
        refine ur_pI (q := 195) (k := 47) rs m25e dX12_come_192 w1403 (Nat.le_of_ble_eq_true rfl) rfl rfl rfl ?_
        exact V.sub [] rfl (sgjX12_come_195 hd rs H)
    · replace H := ip c17 H
      refine v_iconst (v := 0) (q := 126) dX12_come_125 (by decide) rfl ?_
      cases H
      exact v_zreturn rfl (by decide) dX12_come_126
  · replace H := ine c16 H
    refine v_iconst (v := 1) (q := 114) dX12_come_113 (by decide) rfl ?_
    cases H
    exact v_zreturn rfl (by decide) dX12_come_114
def mX12_unpack : MI := (yX12_unpack, cX12_unpack, 4, none)
theorem oX12_unpack : mOK mX12_unpack 1 := ⟨by decide +kernel, by decide +kernel, by decide +kernel, by decide, w1908, w0150⟩
def gbX12_unpack_6 (u2 : Int32) (s6 : Int32 × Mem) : Option ((Int32 × Mem) ⊕ (Mem)) :=
if (6 : Int32) ≤ s6.1 then (
some (.inr s6.2)) else (
(rd s6.2 27 20005 u2).bind fun x3 =>
(wr s6.2 23 6 s6.1 (((x3 >>> (((4 : Int32) * s6.1) &&& 31)) &&& (15 : Int32)) - (1 : Int32))).bind fun m4 =>
(rd m4 27 20005 (u2 + (1 : Int32))).bind fun x5 =>
(wr m4 24 6 s6.1 (((x5 >>> (((3 : Int32) * s6.1) &&& 31)) &&& (7 : Int32)) - (1 : Int32))).bind fun m6 =>
(some (s6.1 + (1 : Int32))).bind fun x7 =>
some (.inl (x7, m6)))
set_option maxRecDepth 20000 in
set_option maxHeartbeats 4000000 in
theorem sgbX12_unpack_6 {Γ : Gm} {d : Nat} (hd : 1 ≤ d) {T : Nat} {h : Hp} (rs : RS T h) {u2 : Int32} {s6 : Int32 × Mem} {r : (Int32 × Mem) ⊕ (Mem)} {t : Option Value × Hp} (H : gbX12_unpack_6 u2 s6 = some r) (kI : ∀ s, r = .inl s → (fun s6 => V Γ d mX12_unpack 6 [(0, .ref T), (2, .int u2), (3, .int s6.1)] [] (hm T h s6.2) t) s) (kE : ∀ e, r = .inr e → (fun e => V Γ d mX12_unpack 62 [(0, .ref T), (2, .int u2)] [] (hm T h e) t) e) : V Γ d mX12_unpack 6 [(0, .ref T), (2, .int u2), (3, .int s6.1)] [] (hm T h s6.2) t := by
  unfold gbX12_unpack_6 at H
  refine v_iload_n (q := 7) 2 dX12_unpack_6 rfl rfl rfl ?_
  refine v_bipush (v := 6) (q := 9) dX12_unpack_7 (by decide) rfl ?_
  refine v_icmp_ge (q1 := 62) (q2 := 12) dX12_unpack_9 (by decide) rfl (fun c2 => ?_) (fun c2 => ?_)
  · replace H := ip c2 H
    exact V.sub [0, 1] rfl (kE s6.2 (Option.some.inj H).symm)
  · replace H := ine c2 H
    refine v_aload_n (q := 13) 0 dX12_unpack_12 rfl rfl rfl ?_
    refine ur_arr (q := 16) rs rt36 dX12_unpack_13 w1392 (Nat.le_of_ble_eq_true rfl) rfl rfl ?_
    refine v_iload_n (q := 17) 2 dX12_unpack_16 rfl rfl rfl ?_
    refine v_aload_n (q := 18) 0 dX12_unpack_17 rfl rfl rfl ?_
    refine ur_arr (q := 21) rs rt41 dX12_unpack_18 w1397 (Nat.le_of_ble_eq_true rfl) rfl rfl ?_
    refine v_iload_n (q := 22) 1 dX12_unpack_21 rfl rfl rfl ?_
    replace H := bs H; obtain ⟨x3, x3e, H⟩ := H
    refine ur_rd (q := 23) rs rt41 x3e dX12_unpack_22 rfl ?_
    refine v_iconst (v := 4) (q := 24) dX12_unpack_23 (by decide) rfl ?_
    refine v_iload_n (q := 25) 2 dX12_unpack_24 rfl rfl rfl ?_
    refine v_imul (q := 26) dX12_unpack_25 rfl ?_
    refine v_ishr (q := 27) dX12_unpack_26 rfl ?_
    refine v_bipush (v := 15) (q := 29) dX12_unpack_27 (by decide) rfl ?_
    refine v_iand (q := 30) dX12_unpack_29 rfl ?_
    refine v_iconst (v := 1) (q := 31) dX12_unpack_30 (by decide) rfl ?_
    refine v_isub (q := 32) dX12_unpack_31 rfl ?_
    replace H := bs H; obtain ⟨m4, m4e, H⟩ := H
    refine ur_wr (q := 33) rs rt36 m4e dX12_unpack_32 rfl ?_
    refine v_aload_n (q := 34) 0 dX12_unpack_33 rfl rfl rfl ?_
    refine ur_arr (q := 37) rs rt37 dX12_unpack_34 w1393 (Nat.le_of_ble_eq_true rfl) rfl rfl ?_
    refine v_iload_n (q := 38) 2 dX12_unpack_37 rfl rfl rfl ?_
    refine v_aload_n (q := 39) 0 dX12_unpack_38 rfl rfl rfl ?_
    refine ur_arr (q := 42) rs rt41 dX12_unpack_39 w1397 (Nat.le_of_ble_eq_true rfl) rfl rfl ?_
    refine v_iload_n (q := 43) 1 dX12_unpack_42 rfl rfl rfl ?_
    refine v_iconst (v := 1) (q := 44) dX12_unpack_43 (by decide) rfl ?_
    refine v_iadd (q := 45) dX12_unpack_44 rfl ?_
    replace H := bs H; obtain ⟨x5, x5e, H⟩ := H
    refine ur_rd (q := 46) rs rt41 x5e dX12_unpack_45 rfl ?_
    refine v_iconst (v := 3) (q := 47) dX12_unpack_46 (by decide) rfl ?_
    refine v_iload_n (q := 48) 2 dX12_unpack_47 rfl rfl rfl ?_
    refine v_imul (q := 49) dX12_unpack_48 rfl ?_
    refine v_ishr (q := 50) dX12_unpack_49 rfl ?_
    refine v_bipush (v := 7) (q := 52) dX12_unpack_50 (by decide) rfl ?_
    refine v_iand (q := 53) dX12_unpack_52 rfl ?_
    refine v_iconst (v := 1) (q := 54) dX12_unpack_53 (by decide) rfl ?_
    refine v_isub (q := 55) dX12_unpack_54 rfl ?_
    replace H := bs H; obtain ⟨m6, m6e, H⟩ := H
    refine ur_wr (q := 56) rs rt37 m6e dX12_unpack_55 rfl ?_
    replace H := bs H; obtain ⟨x7, x7e, H⟩ := H
    refine v_iinc (v := x7) (L' := [(3, .int x7), (0, .ref T), (2, .int u2)]) (q := 59) 2 dX12_unpack_56 rfl (Option.some.inj x7e) (by decide) rfl rfl ?_
    refine v_goto (q := 6) dX12_unpack_59 (by decide) ?_
    exact V.sub [1, 2, 0] rfl (kI (x7, m6) (Option.some.inj H).symm)
def gjX12_unpack_113 (u2 : Int32) (v3 : Int32) (y0 : Int32) (y1 : Int32) (y3 : Int32) (m : Mem) : Option ((Int32 × Mem) ⊕ (Mem)) :=
(rd m 27 20005 (y1 + y0)).bind fun x13 =>
(wr m 26 10 y3 ((x13 >>> (((6 : Int32) * (v3 - v3 / (5 : Int32) * (5 : Int32))) &&& 31)) &&& (63 : Int32))).bind fun m14 =>
(some (v3 + (1 : Int32))).bind fun x15 =>
some (.inl (x15, m14))
set_option maxRecDepth 20000 in
set_option maxHeartbeats 4000000 in
theorem sgjX12_unpack_113 {Γ : Gm} {d : Nat} (hd : 1 ≤ d) {T : Nat} {h : Hp} (rs : RS T h) {u2 : Int32} {v3 : Int32} {y0 : Int32} {y1 : Int32} {y3 : Int32} {m : Mem} {r : (Int32 × Mem) ⊕ (Mem)} {t : Option Value × Hp} (H : gjX12_unpack_113 u2 v3 y0 y1 y3 m = some r) (kI : ∀ s, r = .inl s → (fun s64 => V Γ d mX12_unpack 64 [(0, .ref T), (2, .int u2), (3, .int s64.1)] [] (hm T h s64.2) t) s) (kE : ∀ e, r = .inr e → (fun e => V Γ d mX12_unpack 132 [] [] (hm T h e) t) e) : V Γ d mX12_unpack 113 [(0, .ref T), (2, .int u2), (3, .int v3)] [.int y0, .int y1, .ref (T + 27), .int y3, .ref (T + 26)] (hm T h m) t := by
  unfold gjX12_unpack_113 at H
  refine v_iadd (q := 114) dX12_unpack_113 rfl ?_
  replace H := bs H; obtain ⟨x13, x13e, H⟩ := H
  refine ur_rd (q := 115) rs rt41 x13e dX12_unpack_114 rfl ?_
  refine v_bipush (v := 6) (q := 117) dX12_unpack_115 (by decide) rfl ?_
  refine v_iload_n (q := 118) 2 dX12_unpack_117 rfl rfl rfl ?_
  refine v_iconst (v := 5) (q := 119) dX12_unpack_118 (by decide) rfl ?_
  refine v_irem (q := 120) dX12_unpack_119 (by decide) rfl ?_
  refine v_imul (q := 121) dX12_unpack_120 rfl ?_
  refine v_ishr (q := 122) dX12_unpack_121 rfl ?_
  refine v_bipush (v := 63) (q := 124) dX12_unpack_122 (by decide) rfl ?_
  refine v_iand (q := 125) dX12_unpack_124 rfl ?_
  replace H := bs H; obtain ⟨m14, m14e, H⟩ := H
  refine ur_wr (q := 126) rs rt39 m14e dX12_unpack_125 rfl ?_
  replace H := bs H; obtain ⟨x15, x15e, H⟩ := H
  refine v_iinc (v := x15) (L' := [(3, .int x15), (0, .ref T), (2, .int u2)]) (q := 129) 2 dX12_unpack_126 rfl (Option.some.inj x15e) (by decide) rfl rfl ?_
  refine v_goto (q := 64) dX12_unpack_129 (by decide) ?_
  exact V.sub [1, 2, 0] rfl (kI (x15, m14) (Option.some.inj H).symm)
def gbX12_unpack_64 (u2 : Int32) (s64 : Int32 × Mem) : Option ((Int32 × Mem) ⊕ (Mem)) :=
if (10 : Int32) ≤ s64.1 then (
some (.inr s64.2)) else (
(rd s64.2 27 20005 (u2 + (2 : Int32))).bind fun x10 =>
(wr s64.2 25 10 s64.1 (((x10 >>> (((3 : Int32) * s64.1) &&& 31)) &&& (7 : Int32)) - (1 : Int32))).bind fun m11 =>
if (5 : Int32) ≤ s64.1 then (
gjX12_unpack_113 u2 s64.1 (4 : Int32) u2 s64.1 m11) else (
gjX12_unpack_113 u2 s64.1 (3 : Int32) u2 s64.1 m11))
set_option maxRecDepth 20000 in
set_option maxHeartbeats 4000000 in
theorem sgbX12_unpack_64 {Γ : Gm} {d : Nat} (hd : 1 ≤ d) {T : Nat} {h : Hp} (rs : RS T h) {u2 : Int32} {s64 : Int32 × Mem} {r : (Int32 × Mem) ⊕ (Mem)} {t : Option Value × Hp} (H : gbX12_unpack_64 u2 s64 = some r) (kI : ∀ s, r = .inl s → (fun s64 => V Γ d mX12_unpack 64 [(0, .ref T), (2, .int u2), (3, .int s64.1)] [] (hm T h s64.2) t) s) (kE : ∀ e, r = .inr e → (fun e => V Γ d mX12_unpack 132 [] [] (hm T h e) t) e) : V Γ d mX12_unpack 64 [(0, .ref T), (2, .int u2), (3, .int s64.1)] [] (hm T h s64.2) t := by
  unfold gbX12_unpack_64 at H
  refine v_iload_n (q := 65) 2 dX12_unpack_64 rfl rfl rfl ?_
  refine v_bipush (v := 10) (q := 67) dX12_unpack_65 (by decide) rfl ?_
  refine v_icmp_ge (q1 := 132) (q2 := 70) dX12_unpack_67 (by decide) rfl (fun c9 => ?_) (fun c9 => ?_)
  · replace H := ip c9 H
    exact V.sub [] rfl (kE s64.2 (Option.some.inj H).symm)
  · replace H := ine c9 H
    refine v_aload_n (q := 71) 0 dX12_unpack_70 rfl rfl rfl ?_
    refine ur_arr (q := 74) rs rt38 dX12_unpack_71 w1394 (Nat.le_of_ble_eq_true rfl) rfl rfl ?_
    refine v_iload_n (q := 75) 2 dX12_unpack_74 rfl rfl rfl ?_
    refine v_aload_n (q := 76) 0 dX12_unpack_75 rfl rfl rfl ?_
    refine ur_arr (q := 79) rs rt41 dX12_unpack_76 w1397 (Nat.le_of_ble_eq_true rfl) rfl rfl ?_
    refine v_iload_n (q := 80) 1 dX12_unpack_79 rfl rfl rfl ?_
    refine v_iconst (v := 2) (q := 81) dX12_unpack_80 (by decide) rfl ?_
    refine v_iadd (q := 82) dX12_unpack_81 rfl ?_
    replace H := bs H; obtain ⟨x10, x10e, H⟩ := H
    refine ur_rd (q := 83) rs rt41 x10e dX12_unpack_82 rfl ?_
    refine v_iconst (v := 3) (q := 84) dX12_unpack_83 (by decide) rfl ?_
    refine v_iload_n (q := 85) 2 dX12_unpack_84 rfl rfl rfl ?_
    refine v_imul (q := 86) dX12_unpack_85 rfl ?_
    refine v_ishr (q := 87) dX12_unpack_86 rfl ?_
    refine v_bipush (v := 7) (q := 89) dX12_unpack_87 (by decide) rfl ?_
    refine v_iand (q := 90) dX12_unpack_89 rfl ?_
    refine v_iconst (v := 1) (q := 91) dX12_unpack_90 (by decide) rfl ?_
    refine v_isub (q := 92) dX12_unpack_91 rfl ?_
    replace H := bs H; obtain ⟨m11, m11e, H⟩ := H
    refine ur_wr (q := 93) rs rt38 m11e dX12_unpack_92 rfl ?_
    refine v_aload_n (q := 94) 0 dX12_unpack_93 rfl rfl rfl ?_
    refine ur_arr (q := 97) rs rt39 dX12_unpack_94 w1395 (Nat.le_of_ble_eq_true rfl) rfl rfl ?_
    refine v_iload_n (q := 98) 2 dX12_unpack_97 rfl rfl rfl ?_
    refine v_aload_n (q := 99) 0 dX12_unpack_98 rfl rfl rfl ?_
    refine ur_arr (q := 102) rs rt41 dX12_unpack_99 w1397 (Nat.le_of_ble_eq_true rfl) rfl rfl ?_
    refine v_iload_n (q := 103) 1 dX12_unpack_102 rfl rfl rfl ?_
    refine v_iload_n (q := 104) 2 dX12_unpack_103 rfl rfl rfl ?_
    refine v_iconst (v := 5) (q := 105) dX12_unpack_104 (by decide) rfl ?_
    refine v_icmp_ge (q1 := 112) (q2 := 108) dX12_unpack_105 (by decide) rfl (fun c12 => ?_) (fun c12 => ?_)
    · replace H := ip c12 H
      refine v_iconst (v := 4) (q := 113) dX12_unpack_112 (by decide) rfl ?_
      exact V.sub [0, 1, 2] rfl (sgjX12_unpack_113 hd rs H kI kE)
    · replace H := ine c12 H
      refine v_iconst (v := 3) (q := 109) dX12_unpack_108 (by decide) rfl ?_
      refine v_goto (q := 113) dX12_unpack_109 (by decide) ?_
      exact V.sub [0, 1, 2] rfl (sgjX12_unpack_113 hd rs H kI kE)
def gX12_unpack (m : Mem) (v1 : Int32) : Option (Mem) :=
(some ((5 : Int32) * v1)).bind fun x1 =>
(lp (gbX12_unpack_6 x1) FU ((0 : Int32), m)).bind fun e8 =>
(lp (gbX12_unpack_64 x1) FU ((0 : Int32), e8)).bind fun e16 =>
some e16
set_option maxRecDepth 20000 in
set_option maxHeartbeats 4000000 in
theorem sgX12_unpack {Γ : Gm} {d : Nat} (hd : 1 ≤ d) {T : Nat} {h : Hp} (rs : RS T h) {m : Mem} {v1 : Int32} {r : Mem} (H : gX12_unpack m v1 = some r) : V Γ d mX12_unpack 0 [(0, .ref T), (1, .int v1)] [] (hm T h m) (none, (hm T h r)) := by
  unfold gX12_unpack at H
  refine v_iconst (v := 5) (q := 1) dX12_unpack_0 (by decide) rfl ?_
  refine v_iload_n (q := 2) 1 dX12_unpack_1 rfl rfl rfl ?_
  refine v_imul (q := 3) dX12_unpack_2 rfl ?_
  replace H := bs H; obtain ⟨x1, x1e, H⟩ := H
  refine v_topi (Option.some.inj x1e) ?_
  refine v_istore_n (L' := [(2, .int x1), (0, .ref T), (1, .int v1)]) (q := 4) dX12_unpack_3 rfl (by decide) rfl rfl ?_
  refine v_iconst (v := 0) (q := 5) dX12_unpack_4 (by decide) rfl ?_
  refine v_istore_n (L' := [(3, .int (0 : Int32)), (2, .int x1), (0, .ref T), (1, .int v1)]) (q := 6) dX12_unpack_5 rfl (by decide) rfl rfl ?_
  replace H := bs H; obtain ⟨e8, e8L, H⟩ := H
  refine V.sub [2, 1, 0] rfl ?_
  refine lp_V (P := (fun s6 => V Γ d mX12_unpack 6 [(0, .ref T), (2, .int x1), (3, .int s6.1)] [] (hm T h s6.2) (none, (hm T h r)))) (E := (fun e => V Γ d mX12_unpack 62 [(0, .ref T), (2, .int x1)] [] (hm T h e) (none, (hm T h r)))) (fun s r hb kI kE => sgbX12_unpack_6 hd rs (s6 := s) (r := r) hb kI kE) FU ((0 : Int32), m) e8 e8L ?_
  refine v_iconst (v := 0) (q := 63) dX12_unpack_62 (by decide) rfl ?_
  refine v_istore_n (L' := [(3, .int (0 : Int32)), (0, .ref T), (2, .int x1)]) (q := 64) dX12_unpack_63 rfl (by decide) rfl rfl ?_
  replace H := bs H; obtain ⟨e16, e16L, H⟩ := H
  refine V.sub [1, 2, 0] rfl ?_
  refine lp_V (P := (fun s64 => V Γ d mX12_unpack 64 [(0, .ref T), (2, .int x1), (3, .int s64.1)] [] (hm T h s64.2) (none, (hm T h r)))) (E := (fun e => V Γ d mX12_unpack 132 [] [] (hm T h e) (none, (hm T h r)))) (fun s r hb kI kE => sgbX12_unpack_64 hd rs (s64 := s) (r := r) hb kI kE) FU ((0 : Int32), e8) e16 e16L ?_
  cases H
  exact v_return rfl dX12_unpack_132
def mX12_doMove : MI := (yX12_doMove, cX12_doMove, 4, none)
theorem oX12_doMove : mOK mX12_doMove 1 := ⟨by decide +kernel, by decide +kernel, by decide +kernel, by decide, w1912, w0150⟩
def gjX12_doMove_125 (v1 : Int32) (m : Mem) : Option (Mem) :=
(rd m 23 6 v1).bind fun x9 =>
(wr m 23 6 v1 (x9 + (1 : Int32))).bind fun m10 =>
some m10
set_option maxRecDepth 20000 in
set_option maxHeartbeats 4000000 in
theorem sgjX12_doMove_125 {Γ : Gm} {d : Nat} (hd : 2 ≤ d) {T : Nat} {h : Hp} (rs : RS T h) {v1 : Int32} {m : Mem} {r : Mem} (H : gjX12_doMove_125 v1 m = some r) : V Γ d mX12_doMove 125 [(0, .ref T), (1, .int v1)] [] (hm T h m) (none, (hm T h r)) := by
  unfold gjX12_doMove_125 at H
  refine v_aload_n (q := 126) 0 dX12_doMove_125 rfl rfl rfl ?_
  refine ur_arr (q := 129) rs rt36 dX12_doMove_126 w1392 (Nat.le_of_ble_eq_true rfl) rfl rfl ?_
  refine v_iload_n (q := 130) 1 dX12_doMove_129 rfl rfl rfl ?_
  refine v_dup2 (q := 131) dX12_doMove_130 rfl rfl rfl ?_
  replace H := bs H; obtain ⟨x9, x9e, H⟩ := H
  refine ur_rd (q := 132) rs rt36 x9e dX12_doMove_131 rfl ?_
  refine v_iconst (v := 1) (q := 133) dX12_doMove_132 (by decide) rfl ?_
  refine v_iadd (q := 134) dX12_doMove_133 rfl ?_
  replace H := bs H; obtain ⟨m10, m10e, H⟩ := H
  refine ur_wr (q := 135) rs rt36 m10e dX12_doMove_134 rfl ?_
  cases H
  exact v_return rfl dX12_doMove_135
def gjX12_doMove_110 (v1 : Int32) (v3 : Int32) (y0 : Int32) (y1 : Int32) (m : Mem) : Option (Mem) :=
(wr m 25 10 y1 y0).bind fun m14 =>
(rd m14 26 10 v3).bind fun x15 =>
(wr m14 26 10 v3 (x15 &&& (((1 : Int32) <<< (v1 &&& 31)) ^^^ (-1 : Int32)))).bind fun m16 =>
gjX12_doMove_125 v1 m16
set_option maxRecDepth 20000 in
set_option maxHeartbeats 4000000 in
theorem sgjX12_doMove_110 {Γ : Gm} {d : Nat} (hd : 2 ≤ d) {T : Nat} {h : Hp} (rs : RS T h) {v1 : Int32} {v3 : Int32} {y0 : Int32} {y1 : Int32} {m : Mem} {r : Mem} (H : gjX12_doMove_110 v1 v3 y0 y1 m = some r) : V Γ d mX12_doMove 110 [(0, .ref T), (1, .int v1), (3, .int v3)] [.int y0, .int y1, .ref (T + 25)] (hm T h m) (none, (hm T h r)) := by
  unfold gjX12_doMove_110 at H
  replace H := bs H; obtain ⟨m14, m14e, H⟩ := H
  refine ur_wr (q := 111) rs rt38 m14e dX12_doMove_110 rfl ?_
  refine v_aload_n (q := 112) 0 dX12_doMove_111 rfl rfl rfl ?_
  refine ur_arr (q := 115) rs rt39 dX12_doMove_112 w1395 (Nat.le_of_ble_eq_true rfl) rfl rfl ?_
  refine v_iload_n (q := 116) 2 dX12_doMove_115 rfl rfl rfl ?_
  refine v_dup2 (q := 117) dX12_doMove_116 rfl rfl rfl ?_
  replace H := bs H; obtain ⟨x15, x15e, H⟩ := H
  refine ur_rd (q := 118) rs rt39 x15e dX12_doMove_117 rfl ?_
  refine v_iconst (v := 1) (q := 119) dX12_doMove_118 (by decide) rfl ?_
  refine v_iload_n (q := 120) 1 dX12_doMove_119 rfl rfl rfl ?_
  refine v_ishl (q := 121) dX12_doMove_120 rfl ?_
  refine v_iconst (v := -1) (q := 122) dX12_doMove_121 (by decide) rfl ?_
  refine v_ixor (q := 123) dX12_doMove_122 rfl ?_
  refine v_iand (q := 124) dX12_doMove_123 rfl ?_
  replace H := bs H; obtain ⟨m16, m16e, H⟩ := H
  refine ur_wr (q := 125) rs rt39 m16e dX12_doMove_124 rfl ?_
  exact V.sub [0, 1] rfl (sgjX12_doMove_125 hd rs H)
def gjX12_doMove_80 (v1 : Int32) (v2 : Int32) (v3 : Int32) (m : Mem) : Option (Mem) :=
if v2 = (4 : Int32) then (
(rd m 25 10 v3).bind fun x11 =>
if x11 = v1 then (
gjX12_doMove_110 v1 v3 (-1 : Int32) v3 m) else (
(rd m 25 10 v3).bind fun x13 =>
gjX12_doMove_110 v1 v3 x13 v3 m)) else (
gjX12_doMove_125 v1 m)
set_option maxRecDepth 20000 in
set_option maxHeartbeats 4000000 in
theorem sgjX12_doMove_80 {Γ : Gm} {d : Nat} (hd : 2 ≤ d) {T : Nat} {h : Hp} (rs : RS T h) {v1 : Int32} {v2 : Int32} {v3 : Int32} {m : Mem} {r : Mem} (H : gjX12_doMove_80 v1 v2 v3 m = some r) : V Γ d mX12_doMove 80 [(0, .ref T), (1, .int v1), (2, .int v2), (3, .int v3)] [] (hm T h m) (none, (hm T h r)) := by
  unfold gjX12_doMove_80 at H
  refine v_iload_n (q := 81) 2 dX12_doMove_80 rfl rfl rfl ?_
  refine v_iconst (v := 4) (q := 82) dX12_doMove_81 (by decide) rfl ?_
  refine v_icmp_ne (q1 := 125) (q2 := 85) dX12_doMove_82 (by decide) rfl (fun c8 => ?_) (fun c8 => ?_)
  · replace H := ine c8 H
    exact V.sub [0, 1] rfl (sgjX12_doMove_125 hd rs H)
  · replace H := ip c8 H
    refine v_aload_n (q := 86) 0 dX12_doMove_85 rfl rfl rfl ?_
    refine ur_arr (q := 89) rs rt38 dX12_doMove_86 w1394 (Nat.le_of_ble_eq_true rfl) rfl rfl ?_
    refine v_iload_n (q := 90) 3 dX12_doMove_89 rfl rfl rfl ?_
    refine v_aload_n (q := 91) 0 dX12_doMove_90 rfl rfl rfl ?_
    refine ur_arr (q := 94) rs rt38 dX12_doMove_91 w1394 (Nat.le_of_ble_eq_true rfl) rfl rfl ?_
    refine v_iload_n (q := 95) 3 dX12_doMove_94 rfl rfl rfl ?_
    replace H := bs H; obtain ⟨x11, x11e, H⟩ := H
    refine ur_rd (q := 96) rs rt38 x11e dX12_doMove_95 rfl ?_
    refine v_iload_n (q := 97) 1 dX12_doMove_96 rfl rfl rfl ?_
    refine v_icmp_ne (q1 := 104) (q2 := 100) dX12_doMove_97 (by decide) rfl (fun c12 => ?_) (fun c12 => ?_)
    · replace H := ine c12 H
      refine v_aload_n (q := 105) 0 dX12_doMove_104 rfl rfl rfl ?_
      refine ur_arr (q := 108) rs rt38 dX12_doMove_105 w1394 (Nat.le_of_ble_eq_true rfl) rfl rfl ?_
      refine v_iload_n (q := 109) 3 dX12_doMove_108 rfl rfl rfl ?_
      replace H := bs H; obtain ⟨x13, x13e, H⟩ := H
      refine ur_rd (q := 110) rs rt38 x13e dX12_doMove_109 rfl ?_
      exact V.sub [0, 1, 3] rfl (sgjX12_doMove_110 hd rs H)
    · replace H := ip c12 H
      refine v_iconst (v := -1) (q := 101) dX12_doMove_100 (by decide) rfl ?_
      refine v_goto (q := 110) dX12_doMove_101 (by decide) ?_
      exact V.sub [0, 1, 3] rfl (sgjX12_doMove_110 hd rs H)
def gjX12_doMove_63 (v1 : Int32) (v2 : Int32) (v3 : Int32) (m : Mem) : Option (Mem) :=
if v2 = (2 : Int32) then (
(rd m 26 10 v3).bind fun x17 =>
(wr m 26 10 v3 (x17 ||| ((1 : Int32) <<< (v1 &&& 31)))).bind fun m18 =>
gjX12_doMove_80 v1 v2 v3 m18) else (
gjX12_doMove_80 v1 v2 v3 m)
set_option maxRecDepth 20000 in
set_option maxHeartbeats 4000000 in
theorem sgjX12_doMove_63 {Γ : Gm} {d : Nat} (hd : 2 ≤ d) {T : Nat} {h : Hp} (rs : RS T h) {v1 : Int32} {v2 : Int32} {v3 : Int32} {m : Mem} {r : Mem} (H : gjX12_doMove_63 v1 v2 v3 m = some r) : V Γ d mX12_doMove 63 [(0, .ref T), (1, .int v1), (2, .int v2), (3, .int v3)] [] (hm T h m) (none, (hm T h r)) := by
  unfold gjX12_doMove_63 at H
  refine v_iload_n (q := 64) 2 dX12_doMove_63 rfl rfl rfl ?_
  refine v_iconst (v := 2) (q := 65) dX12_doMove_64 (by decide) rfl ?_
  refine v_icmp_ne (q1 := 80) (q2 := 68) dX12_doMove_65 (by decide) rfl (fun c7 => ?_) (fun c7 => ?_)
  · replace H := ine c7 H
    exact V.sub [0, 1, 2, 3] rfl (sgjX12_doMove_80 hd rs H)
  · replace H := ip c7 H
    refine v_aload_n (q := 69) 0 dX12_doMove_68 rfl rfl rfl ?_
    refine ur_arr (q := 72) rs rt39 dX12_doMove_69 w1395 (Nat.le_of_ble_eq_true rfl) rfl rfl ?_
    refine v_iload_n (q := 73) 3 dX12_doMove_72 rfl rfl rfl ?_
    refine v_dup2 (q := 74) dX12_doMove_73 rfl rfl rfl ?_
    replace H := bs H; obtain ⟨x17, x17e, H⟩ := H
    refine ur_rd (q := 75) rs rt39 x17e dX12_doMove_74 rfl ?_
    refine v_iconst (v := 1) (q := 76) dX12_doMove_75 (by decide) rfl ?_
    refine v_iload_n (q := 77) 1 dX12_doMove_76 rfl rfl rfl ?_
    refine v_ishl (q := 78) dX12_doMove_77 rfl ?_
    refine v_ior (q := 79) dX12_doMove_78 rfl ?_
    replace H := bs H; obtain ⟨m18, m18e, H⟩ := H
    refine ur_wr (q := 80) rs rt39 m18e dX12_doMove_79 rfl ?_
    exact V.sub [0, 1, 2, 3] rfl (sgjX12_doMove_80 hd rs H)
def gjX12_doMove_56 (v1 : Int32) (v2 : Int32) (v3 : Int32) (m : Mem) : Option (Mem) :=
(wr m 25 10 v3 v1).bind fun m6 =>
gjX12_doMove_63 v1 v2 v3 m6
set_option maxRecDepth 20000 in
set_option maxHeartbeats 4000000 in
theorem sgjX12_doMove_56 {Γ : Gm} {d : Nat} (hd : 2 ≤ d) {T : Nat} {h : Hp} (rs : RS T h) {v1 : Int32} {v2 : Int32} {v3 : Int32} {m : Mem} {r : Mem} (H : gjX12_doMove_56 v1 v2 v3 m = some r) : V Γ d mX12_doMove 56 [(0, .ref T), (1, .int v1), (2, .int v2), (3, .int v3)] [] (hm T h m) (none, (hm T h r)) := by
  unfold gjX12_doMove_56 at H
  refine v_aload_n (q := 57) 0 dX12_doMove_56 rfl rfl rfl ?_
  refine ur_arr (q := 60) rs rt38 dX12_doMove_57 w1394 (Nat.le_of_ble_eq_true rfl) rfl rfl ?_
  refine v_iload_n (q := 61) 3 dX12_doMove_60 rfl rfl rfl ?_
  refine v_iload_n (q := 62) 1 dX12_doMove_61 rfl rfl rfl ?_
  replace H := bs H; obtain ⟨m6, m6e, H⟩ := H
  refine ur_wr (q := 63) rs rt38 m6e dX12_doMove_62 rfl ?_
  exact V.sub [0, 1, 2, 3] rfl (sgjX12_doMove_63 hd rs H)
def gX12_doMove (m : Mem) (v1 : Int32) : Option (Mem) :=
(rd m 23 6 v1).bind fun x1 =>
(gX12_opOf m v1 x1).bind fun x2 =>
(rd m 23 6 v1).bind fun x3 =>
(gX12_lockOf m v1 x3).bind fun x4 =>
if x2 = 0 then (
gjX12_doMove_56 v1 x2 x4 m) else (
if x2 = (1 : Int32) then (
gjX12_doMove_56 v1 x2 x4 m) else (
if x2 = (3 : Int32) then (
(rd m 25 10 x4).bind fun x21 =>
if 0 ≤ x21 then (
gjX12_doMove_63 v1 x2 x4 m) else (
(rd m 26 10 x4).bind fun x23 =>
if x23 = 0 then (
gjX12_doMove_56 v1 x2 x4 m) else (
gjX12_doMove_63 v1 x2 x4 m))) else (
gjX12_doMove_63 v1 x2 x4 m)))
set_option maxRecDepth 20000 in
set_option maxHeartbeats 4000000 in
theorem sgX12_doMove {Γ : Gm} {d : Nat} (hd : 2 ≤ d) {T : Nat} {h : Hp} (rs : RS T h) {m : Mem} {v1 : Int32} {r : Mem} (H : gX12_doMove m v1 = some r) : V Γ d mX12_doMove 0 [(0, .ref T), (1, .int v1)] [] (hm T h m) (none, (hm T h r)) := by
  unfold gX12_doMove at H
  refine v_aload_n (q := 1) 0 dX12_doMove_0 rfl rfl rfl ?_
  refine v_iload_n (q := 2) 1 dX12_doMove_1 rfl rfl rfl ?_
  refine v_aload_n (q := 3) 0 dX12_doMove_2 rfl rfl rfl ?_
  refine ur_arr (q := 6) rs rt36 dX12_doMove_3 w1392 (Nat.le_of_ble_eq_true rfl) rfl rfl ?_
  refine v_iload_n (q := 7) 1 dX12_doMove_6 rfl rfl rfl ?_
  replace H := bs H; obtain ⟨x1, x1e, H⟩ := H
  refine ur_rd (q := 8) rs rt36 x1e dX12_doMove_7 rfl ?_
  replace H := bs H; obtain ⟨x2, x2e, H⟩ := H
  refine u_callV1 (M' := mX12_opOf) (d' := 1) (rc := (RX12, TX12, 58)) (As := [.int v1, .int x1]) (st := []) (q := 11) oX12_opOf dX12_doMove_8 w1646 w1648 w0075 rfl rfl (RS.rc rs).1 (RS.rc rs).2 rfl (Nat.le_of_ble_eq_true rfl) (Nat.le_of_ble_eq_true rfl) (Nat.lt_of_lt_of_le (by decide) hd) rfl (sgX12_opOf (Nat.le_refl _) rs x2e) rfl ?_
  refine v_istore_n (L' := [(2, .int x2), (0, .ref T), (1, .int v1)]) (q := 12) dX12_doMove_11 rfl (by decide) rfl rfl ?_
  refine v_aload_n (q := 13) 1 dX12_doMove_12 rfl rfl rfl ?_
  refine v_iload_n (q := 14) 2 dX12_doMove_13 rfl rfl rfl ?_
  refine v_aload_n (q := 15) 1 dX12_doMove_14 rfl rfl rfl ?_
  refine ur_arr (q := 18) rs rt36 dX12_doMove_15 w1392 (Nat.le_of_ble_eq_true rfl) rfl rfl ?_
  refine v_iload_n (q := 19) 2 dX12_doMove_18 rfl rfl rfl ?_
  replace H := bs H; obtain ⟨x3, x3e, H⟩ := H
  refine ur_rd (q := 20) rs rt36 x3e dX12_doMove_19 rfl ?_
  replace H := bs H; obtain ⟨x4, x4e, H⟩ := H
  refine u_callV1 (M' := mX12_lockOf) (d' := 1) (rc := (RX12, TX12, 58)) (As := [.int v1, .int x3]) (st := []) (q := 23) oX12_lockOf dX12_doMove_20 w1654 w1656 w0077 rfl rfl (RS.rc rs).1 (RS.rc rs).2 rfl (Nat.le_of_ble_eq_true rfl) (Nat.le_of_ble_eq_true rfl) (Nat.lt_of_lt_of_le (by decide) hd) rfl (sgX12_lockOf (Nat.le_refl _) rs x4e) rfl ?_
  refine v_istore_n (L' := [(3, .int x4), (2, .int x2), (0, .ref T), (1, .int v1)]) (q := 24) dX12_doMove_23 rfl (by decide) rfl rfl ?_
  refine v_iload_n (q := 25) 1 dX12_doMove_24 rfl rfl rfl ?_
  refine v_if_eq (q1 := 56) (q2 := 28) dX12_doMove_25 (by decide) rfl (fun c5 => ?_) (fun c5 => ?_)
  · replace H := ip c5 H
    exact V.sub [2, 3, 1, 0] rfl (sgjX12_doMove_56 hd rs H)
  · replace H := ine c5 H
    refine v_iload_n (q := 29) 1 dX12_doMove_28 rfl rfl rfl ?_
    refine v_iconst (v := 1) (q := 30) dX12_doMove_29 (by decide) rfl ?_
    refine v_icmp_eq (q1 := 56) (q2 := 33) dX12_doMove_30 (by decide) rfl (fun c19 => ?_) (fun c19 => ?_)
    · replace H := ip c19 H
      exact V.sub [2, 3, 1, 0] rfl (sgjX12_doMove_56 hd rs H)
    · replace H := ine c19 H
      refine v_iload_n (q := 34) 1 dX12_doMove_33 rfl rfl rfl ?_
      refine v_iconst (v := 3) (q := 35) dX12_doMove_34 (by decide) rfl ?_
      refine v_icmp_ne (q1 := 63) (q2 := 38) dX12_doMove_35 (by decide) rfl (fun c20 => ?_) (fun c20 => ?_)
      · replace H := ine c20 H
        exact V.sub [2, 3, 1, 0] rfl (sgjX12_doMove_63 hd rs H)
      · replace H := ip c20 H
        refine v_aload_n (q := 39) 2 dX12_doMove_38 rfl rfl rfl ?_
        refine ur_arr (q := 42) rs rt38 dX12_doMove_39 w1394 (Nat.le_of_ble_eq_true rfl) rfl rfl ?_
        refine v_iload_n (q := 43) 0 dX12_doMove_42 rfl rfl rfl ?_
        replace H := bs H; obtain ⟨x21, x21e, H⟩ := H
        refine ur_rd (q := 44) rs rt38 x21e dX12_doMove_43 rfl ?_
        refine v_if_ge (q1 := 63) (q2 := 47) dX12_doMove_44 (by decide) rfl (fun c22 => ?_) (fun c22 => ?_)
        · replace H := ip c22 H
          exact V.sub [2, 3, 1, 0] rfl (sgjX12_doMove_63 hd rs H)
        · replace H := ine c22 H
          refine v_aload_n (q := 48) 2 dX12_doMove_47 rfl rfl rfl ?_
          refine ur_arr (q := 51) rs rt39 dX12_doMove_48 w1395 (Nat.le_of_ble_eq_true rfl) rfl rfl ?_
          refine v_iload_n (q := 52) 0 dX12_doMove_51 rfl rfl rfl ?_
          replace H := bs H; obtain ⟨x23, x23e, H⟩ := H
          refine ur_rd (q := 53) rs rt39 x23e dX12_doMove_52 rfl ?_
          refine v_if_ne (q1 := 63) (q2 := 56) dX12_doMove_53 (by decide) rfl (fun c24 => ?_) (fun c24 => ?_)
          · replace H := ine c24 H
            exact V.sub [2, 3, 1, 0] rfl (sgjX12_doMove_63 hd rs H)
          · replace H := ip c24 H
            exact V.sub [2, 3, 1, 0] rfl (sgjX12_doMove_56 hd rs H)
def mX12_goFrom : MI := (yX12_goFrom, cX12_goFrom, 6, some .boolean)
theorem oX12_goFrom : mOK mX12_goFrom 1 := ⟨by decide +kernel, by decide +kernel, by decide +kernel, by decide, w1904, w0150⟩
def gjX12_goFrom_140 (u1 : Int32) (v2 : Int32) (u3 : Int32) (u4 : Int32) (v5 : Int32) (m : Mem) : Option ((Int32 × Int32 × Mem) ⊕ (Int32 × Mem)) :=
(some (v5 + (1 : Int32))).bind fun x18 =>
some (.inl (v2, x18, m))
set_option maxRecDepth 20000 in
set_option maxHeartbeats 4000000 in
theorem sgjX12_goFrom_140 {Γ : Gm} {d : Nat} (hd : 7 ≤ d) {T : Nat} {h : Hp} (rs : RS T h) {u1 : Int32} {v2 : Int32} {u3 : Int32} {u4 : Int32} {v5 : Int32} {m : Mem} {r : (Int32 × Int32 × Mem) ⊕ (Int32 × Mem)} {t : Option Value × Hp} (H : gjX12_goFrom_140 u1 v2 u3 u4 v5 m = some r) (kI : ∀ s, r = .inl s → (fun s78 => V Γ d mX12_goFrom 78 [(0, .ref T), (1, .int u1), (2, .int s78.1), (3, .int u3), (4, .int u4), (5, .int s78.2.1)] [] (hm T h s78.2.2) t) s) (kE : ∀ e, r = .inr e → (fun e => V Γ d mX12_goFrom 146 [(0, .ref T), (1, .int u1), (2, .int e.1), (3, .int u3)] [] (hm T h e.2) t) e) : V Γ d mX12_goFrom 140 [(0, .ref T), (1, .int u1), (2, .int v2), (3, .int u3), (4, .int u4), (5, .int v5)] [] (hm T h m) t := by
  unfold gjX12_goFrom_140 at H
  replace H := bs H; obtain ⟨x18, x18e, H⟩ := H
  refine v_iinc (v := x18) (L' := [(5, .int x18), (0, .ref T), (1, .int u1), (2, .int v2), (3, .int u3), (4, .int u4)]) (q := 143) 5 dX12_goFrom_140 rfl (Option.some.inj x18e) (by decide) rfl rfl ?_
  refine v_goto (q := 78) dX12_goFrom_143 (by decide) ?_
  exact V.sub [1, 2, 3, 4, 5, 0] rfl (kI (v2, x18, m) (Option.some.inj H).symm)
def gbX12_goFrom_78 (u1 : Int32) (u3 : Int32) (u4 : Int32) (s78 : Int32 × Int32 × Mem) : Option ((Int32 × Int32 × Mem) ⊕ (Int32 × Mem)) :=
if (6 : Int32) ≤ s78.2.1 then (
some (.inr (s78.1, s78.2.2))) else (
if s78.1 = 0 then (
some (.inr (s78.1, s78.2.2))) else (
if 0 ≤ (s78.2.2 0 47) then (
some (.inr (s78.1, s78.2.2))) else (
(gX12_unpack s78.2.2 u1).bind fun x12 =>
(gX12_canCome x12 s78.2.1 u4).bind fun x13 =>
if x13 = 0 then (
gjX12_goFrom_140 u1 s78.1 u3 u4 s78.2.1 x12) else (
(wr x12 23 6 s78.2.1 (0 : Int32)).bind fun m15 =>
(wr m15 24 6 s78.2.1 u3).bind fun m16 =>
(gX12_come m16 u1 u3 s78.2.1).bind fun x17 =>
gjX12_goFrom_140 u1 x17.1 u3 u4 s78.2.1 x17.2))))
set_option maxRecDepth 20000 in
set_option maxHeartbeats 4000000 in
theorem sgbX12_goFrom_78 {Γ : Gm} {d : Nat} (hd : 7 ≤ d) {T : Nat} {h : Hp} (rs : RS T h) {u1 : Int32} {u3 : Int32} {u4 : Int32} {s78 : Int32 × Int32 × Mem} {r : (Int32 × Int32 × Mem) ⊕ (Int32 × Mem)} {t : Option Value × Hp} (H : gbX12_goFrom_78 u1 u3 u4 s78 = some r) (kI : ∀ s, r = .inl s → (fun s78 => V Γ d mX12_goFrom 78 [(0, .ref T), (1, .int u1), (2, .int s78.1), (3, .int u3), (4, .int u4), (5, .int s78.2.1)] [] (hm T h s78.2.2) t) s) (kE : ∀ e, r = .inr e → (fun e => V Γ d mX12_goFrom 146 [(0, .ref T), (1, .int u1), (2, .int e.1), (3, .int u3)] [] (hm T h e.2) t) e) : V Γ d mX12_goFrom 78 [(0, .ref T), (1, .int u1), (2, .int s78.1), (3, .int u3), (4, .int u4), (5, .int s78.2.1)] [] (hm T h s78.2.2) t := by
  unfold gbX12_goFrom_78 at H
  refine v_iload (q := 80) 5 dX12_goFrom_78 rfl rfl ?_
  refine v_bipush (v := 6) (q := 82) dX12_goFrom_80 (by decide) rfl ?_
  refine v_icmp_ge (q1 := 146) (q2 := 85) dX12_goFrom_82 (by decide) rfl (fun c9 => ?_) (fun c9 => ?_)
  · replace H := ip c9 H
    exact V.sub [0, 1, 2, 3] rfl (kE (s78.1, s78.2.2) (Option.some.inj H).symm)
  · replace H := ine c9 H
    refine v_iload_n (q := 86) 2 dX12_goFrom_85 rfl rfl rfl ?_
    refine v_if_eq (q1 := 146) (q2 := 89) dX12_goFrom_86 (by decide) rfl (fun c10 => ?_) (fun c10 => ?_)
    · replace H := ip c10 H
      exact V.sub [0, 1, 2, 3] rfl (kE (s78.1, s78.2.2) (Option.some.inj H).symm)
    · replace H := ine c10 H
      refine v_aload_n (q := 90) 0 dX12_goFrom_89 rfl rfl rfl ?_
      refine ur_gI (q := 93) (x := 0) (k := 47) rs dX12_goFrom_90 w1403 (Nat.le_of_ble_eq_true rfl) rfl rfl ?_
      refine v_if_ge (q1 := 146) (q2 := 96) dX12_goFrom_93 (by decide) rfl (fun c11 => ?_) (fun c11 => ?_)
      · replace H := ip c11 H
        exact V.sub [0, 1, 2, 3] rfl (kE (s78.1, s78.2.2) (Option.some.inj H).symm)
      · replace H := ine c11 H
        refine v_aload_n (q := 97) 0 dX12_goFrom_96 rfl rfl rfl ?_
        refine v_iload_n (q := 98) 1 dX12_goFrom_97 rfl rfl rfl ?_
        replace H := bs H; obtain ⟨x12, x12e, H⟩ := H
        refine u_callV0 (M' := mX12_unpack) (d' := 1) (rc := (RX12, TX12, 58)) (As := [.int u1]) (st := []) (q := 101) oX12_unpack dX12_goFrom_98 w1905 w1907 w0121 rfl rfl (RS.rc rs).1 (RS.rc rs).2 rfl (Nat.le_of_ble_eq_true rfl) (Nat.le_of_ble_eq_true rfl) (Nat.lt_of_lt_of_le (by decide) hd) rfl (sgX12_unpack (Nat.le_refl _) rs x12e) rfl ?_
        refine v_aload_n (q := 102) 0 dX12_goFrom_101 rfl rfl rfl ?_
        refine v_iload (q := 104) 5 dX12_goFrom_102 rfl rfl ?_
        refine v_iload (q := 106) 4 dX12_goFrom_104 rfl rfl ?_
        replace H := bs H; obtain ⟨x13, x13e, H⟩ := H
        refine u_callV1 (M' := mX12_canCome) (d' := 4) (rc := (RX12, TX12, 58)) (As := [.int s78.2.1, .int u4]) (st := []) (q := 109) oX12_canCome dX12_goFrom_106 w1913 w1915 w0123 rfl rfl (RS.rc rs).1 (RS.rc rs).2 rfl (Nat.le_of_ble_eq_true rfl) (Nat.le_of_ble_eq_true rfl) (Nat.lt_of_lt_of_le (by decide) hd) rfl (sgX12_canCome (Nat.le_refl _) rs x13e) rfl ?_
        refine v_if_ne (q1 := 115) (q2 := 112) dX12_goFrom_109 (by decide) rfl (fun c14 => ?_) (fun c14 => ?_)
        · replace H := ine c14 H
          refine v_aload_n (q := 116) 0 dX12_goFrom_115 rfl rfl rfl ?_
          refine ur_arr (q := 119) rs rt36 dX12_goFrom_116 w1392 (Nat.le_of_ble_eq_true rfl) rfl rfl ?_
          refine v_iload (q := 121) 5 dX12_goFrom_119 rfl rfl ?_
          refine v_iconst (v := 0) (q := 122) dX12_goFrom_121 (by decide) rfl ?_
          replace H := bs H; obtain ⟨m15, m15e, H⟩ := H
          refine ur_wr (q := 123) rs rt36 m15e dX12_goFrom_122 rfl ?_
          refine v_aload_n (q := 124) 0 dX12_goFrom_123 rfl rfl rfl ?_
          refine ur_arr (q := 127) rs rt37 dX12_goFrom_124 w1393 (Nat.le_of_ble_eq_true rfl) rfl rfl ?_
          refine v_iload (q := 129) 5 dX12_goFrom_127 rfl rfl ?_
          refine v_iload_n (q := 130) 3 dX12_goFrom_129 rfl rfl rfl ?_
          replace H := bs H; obtain ⟨m16, m16e, H⟩ := H
          refine ur_wr (q := 131) rs rt37 m16e dX12_goFrom_130 rfl ?_
          refine v_aload_n (q := 132) 0 dX12_goFrom_131 rfl rfl rfl ?_
          refine v_iload_n (q := 133) 1 dX12_goFrom_132 rfl rfl rfl ?_
          refine v_iload_n (q := 134) 3 dX12_goFrom_133 rfl rfl rfl ?_
          refine v_iload (q := 136) 5 dX12_goFrom_134 rfl rfl ?_
          replace H := bs H; obtain ⟨x17, x17e, H⟩ := H
          refine u_callV1 (M' := mX12_come) (d' := 6) (rc := (RX12, TX12, 58)) (As := [.int u1, .int u3, .int s78.2.1]) (st := []) (q := 139) oX12_come dX12_goFrom_136 w1861 w1863 w0110 rfl rfl (RS.rc rs).1 (RS.rc rs).2 rfl (Nat.le_of_ble_eq_true rfl) (Nat.le_of_ble_eq_true rfl) (Nat.lt_of_lt_of_le (by decide) hd) rfl (sgX12_come (Nat.le_refl _) rs x17e) rfl ?_
          refine v_istore_n (L' := [(2, .int x17.1), (0, .ref T), (1, .int u1), (3, .int u3), (4, .int u4), (5, .int s78.2.1)]) (q := 140) dX12_goFrom_139 rfl (by decide) rfl rfl ?_
          exact V.sub [1, 2, 0, 3, 4, 5] rfl (sgjX12_goFrom_140 hd rs H kI kE)
        · replace H := ip c14 H
          refine v_goto (q := 140) dX12_goFrom_112 (by decide) ?_
          exact V.sub [0, 1, 2, 3, 4, 5] rfl (sgjX12_goFrom_140 hd rs H kI kE)
def gjX12_goFrom_146 (u1 : Int32) (v2 : Int32) (v3 : Int32) (m : Mem) : Option ((Int32 × Int32 × Mem) ⊕ (Int32 × Mem)) :=
(some (v3 + (1 : Int32))).bind fun x20 =>
some (.inl (v2, x20, m))
set_option maxRecDepth 20000 in
set_option maxHeartbeats 4000000 in
theorem sgjX12_goFrom_146 {Γ : Gm} {d : Nat} (hd : 7 ≤ d) {T : Nat} {h : Hp} (rs : RS T h) {u1 : Int32} {v2 : Int32} {v3 : Int32} {m : Mem} {r : (Int32 × Int32 × Mem) ⊕ (Int32 × Mem)} {t : Option Value × Hp} (H : gjX12_goFrom_146 u1 v2 v3 m = some r) (kI : ∀ s, r = .inl s → (fun s4 => V Γ d mX12_goFrom 4 [(0, .ref T), (1, .int u1), (2, .int s4.1), (3, .int s4.2.1)] [] (hm T h s4.2.2) t) s) (kE : ∀ e, r = .inr e → (fun e => V Γ d mX12_goFrom 152 [(2, .int e.1)] [] (hm T h e.2) t) e) : V Γ d mX12_goFrom 146 [(0, .ref T), (1, .int u1), (2, .int v2), (3, .int v3)] [] (hm T h m) t := by
  unfold gjX12_goFrom_146 at H
  replace H := bs H; obtain ⟨x20, x20e, H⟩ := H
  refine v_iinc (v := x20) (L' := [(3, .int x20), (0, .ref T), (1, .int u1), (2, .int v2)]) (q := 149) 3 dX12_goFrom_146 rfl (Option.some.inj x20e) (by decide) rfl rfl ?_
  refine v_goto (q := 4) dX12_goFrom_149 (by decide) ?_
  exact V.sub [1, 2, 3, 0] rfl (kI (v2, x20, m) (Option.some.inj H).symm)
def gjX12_goFrom_75 (u1 : Int32) (v2 : Int32) (v3 : Int32) (v4 : Int32) (m : Mem) : Option ((Int32 × Int32 × Mem) ⊕ (Int32 × Mem)) :=
(lp (gbX12_goFrom_78 u1 v3 v4) FU (v2, (0 : Int32), m)).bind fun e19 =>
gjX12_goFrom_146 u1 e19.1 v3 e19.2
set_option maxRecDepth 20000 in
set_option maxHeartbeats 4000000 in
theorem sgjX12_goFrom_75 {Γ : Gm} {d : Nat} (hd : 7 ≤ d) {T : Nat} {h : Hp} (rs : RS T h) {u1 : Int32} {v2 : Int32} {v3 : Int32} {v4 : Int32} {m : Mem} {r : (Int32 × Int32 × Mem) ⊕ (Int32 × Mem)} {t : Option Value × Hp} (H : gjX12_goFrom_75 u1 v2 v3 v4 m = some r) (kI : ∀ s, r = .inl s → (fun s4 => V Γ d mX12_goFrom 4 [(0, .ref T), (1, .int u1), (2, .int s4.1), (3, .int s4.2.1)] [] (hm T h s4.2.2) t) s) (kE : ∀ e, r = .inr e → (fun e => V Γ d mX12_goFrom 152 [(2, .int e.1)] [] (hm T h e.2) t) e) : V Γ d mX12_goFrom 75 [(0, .ref T), (1, .int u1), (2, .int v2), (3, .int v3), (4, .int v4)] [] (hm T h m) t := by
  unfold gjX12_goFrom_75 at H
  refine v_iconst (v := 0) (q := 76) dX12_goFrom_75 (by decide) rfl ?_
  refine v_istore (L' := [(5, .int (0 : Int32)), (0, .ref T), (1, .int u1), (2, .int v2), (3, .int v3), (4, .int v4)]) (q := 78) dX12_goFrom_76 (by decide) rfl rfl ?_
  replace H := bs H; obtain ⟨e19, e19L, H⟩ := H
  refine V.sub [1, 2, 3, 4, 5, 0] rfl ?_
  refine lp_V (P := (fun s78 => V Γ d mX12_goFrom 78 [(0, .ref T), (1, .int u1), (2, .int s78.1), (3, .int v3), (4, .int v4), (5, .int s78.2.1)] [] (hm T h s78.2.2) t)) (E := (fun e => V Γ d mX12_goFrom 146 [(0, .ref T), (1, .int u1), (2, .int e.1), (3, .int v3)] [] (hm T h e.2) t)) (fun s r hb kI kE => sgbX12_goFrom_78 hd rs (s78 := s) (r := r) hb kI kE) FU (v2, (0 : Int32), m) e19 e19L ?_
  exact V.sub [0, 1, 2, 3] rfl (sgjX12_goFrom_146 hd rs H kI kE)
def gbX12_goFrom_4 (u1 : Int32) (s4 : Int32 × Int32 × Mem) : Option ((Int32 × Int32 × Mem) ⊕ (Int32 × Mem)) :=
if (6 : Int32) ≤ s4.2.1 then (
some (.inr (s4.1, s4.2.2))) else (
(gX12_isTask s4.2.2 s4.2.1).bind fun x2 =>
if x2 = 0 then (
gjX12_goFrom_146 u1 s4.1 s4.2.1 s4.2.2) else (
(gX12_unpack s4.2.2 u1).bind fun x4 =>
(gX12_goesOn x4 s4.2.1).bind fun x5 =>
if 0 ≤ x5 then (
(gX12_isWaiting x4 x5).bind fun x7 =>
if x7 = 0 then (
if s4.1 = 0 then (
gjX12_goFrom_75 u1 s4.1 s4.2.1 x5 x4) else (
if 0 ≤ (x4 0 47) then (
gjX12_goFrom_75 u1 s4.1 s4.2.1 x5 x4) else (
(gX12_doMove x4 x5).bind fun x23 =>
(gX12_come x23 u1 s4.2.1 (-1 : Int32)).bind fun x24 =>
gjX12_goFrom_75 u1 x24.1 s4.2.1 x5 x24.2))) else (
gjX12_goFrom_75 u1 s4.1 s4.2.1 x5 x4)) else (
gjX12_goFrom_146 u1 s4.1 s4.2.1 x4)))
set_option maxRecDepth 20000 in
set_option maxHeartbeats 4000000 in
theorem sgbX12_goFrom_4 {Γ : Gm} {d : Nat} (hd : 7 ≤ d) {T : Nat} {h : Hp} (rs : RS T h) {u1 : Int32} {s4 : Int32 × Int32 × Mem} {r : (Int32 × Int32 × Mem) ⊕ (Int32 × Mem)} {t : Option Value × Hp} (H : gbX12_goFrom_4 u1 s4 = some r) (kI : ∀ s, r = .inl s → (fun s4 => V Γ d mX12_goFrom 4 [(0, .ref T), (1, .int u1), (2, .int s4.1), (3, .int s4.2.1)] [] (hm T h s4.2.2) t) s) (kE : ∀ e, r = .inr e → (fun e => V Γ d mX12_goFrom 152 [(2, .int e.1)] [] (hm T h e.2) t) e) : V Γ d mX12_goFrom 4 [(0, .ref T), (1, .int u1), (2, .int s4.1), (3, .int s4.2.1)] [] (hm T h s4.2.2) t := by
  unfold gbX12_goFrom_4 at H
  refine v_iload_n (q := 5) 3 dX12_goFrom_4 rfl rfl rfl ?_
  refine v_bipush (v := 6) (q := 7) dX12_goFrom_5 (by decide) rfl ?_
  refine v_icmp_ge (q1 := 152) (q2 := 10) dX12_goFrom_7 (by decide) rfl (fun c1 => ?_) (fun c1 => ?_)
  · replace H := ip c1 H
    exact V.sub [2] rfl (kE (s4.1, s4.2.2) (Option.some.inj H).symm)
  · replace H := ine c1 H
    refine v_aload_n (q := 11) 0 dX12_goFrom_10 rfl rfl rfl ?_
    refine v_iload_n (q := 12) 3 dX12_goFrom_11 rfl rfl rfl ?_
    replace H := bs H; obtain ⟨x2, x2e, H⟩ := H
    refine u_callV1 (M' := mX12_isTask) (d' := 3) (rc := (RX12, TX12, 58)) (As := [.int s4.2.1]) (st := []) (q := 15) oX12_isTask dX12_goFrom_12 w1881 w1883 w0115 rfl rfl (RS.rc rs).1 (RS.rc rs).2 rfl (Nat.le_of_ble_eq_true rfl) (Nat.le_of_ble_eq_true rfl) (Nat.lt_of_lt_of_le (by decide) hd) rfl (sgX12_isTask (Nat.le_refl _) rs x2e) rfl ?_
    refine v_if_ne (q1 := 21) (q2 := 18) dX12_goFrom_15 (by decide) rfl (fun c3 => ?_) (fun c3 => ?_)
    · replace H := ine c3 H
      refine v_aload_n (q := 22) 0 dX12_goFrom_21 rfl rfl rfl ?_
      refine v_iload_n (q := 23) 1 dX12_goFrom_22 rfl rfl rfl ?_
      replace H := bs H; obtain ⟨x4, x4e, H⟩ := H
      refine u_callV0 (M' := mX12_unpack) (d' := 1) (rc := (RX12, TX12, 58)) (As := [.int u1]) (st := []) (q := 26) oX12_unpack dX12_goFrom_23 w1905 w1907 w0121 rfl rfl (RS.rc rs).1 (RS.rc rs).2 rfl (Nat.le_of_ble_eq_true rfl) (Nat.le_of_ble_eq_true rfl) (Nat.lt_of_lt_of_le (by decide) hd) rfl (sgX12_unpack (Nat.le_refl _) rs x4e) rfl ?_
      refine v_aload_n (q := 27) 0 dX12_goFrom_26 rfl rfl rfl ?_
      refine v_iload_n (q := 28) 3 dX12_goFrom_27 rfl rfl rfl ?_
      replace H := bs H; obtain ⟨x5, x5e, H⟩ := H
      refine u_callV1 (M' := mX12_goesOn) (d' := 3) (rc := (RX12, TX12, 58)) (As := [.int s4.2.1]) (st := []) (q := 31) oX12_goesOn dX12_goFrom_28 w1885 w1887 w0116 rfl rfl (RS.rc rs).1 (RS.rc rs).2 rfl (Nat.le_of_ble_eq_true rfl) (Nat.le_of_ble_eq_true rfl) (Nat.lt_of_lt_of_le (by decide) hd) rfl (sgX12_goesOn (Nat.le_refl _) rs x5e) rfl ?_
      refine v_istore (L' := [(4, .int x5), (0, .ref T), (1, .int u1), (2, .int s4.1), (3, .int s4.2.1)]) (q := 33) dX12_goFrom_31 (by decide) rfl rfl ?_
      refine v_iload (q := 35) 0 dX12_goFrom_33 rfl rfl ?_
      refine v_if_ge (q1 := 41) (q2 := 38) dX12_goFrom_35 (by decide) rfl (fun c6 => ?_) (fun c6 => ?_)
      · replace H := ip c6 H
        refine v_aload_n (q := 42) 1 dX12_goFrom_41 rfl rfl rfl ?_
        refine v_iload (q := 44) 0 dX12_goFrom_42 rfl rfl ?_
        replace H := bs H; obtain ⟨x7, x7e, H⟩ := H
        refine u_callV1 (M' := mX12_isWaiting) (d' := 2) (rc := (RX12, TX12, 58)) (As := [.int x5]) (st := []) (q := 47) oX12_isWaiting dX12_goFrom_44 w1893 w1895 w0118 rfl rfl (RS.rc rs).1 (RS.rc rs).2 rfl (Nat.le_of_ble_eq_true rfl) (Nat.le_of_ble_eq_true rfl) (Nat.lt_of_lt_of_le (by decide) hd) rfl (sgX12_isWaiting (Nat.le_refl _) rs x7e) rfl ?_
        refine v_if_ne (q1 := 75) (q2 := 50) dX12_goFrom_47 (by decide) rfl (fun c8 => ?_) (fun c8 => ?_)
        · replace H := ine c8 H
          exact V.sub [1, 2, 3, 4, 0] rfl (sgjX12_goFrom_75 hd rs H kI kE)
        · replace H := ip c8 H
          refine v_iload_n (q := 51) 3 dX12_goFrom_50 rfl rfl rfl ?_
          refine v_if_eq (q1 := 75) (q2 := 54) dX12_goFrom_51 (by decide) rfl (fun c21 => ?_) (fun c21 => ?_)
          · replace H := ip c21 H
            exact V.sub [1, 2, 3, 4, 0] rfl (sgjX12_goFrom_75 hd rs H kI kE)
          · replace H := ine c21 H
            refine v_aload_n (q := 55) 1 dX12_goFrom_54 rfl rfl rfl ?_
            refine ur_gI (q := 58) (x := 0) (k := 47) rs dX12_goFrom_55 w1403 (Nat.le_of_ble_eq_true rfl) rfl rfl ?_
            refine v_if_ge (q1 := 75) (q2 := 61) dX12_goFrom_58 (by decide) rfl (fun c22 => ?_) (fun c22 => ?_)
            · replace H := ip c22 H
              exact V.sub [1, 2, 3, 4, 0] rfl (sgjX12_goFrom_75 hd rs H kI kE)
            · replace H := ine c22 H
              refine v_aload_n (q := 62) 1 dX12_goFrom_61 rfl rfl rfl ?_
              refine v_iload (q := 64) 0 dX12_goFrom_62 rfl rfl ?_
              replace H := bs H; obtain ⟨x23, x23e, H⟩ := H
              refine u_callV0 (M' := mX12_doMove) (d' := 2) (rc := (RX12, TX12, 58)) (As := [.int x5]) (st := []) (q := 67) oX12_doMove dX12_goFrom_64 w1909 w1911 w0122 rfl rfl (RS.rc rs).1 (RS.rc rs).2 rfl (Nat.le_of_ble_eq_true rfl) (Nat.le_of_ble_eq_true rfl) (Nat.lt_of_lt_of_le (by decide) hd) rfl (sgX12_doMove (Nat.le_refl _) rs x23e) rfl ?_
              refine v_aload_n (q := 68) 1 dX12_goFrom_67 rfl rfl rfl ?_
              refine v_iload_n (q := 69) 2 dX12_goFrom_68 rfl rfl rfl ?_
              refine v_iload_n (q := 70) 4 dX12_goFrom_69 rfl rfl rfl ?_
              refine v_iconst (v := -1) (q := 71) dX12_goFrom_70 (by decide) rfl ?_
              replace H := bs H; obtain ⟨x24, x24e, H⟩ := H
              refine u_callV1 (M' := mX12_come) (d' := 6) (rc := (RX12, TX12, 58)) (As := [.int u1, .int s4.2.1, .int (-1 : Int32)]) (st := []) (q := 74) oX12_come dX12_goFrom_71 w1861 w1863 w0110 rfl rfl (RS.rc rs).1 (RS.rc rs).2 rfl (Nat.le_of_ble_eq_true rfl) (Nat.le_of_ble_eq_true rfl) (Nat.lt_of_lt_of_le (by decide) hd) rfl (sgX12_come (Nat.le_refl _) rs x24e) rfl ?_
              refine v_istore_n (L' := [(2, .int x24.1), (4, .int x5), (0, .ref T), (1, .int u1), (3, .int s4.2.1)]) (q := 75) dX12_goFrom_74 rfl (by decide) rfl rfl ?_
              exact V.sub [2, 3, 0, 4, 1] rfl (sgjX12_goFrom_75 hd rs H kI kE)
      · replace H := ine c6 H
        refine v_goto (q := 146) dX12_goFrom_38 (by decide) ?_
        exact V.sub [1, 2, 3, 4] rfl (sgjX12_goFrom_146 hd rs H kI kE)
    · replace H := ip c3 H
      refine v_goto (q := 146) dX12_goFrom_18 (by decide) ?_
      exact V.sub [0, 1, 2, 3] rfl (sgjX12_goFrom_146 hd rs H kI kE)
def gX12_goFrom (m : Mem) (v1 : Int32) : Option (Int32 × Mem) :=
(lp (gbX12_goFrom_4 v1) FU ((1 : Int32), (0 : Int32), m)).bind fun e25 =>
(bz e25.1).bind fun x26 =>
some (x26, e25.2)
set_option maxRecDepth 20000 in
set_option maxHeartbeats 4000000 in
theorem sgX12_goFrom {Γ : Gm} {d : Nat} (hd : 7 ≤ d) {T : Nat} {h : Hp} (rs : RS T h) {m : Mem} {v1 : Int32} {r : Int32 × Mem} (H : gX12_goFrom m v1 = some r) : V Γ d mX12_goFrom 0 [(0, .ref T), (1, .int v1)] [] (hm T h m) (some (.int r.1), (hm T h r.2)) := by
  unfold gX12_goFrom at H
  refine v_iconst (v := 1) (q := 1) dX12_goFrom_0 (by decide) rfl ?_
  refine v_istore_n (L' := [(2, .int (1 : Int32)), (0, .ref T), (1, .int v1)]) (q := 2) dX12_goFrom_1 rfl (by decide) rfl rfl ?_
  refine v_iconst (v := 0) (q := 3) dX12_goFrom_2 (by decide) rfl ?_
  refine v_istore_n (L' := [(3, .int (0 : Int32)), (2, .int (1 : Int32)), (0, .ref T), (1, .int v1)]) (q := 4) dX12_goFrom_3 rfl (by decide) rfl rfl ?_
  replace H := bs H; obtain ⟨e25, e25L, H⟩ := H
  refine V.sub [2, 3, 1, 0] rfl ?_
  refine lp_V (P := (fun s4 => V Γ d mX12_goFrom 4 [(0, .ref T), (1, .int v1), (2, .int s4.1), (3, .int s4.2.1)] [] (hm T h s4.2.2) (some (.int r.1), (hm T h r.2)))) (E := (fun e => V Γ d mX12_goFrom 152 [(2, .int e.1)] [] (hm T h e.2) (some (.int r.1), (hm T h r.2)))) (fun s r hb kI kE => sgbX12_goFrom_4 hd rs (s4 := s) (r := r) hb kI kE) FU ((1 : Int32), (0 : Int32), m) e25 e25L ?_
  refine v_iload_n (q := 153) 0 dX12_goFrom_152 rfl rfl rfl ?_
  replace H := bs H; obtain ⟨x26, x26e, H⟩ := H
  obtain ⟨x26q, x26z⟩ := bz_sp x26e
  refine v_topi x26q.symm ?_
  cases H
  exact v_zreturn rfl (by rw [x26q]; exact x26z) dX12_goFrom_153
def mX12_search : MI := (yX12_search, cX12_search, 4, some .boolean)
theorem oX12_search : mOK mX12_search 1 := ⟨by decide +kernel, by decide +kernel, by decide +kernel, by decide, w1852, w0150⟩
def gbX12_search_15  (s15 : Int32 × Int32 × Mem) : Option ((Int32 × Int32 × Mem) ⊕ (Int32 × Mem)) :=
if (s15.2.2 0 46) ≤ s15.2.1 then (
some (.inr (s15.1, s15.2.2))) else (
if s15.1 = 0 then (
some (.inr (s15.1, s15.2.2))) else (
if 0 ≤ (s15.2.2 0 47) then (
some (.inr (s15.1, s15.2.2))) else (
(gX12_goFrom s15.2.2 s15.2.1).bind fun x6 =>
(some (s15.2.1 + (1 : Int32))).bind fun x7 =>
some (.inl (x6.1, x7, x6.2)))))
set_option maxRecDepth 20000 in
set_option maxHeartbeats 4000000 in
theorem sgbX12_search_15 {Γ : Gm} {d : Nat} (hd : 8 ≤ d) {T : Nat} {h : Hp} (rs : RS T h)  {s15 : Int32 × Int32 × Mem} {r : (Int32 × Int32 × Mem) ⊕ (Int32 × Mem)} {t : Option Value × Hp} (H : gbX12_search_15  s15 = some r) (kI : ∀ s, r = .inl s → (fun s15 => V Γ d mX12_search 15 [(0, .ref T), (2, .int s15.1), (3, .int s15.2.1)] [] (hm T h s15.2.2) t) s) (kE : ∀ e, r = .inr e → (fun e => V Γ d mX12_search 46 [(2, .int e.1)] [] (hm T h e.2) t) e) : V Γ d mX12_search 15 [(0, .ref T), (2, .int s15.1), (3, .int s15.2.1)] [] (hm T h s15.2.2) t := by
  unfold gbX12_search_15 at H
  refine v_iload_n (q := 16) 2 dX12_search_15 rfl rfl rfl ?_
  refine v_aload_n (q := 17) 0 dX12_search_16 rfl rfl rfl ?_
  refine ur_gI (q := 20) (x := 0) (k := 46) rs dX12_search_17 w1402 (Nat.le_of_ble_eq_true rfl) rfl rfl ?_
  refine v_icmp_ge (q1 := 46) (q2 := 23) dX12_search_20 (by decide) rfl (fun c3 => ?_) (fun c3 => ?_)
  · replace H := ip c3 H
    exact V.sub [1] rfl (kE (s15.1, s15.2.2) (Option.some.inj H).symm)
  · replace H := ine c3 H
    refine v_iload_n (q := 24) 1 dX12_search_23 rfl rfl rfl ?_
    refine v_if_eq (q1 := 46) (q2 := 27) dX12_search_24 (by decide) rfl (fun c4 => ?_) (fun c4 => ?_)
    · replace H := ip c4 H
      exact V.sub [1] rfl (kE (s15.1, s15.2.2) (Option.some.inj H).symm)
    · replace H := ine c4 H
      refine v_aload_n (q := 28) 0 dX12_search_27 rfl rfl rfl ?_
      refine ur_gI (q := 31) (x := 0) (k := 47) rs dX12_search_28 w1403 (Nat.le_of_ble_eq_true rfl) rfl rfl ?_
      refine v_if_ge (q1 := 46) (q2 := 34) dX12_search_31 (by decide) rfl (fun c5 => ?_) (fun c5 => ?_)
      · replace H := ip c5 H
        exact V.sub [1] rfl (kE (s15.1, s15.2.2) (Option.some.inj H).symm)
      · replace H := ine c5 H
        refine v_aload_n (q := 35) 0 dX12_search_34 rfl rfl rfl ?_
        refine v_iload_n (q := 36) 2 dX12_search_35 rfl rfl rfl ?_
        replace H := bs H; obtain ⟨x6, x6e, H⟩ := H
        refine u_callV1 (M' := mX12_goFrom) (d' := 7) (rc := (RX12, TX12, 58)) (As := [.int s15.2.1]) (st := []) (q := 39) oX12_goFrom dX12_search_36 w1901 w1903 w0120 rfl rfl (RS.rc rs).1 (RS.rc rs).2 rfl (Nat.le_of_ble_eq_true rfl) (Nat.le_of_ble_eq_true rfl) (Nat.lt_of_lt_of_le (by decide) hd) rfl (sgX12_goFrom (Nat.le_refl _) rs x6e) rfl ?_
        refine v_istore_n (L' := [(2, .int x6.1), (0, .ref T), (3, .int s15.2.1)]) (q := 40) dX12_search_39 rfl (by decide) rfl rfl ?_
        replace H := bs H; obtain ⟨x7, x7e, H⟩ := H
        refine v_iinc (v := x7) (L' := [(3, .int x7), (2, .int x6.1), (0, .ref T)]) (q := 43) 2 dX12_search_40 rfl (Option.some.inj x7e) (by decide) rfl rfl ?_
        refine v_goto (q := 15) dX12_search_43 (by decide) ?_
        exact V.sub [2, 1, 0] rfl (kI (x6.1, x7, x6.2) (Option.some.inj H).symm)
def gX12_search (m : Mem) (v1 : Int32) : Option (Int32 × Mem) :=
(gX12_beginMoments m v1).bind fun x1 =>
(gX12_come x1 (-1 : Int32) (-1 : Int32) (-1 : Int32)).bind fun x2 =>
(lp (gbX12_search_15) FU (x2.1, (0 : Int32), x2.2)).bind fun e8 =>
(bz e8.1).bind fun x9 =>
some (x9, e8.2)
set_option maxRecDepth 20000 in
set_option maxHeartbeats 4000000 in
theorem sgX12_search {Γ : Gm} {d : Nat} (hd : 8 ≤ d) {T : Nat} {h : Hp} (rs : RS T h) {m : Mem} {v1 : Int32} {r : Int32 × Mem} (H : gX12_search m v1 = some r) : V Γ d mX12_search 0 [(0, .ref T), (1, .int v1)] [] (hm T h m) (some (.int r.1), (hm T h r.2)) := by
  unfold gX12_search at H
  refine v_aload_n (q := 1) 0 dX12_search_0 rfl rfl rfl ?_
  refine v_iload_n (q := 2) 1 dX12_search_1 rfl rfl rfl ?_
  replace H := bs H; obtain ⟨x1, x1e, H⟩ := H
  refine u_callV0 (M' := mX12_beginMoments) (d' := 3) (rc := (RX12, TX12, 58)) (As := [.int v1]) (st := []) (q := 5) oX12_beginMoments dX12_search_2 w1853 w1855 w0108 rfl rfl (RS.rc rs).1 (RS.rc rs).2 rfl (Nat.le_of_ble_eq_true rfl) (Nat.le_of_ble_eq_true rfl) (Nat.lt_of_lt_of_le (by decide) hd) rfl (sgX12_beginMoments (Nat.le_refl _) rs x1e) rfl ?_
  refine v_aload_n (q := 6) 0 dX12_search_5 rfl rfl rfl ?_
  refine v_iconst (v := -1) (q := 7) dX12_search_6 (by decide) rfl ?_
  refine v_iconst (v := -1) (q := 8) dX12_search_7 (by decide) rfl ?_
  refine v_iconst (v := -1) (q := 9) dX12_search_8 (by decide) rfl ?_
  replace H := bs H; obtain ⟨x2, x2e, H⟩ := H
  refine u_callV1 (M' := mX12_come) (d' := 6) (rc := (RX12, TX12, 58)) (As := [.int (-1 : Int32), .int (-1 : Int32), .int (-1 : Int32)]) (st := []) (q := 12) oX12_come dX12_search_9 w1861 w1863 w0110 rfl rfl (RS.rc rs).1 (RS.rc rs).2 rfl (Nat.le_of_ble_eq_true rfl) (Nat.le_of_ble_eq_true rfl) (Nat.lt_of_lt_of_le (by decide) hd) rfl (sgX12_come (Nat.le_refl _) rs x2e) rfl ?_
  refine v_istore_n (L' := [(2, .int x2.1), (0, .ref T), (1, .int v1)]) (q := 13) dX12_search_12 rfl (by decide) rfl rfl ?_
  refine v_iconst (v := 0) (q := 14) dX12_search_13 (by decide) rfl ?_
  refine v_istore_n (L' := [(3, .int (0 : Int32)), (2, .int x2.1), (0, .ref T), (1, .int v1)]) (q := 15) dX12_search_14 rfl (by decide) rfl rfl ?_
  replace H := bs H; obtain ⟨e8, e8L, H⟩ := H
  refine V.sub [2, 1, 0] rfl ?_
  refine lp_V (P := (fun s15 => V Γ d mX12_search 15 [(0, .ref T), (2, .int s15.1), (3, .int s15.2.1)] [] (hm T h s15.2.2) (some (.int r.1), (hm T h r.2)))) (E := (fun e => V Γ d mX12_search 46 [(2, .int e.1)] [] (hm T h e.2) (some (.int r.1), (hm T h r.2)))) (fun s r hb kI kE => sgbX12_search_15 hd rs (s15 := s) (r := r) hb kI kE) FU (x2.1, (0 : Int32), x2.2) e8 e8L ?_
  refine v_iload_n (q := 47) 0 dX12_search_46 rfl rfl rfl ?_
  replace H := bs H; obtain ⟨x9, x9e, H⟩ := H
  obtain ⟨x9q, x9z⟩ := bz_sp x9e
  refine v_topi x9q.symm ?_
  cases H
  exact v_zreturn rfl (by rw [x9q]; exact x9z) dX12_search_47

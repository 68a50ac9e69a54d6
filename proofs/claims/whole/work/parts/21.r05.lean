def mX12_isSame : MI := (yX12_isSame, cX12_isSame, 4, some .boolean)
theorem oX12_isSame : mOK mX12_isSame 2 := ⟨by decide +kernel, by decide +kernel, by decide +kernel, by decide, w1569, w0150⟩
def gbX12_isSame_19 (u1 : Int32) (u2 : Int32) (m : Mem) (s19 : Int32) : Option ((Int32) ⊕ ((Unit) ⊕ (Unit))) :=
if (u2 - u1) ≤ s19 then (
some (.inr (.inl ()))) else (
(rd m 11 71 (u1 + s19)).bind fun x3 =>
(rd m 10 900 ((m 0 14) + s19)).bind fun x4 =>
if x3 = x4 then (
(some (s19 + (1 : Int32))).bind fun x6 =>
some (.inl x6)) else (
some (.inr (.inr ()))))
set_option maxRecDepth 20000 in
set_option maxHeartbeats 4000000 in
theorem sgbX12_isSame_19 {Γ : Gm} {d : Nat} (hd : 1 ≤ d) {T : Nat} {h : Hp} (rs : RS T h) {u1 : Int32} {u2 : Int32} {m : Mem} {s19 : Int32} {r : (Int32) ⊕ ((Unit) ⊕ (Unit))} {t : Option Value × Hp} (H : gbX12_isSame_19 u1 u2 m s19 = some r) (kI : ∀ s, r = .inl s → (fun s19 => V Γ d mX12_isSame 19 [(0, .ref T), (1, .int u1), (2, .int u2), (3, .int s19)] [] (hm T h m) t) s) (kE : ∀ e, r = .inr e → (fun e => (match e with | .inl a0 => V Γ d mX12_isSame 56 [] [] (hm T h m) t | .inr b0 => V Γ d mX12_isSame 48 [] [] (hm T h m) t)) e) : V Γ d mX12_isSame 19 [(0, .ref T), (1, .int u1), (2, .int u2), (3, .int s19)] [] (hm T h m) t := by
  unfold gbX12_isSame_19 at H
  refine v_iload_n (q := 20) 3 dX12_isSame_19 rfl rfl rfl ?_
  refine v_iload_n (q := 21) 2 dX12_isSame_20 rfl rfl rfl ?_
  refine v_iload_n (q := 22) 1 dX12_isSame_21 rfl rfl rfl ?_
  refine v_isub (q := 23) dX12_isSame_22 rfl ?_
  refine v_icmp_ge (q1 := 56) (q2 := 26) dX12_isSame_23 (by decide) rfl (fun c2 => ?_) (fun c2 => ?_)
  · replace H := ip c2 H
    exact V.sub [] rfl (kE (.inl ()) (Option.some.inj H).symm)
  · replace H := ine c2 H
    refine v_aload_n (q := 27) 0 dX12_isSame_26 rfl rfl rfl ?_
    refine ur_arr (q := 30) rs rt21 dX12_isSame_27 w1377 (Nat.le_of_ble_eq_true rfl) rfl rfl ?_
    refine v_iload_n (q := 31) 1 dX12_isSame_30 rfl rfl rfl ?_
    refine v_iload_n (q := 32) 3 dX12_isSame_31 rfl rfl rfl ?_
    refine v_iadd (q := 33) dX12_isSame_32 rfl ?_
    replace H := bs H; obtain ⟨x3, x3e, H⟩ := H
    refine ur_rdB (q := 34) rs rt21 x3e dX12_isSame_33 rfl ?_
    refine v_aload_n (q := 35) 0 dX12_isSame_34 rfl rfl rfl ?_
    refine ur_arr (q := 38) rs rt10 dX12_isSame_35 w1366 (Nat.le_of_ble_eq_true rfl) rfl rfl ?_
    refine v_aload_n (q := 39) 0 dX12_isSame_38 rfl rfl rfl ?_
    refine ur_gI (q := 42) (x := 0) (k := 14) rs dX12_isSame_39 w1370 (Nat.le_of_ble_eq_true rfl) rfl rfl ?_
    refine v_iload_n (q := 43) 3 dX12_isSame_42 rfl rfl rfl ?_
    refine v_iadd (q := 44) dX12_isSame_43 rfl ?_
    replace H := bs H; obtain ⟨x4, x4e, H⟩ := H
    refine ur_rdB (q := 45) rs rt10 x4e dX12_isSame_44 rfl ?_
    refine v_icmp_eq (q1 := 50) (q2 := 48) dX12_isSame_45 (by decide) rfl (fun c5 => ?_) (fun c5 => ?_)
    · replace H := ip c5 H
      replace H := bs H; obtain ⟨x6, x6e, H⟩ := H
      refine v_iinc (v := x6) (L' := [(3, .int x6), (0, .ref T), (1, .int u1), (2, .int u2)]) (q := 53) 3 dX12_isSame_50 rfl (Option.some.inj x6e) (by decide) rfl rfl ?_
      refine v_goto (q := 19) dX12_isSame_53 (by decide) ?_
      exact V.sub [1, 2, 3, 0] rfl (kI x6 (Option.some.inj H).symm)
    · replace H := ine c5 H
      exact V.sub [] rfl (kE (.inr ()) (Option.some.inj H).symm)
def gX12_isSame (m : Mem) (v1 : Int32) (v2 : Int32) : Option (Int32) :=
if (v2 - v1) = ((m 0 13) - (m 0 14)) then (
(lp (gbX12_isSame_19 v1 v2 m) FU (0 : Int32)).bind fun e7 =>
(match e7 with
| .inl e8 => (
some (1 : Int32))
| .inr e9 => (
some (0 : Int32)))) else (
some (0 : Int32))
set_option maxRecDepth 20000 in
set_option maxHeartbeats 4000000 in
theorem sgX12_isSame {Γ : Gm} {d : Nat} (hd : 1 ≤ d) {T : Nat} {h : Hp} (rs : RS T h) {m : Mem} {v1 : Int32} {v2 : Int32} {r : Int32} (H : gX12_isSame m v1 v2 = some r) : V Γ d mX12_isSame 0 [(0, .ref T), (1, .int v1), (2, .int v2)] [] (hm T h m) (some (.int r), (hm T h m)) := by
  unfold gX12_isSame at H
  refine v_iload_n (q := 1) 2 dX12_isSame_0 rfl rfl rfl ?_
  refine v_iload_n (q := 2) 1 dX12_isSame_1 rfl rfl rfl ?_
  refine v_isub (q := 3) dX12_isSame_2 rfl ?_
  refine v_aload_n (q := 4) 0 dX12_isSame_3 rfl rfl rfl ?_
  refine ur_gI (q := 7) (x := 0) (k := 13) rs dX12_isSame_4 w1369 (Nat.le_of_ble_eq_true rfl) rfl rfl ?_
  refine v_aload_n (q := 8) 0 dX12_isSame_7 rfl rfl rfl ?_
  refine ur_gI (q := 11) (x := 0) (k := 14) rs dX12_isSame_8 w1370 (Nat.le_of_ble_eq_true rfl) rfl rfl ?_
  refine v_isub (q := 12) dX12_isSame_11 rfl ?_
  refine v_icmp_eq (q1 := 17) (q2 := 15) dX12_isSame_12 (by decide) rfl (fun c1 => ?_) (fun c1 => ?_)
  · replace H := ip c1 H
    refine v_iconst (v := 0) (q := 18) dX12_isSame_17 (by decide) rfl ?_
    refine v_istore_n (L' := [(3, .int (0 : Int32)), (0, .ref T), (1, .int v1), (2, .int v2)]) (q := 19) dX12_isSame_18 rfl (by decide) rfl rfl ?_
    replace H := bs H; obtain ⟨e7, e7L, H⟩ := H
    refine V.sub [1, 2, 3, 0] rfl ?_
    refine lp_V (P := (fun s19 => V Γ d mX12_isSame 19 [(0, .ref T), (1, .int v1), (2, .int v2), (3, .int s19)] [] (hm T h m) (some (.int r), (hm T h m)))) (E := (fun e => (match e with | .inl a0 => V Γ d mX12_isSame 56 [] [] (hm T h m) (some (.int r), (hm T h m)) | .inr b0 => V Γ d mX12_isSame 48 [] [] (hm T h m) (some (.int r), (hm T h m))))) (fun s r hb kI kE => sgbX12_isSame_19 hd rs (s19 := s) (r := r) hb kI kE) FU (0 : Int32) e7 e7L ?_
    rcases e7 with e8 | e9
    · skip
      refine v_iconst (v := 1) (q := 57) dX12_isSame_56 (by decide) rfl ?_
      cases H
      exact v_zreturn rfl (by decide) dX12_isSame_57
    · skip
      refine v_iconst (v := 0) (q := 49) dX12_isSame_48 (by decide) rfl ?_
      cases H
      exact v_zreturn rfl (by decide) dX12_isSame_49
  · replace H := ine c1 H
    refine v_iconst (v := 0) (q := 16) dX12_isSame_15 (by decide) rfl ?_
    cases H
    exact v_zreturn rfl (by decide) dX12_isSame_16
def mX12_isStop : MI := (yX12_isStop, cX12_isStop, 1, some .boolean)
theorem oX12_isStop : mOK mX12_isStop 0 := ⟨by decide +kernel, by decide +kernel, by decide +kernel, by decide, w1613, w0150⟩
def gjX12_isStop_20 (y0 : Int32) (m : Mem) : Option (Int32) :=
(bz y0).bind fun x2 =>
some x2
set_option maxRecDepth 20000 in
set_option maxHeartbeats 4000000 in
theorem sgjX12_isStop_20 {Γ : Gm} {d : Nat} (hd : 1 ≤ d) {T : Nat} {h : Hp} (rs : RS T h) {y0 : Int32} {m : Mem} {r : Int32} (H : gjX12_isStop_20 y0 m = some r) : V Γ d mX12_isStop 20 [] [.int y0] (hm T h m) (some (.int r), (hm T h m)) := by
  unfold gjX12_isStop_20 at H
  replace H := bs H; obtain ⟨x2, x2e, H⟩ := H
  obtain ⟨x2q, x2z⟩ := bz_sp x2e
  refine v_topi x2q.symm ?_
  cases H
  exact v_zreturn rfl (by rw [x2q]; exact x2z) dX12_isStop_20
def gjX12_isStop_19 (m : Mem) : Option (Int32) :=
gjX12_isStop_20 (0 : Int32) m
set_option maxRecDepth 20000 in
set_option maxHeartbeats 4000000 in
theorem sgjX12_isStop_19 {Γ : Gm} {d : Nat} (hd : 1 ≤ d) {T : Nat} {h : Hp} (rs : RS T h) {m : Mem} {r : Int32} (H : gjX12_isStop_19 m = some r) : V Γ d mX12_isStop 19 [] [] (hm T h m) (some (.int r), (hm T h m)) := by
  unfold gjX12_isStop_19 at H
  refine v_iconst (v := 0) (q := 20) dX12_isStop_19 (by decide) rfl ?_
  exact V.sub [] rfl (sgjX12_isStop_20 hd rs H)
def gX12_isStop (m : Mem)  : Option (Int32) :=
if (m 0 17) = 0 then (
if (m 0 15) = (3 : Int32) then (
gjX12_isStop_20 (1 : Int32) m) else (
gjX12_isStop_19 m)) else (
gjX12_isStop_19 m)
set_option maxRecDepth 20000 in
set_option maxHeartbeats 4000000 in
theorem sgX12_isStop {Γ : Gm} {d : Nat} (hd : 1 ≤ d) {T : Nat} {h : Hp} (rs : RS T h) {m : Mem}  {r : Int32} (H : gX12_isStop m  = some r) : V Γ d mX12_isStop 0 [(0, .ref T)] [] (hm T h m) (some (.int r), (hm T h m)) := by
  unfold gX12_isStop at H
  refine v_aload_n (q := 1) 0 dX12_isStop_0 rfl rfl rfl ?_
  refine ur_gI (q := 4) (x := 0) (k := 17) rs dX12_isStop_1 w1373 (Nat.le_of_ble_eq_true rfl) rfl rfl ?_
  refine v_if_ne (q1 := 19) (q2 := 7) dX12_isStop_4 (by decide) rfl (fun c1 => ?_) (fun c1 => ?_)
  · replace H := ine c1 H
    exact V.sub [] rfl (sgjX12_isStop_19 hd rs H)
  · replace H := ip c1 H
    refine v_aload_n (q := 8) 0 dX12_isStop_7 rfl rfl rfl ?_
    refine ur_gI (q := 11) (x := 0) (k := 15) rs dX12_isStop_8 w1371 (Nat.le_of_ble_eq_true rfl) rfl rfl ?_
    refine v_iconst (v := 3) (q := 12) dX12_isStop_11 (by decide) rfl ?_
    refine v_icmp_ne (q1 := 19) (q2 := 15) dX12_isStop_12 (by decide) rfl (fun c3 => ?_) (fun c3 => ?_)
    · replace H := ine c3 H
      exact V.sub [] rfl (sgjX12_isStop_19 hd rs H)
    · replace H := ip c3 H
      refine v_iconst (v := 1) (q := 16) dX12_isStop_15 (by decide) rfl ?_
      refine v_goto (q := 20) dX12_isStop_16 (by decide) ?_
      exact V.sub [] rfl (sgjX12_isStop_20 hd rs H)
def mX12_isWay : MI := (yX12_isWay, cX12_isWay, 3, some .boolean)
theorem oX12_isWay : mOK mX12_isWay 2 := ⟨by decide +kernel, by decide +kernel, by decide +kernel, by decide, w1792, w0150⟩
def gjX12_isWay_14 (y0 : Int32) (m : Mem) : Option (Int32 × Mem) :=
(bz y0).bind fun x3 =>
some (x3, m)
set_option maxRecDepth 20000 in
set_option maxHeartbeats 4000000 in
theorem sgjX12_isWay_14 {Γ : Gm} {d : Nat} (hd : 3 ≤ d) {T : Nat} {h : Hp} (rs : RS T h) {y0 : Int32} {m : Mem} {r : Int32 × Mem} (H : gjX12_isWay_14 y0 m = some r) : V Γ d mX12_isWay 14 [] [.int y0] (hm T h m) (some (.int r.1), (hm T h r.2)) := by
  unfold gjX12_isWay_14 at H
  replace H := bs H; obtain ⟨x3, x3e, H⟩ := H
  obtain ⟨x3q, x3z⟩ := bz_sp x3e
  refine v_topi x3q.symm ?_
  cases H
  exact v_zreturn rfl (by rw [x3q]; exact x3z) dX12_isWay_14
def gX12_isWay (m : Mem) (v1 : Int32) (v2 : Int32) : Option (Int32 × Mem) :=
(gX12_layWay m v1 v2).bind fun x1 =>
if x1.1 ≤ 0 then (
gjX12_isWay_14 (0 : Int32) x1.2) else (
gjX12_isWay_14 (1 : Int32) x1.2)
set_option maxRecDepth 20000 in
set_option maxHeartbeats 4000000 in
theorem sgX12_isWay {Γ : Gm} {d : Nat} (hd : 3 ≤ d) {T : Nat} {h : Hp} (rs : RS T h) {m : Mem} {v1 : Int32} {v2 : Int32} {r : Int32 × Mem} (H : gX12_isWay m v1 v2 = some r) : V Γ d mX12_isWay 0 [(0, .ref T), (1, .int v1), (2, .int v2)] [] (hm T h m) (some (.int r.1), (hm T h r.2)) := by
  unfold gX12_isWay at H
  refine v_aload_n (q := 1) 0 dX12_isWay_0 rfl rfl rfl ?_
  refine v_iload_n (q := 2) 1 dX12_isWay_1 rfl rfl rfl ?_
  refine v_iload_n (q := 3) 2 dX12_isWay_2 rfl rfl rfl ?_
  replace H := bs H; obtain ⟨x1, x1e, H⟩ := H
  refine u_callV1 (M' := mX12_layWay) (d' := 2) (rc := (RX12, TX12, 58)) (As := [.int v1, .int v2]) (st := []) (q := 6) oX12_layWay dX12_isWay_3 w1709 w1711 w0090 rfl rfl (RS.rc rs).1 (RS.rc rs).2 rfl (Nat.le_of_ble_eq_true rfl) (Nat.le_of_ble_eq_true rfl) (Nat.lt_of_lt_of_le (by decide) hd) rfl (sgX12_layWay (Nat.le_refl _) rs x1e) rfl ?_
  refine v_if_le (q1 := 13) (q2 := 9) dX12_isWay_6 (by decide) rfl (fun c2 => ?_) (fun c2 => ?_)
  · replace H := ip c2 H
    refine v_iconst (v := 0) (q := 14) dX12_isWay_13 (by decide) rfl ?_
    exact V.sub [] rfl (sgjX12_isWay_14 hd rs H)
  · replace H := ine c2 H
    refine v_iconst (v := 1) (q := 10) dX12_isWay_9 (by decide) rfl ?_
    refine v_goto (q := 14) dX12_isWay_10 (by decide) ?_
    exact V.sub [] rfl (sgjX12_isWay_14 hd rs H)
def mX12_isWord : MI := (yX12_isWord, cX12_isWord, 2, some .boolean)
theorem oX12_isWord : mOK mX12_isWord 1 := ⟨by decide +kernel, by decide +kernel, by decide +kernel, by decide, w1577, w0150⟩
def gjX12_isWord_28 (y0 : Int32) (m : Mem) : Option (Int32) :=
(bz y0).bind fun x2 =>
some x2
set_option maxRecDepth 20000 in
set_option maxHeartbeats 4000000 in
theorem sgjX12_isWord_28 {Γ : Gm} {d : Nat} (hd : 1 ≤ d) {T : Nat} {h : Hp} (rs : RS T h) {y0 : Int32} {m : Mem} {r : Int32} (H : gjX12_isWord_28 y0 m = some r) : V Γ d mX12_isWord 28 [] [.int y0] (hm T h m) (some (.int r), (hm T h m)) := by
  unfold gjX12_isWord_28 at H
  replace H := bs H; obtain ⟨x2, x2e, H⟩ := H
  obtain ⟨x2q, x2z⟩ := bz_sp x2e
  refine v_topi x2q.symm ?_
  cases H
  exact v_zreturn rfl (by rw [x2q]; exact x2z) dX12_isWord_28
def gjX12_isWord_27 (m : Mem) : Option (Int32) :=
gjX12_isWord_28 (0 : Int32) m
set_option maxRecDepth 20000 in
set_option maxHeartbeats 4000000 in
theorem sgjX12_isWord_27 {Γ : Gm} {d : Nat} (hd : 1 ≤ d) {T : Nat} {h : Hp} (rs : RS T h) {m : Mem} {r : Int32} (H : gjX12_isWord_27 m = some r) : V Γ d mX12_isWord 27 [] [] (hm T h m) (some (.int r), (hm T h m)) := by
  unfold gjX12_isWord_27 at H
  refine v_iconst (v := 0) (q := 28) dX12_isWord_27 (by decide) rfl ?_
  exact V.sub [] rfl (sgjX12_isWord_28 hd rs H)
def gX12_isWord (m : Mem) (v1 : Int32) : Option (Int32) :=
if (m 0 17) = 0 then (
if (m 0 15) = (2 : Int32) then (
if (m 0 16) = v1 then (
gjX12_isWord_28 (1 : Int32) m) else (
gjX12_isWord_27 m)) else (
gjX12_isWord_27 m)) else (
gjX12_isWord_27 m)
set_option maxRecDepth 20000 in
set_option maxHeartbeats 4000000 in
theorem sgX12_isWord {Γ : Gm} {d : Nat} (hd : 1 ≤ d) {T : Nat} {h : Hp} (rs : RS T h) {m : Mem} {v1 : Int32} {r : Int32} (H : gX12_isWord m v1 = some r) : V Γ d mX12_isWord 0 [(0, .ref T), (1, .int v1)] [] (hm T h m) (some (.int r), (hm T h m)) := by
  unfold gX12_isWord at H
  refine v_aload_n (q := 1) 0 dX12_isWord_0 rfl rfl rfl ?_
  refine ur_gI (q := 4) (x := 0) (k := 17) rs dX12_isWord_1 w1373 (Nat.le_of_ble_eq_true rfl) rfl rfl ?_
  refine v_if_ne (q1 := 27) (q2 := 7) dX12_isWord_4 (by decide) rfl (fun c1 => ?_) (fun c1 => ?_)
  · replace H := ine c1 H
    exact V.sub [] rfl (sgjX12_isWord_27 hd rs H)
  · replace H := ip c1 H
    refine v_aload_n (q := 8) 0 dX12_isWord_7 rfl rfl rfl ?_
    refine ur_gI (q := 11) (x := 0) (k := 15) rs dX12_isWord_8 w1371 (Nat.le_of_ble_eq_true rfl) rfl rfl ?_
    refine v_iconst (v := 2) (q := 12) dX12_isWord_11 (by decide) rfl ?_
    refine v_icmp_ne (q1 := 27) (q2 := 15) dX12_isWord_12 (by decide) rfl (fun c3 => ?_) (fun c3 => ?_)
    · replace H := ine c3 H
      exact V.sub [] rfl (sgjX12_isWord_27 hd rs H)
    · replace H := ip c3 H
      refine v_aload_n (q := 16) 0 dX12_isWord_15 rfl rfl rfl ?_
      refine ur_gI (q := 19) (x := 0) (k := 16) rs dX12_isWord_16 w1372 (Nat.le_of_ble_eq_true rfl) rfl rfl ?_
      refine v_iload_n (q := 20) 1 dX12_isWord_19 rfl rfl rfl ?_
      refine v_icmp_ne (q1 := 27) (q2 := 23) dX12_isWord_20 (by decide) rfl (fun c4 => ?_) (fun c4 => ?_)
      · replace H := ine c4 H
        exact V.sub [] rfl (sgjX12_isWord_27 hd rs H)
      · replace H := ip c4 H
        refine v_iconst (v := 1) (q := 24) dX12_isWord_23 (by decide) rfl ?_
        refine v_goto (q := 28) dX12_isWord_24 (by decide) ?_
        exact V.sub [] rfl (sgjX12_isWord_28 hd rs H)
def mX12_kindsOf : MI := (yX12_kindsOf, cX12_kindsOf, 4, some .int)
theorem oX12_kindsOf : mOK mX12_kindsOf 1 := ⟨by decide +kernel, by decide +kernel, by decide +kernel, by decide, w1999, w0150⟩
def gbX12_kindsOf_4 (u1 : Int32) (m : Mem) (s4 : Int32 × Int32) : Option ((Int32 × Int32) ⊕ (Int32)) :=
(gX12_atReport u1 (3 : Int32)).bind fun x1 =>
(rd m 1 9685 x1).bind fun x2 =>
if x2 ≤ s4.2 then (
some (.inr s4.1)) else (
(gX12_atReport u1 ((4 : Int32) + s4.2)).bind fun x4 =>
(rd m 1 9685 x4).bind fun x5 =>
(some (s4.1 ||| ((1 : Int32) <<< ((x5 / (2 : Int32)) &&& 31)))).bind fun x6 =>
(some (s4.2 + (1 : Int32))).bind fun x7 =>
some (.inl (x6, x7)))
set_option maxRecDepth 20000 in
set_option maxHeartbeats 4000000 in
theorem sgbX12_kindsOf_4 {Γ : Gm} {d : Nat} (hd : 2 ≤ d) {T : Nat} {h : Hp} (rs : RS T h) {u1 : Int32} {m : Mem} {s4 : Int32 × Int32} {r : (Int32 × Int32) ⊕ (Int32)} {t : Option Value × Hp} (H : gbX12_kindsOf_4 u1 m s4 = some r) (kI : ∀ s, r = .inl s → (fun s4 => V Γ d mX12_kindsOf 4 [(0, .ref T), (1, .int u1), (2, .int s4.1), (3, .int s4.2)] [] (hm T h m) t) s) (kE : ∀ e, r = .inr e → (fun e => V Γ d mX12_kindsOf 43 [(2, .int e)] [] (hm T h m) t) e) : V Γ d mX12_kindsOf 4 [(0, .ref T), (1, .int u1), (2, .int s4.1), (3, .int s4.2)] [] (hm T h m) t := by
  unfold gbX12_kindsOf_4 at H
  refine v_iload_n (q := 5) 3 dX12_kindsOf_4 rfl rfl rfl ?_
  refine v_aload_n (q := 6) 0 dX12_kindsOf_5 rfl rfl rfl ?_
  refine ur_arr (q := 9) rs rt0 dX12_kindsOf_6 w1356 (Nat.le_of_ble_eq_true rfl) rfl rfl ?_
  refine v_iload_n (q := 10) 1 dX12_kindsOf_9 rfl rfl rfl ?_
  refine v_iconst (v := 3) (q := 11) dX12_kindsOf_10 (by decide) rfl ?_
  replace H := bs H; obtain ⟨x1, x1e, H⟩ := H
  refine u_callS1 (M' := mX12_atReport) (d' := 1) (As := [.int u1, .int (3 : Int32)]) (st := [.ref (T + 1), .int s4.2]) (q := 14) oX12_atReport dX12_kindsOf_11 w1670 w1671 rfl (Nat.le_of_ble_eq_true rfl) (Nat.le_of_ble_eq_true rfl) (Nat.lt_of_lt_of_le (by decide) hd) rfl (sgX12_atReport (Nat.le_refl _) x1e) rfl ?_
  replace H := bs H; obtain ⟨x2, x2e, H⟩ := H
  refine ur_rd (q := 15) rs rt0 x2e dX12_kindsOf_14 rfl ?_
  refine v_icmp_ge (q1 := 43) (q2 := 18) dX12_kindsOf_15 (by decide) rfl (fun c3 => ?_) (fun c3 => ?_)
  · replace H := ip c3 H
    exact V.sub [2] rfl (kE s4.1 (Option.some.inj H).symm)
  · replace H := ine c3 H
    refine v_iload_n (q := 19) 2 dX12_kindsOf_18 rfl rfl rfl ?_
    refine v_iconst (v := 1) (q := 20) dX12_kindsOf_19 (by decide) rfl ?_
    refine v_aload_n (q := 21) 0 dX12_kindsOf_20 rfl rfl rfl ?_
    refine ur_arr (q := 24) rs rt0 dX12_kindsOf_21 w1356 (Nat.le_of_ble_eq_true rfl) rfl rfl ?_
    refine v_iload_n (q := 25) 1 dX12_kindsOf_24 rfl rfl rfl ?_
    refine v_iconst (v := 4) (q := 26) dX12_kindsOf_25 (by decide) rfl ?_
    refine v_iload_n (q := 27) 3 dX12_kindsOf_26 rfl rfl rfl ?_
    refine v_iadd (q := 28) dX12_kindsOf_27 rfl ?_
    replace H := bs H; obtain ⟨x4, x4e, H⟩ := H
    refine u_callS1 (M' := mX12_atReport) (d' := 1) (As := [.int u1, .int ((4 : Int32) + s4.2)]) (st := [.ref (T + 1), .int (1 : Int32), .int s4.1]) (q := 31) oX12_atReport dX12_kindsOf_28 w1670 w1671 rfl (Nat.le_of_ble_eq_true rfl) (Nat.le_of_ble_eq_true rfl) (Nat.lt_of_lt_of_le (by decide) hd) rfl (sgX12_atReport (Nat.le_refl _) x4e) rfl ?_
    replace H := bs H; obtain ⟨x5, x5e, H⟩ := H
    refine ur_rd (q := 32) rs rt0 x5e dX12_kindsOf_31 rfl ?_
    refine v_iconst (v := 2) (q := 33) dX12_kindsOf_32 (by decide) rfl ?_
    refine v_idiv (q := 34) dX12_kindsOf_33 (by decide) rfl ?_
    refine v_ishl (q := 35) dX12_kindsOf_34 rfl ?_
    refine v_ior (q := 36) dX12_kindsOf_35 rfl ?_
    replace H := bs H; obtain ⟨x6, x6e, H⟩ := H
    refine v_topi (Option.some.inj x6e) ?_
    refine v_istore_n (L' := [(2, .int x6), (0, .ref T), (1, .int u1), (3, .int s4.2)]) (q := 37) dX12_kindsOf_36 rfl (by decide) rfl rfl ?_
    replace H := bs H; obtain ⟨x7, x7e, H⟩ := H
    refine v_iinc (v := x7) (L' := [(3, .int x7), (2, .int x6), (0, .ref T), (1, .int u1)]) (q := 40) 3 dX12_kindsOf_37 rfl (Option.some.inj x7e) (by decide) rfl rfl ?_
    refine v_goto (q := 4) dX12_kindsOf_40 (by decide) ?_
    exact V.sub [2, 3, 1, 0] rfl (kI (x6, x7) (Option.some.inj H).symm)
def gX12_kindsOf (m : Mem) (v1 : Int32) : Option (Int32) :=
(lp (gbX12_kindsOf_4 v1 m) FU ((0 : Int32), (0 : Int32))).bind fun e8 =>
some e8
set_option maxRecDepth 20000 in
set_option maxHeartbeats 4000000 in
theorem sgX12_kindsOf {Γ : Gm} {d : Nat} (hd : 2 ≤ d) {T : Nat} {h : Hp} (rs : RS T h) {m : Mem} {v1 : Int32} {r : Int32} (H : gX12_kindsOf m v1 = some r) : V Γ d mX12_kindsOf 0 [(0, .ref T), (1, .int v1)] [] (hm T h m) (some (.int r), (hm T h m)) := by
  unfold gX12_kindsOf at H
  refine v_iconst (v := 0) (q := 1) dX12_kindsOf_0 (by decide) rfl ?_
  refine v_istore_n (L' := [(2, .int (0 : Int32)), (0, .ref T), (1, .int v1)]) (q := 2) dX12_kindsOf_1 rfl (by decide) rfl rfl ?_
  refine v_iconst (v := 0) (q := 3) dX12_kindsOf_2 (by decide) rfl ?_
  refine v_istore_n (L' := [(3, .int (0 : Int32)), (2, .int (0 : Int32)), (0, .ref T), (1, .int v1)]) (q := 4) dX12_kindsOf_3 rfl (by decide) rfl rfl ?_
  replace H := bs H; obtain ⟨e8, e8L, H⟩ := H
  refine V.sub [2, 3, 1, 0] rfl ?_
  refine lp_V (P := (fun s4 => V Γ d mX12_kindsOf 4 [(0, .ref T), (1, .int v1), (2, .int s4.1), (3, .int s4.2)] [] (hm T h m) (some (.int r), (hm T h m)))) (E := (fun e => V Γ d mX12_kindsOf 43 [(2, .int e)] [] (hm T h m) (some (.int r), (hm T h m)))) (fun s r hb kI kE => sgbX12_kindsOf_4 hd rs (s4 := s) (r := r) hb kI kE) FU ((0 : Int32), (0 : Int32)) e8 e8L ?_
  refine v_iload_n (q := 44) 0 dX12_kindsOf_43 rfl rfl rfl ?_
  cases H
  exact v_ireturn rfl dX12_kindsOf_44
def mX12_kindsTold : MI := (yX12_kindsTold, cX12_kindsTold, 3, some .int)
theorem oX12_kindsTold : mOK mX12_kindsTold 0 := ⟨by decide +kernel, by decide +kernel, by decide +kernel, by decide, w1995, w0150⟩
def gjX12_kindsTold_43 (v1 : Int32) (v2 : Int32) (m : Mem) : Option ((Int32 × Int32) ⊕ (Int32)) :=
(some (v2 + (1 : Int32))).bind fun x7 =>
some (.inl (v1, x7))
set_option maxRecDepth 20000 in
set_option maxHeartbeats 4000000 in
theorem sgjX12_kindsTold_43 {Γ : Gm} {d : Nat} (hd : 9 ≤ d) {T : Nat} {h : Hp} (rs : RS T h) {v1 : Int32} {v2 : Int32} {m : Mem} {r : (Int32 × Int32) ⊕ (Int32)} {t : Option Value × Hp} (H : gjX12_kindsTold_43 v1 v2 m = some r) (kI : ∀ s, r = .inl s → (fun s8 => V Γ d mX12_kindsTold 8 [(0, .ref T), (1, .int s8.1), (2, .int s8.2)] [] (hm T h m) t) s) (kE : ∀ e, r = .inr e → (fun e => V Γ d mX12_kindsTold 49 [(0, .ref T), (1, .int e)] [] (hm T h m) t) e) : V Γ d mX12_kindsTold 43 [(0, .ref T), (1, .int v1), (2, .int v2)] [] (hm T h m) t := by
  unfold gjX12_kindsTold_43 at H
  replace H := bs H; obtain ⟨x7, x7e, H⟩ := H
  refine v_iinc (v := x7) (L' := [(2, .int x7), (0, .ref T), (1, .int v1)]) (q := 46) 2 dX12_kindsTold_43 rfl (Option.some.inj x7e) (by decide) rfl rfl ?_
  refine v_goto (q := 8) dX12_kindsTold_46 (by decide) ?_
  exact V.sub [1, 2, 0] rfl (kI (v1, x7) (Option.some.inj H).symm)
def gbX12_kindsTold_8  (m : Mem) (s8 : Int32 × Int32) : Option ((Int32 × Int32) ⊕ (Int32)) :=
(rd m 1 9685 (272 : Int32)).bind fun x2 =>
if x2 ≤ s8.2 then (
some (.inr s8.1)) else (
(gX12_atReport s8.2 (0 : Int32)).bind fun x4 =>
(rd m 1 9685 x4).bind fun x5 =>
if (8 : Int32) ≤ x5 then (
gjX12_kindsTold_43 s8.1 s8.2 m) else (
(gX12_kindsOf m s8.2).bind fun x8 =>
(some (s8.1 ||| x8)).bind fun x9 =>
gjX12_kindsTold_43 x9 s8.2 m))
set_option maxRecDepth 20000 in
set_option maxHeartbeats 4000000 in
theorem sgbX12_kindsTold_8 {Γ : Gm} {d : Nat} (hd : 9 ≤ d) {T : Nat} {h : Hp} (rs : RS T h)  {m : Mem} {s8 : Int32 × Int32} {r : (Int32 × Int32) ⊕ (Int32)} {t : Option Value × Hp} (H : gbX12_kindsTold_8  m s8 = some r) (kI : ∀ s, r = .inl s → (fun s8 => V Γ d mX12_kindsTold 8 [(0, .ref T), (1, .int s8.1), (2, .int s8.2)] [] (hm T h m) t) s) (kE : ∀ e, r = .inr e → (fun e => V Γ d mX12_kindsTold 49 [(0, .ref T), (1, .int e)] [] (hm T h m) t) e) : V Γ d mX12_kindsTold 8 [(0, .ref T), (1, .int s8.1), (2, .int s8.2)] [] (hm T h m) t := by
  unfold gbX12_kindsTold_8 at H
  refine v_iload_n (q := 9) 2 dX12_kindsTold_8 rfl rfl rfl ?_
  refine v_aload_n (q := 10) 0 dX12_kindsTold_9 rfl rfl rfl ?_
  refine ur_arr (q := 13) rs rt0 dX12_kindsTold_10 w1356 (Nat.le_of_ble_eq_true rfl) rfl rfl ?_
  refine v_sipush (v := 272) (q := 16) dX12_kindsTold_13 (by decide) rfl ?_
  replace H := bs H; obtain ⟨x2, x2e, H⟩ := H
  refine ur_rd (q := 17) rs rt0 x2e dX12_kindsTold_16 rfl ?_
  refine v_icmp_ge (q1 := 49) (q2 := 20) dX12_kindsTold_17 (by decide) rfl (fun c3 => ?_) (fun c3 => ?_)
  · replace H := ip c3 H
    exact V.sub [0, 1] rfl (kE s8.1 (Option.some.inj H).symm)
  · replace H := ine c3 H
    refine v_aload_n (q := 21) 0 dX12_kindsTold_20 rfl rfl rfl ?_
    refine ur_arr (q := 24) rs rt0 dX12_kindsTold_21 w1356 (Nat.le_of_ble_eq_true rfl) rfl rfl ?_
    refine v_iload_n (q := 25) 2 dX12_kindsTold_24 rfl rfl rfl ?_
    refine v_iconst (v := 0) (q := 26) dX12_kindsTold_25 (by decide) rfl ?_
    replace H := bs H; obtain ⟨x4, x4e, H⟩ := H
    refine u_callS1 (M' := mX12_atReport) (d' := 1) (As := [.int s8.2, .int (0 : Int32)]) (st := [.ref (T + 1)]) (q := 29) oX12_atReport dX12_kindsTold_26 w1670 w1671 rfl (Nat.le_of_ble_eq_true rfl) (Nat.le_of_ble_eq_true rfl) (Nat.lt_of_lt_of_le (by decide) hd) rfl (sgX12_atReport (Nat.le_refl _) x4e) rfl ?_
    replace H := bs H; obtain ⟨x5, x5e, H⟩ := H
    refine ur_rd (q := 30) rs rt0 x5e dX12_kindsTold_29 rfl ?_
    refine v_bipush (v := 8) (q := 32) dX12_kindsTold_30 (by decide) rfl ?_
    refine v_icmp_ge (q1 := 43) (q2 := 35) dX12_kindsTold_32 (by decide) rfl (fun c6 => ?_) (fun c6 => ?_)
    · replace H := ip c6 H
      exact V.sub [0, 1, 2] rfl (sgjX12_kindsTold_43 hd rs H kI kE)
    · replace H := ine c6 H
      refine v_iload_n (q := 36) 1 dX12_kindsTold_35 rfl rfl rfl ?_
      refine v_aload_n (q := 37) 0 dX12_kindsTold_36 rfl rfl rfl ?_
      refine v_iload_n (q := 38) 2 dX12_kindsTold_37 rfl rfl rfl ?_
      replace H := bs H; obtain ⟨x8, x8e, H⟩ := H
      refine u_callV1 (M' := mX12_kindsOf) (d' := 2) (rc := (RX12, TX12, 58)) (As := [.int s8.2]) (st := [.int s8.1]) (q := 41) oX12_kindsOf dX12_kindsTold_38 w1996 w1998 w0134 rfl rfl (RS.rc rs).1 (RS.rc rs).2 rfl (Nat.le_of_ble_eq_true rfl) (Nat.le_of_ble_eq_true rfl) (Nat.lt_of_lt_of_le (by decide) hd) rfl (sgX12_kindsOf (Nat.le_refl _) rs x8e) rfl ?_
      refine v_ior (q := 42) dX12_kindsTold_41 rfl ?_
      replace H := bs H; obtain ⟨x9, x9e, H⟩ := H
      refine v_topi (Option.some.inj x9e) ?_
      refine v_istore_n (L' := [(1, .int x9), (0, .ref T), (2, .int s8.2)]) (q := 43) dX12_kindsTold_42 rfl (by decide) rfl rfl ?_
      exact V.sub [1, 0, 2] rfl (sgjX12_kindsTold_43 hd rs H kI kE)
def gX12_kindsTold (m : Mem)  : Option (Int32 × Mem) :=
(gX12_goAll m).bind fun x1 =>
(lp (gbX12_kindsTold_8 x1) FU ((0 : Int32), (0 : Int32))).bind fun e10 =>
(gX12_bringBack x1).bind fun x11 =>
some (e10, x11)
set_option maxRecDepth 20000 in
set_option maxHeartbeats 4000000 in
theorem sgX12_kindsTold {Γ : Gm} {d : Nat} (hd : 9 ≤ d) {T : Nat} {h : Hp} (rs : RS T h) {m : Mem}  {r : Int32 × Mem} (H : gX12_kindsTold m  = some r) : V Γ d mX12_kindsTold 0 [(0, .ref T)] [] (hm T h m) (some (.int r.1), (hm T h r.2)) := by
  unfold gX12_kindsTold at H
  refine v_aload_n (q := 1) 0 dX12_kindsTold_0 rfl rfl rfl ?_
  replace H := bs H; obtain ⟨x1, x1e, H⟩ := H
  refine u_callV0 (M' := mX12_goAll) (d' := 8) (rc := (RX12, TX12, 58)) (As := []) (st := []) (q := 4) oX12_goAll dX12_kindsTold_1 w1825 w1827 w0105 rfl rfl (RS.rc rs).1 (RS.rc rs).2 rfl (Nat.le_of_ble_eq_true rfl) (Nat.le_of_ble_eq_true rfl) (Nat.lt_of_lt_of_le (by decide) hd) rfl (sgX12_goAll (Nat.le_refl _) rs x1e) rfl ?_
  refine v_iconst (v := 0) (q := 5) dX12_kindsTold_4 (by decide) rfl ?_
  refine v_istore_n (L' := [(1, .int (0 : Int32)), (0, .ref T)]) (q := 6) dX12_kindsTold_5 rfl (by decide) rfl rfl ?_
  refine v_iconst (v := 0) (q := 7) dX12_kindsTold_6 (by decide) rfl ?_
  refine v_istore_n (L' := [(2, .int (0 : Int32)), (1, .int (0 : Int32)), (0, .ref T)]) (q := 8) dX12_kindsTold_7 rfl (by decide) rfl rfl ?_
  replace H := bs H; obtain ⟨e10, e10L, H⟩ := H
  refine V.sub [2, 1, 0] rfl ?_
  refine lp_V (P := (fun s8 => V Γ d mX12_kindsTold 8 [(0, .ref T), (1, .int s8.1), (2, .int s8.2)] [] (hm T h x1) (some (.int r.1), (hm T h r.2)))) (E := (fun e => V Γ d mX12_kindsTold 49 [(0, .ref T), (1, .int e)] [] (hm T h x1) (some (.int r.1), (hm T h r.2)))) (fun s r hb kI kE => sgbX12_kindsTold_8 hd rs (s8 := s) (r := r) hb kI kE) FU ((0 : Int32), (0 : Int32)) e10 e10L ?_
  refine v_aload_n (q := 50) 0 dX12_kindsTold_49 rfl rfl rfl ?_
  replace H := bs H; obtain ⟨x11, x11e, H⟩ := H
  refine u_callV0 (M' := mX12_bringBack) (d' := 1) (rc := (RX12, TX12, 58)) (As := []) (st := []) (q := 53) oX12_bringBack dX12_kindsTold_50 w1817 w1819 w0104 rfl rfl (RS.rc rs).1 (RS.rc rs).2 rfl (Nat.le_of_ble_eq_true rfl) (Nat.le_of_ble_eq_true rfl) (Nat.lt_of_lt_of_le (by decide) hd) rfl (sgX12_bringBack (Nat.le_refl _) rs x11e) rfl ?_
  refine v_iload_n (q := 54) 1 dX12_kindsTold_53 rfl rfl rfl ?_
  cases H
  exact v_ireturn rfl dX12_kindsTold_54
def mX12_size : MI := (yX12_size, cX12_size, 3, some .int)
theorem oX12_size : mOK mX12_size 1 := ⟨by decide +kernel, by decide +kernel, by decide +kernel, by decide, w1987, w0150⟩
def gbX12_size_4 (u0 : Int32) (s4 : Int32 × Int32) : Option ((Int32 × Int32) ⊕ (Int32)) :=
if (20 : Int32) ≤ s4.2 then (
some (.inr s4.1)) else (
(some (s4.1 + ((u0 >>> (s4.2 &&& 31)) &&& (1 : Int32)))).bind fun x2 =>
(some (s4.2 + (1 : Int32))).bind fun x3 =>
some (.inl (x2, x3)))
set_option maxRecDepth 20000 in
set_option maxHeartbeats 4000000 in
theorem sgbX12_size_4 {Γ : Gm} {d : Nat} (hd : 1 ≤ d) {h : Hp} {u0 : Int32} {s4 : Int32 × Int32} {r : (Int32 × Int32) ⊕ (Int32)} {t : Option Value × Hp} (H : gbX12_size_4 u0 s4 = some r) (kI : ∀ s, r = .inl s → (fun s4 => V Γ d mX12_size 4 [(0, .int u0), (1, .int s4.1), (2, .int s4.2)] [] h t) s) (kE : ∀ e, r = .inr e → (fun e => V Γ d mX12_size 24 [(1, .int e)] [] h t) e) : V Γ d mX12_size 4 [(0, .int u0), (1, .int s4.1), (2, .int s4.2)] [] h t := by
  unfold gbX12_size_4 at H
  refine v_iload_n (q := 5) 2 dX12_size_4 rfl rfl rfl ?_
  refine v_bipush (v := 20) (q := 7) dX12_size_5 (by decide) rfl ?_
  refine v_icmp_ge (q1 := 24) (q2 := 10) dX12_size_7 (by decide) rfl (fun c1 => ?_) (fun c1 => ?_)
  · replace H := ip c1 H
    exact V.sub [1] rfl (kE s4.1 (Option.some.inj H).symm)
  · replace H := ine c1 H
    refine v_iload_n (q := 11) 1 dX12_size_10 rfl rfl rfl ?_
    refine v_iload_n (q := 12) 0 dX12_size_11 rfl rfl rfl ?_
    refine v_iload_n (q := 13) 2 dX12_size_12 rfl rfl rfl ?_
    refine v_ishr (q := 14) dX12_size_13 rfl ?_
    refine v_iconst (v := 1) (q := 15) dX12_size_14 (by decide) rfl ?_
    refine v_iand (q := 16) dX12_size_15 rfl ?_
    refine v_iadd (q := 17) dX12_size_16 rfl ?_
    replace H := bs H; obtain ⟨x2, x2e, H⟩ := H
    refine v_topi (Option.some.inj x2e) ?_
    refine v_istore_n (L' := [(1, .int x2), (0, .int u0), (2, .int s4.2)]) (q := 18) dX12_size_17 rfl (by decide) rfl rfl ?_
    replace H := bs H; obtain ⟨x3, x3e, H⟩ := H
    refine v_iinc (v := x3) (L' := [(2, .int x3), (1, .int x2), (0, .int u0)]) (q := 21) 2 dX12_size_18 rfl (Option.some.inj x3e) (by decide) rfl rfl ?_
    refine v_goto (q := 4) dX12_size_21 (by decide) ?_
    exact V.sub [2, 1, 0] rfl (kI (x2, x3) (Option.some.inj H).symm)
def gX12_size (v0 : Int32) : Option (Int32) :=
(lp (gbX12_size_4 v0) FU ((0 : Int32), (0 : Int32))).bind fun e4 =>
some e4
set_option maxRecDepth 20000 in
set_option maxHeartbeats 4000000 in
theorem sgX12_size {Γ : Gm} {d : Nat} (hd : 1 ≤ d) {h : Hp} {v0 : Int32} {r : Int32} (H : gX12_size v0 = some r) : V Γ d mX12_size 0 [(0, .int v0)] [] h (some (.int r), h) := by
  unfold gX12_size at H
  refine v_iconst (v := 0) (q := 1) dX12_size_0 (by decide) rfl ?_
  refine v_istore_n (L' := [(1, .int (0 : Int32)), (0, .int v0)]) (q := 2) dX12_size_1 rfl (by decide) rfl rfl ?_
  refine v_iconst (v := 0) (q := 3) dX12_size_2 (by decide) rfl ?_
  refine v_istore_n (L' := [(2, .int (0 : Int32)), (1, .int (0 : Int32)), (0, .int v0)]) (q := 4) dX12_size_3 rfl (by decide) rfl rfl ?_
  replace H := bs H; obtain ⟨e4, e4L, H⟩ := H
  refine V.sub [2, 1, 0] rfl ?_
  refine lp_V (P := (fun s4 => V Γ d mX12_size 4 [(0, .int v0), (1, .int s4.1), (2, .int s4.2)] [] h (some (.int r), h))) (E := (fun e => V Γ d mX12_size 24 [(1, .int e)] [] h (some (.int r), h))) (fun s r hb kI kE => sgbX12_size_4 hd (s4 := s) (r := r) hb kI kE) FU ((0 : Int32), (0 : Int32)) e4 e4L ?_
  refine v_iload_n (q := 25) 0 dX12_size_24 rfl rfl rfl ?_
  cases H
  exact v_ireturn rfl dX12_size_25
def mX12_leastNow : MI := (yX12_leastNow, cX12_leastNow, 3, some .int)
theorem oX12_leastNow : mOK mX12_leastNow 0 := ⟨by decide +kernel, by decide +kernel, by decide +kernel, by decide, w1984, w0150⟩
def gjX12_leastNow_45 (u1 : Int32) (v2 : Int32) (m : Mem) : Option ((Int32 × Mem) ⊕ ((Mem) ⊕ (Int32 × Mem))) :=
(some (v2 + (1 : Int32))).bind fun x6 =>
some (.inl (x6, m))
set_option maxRecDepth 20000 in
set_option maxHeartbeats 4000000 in
theorem sgjX12_leastNow_45 {Γ : Gm} {d : Nat} (hd : 10 ≤ d) {T : Nat} {h : Hp} (rs : RS T h) {u1 : Int32} {v2 : Int32} {m : Mem} {r : (Int32 × Mem) ⊕ ((Mem) ⊕ (Int32 × Mem))} {t : Option Value × Hp} (H : gjX12_leastNow_45 u1 v2 m = some r) (kI : ∀ s, r = .inl s → (fun s10 => V Γ d mX12_leastNow 10 [(0, .ref T), (1, .int u1), (2, .int s10.1)] [] (hm T h s10.2) t) s) (kE : ∀ e, r = .inr e → (fun e => (match e with | .inl a0 => V Γ d mX12_leastNow 51 [(0, .ref T), (1, .int u1)] [] (hm T h a0) t | .inr b0 => V Γ d mX12_leastNow 43 [(2, .int b0.1)] [] (hm T h b0.2) t)) e) : V Γ d mX12_leastNow 45 [(0, .ref T), (1, .int u1), (2, .int v2)] [] (hm T h m) t := by
  unfold gjX12_leastNow_45 at H
  replace H := bs H; obtain ⟨x6, x6e, H⟩ := H
  refine v_iinc (v := x6) (L' := [(2, .int x6), (0, .ref T), (1, .int u1)]) (q := 48) 2 dX12_leastNow_45 rfl (Option.some.inj x6e) (by decide) rfl rfl ?_
  refine v_goto (q := 10) dX12_leastNow_48 (by decide) ?_
  exact V.sub [1, 2, 0] rfl (kI (x6, m) (Option.some.inj H).symm)
def gbX12_leastNow_10 (u1 : Int32) (s10 : Int32 × Mem) : Option ((Int32 × Mem) ⊕ ((Mem) ⊕ (Int32 × Mem))) :=
(rd s10.2 4 2 (s10.2 0 9)).bind fun x2 =>
if ((1 : Int32) <<< (x2 &&& 31)) ≤ s10.1 then (
some (.inr (.inl s10.2))) else (
(gX12_size s10.1).bind fun x4 =>
if x4 = u1 then (
(gX12_stuck s10.2 s10.1 (0 : Int32)).bind fun x7 =>
if x7.1 = (1 : Int32) then (
some (.inr (.inr (s10.1, x7.2)))) else (
gjX12_leastNow_45 u1 s10.1 x7.2)) else (
gjX12_leastNow_45 u1 s10.1 s10.2))
set_option maxRecDepth 20000 in
set_option maxHeartbeats 4000000 in
theorem sgbX12_leastNow_10 {Γ : Gm} {d : Nat} (hd : 10 ≤ d) {T : Nat} {h : Hp} (rs : RS T h) {u1 : Int32} {s10 : Int32 × Mem} {r : (Int32 × Mem) ⊕ ((Mem) ⊕ (Int32 × Mem))} {t : Option Value × Hp} (H : gbX12_leastNow_10 u1 s10 = some r) (kI : ∀ s, r = .inl s → (fun s10 => V Γ d mX12_leastNow 10 [(0, .ref T), (1, .int u1), (2, .int s10.1)] [] (hm T h s10.2) t) s) (kE : ∀ e, r = .inr e → (fun e => (match e with | .inl a0 => V Γ d mX12_leastNow 51 [(0, .ref T), (1, .int u1)] [] (hm T h a0) t | .inr b0 => V Γ d mX12_leastNow 43 [(2, .int b0.1)] [] (hm T h b0.2) t)) e) : V Γ d mX12_leastNow 10 [(0, .ref T), (1, .int u1), (2, .int s10.1)] [] (hm T h s10.2) t := by
  unfold gbX12_leastNow_10 at H
  refine v_iload_n (q := 11) 2 dX12_leastNow_10 rfl rfl rfl ?_
  refine v_iconst (v := 1) (q := 12) dX12_leastNow_11 (by decide) rfl ?_
  refine v_aload_n (q := 13) 0 dX12_leastNow_12 rfl rfl rfl ?_
  refine ur_arr (q := 16) rs rt3 dX12_leastNow_13 w1359 (Nat.le_of_ble_eq_true rfl) rfl rfl ?_
  refine v_aload_n (q := 17) 0 dX12_leastNow_16 rfl rfl rfl ?_
  refine ur_gI (q := 20) (x := 0) (k := 9) rs dX12_leastNow_17 w1365 (Nat.le_of_ble_eq_true rfl) rfl rfl ?_
  replace H := bs H; obtain ⟨x2, x2e, H⟩ := H
  refine ur_rd (q := 21) rs rt3 x2e dX12_leastNow_20 rfl ?_
  refine v_ishl (q := 22) dX12_leastNow_21 rfl ?_
  refine v_icmp_ge (q1 := 51) (q2 := 25) dX12_leastNow_22 (by decide) rfl (fun c3 => ?_) (fun c3 => ?_)
  · replace H := ip c3 H
    exact V.sub [0, 1] rfl (kE (.inl s10.2) (Option.some.inj H).symm)
  · replace H := ine c3 H
    refine v_iload_n (q := 26) 2 dX12_leastNow_25 rfl rfl rfl ?_
    replace H := bs H; obtain ⟨x4, x4e, H⟩ := H
    refine u_callS1 (M' := mX12_size) (d' := 1) (As := [.int s10.1]) (st := []) (q := 29) oX12_size dX12_leastNow_26 w1985 w1986 rfl (Nat.le_of_ble_eq_true rfl) (Nat.le_of_ble_eq_true rfl) (Nat.lt_of_lt_of_le (by decide) hd) rfl (sgX12_size (Nat.le_refl _) x4e) rfl ?_
    refine v_iload_n (q := 30) 1 dX12_leastNow_29 rfl rfl rfl ?_
    refine v_icmp_ne (q1 := 45) (q2 := 33) dX12_leastNow_30 (by decide) rfl (fun c5 => ?_) (fun c5 => ?_)
    · replace H := ine c5 H
      exact V.sub [0, 1, 2] rfl (sgjX12_leastNow_45 hd rs H kI kE)
    · replace H := ip c5 H
      refine v_aload_n (q := 34) 0 dX12_leastNow_33 rfl rfl rfl ?_
      refine v_iload_n (q := 35) 2 dX12_leastNow_34 rfl rfl rfl ?_
      refine v_iconst (v := 0) (q := 36) dX12_leastNow_35 (by decide) rfl ?_
      replace H := bs H; obtain ⟨x7, x7e, H⟩ := H
      refine u_callV1 (M' := mX12_stuck) (d' := 9) (rc := (RX12, TX12, 58)) (As := [.int s10.1, .int (0 : Int32)]) (st := []) (q := 39) oX12_stuck dX12_leastNow_36 w1838 w1839 w1840 rfl rfl (RS.rc rs).1 (RS.rc rs).2 rfl (Nat.le_of_ble_eq_true rfl) (Nat.le_of_ble_eq_true rfl) (Nat.lt_of_lt_of_le (by decide) hd) rfl (sgX12_stuck (Nat.le_refl _) rs x7e) rfl ?_
      refine v_iconst (v := 1) (q := 40) dX12_leastNow_39 (by decide) rfl ?_
      refine v_icmp_ne (q1 := 45) (q2 := 43) dX12_leastNow_40 (by decide) rfl (fun c8 => ?_) (fun c8 => ?_)
      · replace H := ine c8 H
        exact V.sub [0, 1, 2] rfl (sgjX12_leastNow_45 hd rs H kI kE)
      · replace H := ip c8 H
        exact V.sub [2] rfl (kE (.inr (s10.1, x7.2)) (Option.some.inj H).symm)
def gbX12_leastNow_2  (s2 : Int32 × Mem) : Option ((Int32 × Mem) ⊕ ((Mem) ⊕ (Int32 × Mem))) :=
if (6 : Int32) < s2.1 then (
some (.inr (.inl s2.2))) else (
(lp (gbX12_leastNow_10 s2.1) FU ((1 : Int32), s2.2)).bind fun e9 =>
(match e9 with
| .inl e10 => (
(some (s2.1 + (1 : Int32))).bind fun x12 =>
some (.inl (x12, e10)))
| .inr e11 => (
some (.inr (.inr (e11.1, e11.2))))))
set_option maxRecDepth 20000 in
set_option maxHeartbeats 4000000 in
theorem sgbX12_leastNow_2 {Γ : Gm} {d : Nat} (hd : 10 ≤ d) {T : Nat} {h : Hp} (rs : RS T h)  {s2 : Int32 × Mem} {r : (Int32 × Mem) ⊕ ((Mem) ⊕ (Int32 × Mem))} {t : Option Value × Hp} (H : gbX12_leastNow_2  s2 = some r) (kI : ∀ s, r = .inl s → (fun s2 => V Γ d mX12_leastNow 2 [(0, .ref T), (1, .int s2.1)] [] (hm T h s2.2) t) s) (kE : ∀ e, r = .inr e → (fun e => (match e with | .inl a0 => V Γ d mX12_leastNow 57 [] [] (hm T h a0) t | .inr b0 => V Γ d mX12_leastNow 43 [(2, .int b0.1)] [] (hm T h b0.2) t)) e) : V Γ d mX12_leastNow 2 [(0, .ref T), (1, .int s2.1)] [] (hm T h s2.2) t := by
  unfold gbX12_leastNow_2 at H
  refine v_iload_n (q := 3) 1 dX12_leastNow_2 rfl rfl rfl ?_
  refine v_bipush (v := 6) (q := 5) dX12_leastNow_3 (by decide) rfl ?_
  refine v_icmp_gt (q1 := 57) (q2 := 8) dX12_leastNow_5 (by decide) rfl (fun c1 => ?_) (fun c1 => ?_)
  · replace H := ip c1 H
    exact V.sub [] rfl (kE (.inl s2.2) (Option.some.inj H).symm)
  · replace H := ine c1 H
    refine v_iconst (v := 1) (q := 9) dX12_leastNow_8 (by decide) rfl ?_
    refine v_istore_n (L' := [(2, .int (1 : Int32)), (0, .ref T), (1, .int s2.1)]) (q := 10) dX12_leastNow_9 rfl (by decide) rfl rfl ?_
    replace H := bs H; obtain ⟨e9, e9L, H⟩ := H
    refine V.sub [1, 2, 0] rfl ?_
    refine lp_V (P := (fun s10 => V Γ d mX12_leastNow 10 [(0, .ref T), (1, .int s2.1), (2, .int s10.1)] [] (hm T h s10.2) t)) (E := (fun e => (match e with | .inl a0 => V Γ d mX12_leastNow 51 [(0, .ref T), (1, .int s2.1)] [] (hm T h a0) t | .inr b0 => V Γ d mX12_leastNow 43 [(2, .int b0.1)] [] (hm T h b0.2) t))) (fun s r hb kI kE => sgbX12_leastNow_10 hd rs (s10 := s) (r := r) hb kI kE) FU ((1 : Int32), s2.2) e9 e9L ?_
    rcases e9 with e10 | e11
    · skip
      replace H := bs H; obtain ⟨x12, x12e, H⟩ := H
      refine v_iinc (v := x12) (L' := [(1, .int x12), (0, .ref T)]) (q := 54) 1 dX12_leastNow_51 rfl (Option.some.inj x12e) (by decide) rfl rfl ?_
      refine v_goto (q := 2) dX12_leastNow_54 (by decide) ?_
      exact V.sub [1, 0] rfl (kI (x12, e10) (Option.some.inj H).symm)
    · skip
      exact V.sub [0] rfl (kE (.inr (e11.1, e11.2)) (Option.some.inj H).symm)
def gX12_leastNow (m : Mem)  : Option (Int32 × Mem) :=
(lp (gbX12_leastNow_2) FU ((1 : Int32), m)).bind fun e13 =>
(match e13 with
| .inl e14 => (
some (((0 : Int32), e14)))
| .inr e15 => (
some (e15.1, e15.2)))
set_option maxRecDepth 20000 in
set_option maxHeartbeats 4000000 in
theorem sgX12_leastNow {Γ : Gm} {d : Nat} (hd : 10 ≤ d) {T : Nat} {h : Hp} (rs : RS T h) {m : Mem}  {r : Int32 × Mem} (H : gX12_leastNow m  = some r) : V Γ d mX12_leastNow 0 [(0, .ref T)] [] (hm T h m) (some (.int r.1), (hm T h r.2)) := by
  unfold gX12_leastNow at H
  refine v_iconst (v := 1) (q := 1) dX12_leastNow_0 (by decide) rfl ?_
  refine v_istore_n (L' := [(1, .int (1 : Int32)), (0, .ref T)]) (q := 2) dX12_leastNow_1 rfl (by decide) rfl rfl ?_
  replace H := bs H; obtain ⟨e13, e13L, H⟩ := H
  refine V.sub [1, 0] rfl ?_
  refine lp_V (P := (fun s2 => V Γ d mX12_leastNow 2 [(0, .ref T), (1, .int s2.1)] [] (hm T h s2.2) (some (.int r.1), (hm T h r.2)))) (E := (fun e => (match e with | .inl a0 => V Γ d mX12_leastNow 57 [] [] (hm T h a0) (some (.int r.1), (hm T h r.2)) | .inr b0 => V Γ d mX12_leastNow 43 [(2, .int b0.1)] [] (hm T h b0.2) (some (.int r.1), (hm T h r.2))))) (fun s r hb kI kE => sgbX12_leastNow_2 hd rs (s2 := s) (r := r) hb kI kE) FU ((1 : Int32), m) e13 e13L ?_
  rcases e13 with e14 | e15
  · skip
    refine v_iconst (v := 0) (q := 58) dX12_leastNow_57 (by decide) rfl ?_
    cases H
    exact v_ireturn rfl dX12_leastNow_58
  · skip
    refine v_iload_n (q := 44) 0 dX12_leastNow_43 rfl rfl rfl ?_
    cases H
    exact v_ireturn rfl dX12_leastNow_44
def mX12_least : MI := (yX12_least, cX12_least, 1, some .int)
theorem oX12_least : mOK mX12_least 0 := ⟨by decide +kernel, by decide +kernel, by decide +kernel, by decide, w1980, w0150⟩
def gX12_least (m : Mem)  : Option (Int32 × Mem) :=
(gX12_leastNow m).bind fun x1 =>
some (x1.1, x1.2)
set_option maxRecDepth 20000 in
set_option maxHeartbeats 4000000 in
theorem sgX12_least {Γ : Gm} {d : Nat} (hd : 11 ≤ d) {T : Nat} {h : Hp} (rs : RS T h) {m : Mem}  {r : Int32 × Mem} (H : gX12_least m  = some r) : V Γ d mX12_least 0 [(0, .ref T)] [] (hm T h m) (some (.int r.1), (hm T h r.2)) := by
  unfold gX12_least at H
  refine v_aload_n (q := 1) 0 dX12_least_0 rfl rfl rfl ?_
  replace H := bs H; obtain ⟨x1, x1e, H⟩ := H
  refine u_callV1 (M' := mX12_leastNow) (d' := 10) (rc := (RX12, TX12, 58)) (As := []) (st := []) (q := 4) oX12_leastNow dX12_least_1 w1981 w1983 w0132 rfl rfl (RS.rc rs).1 (RS.rc rs).2 rfl (Nat.le_of_ble_eq_true rfl) (Nat.le_of_ble_eq_true rfl) (Nat.lt_of_lt_of_le (by decide) hd) rfl (sgX12_leastNow (Nat.le_refl _) rs x1e) rfl ?_
  cases H
  exact v_ireturn rfl dX12_least_4
def mX12_lock : MI := (yX12_lock, cX12_lock, 2, some .int)
theorem oX12_lock : mOK mX12_lock 1 := ⟨by decide +kernel, by decide +kernel, by decide +kernel, by decide, w1761, w0150⟩
def gjX12_lock_28 (y0 : Int32) (m : Mem) : Option (Int32) :=
some y0
set_option maxRecDepth 20000 in
set_option maxHeartbeats 4000000 in
theorem sgjX12_lock_28 {Γ : Gm} {d : Nat} (hd : 2 ≤ d) {T : Nat} {h : Hp} (rs : RS T h) {y0 : Int32} {m : Mem} {r : Int32} (H : gjX12_lock_28 y0 m = some r) : V Γ d mX12_lock 28 [] [.int y0] (hm T h m) (some (.int r), (hm T h m)) := by
  unfold gjX12_lock_28 at H
  cases H
  exact v_ireturn rfl dX12_lock_28
def gX12_lock (m : Mem) (v1 : Int32) : Option (Int32) :=
(rd m 3 2 (m 0 9)).bind fun x1 =>
(gX12_isIn v1 (0 : Int32) (x1 - (1 : Int32))).bind fun x2 =>
if x2 = 0 then (
gjX12_lock_28 (-1 : Int32) m) else (
(gX12_kind m v1).bind fun x4 =>
gjX12_lock_28 x4 m)
set_option maxRecDepth 20000 in
set_option maxHeartbeats 4000000 in
theorem sgX12_lock {Γ : Gm} {d : Nat} (hd : 2 ≤ d) {T : Nat} {h : Hp} (rs : RS T h) {m : Mem} {v1 : Int32} {r : Int32} (H : gX12_lock m v1 = some r) : V Γ d mX12_lock 0 [(0, .ref T), (1, .int v1)] [] (hm T h m) (some (.int r), (hm T h m)) := by
  unfold gX12_lock at H
  refine v_iload_n (q := 1) 1 dX12_lock_0 rfl rfl rfl ?_
  refine v_iconst (v := 0) (q := 2) dX12_lock_1 (by decide) rfl ?_
  refine v_aload_n (q := 3) 0 dX12_lock_2 rfl rfl rfl ?_
  refine ur_arr (q := 6) rs rt2 dX12_lock_3 w1358 (Nat.le_of_ble_eq_true rfl) rfl rfl ?_
  refine v_aload_n (q := 7) 0 dX12_lock_6 rfl rfl rfl ?_
  refine ur_gI (q := 10) (x := 0) (k := 9) rs dX12_lock_7 w1365 (Nat.le_of_ble_eq_true rfl) rfl rfl ?_
  replace H := bs H; obtain ⟨x1, x1e, H⟩ := H
  refine ur_rd (q := 11) rs rt2 x1e dX12_lock_10 rfl ?_
  refine v_iconst (v := 1) (q := 12) dX12_lock_11 (by decide) rfl ?_
  refine v_isub (q := 13) dX12_lock_12 rfl ?_
  replace H := bs H; obtain ⟨x2, x2e, H⟩ := H
  refine u_callS1 (M' := mX12_isIn) (d' := 1) (As := [.int v1, .int (0 : Int32), .int (x1 - (1 : Int32))]) (st := []) (q := 16) oX12_isIn dX12_lock_13 w1618 w1619 rfl (Nat.le_of_ble_eq_true rfl) (Nat.le_of_ble_eq_true rfl) (Nat.lt_of_lt_of_le (by decide) hd) rfl (sgX12_isIn (Nat.le_refl _) x2e) rfl ?_
  refine v_if_eq (q1 := 27) (q2 := 19) dX12_lock_16 (by decide) rfl (fun c3 => ?_) (fun c3 => ?_)
  · replace H := ip c3 H
    refine v_iconst (v := -1) (q := 28) dX12_lock_27 (by decide) rfl ?_
    exact V.sub [] rfl (sgjX12_lock_28 hd rs H)
  · replace H := ine c3 H
    refine v_aload_n (q := 20) 0 dX12_lock_19 rfl rfl rfl ?_
    refine v_iload_n (q := 21) 1 dX12_lock_20 rfl rfl rfl ?_
    replace H := bs H; obtain ⟨x4, x4e, H⟩ := H
    refine u_callV1 (M' := mX12_kind) (d' := 1) (rc := (RX12, TX12, 58)) (As := [.int v1]) (st := []) (q := 24) oX12_kind dX12_lock_21 w1673 w1675 w0081 rfl rfl (RS.rc rs).1 (RS.rc rs).2 rfl (Nat.le_of_ble_eq_true rfl) (Nat.le_of_ble_eq_true rfl) (Nat.lt_of_lt_of_le (by decide) hd) rfl (sgX12_kind (Nat.le_refl _) rs x4e) rfl ?_
    refine v_goto (q := 28) dX12_lock_24 (by decide) ?_
    exact V.sub [] rfl (sgjX12_lock_28 hd rs H)
def mX12_mends : MI := (yX12_mends, cX12_mends, 4, some .int)
theorem oX12_mends : mOK mX12_mends 1 := ⟨by decide +kernel, by decide +kernel, by decide +kernel, by decide, w1951, w0150⟩
def gjX12_mends_46 (u1 : Int32) (v2 : Int32) (v3 : Int32) (m : Mem) : Option ((Int32 × Int32 × Mem) ⊕ (Int32 × Mem)) :=
(some (v3 + (1 : Int32))).bind fun x8 =>
some (.inl (v2, x8, m))
set_option maxRecDepth 20000 in
set_option maxHeartbeats 4000000 in
theorem sgjX12_mends_46 {Γ : Gm} {d : Nat} (hd : 7 ≤ d) {T : Nat} {h : Hp} (rs : RS T h) {u1 : Int32} {v2 : Int32} {v3 : Int32} {m : Mem} {r : (Int32 × Int32 × Mem) ⊕ (Int32 × Mem)} {t : Option Value × Hp} (H : gjX12_mends_46 u1 v2 v3 m = some r) (kI : ∀ s, r = .inl s → (fun s15 => V Γ d mX12_mends 15 [(0, .ref T), (1, .int u1), (2, .int s15.1), (3, .int s15.2.1)] [] (hm T h s15.2.2) t) s) (kE : ∀ e, r = .inr e → (fun e => V Γ d mX12_mends 52 [(0, .ref T), (1, .int u1), (2, .int e.1)] [] (hm T h e.2) t) e) : V Γ d mX12_mends 46 [(0, .ref T), (1, .int u1), (2, .int v2), (3, .int v3)] [] (hm T h m) t := by
  unfold gjX12_mends_46 at H
  replace H := bs H; obtain ⟨x8, x8e, H⟩ := H
  refine v_iinc (v := x8) (L' := [(3, .int x8), (0, .ref T), (1, .int u1), (2, .int v2)]) (q := 49) 3 dX12_mends_46 rfl (Option.some.inj x8e) (by decide) rfl rfl ?_
  refine v_goto (q := 15) dX12_mends_49 (by decide) ?_
  exact V.sub [1, 2, 3, 0] rfl (kI (v2, x8, m) (Option.some.inj H).symm)
def gbX12_mends_15 (u1 : Int32) (s15 : Int32 × Int32 × Mem) : Option ((Int32 × Int32 × Mem) ⊕ (Int32 × Mem)) :=
if (256 : Int32) ≤ s15.2.1 then (
some (.inr (s15.1, s15.2.2))) else (
(rd s15.2.2 1 9685 ((0 : Int32) + s15.2.1)).bind fun x4 =>
if x4 = 0 then (
gjX12_mends_46 u1 s15.1 s15.2.1 s15.2.2) else (
(wr s15.2.2 22 256 s15.1 s15.2.1).bind fun m6 =>
(some (s15.1 + (1 : Int32))).bind fun x7 =>
gjX12_mends_46 u1 x7 s15.2.1 m6))
set_option maxRecDepth 20000 in
set_option maxHeartbeats 4000000 in
theorem sgbX12_mends_15 {Γ : Gm} {d : Nat} (hd : 7 ≤ d) {T : Nat} {h : Hp} (rs : RS T h) {u1 : Int32} {s15 : Int32 × Int32 × Mem} {r : (Int32 × Int32 × Mem) ⊕ (Int32 × Mem)} {t : Option Value × Hp} (H : gbX12_mends_15 u1 s15 = some r) (kI : ∀ s, r = .inl s → (fun s15 => V Γ d mX12_mends 15 [(0, .ref T), (1, .int u1), (2, .int s15.1), (3, .int s15.2.1)] [] (hm T h s15.2.2) t) s) (kE : ∀ e, r = .inr e → (fun e => V Γ d mX12_mends 52 [(0, .ref T), (1, .int u1), (2, .int e.1)] [] (hm T h e.2) t) e) : V Γ d mX12_mends 15 [(0, .ref T), (1, .int u1), (2, .int s15.1), (3, .int s15.2.1)] [] (hm T h s15.2.2) t := by
  unfold gbX12_mends_15 at H
  refine v_iload_n (q := 16) 3 dX12_mends_15 rfl rfl rfl ?_
  refine v_sipush (v := 256) (q := 19) dX12_mends_16 (by decide) rfl ?_
  refine v_icmp_ge (q1 := 52) (q2 := 22) dX12_mends_19 (by decide) rfl (fun c3 => ?_) (fun c3 => ?_)
  · replace H := ip c3 H
    exact V.sub [0, 1, 2] rfl (kE (s15.1, s15.2.2) (Option.some.inj H).symm)
  · replace H := ine c3 H
    refine v_aload_n (q := 23) 0 dX12_mends_22 rfl rfl rfl ?_
    refine ur_arr (q := 26) rs rt0 dX12_mends_23 w1356 (Nat.le_of_ble_eq_true rfl) rfl rfl ?_
    refine v_iconst (v := 0) (q := 27) dX12_mends_26 (by decide) rfl ?_
    refine v_iload_n (q := 28) 3 dX12_mends_27 rfl rfl rfl ?_
    refine v_iadd (q := 29) dX12_mends_28 rfl ?_
    replace H := bs H; obtain ⟨x4, x4e, H⟩ := H
    refine ur_rd (q := 30) rs rt0 x4e dX12_mends_29 rfl ?_
    refine v_if_ne (q1 := 36) (q2 := 33) dX12_mends_30 (by decide) rfl (fun c5 => ?_) (fun c5 => ?_)
    · replace H := ine c5 H
      refine v_aload_n (q := 37) 0 dX12_mends_36 rfl rfl rfl ?_
      refine ur_arr (q := 40) rs rt34 dX12_mends_37 w1390 (Nat.le_of_ble_eq_true rfl) rfl rfl ?_
      refine v_iload_n (q := 41) 2 dX12_mends_40 rfl rfl rfl ?_
      refine v_iload_n (q := 42) 3 dX12_mends_41 rfl rfl rfl ?_
      replace H := bs H; obtain ⟨m6, m6e, H⟩ := H
      refine ur_wr (q := 43) rs rt34 m6e dX12_mends_42 rfl ?_
      replace H := bs H; obtain ⟨x7, x7e, H⟩ := H
      refine v_iinc (v := x7) (L' := [(2, .int x7), (0, .ref T), (1, .int u1), (3, .int s15.2.1)]) (q := 46) 2 dX12_mends_43 rfl (Option.some.inj x7e) (by decide) rfl rfl ?_
      exact V.sub [1, 2, 0, 3] rfl (sgjX12_mends_46 hd rs H kI kE)
    · replace H := ip c5 H
      refine v_goto (q := 46) dX12_mends_33 (by decide) ?_
      exact V.sub [0, 1, 2, 3] rfl (sgjX12_mends_46 hd rs H kI kE)
def gbX12_mends_54 (u1 : Int32) (u2 : Int32) (s54 : Int32 × Mem) : Option ((Int32 × Mem) ⊕ ((Mem) ⊕ (Int32 × Mem))) :=
if (4 : Int32) ≤ s54.1 then (
some (.inr (.inl s54.2))) else (
(some (up s54.2 0 35 (-1 : Int32))).bind fun m11 =>
(gX12_canMend m11 s54.1 (0 : Int32) u2).bind fun x12 =>
if x12.1 = 0 then (
(some (s54.1 + (1 : Int32))).bind fun x14 =>
some (.inl (x14, x12.2))) else (
some (.inr (.inr (s54.1, x12.2)))))
set_option maxRecDepth 20000 in
set_option maxHeartbeats 4000000 in
theorem sgbX12_mends_54 {Γ : Gm} {d : Nat} (hd : 7 ≤ d) {T : Nat} {h : Hp} (rs : RS T h) {u1 : Int32} {u2 : Int32} {s54 : Int32 × Mem} {r : (Int32 × Mem) ⊕ ((Mem) ⊕ (Int32 × Mem))} {t : Option Value × Hp} (H : gbX12_mends_54 u1 u2 s54 = some r) (kI : ∀ s, r = .inl s → (fun s54 => V Γ d mX12_mends 54 [(0, .ref T), (1, .int u1), (2, .int u2), (3, .int s54.1)] [] (hm T h s54.2) t) s) (kE : ∀ e, r = .inr e → (fun e => (match e with | .inl a0 => V Γ d mX12_mends 93 [] [] (hm T h a0) t | .inr b0 => V Γ d mX12_mends 74 [(0, .ref T), (1, .int u1), (3, .int b0.1)] [] (hm T h b0.2) t)) e) : V Γ d mX12_mends 54 [(0, .ref T), (1, .int u1), (2, .int u2), (3, .int s54.1)] [] (hm T h s54.2) t := by
  unfold gbX12_mends_54 at H
  refine v_iload_n (q := 55) 3 dX12_mends_54 rfl rfl rfl ?_
  refine v_iconst (v := 4) (q := 56) dX12_mends_55 (by decide) rfl ?_
  refine v_icmp_ge (q1 := 93) (q2 := 59) dX12_mends_56 (by decide) rfl (fun c10 => ?_) (fun c10 => ?_)
  · replace H := ip c10 H
    exact V.sub [] rfl (kE (.inl s54.2) (Option.some.inj H).symm)
  · replace H := ine c10 H
    refine v_aload_n (q := 60) 0 dX12_mends_59 rfl rfl rfl ?_
    refine v_iconst (v := -1) (q := 61) dX12_mends_60 (by decide) rfl ?_
    replace H := bs H; obtain ⟨m11, m11e, H⟩ := H
    refine ur_pI (q := 64) (k := 35) rs m11e dX12_mends_61 w1391 (Nat.le_of_ble_eq_true rfl) rfl rfl rfl ?_
    refine v_aload_n (q := 65) 0 dX12_mends_64 rfl rfl rfl ?_
    refine v_iload_n (q := 66) 3 dX12_mends_65 rfl rfl rfl ?_
    refine v_iconst (v := 0) (q := 67) dX12_mends_66 (by decide) rfl ?_
    refine v_iload_n (q := 68) 2 dX12_mends_67 rfl rfl rfl ?_
    replace H := bs H; obtain ⟨x12, x12e, H⟩ := H
    refine u_callV1 (M' := mX12_canMend) (d' := 6) (rc := (RX12, TX12, 58)) (As := [.int s54.1, .int (0 : Int32), .int u2]) (st := []) (q := 71) oX12_canMend dX12_mends_68 w1952 w1954 w0129 rfl rfl (RS.rc rs).1 (RS.rc rs).2 rfl (Nat.le_of_ble_eq_true rfl) (Nat.le_of_ble_eq_true rfl) (Nat.lt_of_lt_of_le (by decide) hd) rfl (sgX12_canMend (Nat.le_refl _) rs x12e) rfl ?_
    refine v_if_eq (q1 := 87) (q2 := 74) dX12_mends_71 (by decide) rfl (fun c13 => ?_) (fun c13 => ?_)
    · replace H := ip c13 H
      replace H := bs H; obtain ⟨x14, x14e, H⟩ := H
      refine v_iinc (v := x14) (L' := [(3, .int x14), (0, .ref T), (1, .int u1), (2, .int u2)]) (q := 90) 3 dX12_mends_87 rfl (Option.some.inj x14e) (by decide) rfl rfl ?_
      refine v_goto (q := 54) dX12_mends_90 (by decide) ?_
      exact V.sub [1, 2, 3, 0] rfl (kI (x14, x12.2) (Option.some.inj H).symm)
    · replace H := ine c13 H
      exact V.sub [0, 1, 3] rfl (kE (.inr (s54.1, x12.2)) (Option.some.inj H).symm)
def gjX12_mends_86 (y0 : Int32) (m : Mem) : Option (Int32 × Mem) :=
some (y0, m)
set_option maxRecDepth 20000 in
set_option maxHeartbeats 4000000 in
theorem sgjX12_mends_86 {Γ : Gm} {d : Nat} (hd : 7 ≤ d) {T : Nat} {h : Hp} (rs : RS T h) {y0 : Int32} {m : Mem} {r : Int32 × Mem} (H : gjX12_mends_86 y0 m = some r) : V Γ d mX12_mends 86 [] [.int y0] (hm T h m) (some (.int r.1), (hm T h r.2)) := by
  unfold gjX12_mends_86 at H
  cases H
  exact v_ireturn rfl dX12_mends_86
def gX12_mends (m : Mem) (v1 : Int32) : Option (Int32 × Mem) :=
(gX12_isIn v1 (0 : Int32) (1 : Int32)).bind fun x1 =>
if x1 = 0 then (
some (((-1 : Int32), m))) else (
(lp (gbX12_mends_15 v1) FU ((0 : Int32), (0 : Int32), m)).bind fun e9 =>
(lp (gbX12_mends_54 v1 e9.1) FU ((0 : Int32), e9.2)).bind fun e15 =>
(match e15 with
| .inl e16 => (
some (((-2 : Int32), e16)))
| .inr e17 => (
if v1 = 0 then (
gjX12_mends_86 e17.1 e17.2) else (
gjX12_mends_86 (e17.2 0 35) e17.2))))
set_option maxRecDepth 20000 in
set_option maxHeartbeats 4000000 in
theorem sgX12_mends {Γ : Gm} {d : Nat} (hd : 7 ≤ d) {T : Nat} {h : Hp} (rs : RS T h) {m : Mem} {v1 : Int32} {r : Int32 × Mem} (H : gX12_mends m v1 = some r) : V Γ d mX12_mends 0 [(0, .ref T), (1, .int v1)] [] (hm T h m) (some (.int r.1), (hm T h r.2)) := by
  unfold gX12_mends at H
  refine v_iload_n (q := 1) 1 dX12_mends_0 rfl rfl rfl ?_
  refine v_iconst (v := 0) (q := 2) dX12_mends_1 (by decide) rfl ?_
  refine v_iconst (v := 1) (q := 3) dX12_mends_2 (by decide) rfl ?_
  replace H := bs H; obtain ⟨x1, x1e, H⟩ := H
  refine u_callS1 (M' := mX12_isIn) (d' := 1) (As := [.int v1, .int (0 : Int32), .int (1 : Int32)]) (st := []) (q := 6) oX12_isIn dX12_mends_3 w1618 w1619 rfl (Nat.le_of_ble_eq_true rfl) (Nat.le_of_ble_eq_true rfl) (Nat.lt_of_lt_of_le (by decide) hd) rfl (sgX12_isIn (Nat.le_refl _) x1e) rfl ?_
  refine v_if_ne (q1 := 11) (q2 := 9) dX12_mends_6 (by decide) rfl (fun c2 => ?_) (fun c2 => ?_)
  · replace H := ine c2 H
    refine v_iconst (v := 0) (q := 12) dX12_mends_11 (by decide) rfl ?_
    refine v_istore_n (L' := [(2, .int (0 : Int32)), (0, .ref T), (1, .int v1)]) (q := 13) dX12_mends_12 rfl (by decide) rfl rfl ?_
    refine v_iconst (v := 0) (q := 14) dX12_mends_13 (by decide) rfl ?_
    refine v_istore_n (L' := [(3, .int (0 : Int32)), (2, .int (0 : Int32)), (0, .ref T), (1, .int v1)]) (q := 15) dX12_mends_14 rfl (by decide) rfl rfl ?_
    replace H := bs H; obtain ⟨e9, e9L, H⟩ := H
    refine V.sub [2, 3, 1, 0] rfl ?_
    refine lp_V (P := (fun s15 => V Γ d mX12_mends 15 [(0, .ref T), (1, .int v1), (2, .int s15.1), (3, .int s15.2.1)] [] (hm T h s15.2.2) (some (.int r.1), (hm T h r.2)))) (E := (fun e => V Γ d mX12_mends 52 [(0, .ref T), (1, .int v1), (2, .int e.1)] [] (hm T h e.2) (some (.int r.1), (hm T h r.2)))) (fun s r hb kI kE => sgbX12_mends_15 hd rs (s15 := s) (r := r) hb kI kE) FU ((0 : Int32), (0 : Int32), m) e9 e9L ?_
    refine v_iconst (v := 0) (q := 53) dX12_mends_52 (by decide) rfl ?_
    refine v_istore_n (L' := [(3, .int (0 : Int32)), (0, .ref T), (1, .int v1), (2, .int e9.1)]) (q := 54) dX12_mends_53 rfl (by decide) rfl rfl ?_
    replace H := bs H; obtain ⟨e15, e15L, H⟩ := H
    refine V.sub [1, 2, 3, 0] rfl ?_
    refine lp_V (P := (fun s54 => V Γ d mX12_mends 54 [(0, .ref T), (1, .int v1), (2, .int e9.1), (3, .int s54.1)] [] (hm T h s54.2) (some (.int r.1), (hm T h r.2)))) (E := (fun e => (match e with | .inl a0 => V Γ d mX12_mends 93 [] [] (hm T h a0) (some (.int r.1), (hm T h r.2)) | .inr b0 => V Γ d mX12_mends 74 [(0, .ref T), (1, .int v1), (3, .int b0.1)] [] (hm T h b0.2) (some (.int r.1), (hm T h r.2))))) (fun s r hb kI kE => sgbX12_mends_54 hd rs (s54 := s) (r := r) hb kI kE) FU ((0 : Int32), e9.2) e15 e15L ?_
    rcases e15 with e16 | e17
    · skip
      refine v_bipush (v := -2) (q := 95) dX12_mends_93 (by decide) rfl ?_
      cases H
      exact v_ireturn rfl dX12_mends_95
    · skip
      refine v_iload_n (q := 75) 1 dX12_mends_74 rfl rfl rfl ?_
      refine v_if_ne (q1 := 82) (q2 := 78) dX12_mends_75 (by decide) rfl (fun c18 => ?_) (fun c18 => ?_)
      · replace H := ine c18 H
        refine v_aload_n (q := 83) 0 dX12_mends_82 rfl rfl rfl ?_
        refine ur_gI (q := 86) (x := 0) (k := 35) rs dX12_mends_83 w1391 (Nat.le_of_ble_eq_true rfl) rfl rfl ?_
        exact V.sub [] rfl (sgjX12_mends_86 hd rs H)
      · replace H := ip c18 H
        refine v_iload_n (q := 79) 2 dX12_mends_78 rfl rfl rfl ?_
        refine v_goto (q := 86) dX12_mends_79 (by decide) ?_
        exact V.sub [] rfl (sgjX12_mends_86 hd rs H)
  · replace H := ip c2 H
    refine v_iconst (v := -1) (q := 10) dX12_mends_9 (by decide) rfl ?_
    cases H
    exact v_ireturn rfl dX12_mends_10
def mX12_missed : MI := (yX12_missed, cX12_missed, 4, some .int)
theorem oX12_missed : mOK mX12_missed 0 := ⟨by decide +kernel, by decide +kernel, by decide +kernel, by decide, w1991, w0150⟩
def gjX12_missed_53 (u1 : Int32) (v3 : Int32) (y0 : Int32) (y1 : Int32) (m : Mem) : Option ((Int32 × Int32) ⊕ (Int32)) :=
(some (y1 + y0)).bind fun x8 =>
(some (v3 + (1 : Int32))).bind fun x9 =>
some (.inl (x8, x9))
set_option maxRecDepth 20000 in
set_option maxHeartbeats 4000000 in
theorem sgjX12_missed_53 {Γ : Gm} {d : Nat} (hd : 11 ≤ d) {T : Nat} {h : Hp} (rs : RS T h) {u1 : Int32} {v3 : Int32} {y0 : Int32} {y1 : Int32} {m : Mem} {r : (Int32 × Int32) ⊕ (Int32)} {t : Option Value × Hp} (H : gjX12_missed_53 u1 v3 y0 y1 m = some r) (kI : ∀ s, r = .inl s → (fun s18 => V Γ d mX12_missed 18 [(0, .ref T), (1, .int u1), (2, .int s18.1), (3, .int s18.2)] [] (hm T h m) t) s) (kE : ∀ e, r = .inr e → (fun e => V Γ d mX12_missed 61 [(2, .int e)] [] (hm T h m) t) e) : V Γ d mX12_missed 53 [(0, .ref T), (1, .int u1), (3, .int v3)] [.int y0, .int y1] (hm T h m) t := by
  unfold gjX12_missed_53 at H
  refine v_iadd (q := 54) dX12_missed_53 rfl ?_
  replace H := bs H; obtain ⟨x8, x8e, H⟩ := H
  refine v_topi (Option.some.inj x8e) ?_
  refine v_istore_n (L' := [(2, .int x8), (0, .ref T), (1, .int u1), (3, .int v3)]) (q := 55) dX12_missed_54 rfl (by decide) rfl rfl ?_
  replace H := bs H; obtain ⟨x9, x9e, H⟩ := H
  refine v_iinc (v := x9) (L' := [(3, .int x9), (2, .int x8), (0, .ref T), (1, .int u1)]) (q := 58) 3 dX12_missed_55 rfl (Option.some.inj x9e) (by decide) rfl rfl ?_
  refine v_goto (q := 18) dX12_missed_58 (by decide) ?_
  exact V.sub [2, 3, 1, 0] rfl (kI (x8, x9) (Option.some.inj H).symm)
def gjX12_missed_52 (u1 : Int32) (v3 : Int32) (y0 : Int32) (m : Mem) : Option ((Int32 × Int32) ⊕ (Int32)) :=
gjX12_missed_53 u1 v3 (0 : Int32) y0 m
set_option maxRecDepth 20000 in
set_option maxHeartbeats 4000000 in
theorem sgjX12_missed_52 {Γ : Gm} {d : Nat} (hd : 11 ≤ d) {T : Nat} {h : Hp} (rs : RS T h) {u1 : Int32} {v3 : Int32} {y0 : Int32} {m : Mem} {r : (Int32 × Int32) ⊕ (Int32)} {t : Option Value × Hp} (H : gjX12_missed_52 u1 v3 y0 m = some r) (kI : ∀ s, r = .inl s → (fun s18 => V Γ d mX12_missed 18 [(0, .ref T), (1, .int u1), (2, .int s18.1), (3, .int s18.2)] [] (hm T h m) t) s) (kE : ∀ e, r = .inr e → (fun e => V Γ d mX12_missed 61 [(2, .int e)] [] (hm T h m) t) e) : V Γ d mX12_missed 52 [(0, .ref T), (1, .int u1), (3, .int v3)] [.int y0] (hm T h m) t := by
  unfold gjX12_missed_52 at H
  refine v_iconst (v := 0) (q := 53) dX12_missed_52 (by decide) rfl ?_
  exact V.sub [0, 1, 2] rfl (sgjX12_missed_53 hd rs H kI kE)
def gbX12_missed_18 (u1 : Int32) (m : Mem) (s18 : Int32 × Int32) : Option ((Int32 × Int32) ⊕ (Int32)) :=
if (10 : Int32) ≤ s18.2 then (
some (.inr s18.1)) else (
(gX12_ringLocks m).bind fun x5 =>
(gX12_has x5 s18.2).bind fun x6 =>
if x6 = 0 then (
gjX12_missed_52 u1 s18.2 s18.1 m) else (
(gX12_kind m s18.2).bind fun x10 =>
(gX12_has u1 x10).bind fun x11 =>
if x11 = 0 then (
gjX12_missed_53 u1 s18.2 (1 : Int32) s18.1 m) else (
gjX12_missed_52 u1 s18.2 s18.1 m)))
set_option maxRecDepth 20000 in
set_option maxHeartbeats 4000000 in
theorem sgbX12_missed_18 {Γ : Gm} {d : Nat} (hd : 11 ≤ d) {T : Nat} {h : Hp} (rs : RS T h) {u1 : Int32} {m : Mem} {s18 : Int32 × Int32} {r : (Int32 × Int32) ⊕ (Int32)} {t : Option Value × Hp} (H : gbX12_missed_18 u1 m s18 = some r) (kI : ∀ s, r = .inl s → (fun s18 => V Γ d mX12_missed 18 [(0, .ref T), (1, .int u1), (2, .int s18.1), (3, .int s18.2)] [] (hm T h m) t) s) (kE : ∀ e, r = .inr e → (fun e => V Γ d mX12_missed 61 [(2, .int e)] [] (hm T h m) t) e) : V Γ d mX12_missed 18 [(0, .ref T), (1, .int u1), (2, .int s18.1), (3, .int s18.2)] [] (hm T h m) t := by
  unfold gbX12_missed_18 at H
  refine v_iload_n (q := 19) 3 dX12_missed_18 rfl rfl rfl ?_
  refine v_bipush (v := 10) (q := 21) dX12_missed_19 (by decide) rfl ?_
  refine v_icmp_ge (q1 := 61) (q2 := 24) dX12_missed_21 (by decide) rfl (fun c4 => ?_) (fun c4 => ?_)
  · replace H := ip c4 H
    exact V.sub [2] rfl (kE s18.1 (Option.some.inj H).symm)
  · replace H := ine c4 H
    refine v_iload_n (q := 25) 2 dX12_missed_24 rfl rfl rfl ?_
    refine v_aload_n (q := 26) 0 dX12_missed_25 rfl rfl rfl ?_
    replace H := bs H; obtain ⟨x5, x5e, H⟩ := H
    refine u_callV1 (M' := mX12_ringLocks) (d' := 1) (rc := (RX12, TX12, 58)) (As := []) (st := [.int s18.1]) (q := 29) oX12_ringLocks dX12_missed_26 w1925 w1927 w0126 rfl rfl (RS.rc rs).1 (RS.rc rs).2 rfl (Nat.le_of_ble_eq_true rfl) (Nat.le_of_ble_eq_true rfl) (Nat.lt_of_lt_of_le (by decide) hd) rfl (sgX12_ringLocks (Nat.le_refl _) rs x5e) rfl ?_
    refine v_iload_n (q := 30) 3 dX12_missed_29 rfl rfl rfl ?_
    replace H := bs H; obtain ⟨x6, x6e, H⟩ := H
    refine u_callS1 (M' := mX12_has) (d' := 1) (As := [.int x5, .int s18.2]) (st := [.int s18.1]) (q := 33) oX12_has dX12_missed_30 w1846 w1847 rfl (Nat.le_of_ble_eq_true rfl) (Nat.le_of_ble_eq_true rfl) (Nat.lt_of_lt_of_le (by decide) hd) rfl (sgX12_has (Nat.le_refl _) x6e) rfl ?_
    refine v_if_eq (q1 := 52) (q2 := 36) dX12_missed_33 (by decide) rfl (fun c7 => ?_) (fun c7 => ?_)
    · replace H := ip c7 H
      exact V.sub [0, 1, 3] rfl (sgjX12_missed_52 hd rs H kI kE)
    · replace H := ine c7 H
      refine v_iload_n (q := 37) 1 dX12_missed_36 rfl rfl rfl ?_
      refine v_aload_n (q := 38) 0 dX12_missed_37 rfl rfl rfl ?_
      refine v_iload_n (q := 39) 3 dX12_missed_38 rfl rfl rfl ?_
      replace H := bs H; obtain ⟨x10, x10e, H⟩ := H
      refine u_callV1 (M' := mX12_kind) (d' := 1) (rc := (RX12, TX12, 58)) (As := [.int s18.2]) (st := [.int u1, .int s18.1]) (q := 42) oX12_kind dX12_missed_39 w1673 w1675 w0081 rfl rfl (RS.rc rs).1 (RS.rc rs).2 rfl (Nat.le_of_ble_eq_true rfl) (Nat.le_of_ble_eq_true rfl) (Nat.lt_of_lt_of_le (by decide) hd) rfl (sgX12_kind (Nat.le_refl _) rs x10e) rfl ?_
      replace H := bs H; obtain ⟨x11, x11e, H⟩ := H
      refine u_callS1 (M' := mX12_has) (d' := 1) (As := [.int u1, .int x10]) (st := [.int s18.1]) (q := 45) oX12_has dX12_missed_42 w1846 w1847 rfl (Nat.le_of_ble_eq_true rfl) (Nat.le_of_ble_eq_true rfl) (Nat.lt_of_lt_of_le (by decide) hd) rfl (sgX12_has (Nat.le_refl _) x11e) rfl ?_
      refine v_if_ne (q1 := 52) (q2 := 48) dX12_missed_45 (by decide) rfl (fun c12 => ?_) (fun c12 => ?_)
      · replace H := ine c12 H
        exact V.sub [0, 1, 3] rfl (sgjX12_missed_52 hd rs H kI kE)
      · replace H := ip c12 H
        refine v_iconst (v := 1) (q := 49) dX12_missed_48 (by decide) rfl ?_
        refine v_goto (q := 53) dX12_missed_49 (by decide) ?_
        exact V.sub [0, 1, 3] rfl (sgjX12_missed_53 hd rs H kI kE)
def gX12_missed (m : Mem)  : Option (Int32 × Mem) :=
(gX12_kindsTold m).bind fun x1 =>
(gX12_leastNow x1.2).bind fun x2 =>
if x2.1 = 0 then (
some (((0 : Int32), x2.2))) else (
(lp (gbX12_missed_18 x1.1 x2.2) FU ((0 : Int32), (0 : Int32))).bind fun e13 =>
some (e13, x2.2))
set_option maxRecDepth 20000 in
set_option maxHeartbeats 4000000 in
theorem sgX12_missed {Γ : Gm} {d : Nat} (hd : 11 ≤ d) {T : Nat} {h : Hp} (rs : RS T h) {m : Mem}  {r : Int32 × Mem} (H : gX12_missed m  = some r) : V Γ d mX12_missed 0 [(0, .ref T)] [] (hm T h m) (some (.int r.1), (hm T h r.2)) := by
  unfold gX12_missed at H
  refine v_aload_n (q := 1) 0 dX12_missed_0 rfl rfl rfl ?_
  replace H := bs H; obtain ⟨x1, x1e, H⟩ := H
  refine u_callV1 (M' := mX12_kindsTold) (d' := 9) (rc := (RX12, TX12, 58)) (As := []) (st := []) (q := 4) oX12_kindsTold dX12_missed_1 w1992 w1994 w0133 rfl rfl (RS.rc rs).1 (RS.rc rs).2 rfl (Nat.le_of_ble_eq_true rfl) (Nat.le_of_ble_eq_true rfl) (Nat.lt_of_lt_of_le (by decide) hd) rfl (sgX12_kindsTold (Nat.le_refl _) rs x1e) rfl ?_
  refine v_istore_n (L' := [(1, .int x1.1), (0, .ref T)]) (q := 5) dX12_missed_4 rfl (by decide) rfl rfl ?_
  refine v_aload_n (q := 6) 1 dX12_missed_5 rfl rfl rfl ?_
  replace H := bs H; obtain ⟨x2, x2e, H⟩ := H
  refine u_callV1 (M' := mX12_leastNow) (d' := 10) (rc := (RX12, TX12, 58)) (As := []) (st := []) (q := 9) oX12_leastNow dX12_missed_6 w1981 w1983 w0132 rfl rfl (RS.rc rs).1 (RS.rc rs).2 rfl (Nat.le_of_ble_eq_true rfl) (Nat.le_of_ble_eq_true rfl) (Nat.lt_of_lt_of_le (by decide) hd) rfl (sgX12_leastNow (Nat.le_refl _) rs x2e) rfl ?_
  refine v_if_ne (q1 := 14) (q2 := 12) dX12_missed_9 (by decide) rfl (fun c3 => ?_) (fun c3 => ?_)
  · replace H := ine c3 H
    refine v_iconst (v := 0) (q := 15) dX12_missed_14 (by decide) rfl ?_
    refine v_istore_n (L' := [(2, .int (0 : Int32)), (1, .int x1.1), (0, .ref T)]) (q := 16) dX12_missed_15 rfl (by decide) rfl rfl ?_
    refine v_iconst (v := 0) (q := 17) dX12_missed_16 (by decide) rfl ?_
    refine v_istore_n (L' := [(3, .int (0 : Int32)), (2, .int (0 : Int32)), (1, .int x1.1), (0, .ref T)]) (q := 18) dX12_missed_17 rfl (by decide) rfl rfl ?_
    replace H := bs H; obtain ⟨e13, e13L, H⟩ := H
    refine V.sub [3, 2, 1, 0] rfl ?_
    refine lp_V (P := (fun s18 => V Γ d mX12_missed 18 [(0, .ref T), (1, .int x1.1), (2, .int s18.1), (3, .int s18.2)] [] (hm T h x2.2) (some (.int r.1), (hm T h r.2)))) (E := (fun e => V Γ d mX12_missed 61 [(2, .int e)] [] (hm T h x2.2) (some (.int r.1), (hm T h r.2)))) (fun s r hb kI kE => sgbX12_missed_18 hd rs (s18 := s) (r := r) hb kI kE) FU ((0 : Int32), (0 : Int32)) e13 e13L ?_
    refine v_iload_n (q := 62) 0 dX12_missed_61 rfl rfl rfl ?_
    cases H
    exact v_ireturn rfl dX12_missed_62
  · replace H := ip c3 H
    refine v_iconst (v := 0) (q := 13) dX12_missed_12 (by decide) rfl ?_
    cases H
    exact v_ireturn rfl dX12_missed_13
def mX12_more : MI := (yX12_more, cX12_more, 2, some .int)
theorem oX12_more : mOK mX12_more 2 := ⟨by decide +kernel, by decide +kernel, by decide +kernel, by decide, w1935, w0150⟩
def gjX12_more_10 (y0 : Int32) : Option (Int32) :=
some y0
set_option maxRecDepth 20000 in
set_option maxHeartbeats 4000000 in
theorem sgjX12_more_10 {Γ : Gm} {d : Nat} (hd : 1 ≤ d) {h : Hp} {y0 : Int32} {r : Int32} (H : gjX12_more_10 y0 = some r) : V Γ d mX12_more 10 [] [.int y0] h (some (.int r), h) := by
  unfold gjX12_more_10 at H
  cases H
  exact v_ireturn rfl dX12_more_10
def gX12_more (v0 : Int32) (v1 : Int32) : Option (Int32) :=
if v0 ≤ v1 then (
gjX12_more_10 v1) else (
gjX12_more_10 v0)
set_option maxRecDepth 20000 in
set_option maxHeartbeats 4000000 in
theorem sgX12_more {Γ : Gm} {d : Nat} (hd : 1 ≤ d) {h : Hp} {v0 : Int32} {v1 : Int32} {r : Int32} (H : gX12_more v0 v1 = some r) : V Γ d mX12_more 0 [(0, .int v0), (1, .int v1)] [] h (some (.int r), h) := by
  unfold gX12_more at H
  refine v_iload_n (q := 1) 0 dX12_more_0 rfl rfl rfl ?_
  refine v_iload_n (q := 2) 1 dX12_more_1 rfl rfl rfl ?_
  refine v_icmp_le (q1 := 9) (q2 := 5) dX12_more_2 (by decide) rfl (fun c1 => ?_) (fun c1 => ?_)
  · replace H := ip c1 H
    refine v_iload_n (q := 10) 1 dX12_more_9 rfl rfl rfl ?_
    exact V.sub [] rfl (sgjX12_more_10 hd H)
  · replace H := ine c1 H
    refine v_iload_n (q := 6) 0 dX12_more_5 rfl rfl rfl ?_
    refine v_goto (q := 10) dX12_more_6 (by decide) ?_
    exact V.sub [] rfl (sgjX12_more_10 hd H)
def mX12_move : MI := (yX12_move, cX12_move, 7, some .int)
theorem oX12_move : mOK mX12_move 3 := ⟨by decide +kernel, by decide +kernel, by decide +kernel, by decide, w1972, w0150⟩
def gjX12_move_32 (m : Mem) : Option (Int32 × Mem) :=
some (((-2 : Int32), m))
set_option maxRecDepth 20000 in
set_option maxHeartbeats 4000000 in
theorem sgjX12_move_32 {Γ : Gm} {d : Nat} (hd : 9 ≤ d) {T : Nat} {h : Hp} (rs : RS T h) {m : Mem} {r : Int32 × Mem} (H : gjX12_move_32 m = some r) : V Γ d mX12_move 32 [] [] (hm T h m) (some (.int r.1), (hm T h r.2)) := by
  unfold gjX12_move_32 at H
  refine v_bipush (v := -2) (q := 34) dX12_move_32 (by decide) rfl ?_
  cases H
  exact v_ireturn rfl dX12_move_34
def gbX12_move_72 (u2 : Int32) (u3 : Int32) (m : Mem) (s72 : Int32 × Int32) : Option ((Int32 × Int32) ⊕ (Int32)) :=
if s72.2 ≤ u2 then (
some (.inr s72.1)) else (
(rd m 28 4001 s72.1).bind fun x14 =>
(some (s72.2 + (-1 : Int32))).bind fun x15 =>
some (.inl (x14, x15)))
set_option maxRecDepth 20000 in
set_option maxHeartbeats 4000000 in
theorem sgbX12_move_72 {Γ : Gm} {d : Nat} (hd : 9 ≤ d) {T : Nat} {h : Hp} (rs : RS T h) {u2 : Int32} {u3 : Int32} {m : Mem} {s72 : Int32 × Int32} {r : (Int32 × Int32) ⊕ (Int32)} {t : Option Value × Hp} (H : gbX12_move_72 u2 u3 m s72 = some r) (kI : ∀ s, r = .inl s → (fun s72 => V Γ d mX12_move 72 [(0, .ref T), (2, .int u2), (3, .int u3), (5, .int s72.1), (6, .int s72.2)] [] (hm T h m) t) s) (kE : ∀ e, r = .inr e → (fun e => V Γ d mX12_move 93 [(0, .ref T), (3, .int u3), (5, .int e)] [] (hm T h m) t) e) : V Γ d mX12_move 72 [(0, .ref T), (2, .int u2), (3, .int u3), (5, .int s72.1), (6, .int s72.2)] [] (hm T h m) t := by
  unfold gbX12_move_72 at H
  refine v_iload (q := 74) 4 dX12_move_72 rfl rfl ?_
  refine v_iload_n (q := 75) 1 dX12_move_74 rfl rfl rfl ?_
  refine v_icmp_le (q1 := 93) (q2 := 78) dX12_move_75 (by decide) rfl (fun c13 => ?_) (fun c13 => ?_)
  · replace H := ip c13 H
    exact V.sub [0, 2, 3] rfl (kE s72.1 (Option.some.inj H).symm)
  · replace H := ine c13 H
    refine v_aload_n (q := 79) 0 dX12_move_78 rfl rfl rfl ?_
    refine ur_arr (q := 82) rs rt42 dX12_move_79 w1398 (Nat.le_of_ble_eq_true rfl) rfl rfl ?_
    refine v_iload (q := 84) 3 dX12_move_82 rfl rfl ?_
    replace H := bs H; obtain ⟨x14, x14e, H⟩ := H
    refine ur_rd (q := 85) rs rt42 x14e dX12_move_84 rfl ?_
    refine v_istore (L' := [(5, .int x14), (0, .ref T), (2, .int u2), (3, .int u3), (6, .int s72.2)]) (q := 87) dX12_move_85 (by decide) rfl rfl ?_
    replace H := bs H; obtain ⟨x15, x15e, H⟩ := H
    refine v_iinc (v := x15) (L' := [(6, .int x15), (5, .int x14), (0, .ref T), (2, .int u2), (3, .int u3)]) (q := 90) 4 dX12_move_87 rfl (Option.some.inj x15e) (by decide) rfl rfl ?_
    refine v_goto (q := 72) dX12_move_90 (by decide) ?_
    exact V.sub [2, 3, 4, 1, 0] rfl (kI (x14, x15) (Option.some.inj H).symm)
def gjX12_move_114 (y0 : Int32) (m : Mem) : Option (Int32 × Mem) :=
some (y0, m)
set_option maxRecDepth 20000 in
set_option maxHeartbeats 4000000 in
theorem sgjX12_move_114 {Γ : Gm} {d : Nat} (hd : 9 ≤ d) {T : Nat} {h : Hp} (rs : RS T h) {y0 : Int32} {m : Mem} {r : Int32 × Mem} (H : gjX12_move_114 y0 m = some r) : V Γ d mX12_move 114 [] [.int y0] (hm T h m) (some (.int r.1), (hm T h r.2)) := by
  unfold gjX12_move_114 at H
  cases H
  exact v_ireturn rfl dX12_move_114
def gX12_move (m : Mem) (v1 : Int32) (v2 : Int32) (v3 : Int32) : Option (Int32 × Mem) :=
(gX12_isSet m v1).bind fun x1 =>
if x1 = 0 then (
gjX12_move_32 m) else (
(gX12_isIn v3 (0 : Int32) (1 : Int32)).bind fun x3 =>
if x3 = 0 then (
gjX12_move_32 m) else (
(gX12_search m v1).bind fun x5 =>
if x5.1 = 0 then (
gjX12_move_32 x5.2) else (
if 0 ≤ (x5.2 0 47) then (
(gX12_movesTo x5.2 (x5.2 0 47)).bind fun x8 =>
(gX12_isIn v2 (0 : Int32) (x8 - (1 : Int32))).bind fun x9 =>
if x9 = 0 then (
some (((-2 : Int32), x5.2))) else (
(some (x5.2 0 47)).bind fun x11 =>
(some (x8 - (1 : Int32))).bind fun x12 =>
(lp (gbX12_move_72 v2 v3 x5.2) FU (x11, x12)).bind fun e16 =>
if v3 = 0 then (
(rd x5.2 29 4001 e16).bind fun x19 =>
gjX12_move_114 x19 x5.2) else (
(rd x5.2 30 4001 e16).bind fun x18 =>
gjX12_move_114 x18 x5.2))) else (
gjX12_move_32 x5.2))))
set_option maxRecDepth 20000 in
set_option maxHeartbeats 4000000 in
theorem sgX12_move {Γ : Gm} {d : Nat} (hd : 9 ≤ d) {T : Nat} {h : Hp} (rs : RS T h) {m : Mem} {v1 : Int32} {v2 : Int32} {v3 : Int32} {r : Int32 × Mem} (H : gX12_move m v1 v2 v3 = some r) : V Γ d mX12_move 0 [(0, .ref T), (1, .int v1), (2, .int v2), (3, .int v3)] [] (hm T h m) (some (.int r.1), (hm T h r.2)) := by
  unfold gX12_move at H
  refine v_aload_n (q := 1) 0 dX12_move_0 rfl rfl rfl ?_
  refine v_iload_n (q := 2) 1 dX12_move_1 rfl rfl rfl ?_
  replace H := bs H; obtain ⟨x1, x1e, H⟩ := H
  refine u_callV1 (M' := mX12_isSet) (d' := 3) (rc := (RX12, TX12, 58)) (As := [.int v1]) (st := []) (q := 5) oX12_isSet dX12_move_2 w1842 w1844 w0106 rfl rfl (RS.rc rs).1 (RS.rc rs).2 rfl (Nat.le_of_ble_eq_true rfl) (Nat.le_of_ble_eq_true rfl) (Nat.lt_of_lt_of_le (by decide) hd) rfl (sgX12_isSet (Nat.le_refl _) rs x1e) rfl ?_
  refine v_if_eq (q1 := 32) (q2 := 8) dX12_move_5 (by decide) rfl (fun c2 => ?_) (fun c2 => ?_)
  · replace H := ip c2 H
    exact V.sub [] rfl (sgjX12_move_32 hd rs H)
  · replace H := ine c2 H
    refine v_iload_n (q := 9) 3 dX12_move_8 rfl rfl rfl ?_
    refine v_iconst (v := 0) (q := 10) dX12_move_9 (by decide) rfl ?_
    refine v_iconst (v := 1) (q := 11) dX12_move_10 (by decide) rfl ?_
    replace H := bs H; obtain ⟨x3, x3e, H⟩ := H
    refine u_callS1 (M' := mX12_isIn) (d' := 1) (As := [.int v3, .int (0 : Int32), .int (1 : Int32)]) (st := []) (q := 14) oX12_isIn dX12_move_11 w1618 w1619 rfl (Nat.le_of_ble_eq_true rfl) (Nat.le_of_ble_eq_true rfl) (Nat.lt_of_lt_of_le (by decide) hd) rfl (sgX12_isIn (Nat.le_refl _) x3e) rfl ?_
    refine v_if_eq (q1 := 32) (q2 := 17) dX12_move_14 (by decide) rfl (fun c4 => ?_) (fun c4 => ?_)
    · replace H := ip c4 H
      exact V.sub [] rfl (sgjX12_move_32 hd rs H)
    · replace H := ine c4 H
      refine v_aload_n (q := 18) 0 dX12_move_17 rfl rfl rfl ?_
      refine v_iload_n (q := 19) 1 dX12_move_18 rfl rfl rfl ?_
      replace H := bs H; obtain ⟨x5, x5e, H⟩ := H
      refine u_callV1 (M' := mX12_search) (d' := 8) (rc := (RX12, TX12, 58)) (As := [.int v1]) (st := []) (q := 22) oX12_search dX12_move_19 w1849 w1851 w0107 rfl rfl (RS.rc rs).1 (RS.rc rs).2 rfl (Nat.le_of_ble_eq_true rfl) (Nat.le_of_ble_eq_true rfl) (Nat.lt_of_lt_of_le (by decide) hd) rfl (sgX12_search (Nat.le_refl _) rs x5e) rfl ?_
      refine v_if_eq (q1 := 32) (q2 := 25) dX12_move_22 (by decide) rfl (fun c6 => ?_) (fun c6 => ?_)
      · replace H := ip c6 H
        exact V.sub [] rfl (sgjX12_move_32 hd rs H)
      · replace H := ine c6 H
        refine v_aload_n (q := 26) 0 dX12_move_25 rfl rfl rfl ?_
        refine ur_gI (q := 29) (x := 0) (k := 47) rs dX12_move_26 w1403 (Nat.le_of_ble_eq_true rfl) rfl rfl ?_
        refine v_if_ge (q1 := 35) (q2 := 32) dX12_move_29 (by decide) rfl (fun c7 => ?_) (fun c7 => ?_)
        · replace H := ip c7 H
          refine v_aload_n (q := 36) 0 dX12_move_35 rfl rfl rfl ?_
          refine v_aload_n (q := 37) 0 dX12_move_36 rfl rfl rfl ?_
          refine ur_gI (q := 40) (x := 0) (k := 47) rs dX12_move_37 w1403 (Nat.le_of_ble_eq_true rfl) rfl rfl ?_
          replace H := bs H; obtain ⟨x8, x8e, H⟩ := H
          refine u_callV1 (M' := mX12_movesTo) (d' := 1) (rc := (RX12, TX12, 58)) (As := [.int (x5.2 0 47)]) (st := []) (q := 43) oX12_movesTo dX12_move_40 w1917 w1919 w0124 rfl rfl (RS.rc rs).1 (RS.rc rs).2 rfl (Nat.le_of_ble_eq_true rfl) (Nat.le_of_ble_eq_true rfl) (Nat.lt_of_lt_of_le (by decide) hd) rfl (sgX12_movesTo (Nat.le_refl _) rs x8e) rfl ?_
          refine v_istore (L' := [(4, .int x8), (0, .ref T), (1, .int v1), (2, .int v2), (3, .int v3)]) (q := 45) dX12_move_43 (by decide) rfl rfl ?_
          refine v_iload_n (q := 46) 3 dX12_move_45 rfl rfl rfl ?_
          refine v_iconst (v := 0) (q := 47) dX12_move_46 (by decide) rfl ?_
          refine v_iload (q := 49) 0 dX12_move_47 rfl rfl ?_
          refine v_iconst (v := 1) (q := 50) dX12_move_49 (by decide) rfl ?_
          refine v_isub (q := 51) dX12_move_50 rfl ?_
          replace H := bs H; obtain ⟨x9, x9e, H⟩ := H
          refine u_callS1 (M' := mX12_isIn) (d' := 1) (As := [.int v2, .int (0 : Int32), .int (x8 - (1 : Int32))]) (st := []) (q := 54) oX12_isIn dX12_move_51 w1618 w1619 rfl (Nat.le_of_ble_eq_true rfl) (Nat.le_of_ble_eq_true rfl) (Nat.lt_of_lt_of_le (by decide) hd) rfl (sgX12_isIn (Nat.le_refl _) x9e) rfl ?_
          refine v_if_ne (q1 := 60) (q2 := 57) dX12_move_54 (by decide) rfl (fun c10 => ?_) (fun c10 => ?_)
          · replace H := ine c10 H
            refine v_aload_n (q := 61) 1 dX12_move_60 rfl rfl rfl ?_
            refine ur_gI (q := 64) (x := 0) (k := 47) rs dX12_move_61 w1403 (Nat.le_of_ble_eq_true rfl) rfl rfl ?_
            replace H := bs H; obtain ⟨x11, x11e, H⟩ := H
            refine v_topi (Option.some.inj x11e) ?_
            refine v_istore (L' := [(5, .int x11), (4, .int x8), (0, .ref T), (1, .int v1), (2, .int v2), (3, .int v3)]) (q := 66) dX12_move_64 (by decide) rfl rfl ?_
            refine v_iload (q := 68) 1 dX12_move_66 rfl rfl ?_
            refine v_iconst (v := 1) (q := 69) dX12_move_68 (by decide) rfl ?_
            refine v_isub (q := 70) dX12_move_69 rfl ?_
            replace H := bs H; obtain ⟨x12, x12e, H⟩ := H
            refine v_topi (Option.some.inj x12e) ?_
            refine v_istore (L' := [(6, .int x12), (5, .int x11), (4, .int x8), (0, .ref T), (1, .int v1), (2, .int v2), (3, .int v3)]) (q := 72) dX12_move_70 (by decide) rfl rfl ?_
            replace H := bs H; obtain ⟨e16, e16L, H⟩ := H
            refine V.sub [3, 5, 6, 1, 0] rfl ?_
            refine lp_V (P := (fun s72 => V Γ d mX12_move 72 [(0, .ref T), (2, .int v2), (3, .int v3), (5, .int s72.1), (6, .int s72.2)] [] (hm T h x5.2) (some (.int r.1), (hm T h r.2)))) (E := (fun e => V Γ d mX12_move 93 [(0, .ref T), (3, .int v3), (5, .int e)] [] (hm T h x5.2) (some (.int r.1), (hm T h r.2)))) (fun s r hb kI kE => sgbX12_move_72 hd rs (s72 := s) (r := r) hb kI kE) FU (x11, x12) e16 e16L ?_
            refine v_iload_n (q := 94) 1 dX12_move_93 rfl rfl rfl ?_
            refine v_if_ne (q1 := 107) (q2 := 97) dX12_move_94 (by decide) rfl (fun c17 => ?_) (fun c17 => ?_)
            · replace H := ine c17 H
              refine v_aload_n (q := 108) 0 dX12_move_107 rfl rfl rfl ?_
              refine ur_arr (q := 111) rs rt44 dX12_move_108 w1400 (Nat.le_of_ble_eq_true rfl) rfl rfl ?_
              refine v_iload (q := 113) 2 dX12_move_111 rfl rfl ?_
              replace H := bs H; obtain ⟨x18, x18e, H⟩ := H
              refine ur_rd (q := 114) rs rt44 x18e dX12_move_113 rfl ?_
              exact V.sub [] rfl (sgjX12_move_114 hd rs H)
            · replace H := ip c17 H
              refine v_aload_n (q := 98) 0 dX12_move_97 rfl rfl rfl ?_
              refine ur_arr (q := 101) rs rt43 dX12_move_98 w1399 (Nat.le_of_ble_eq_true rfl) rfl rfl ?_
              refine v_iload (q := 103) 2 dX12_move_101 rfl rfl ?_
              replace H := bs H; obtain ⟨x19, x19e, H⟩ := H
              refine ur_rd (q := 104) rs rt43 x19e dX12_move_103 rfl ?_
              refine v_goto (q := 114) dX12_move_104 (by decide) ?_
              exact V.sub [] rfl (sgjX12_move_114 hd rs H)
          · replace H := ip c10 H
            refine v_bipush (v := -2) (q := 59) dX12_move_57 (by decide) rfl ?_
            cases H
            exact v_ireturn rfl dX12_move_59
        · replace H := ine c7 H
          exact V.sub [] rfl (sgjX12_move_32 hd rs H)
def mX12_nameHere : MI := (yX12_nameHere, cX12_nameHere, 2, some .int)
theorem oX12_nameHere : mOK mX12_nameHere 0 := ⟨by decide +kernel, by decide +kernel, by decide +kernel, by decide, w1593, w0150⟩
def gbX12_nameHere_2  (m : Mem) (s2 : Int32) : Option ((Int32) ⊕ ((Unit) ⊕ (Int32))) :=
if (m 0 26) ≤ s2 then (
some (.inr (.inl ()))) else (
(gX12_isNamed m s2).bind fun x2 =>
if x2 = 0 then (
(some (s2 + (1 : Int32))).bind fun x4 =>
some (.inl x4)) else (
some (.inr (.inr s2))))
set_option maxRecDepth 20000 in
set_option maxHeartbeats 4000000 in
theorem sgbX12_nameHere_2 {Γ : Gm} {d : Nat} (hd : 2 ≤ d) {T : Nat} {h : Hp} (rs : RS T h)  {m : Mem} {s2 : Int32} {r : (Int32) ⊕ ((Unit) ⊕ (Int32))} {t : Option Value × Hp} (H : gbX12_nameHere_2  m s2 = some r) (kI : ∀ s, r = .inl s → (fun s2 => V Γ d mX12_nameHere 2 [(0, .ref T), (1, .int s2)] [] (hm T h m) t) s) (kE : ∀ e, r = .inr e → (fun e => (match e with | .inl a0 => V Γ d mX12_nameHere 26 [] [] (hm T h m) t | .inr b0 => V Γ d mX12_nameHere 18 [(1, .int b0)] [] (hm T h m) t)) e) : V Γ d mX12_nameHere 2 [(0, .ref T), (1, .int s2)] [] (hm T h m) t := by
  unfold gbX12_nameHere_2 at H
  refine v_iload_n (q := 3) 1 dX12_nameHere_2 rfl rfl rfl ?_
  refine v_aload_n (q := 4) 0 dX12_nameHere_3 rfl rfl rfl ?_
  refine ur_gI (q := 7) (x := 0) (k := 26) rs dX12_nameHere_4 w1382 (Nat.le_of_ble_eq_true rfl) rfl rfl ?_
  refine v_icmp_ge (q1 := 26) (q2 := 10) dX12_nameHere_7 (by decide) rfl (fun c1 => ?_) (fun c1 => ?_)
  · replace H := ip c1 H
    exact V.sub [] rfl (kE (.inl ()) (Option.some.inj H).symm)
  · replace H := ine c1 H
    refine v_aload_n (q := 11) 0 dX12_nameHere_10 rfl rfl rfl ?_
    refine v_iload_n (q := 12) 1 dX12_nameHere_11 rfl rfl rfl ?_
    replace H := bs H; obtain ⟨x2, x2e, H⟩ := H
    refine u_callV1 (M' := mX12_isNamed) (d' := 1) (rc := (RX12, TX12, 58)) (As := [.int s2]) (st := []) (q := 15) oX12_isNamed dX12_nameHere_12 w1594 w1596 w0065 rfl rfl (RS.rc rs).1 (RS.rc rs).2 rfl (Nat.le_of_ble_eq_true rfl) (Nat.le_of_ble_eq_true rfl) (Nat.lt_of_lt_of_le (by decide) hd) rfl (sgX12_isNamed (Nat.le_refl _) rs x2e) rfl ?_
    refine v_if_eq (q1 := 20) (q2 := 18) dX12_nameHere_15 (by decide) rfl (fun c3 => ?_) (fun c3 => ?_)
    · replace H := ip c3 H
      replace H := bs H; obtain ⟨x4, x4e, H⟩ := H
      refine v_iinc (v := x4) (L' := [(1, .int x4), (0, .ref T)]) (q := 23) 1 dX12_nameHere_20 rfl (Option.some.inj x4e) (by decide) rfl rfl ?_
      refine v_goto (q := 2) dX12_nameHere_23 (by decide) ?_
      exact V.sub [1, 0] rfl (kI x4 (Option.some.inj H).symm)
    · replace H := ine c3 H
      exact V.sub [1] rfl (kE (.inr s2) (Option.some.inj H).symm)
def gX12_nameHere (m : Mem)  : Option (Int32) :=
(lp (gbX12_nameHere_2 m) FU (0 : Int32)).bind fun e5 =>
(match e5 with
| .inl e6 => (
some (-1 : Int32))
| .inr e7 => (
some e7))
set_option maxRecDepth 20000 in
set_option maxHeartbeats 4000000 in
theorem sgX12_nameHere {Γ : Gm} {d : Nat} (hd : 2 ≤ d) {T : Nat} {h : Hp} (rs : RS T h) {m : Mem}  {r : Int32} (H : gX12_nameHere m  = some r) : V Γ d mX12_nameHere 0 [(0, .ref T)] [] (hm T h m) (some (.int r), (hm T h m)) := by
  unfold gX12_nameHere at H
  refine v_iconst (v := 0) (q := 1) dX12_nameHere_0 (by decide) rfl ?_
  refine v_istore_n (L' := [(1, .int (0 : Int32)), (0, .ref T)]) (q := 2) dX12_nameHere_1 rfl (by decide) rfl rfl ?_
  replace H := bs H; obtain ⟨e5, e5L, H⟩ := H
  refine V.sub [1, 0] rfl ?_
  refine lp_V (P := (fun s2 => V Γ d mX12_nameHere 2 [(0, .ref T), (1, .int s2)] [] (hm T h m) (some (.int r), (hm T h m)))) (E := (fun e => (match e with | .inl a0 => V Γ d mX12_nameHere 26 [] [] (hm T h m) (some (.int r), (hm T h m)) | .inr b0 => V Γ d mX12_nameHere 18 [(1, .int b0)] [] (hm T h m) (some (.int r), (hm T h m))))) (fun s r hb kI kE => sgbX12_nameHere_2 hd rs (s2 := s) (r := r) hb kI kE) FU (0 : Int32) e5 e5L ?_
  rcases e5 with e6 | e7
  · skip
    refine v_iconst (v := -1) (q := 27) dX12_nameHere_26 (by decide) rfl ?_
    cases H
    exact v_ireturn rfl dX12_nameHere_27
  · skip
    refine v_iload_n (q := 19) 0 dX12_nameHere_18 rfl rfl rfl ?_
    cases H
    exact v_ireturn rfl dX12_nameHere_19
def mX12_signAt : MI := (yX12_signAt, cX12_signAt, 2, some .int)
theorem oX12_signAt : mOK mX12_signAt 1 := ⟨by decide +kernel, by decide +kernel, by decide +kernel, by decide, w1558, w0150⟩
def gjX12_signAt_18 (y0 : Int32) (m : Mem) : Option (Int32) :=
some y0
set_option maxRecDepth 20000 in
set_option maxHeartbeats 4000000 in
theorem sgjX12_signAt_18 {Γ : Gm} {d : Nat} (hd : 1 ≤ d) {T : Nat} {h : Hp} (rs : RS T h) {y0 : Int32} {m : Mem} {r : Int32} (H : gjX12_signAt_18 y0 m = some r) : V Γ d mX12_signAt 18 [] [.int y0] (hm T h m) (some (.int r), (hm T h m)) := by
  unfold gjX12_signAt_18 at H
  cases H
  exact v_ireturn rfl dX12_signAt_18
def gX12_signAt (m : Mem) (v1 : Int32) : Option (Int32) :=
if (m 0 12) ≤ v1 then (
gjX12_signAt_18 (0 : Int32) m) else (
(rd m 10 900 v1).bind fun x2 =>
gjX12_signAt_18 x2 m)
set_option maxRecDepth 20000 in
set_option maxHeartbeats 4000000 in
theorem sgX12_signAt {Γ : Gm} {d : Nat} (hd : 1 ≤ d) {T : Nat} {h : Hp} (rs : RS T h) {m : Mem} {v1 : Int32} {r : Int32} (H : gX12_signAt m v1 = some r) : V Γ d mX12_signAt 0 [(0, .ref T), (1, .int v1)] [] (hm T h m) (some (.int r), (hm T h m)) := by
  unfold gX12_signAt at H
  refine v_iload_n (q := 1) 1 dX12_signAt_0 rfl rfl rfl ?_
  refine v_aload_n (q := 2) 0 dX12_signAt_1 rfl rfl rfl ?_
  refine ur_gI (q := 5) (x := 0) (k := 12) rs dX12_signAt_2 w1368 (Nat.le_of_ble_eq_true rfl) rfl rfl ?_
  refine v_icmp_ge (q1 := 17) (q2 := 8) dX12_signAt_5 (by decide) rfl (fun c1 => ?_) (fun c1 => ?_)
  · replace H := ip c1 H
    refine v_iconst (v := 0) (q := 18) dX12_signAt_17 (by decide) rfl ?_
    exact V.sub [] rfl (sgjX12_signAt_18 hd rs H)
  · replace H := ine c1 H
    refine v_aload_n (q := 9) 0 dX12_signAt_8 rfl rfl rfl ?_
    refine ur_arr (q := 12) rs rt10 dX12_signAt_9 w1366 (Nat.le_of_ble_eq_true rfl) rfl rfl ?_
    refine v_iload_n (q := 13) 1 dX12_signAt_12 rfl rfl rfl ?_
    replace H := bs H; obtain ⟨x2, x2e, H⟩ := H
    refine ur_rdB (q := 14) rs rt10 x2e dX12_signAt_13 rfl ?_
    refine v_goto (q := 18) dX12_signAt_14 (by decide) ?_
    exact V.sub [] rfl (sgjX12_signAt_18 hd rs H)
def mX12_scanWord : MI := (yX12_scanWord, cX12_scanWord, 4, none)
theorem oX12_scanWord : mOK mX12_scanWord 0 := ⟨by decide +kernel, by decide +kernel, by decide +kernel, by decide, w1565, w0150⟩
def gbX12_scanWord_13  (s13 : Mem) : Option ((Mem) ⊕ (Mem)) :=
(gX12_signAt s13 (s13 0 13)).bind fun x3 =>
(gX12_isLetter x3).bind fun x4 =>
if x4 = 0 then (
some (.inr s13)) else (
(some (up s13 0 13 ((s13 0 13) + (1 : Int32)))).bind fun m6 =>
some (.inl m6))
set_option maxRecDepth 20000 in
set_option maxHeartbeats 4000000 in
theorem sgbX12_scanWord_13 {Γ : Gm} {d : Nat} (hd : 2 ≤ d) {T : Nat} {h : Hp} (rs : RS T h)  {s13 : Mem} {r : (Mem) ⊕ (Mem)} {t : Option Value × Hp} (H : gbX12_scanWord_13  s13 = some r) (kI : ∀ s, r = .inl s → (fun s13 => V Γ d mX12_scanWord 13 [(0, .ref T)] [] (hm T h s13) t) s) (kE : ∀ e, r = .inr e → (fun e => V Γ d mX12_scanWord 40 [(0, .ref T)] [] (hm T h e) t) e) : V Γ d mX12_scanWord 13 [(0, .ref T)] [] (hm T h s13) t := by
  unfold gbX12_scanWord_13 at H
  refine v_aload_n (q := 14) 0 dX12_scanWord_13 rfl rfl rfl ?_
  refine v_aload_n (q := 15) 0 dX12_scanWord_14 rfl rfl rfl ?_
  refine ur_gI (q := 18) (x := 0) (k := 13) rs dX12_scanWord_15 w1369 (Nat.le_of_ble_eq_true rfl) rfl rfl ?_
  replace H := bs H; obtain ⟨x3, x3e, H⟩ := H
  refine u_callV1 (M' := mX12_signAt) (d' := 1) (rc := (RX12, TX12, 58)) (As := [.int (s13 0 13)]) (st := []) (q := 21) oX12_signAt dX12_scanWord_18 w1555 w1557 w0056 rfl rfl (RS.rc rs).1 (RS.rc rs).2 rfl (Nat.le_of_ble_eq_true rfl) (Nat.le_of_ble_eq_true rfl) (Nat.lt_of_lt_of_le (by decide) hd) rfl (sgX12_signAt (Nat.le_refl _) rs x3e) rfl ?_
  replace H := bs H; obtain ⟨x4, x4e, H⟩ := H
  refine u_callS1 (M' := mX12_isLetter) (d' := 1) (As := [.int x3]) (st := []) (q := 24) oX12_isLetter dX12_scanWord_21 w1559 w1560 rfl (Nat.le_of_ble_eq_true rfl) (Nat.le_of_ble_eq_true rfl) (Nat.lt_of_lt_of_le (by decide) hd) rfl (sgX12_isLetter (Nat.le_refl _) x4e) rfl ?_
  refine v_if_eq (q1 := 40) (q2 := 27) dX12_scanWord_24 (by decide) rfl (fun c5 => ?_) (fun c5 => ?_)
  · replace H := ip c5 H
    exact V.sub [0] rfl (kE s13 (Option.some.inj H).symm)
  · replace H := ine c5 H
    refine v_aload_n (q := 28) 0 dX12_scanWord_27 rfl rfl rfl ?_
    refine v_dup (q := 29) dX12_scanWord_28 rfl rfl ?_
    refine ur_gI (q := 32) (x := 0) (k := 13) rs dX12_scanWord_29 w1369 (Nat.le_of_ble_eq_true rfl) rfl rfl ?_
    refine v_iconst (v := 1) (q := 33) dX12_scanWord_32 (by decide) rfl ?_
    refine v_iadd (q := 34) dX12_scanWord_33 rfl ?_
    replace H := bs H; obtain ⟨m6, m6e, H⟩ := H
    refine ur_pI (q := 37) (k := 13) rs m6e dX12_scanWord_34 w1369 (Nat.le_of_ble_eq_true rfl) rfl rfl rfl ?_
    refine v_goto (q := 13) dX12_scanWord_37 (by decide) ?_
    exact V.sub [0] rfl (kI m6 (Option.some.inj H).symm)
def gbX12_scanWord_57 (u1 : Int32) (u2 : Int32) (m : Mem) (s57 : Int32) : Option ((Int32) ⊕ (Int32)) :=
(rd m 11 71 s57).bind fun x10 =>
if x10 = (32 : Int32) then (
some (.inr s57)) else (
(some (s57 + (1 : Int32))).bind fun x12 =>
some (.inl x12))
set_option maxRecDepth 20000 in
set_option maxHeartbeats 4000000 in
theorem sgbX12_scanWord_57 {Γ : Gm} {d : Nat} (hd : 2 ≤ d) {T : Nat} {h : Hp} (rs : RS T h) {u1 : Int32} {u2 : Int32} {m : Mem} {s57 : Int32} {r : (Int32) ⊕ (Int32)} {t : Option Value × Hp} (H : gbX12_scanWord_57 u1 u2 m s57 = some r) (kI : ∀ s, r = .inl s → (fun s57 => V Γ d mX12_scanWord 57 [(0, .ref T), (1, .int u1), (2, .int u2), (3, .int s57)] [] (hm T h m) t) s) (kE : ∀ e, r = .inr e → (fun e => V Γ d mX12_scanWord 74 [(0, .ref T), (1, .int u1), (2, .int u2), (3, .int e)] [] (hm T h m) t) e) : V Γ d mX12_scanWord 57 [(0, .ref T), (1, .int u1), (2, .int u2), (3, .int s57)] [] (hm T h m) t := by
  unfold gbX12_scanWord_57 at H
  refine v_aload_n (q := 58) 0 dX12_scanWord_57 rfl rfl rfl ?_
  refine ur_arr (q := 61) rs rt21 dX12_scanWord_58 w1377 (Nat.le_of_ble_eq_true rfl) rfl rfl ?_
  refine v_iload_n (q := 62) 3 dX12_scanWord_61 rfl rfl rfl ?_
  replace H := bs H; obtain ⟨x10, x10e, H⟩ := H
  refine ur_rdB (q := 63) rs rt21 x10e dX12_scanWord_62 rfl ?_
  refine v_bipush (v := 32) (q := 65) dX12_scanWord_63 (by decide) rfl ?_
  refine v_icmp_eq (q1 := 74) (q2 := 68) dX12_scanWord_65 (by decide) rfl (fun c11 => ?_) (fun c11 => ?_)
  · replace H := ip c11 H
    exact V.sub [0, 1, 2, 3] rfl (kE s57 (Option.some.inj H).symm)
  · replace H := ine c11 H
    replace H := bs H; obtain ⟨x12, x12e, H⟩ := H
    refine v_iinc (v := x12) (L' := [(3, .int x12), (0, .ref T), (1, .int u1), (2, .int u2)]) (q := 71) 3 dX12_scanWord_68 rfl (Option.some.inj x12e) (by decide) rfl rfl ?_
    refine v_goto (q := 57) dX12_scanWord_71 (by decide) ?_
    exact V.sub [1, 2, 3, 0] rfl (kI x12 (Option.some.inj H).symm)
def gjX12_scanWord_88 (v2 : Int32) (v3 : Int32) (m : Mem) : Option ((Int32 × Int32 × Mem) ⊕ (Mem)) :=
(some (v3 + (1 : Int32))).bind fun x16 =>
(some (v2 + (1 : Int32))).bind fun x17 =>
some (.inl (x16, x17, m))
set_option maxRecDepth 20000 in
set_option maxHeartbeats 4000000 in
theorem sgjX12_scanWord_88 {Γ : Gm} {d : Nat} (hd : 2 ≤ d) {T : Nat} {h : Hp} (rs : RS T h) {v2 : Int32} {v3 : Int32} {m : Mem} {r : (Int32 × Int32 × Mem) ⊕ (Mem)} {t : Option Value × Hp} (H : gjX12_scanWord_88 v2 v3 m = some r) (kI : ∀ s, r = .inl s → (fun s49 => V Γ d mX12_scanWord 49 [(0, .ref T), (1, .int s49.1), (2, .int s49.2.1)] [] (hm T h s49.2.2) t) s) (kE : ∀ e, r = .inr e → (fun e => V Γ d mX12_scanWord 98 [] [] (hm T h e) t) e) : V Γ d mX12_scanWord 88 [(0, .ref T), (2, .int v2), (3, .int v3)] [] (hm T h m) t := by
  unfold gjX12_scanWord_88 at H
  refine v_iload_n (q := 89) 2 dX12_scanWord_88 rfl rfl rfl ?_
  refine v_iconst (v := 1) (q := 90) dX12_scanWord_89 (by decide) rfl ?_
  refine v_iadd (q := 91) dX12_scanWord_90 rfl ?_
  replace H := bs H; obtain ⟨x16, x16e, H⟩ := H
  refine v_topi (Option.some.inj x16e) ?_
  refine v_istore_n (L' := [(1, .int x16), (0, .ref T), (2, .int v2), (3, .int v3)]) (q := 92) dX12_scanWord_91 rfl (by decide) rfl rfl ?_
  replace H := bs H; obtain ⟨x17, x17e, H⟩ := H
  refine v_iinc (v := x17) (L' := [(2, .int x17), (1, .int x16), (0, .ref T), (3, .int v3)]) (q := 95) 2 dX12_scanWord_92 rfl (Option.some.inj x17e) (by decide) rfl rfl ?_
  refine v_goto (q := 49) dX12_scanWord_95 (by decide) ?_
  exact V.sub [2, 1, 0] rfl (kI (x16, x17, m) (Option.some.inj H).symm)
def gbX12_scanWord_49  (s49 : Int32 × Int32 × Mem) : Option ((Int32 × Int32 × Mem) ⊕ (Mem)) :=
if (15 : Int32) ≤ s49.2.1 then (
some (.inr s49.2.2)) else (
(lp (gbX12_scanWord_57 s49.1 s49.2.1 s49.2.2) FU s49.1).bind fun e13 =>
(gX12_isSame s49.2.2 s49.1 e13).bind fun x14 =>
if x14 = 0 then (
gjX12_scanWord_88 s49.2.1 e13 s49.2.2) else (
(some (up s49.2.2 0 16 s49.2.1)).bind fun m18 =>
gjX12_scanWord_88 s49.2.1 e13 m18))
set_option maxRecDepth 20000 in
set_option maxHeartbeats 4000000 in
theorem sgbX12_scanWord_49 {Γ : Gm} {d : Nat} (hd : 2 ≤ d) {T : Nat} {h : Hp} (rs : RS T h)  {s49 : Int32 × Int32 × Mem} {r : (Int32 × Int32 × Mem) ⊕ (Mem)} {t : Option Value × Hp} (H : gbX12_scanWord_49  s49 = some r) (kI : ∀ s, r = .inl s → (fun s49 => V Γ d mX12_scanWord 49 [(0, .ref T), (1, .int s49.1), (2, .int s49.2.1)] [] (hm T h s49.2.2) t) s) (kE : ∀ e, r = .inr e → (fun e => V Γ d mX12_scanWord 98 [] [] (hm T h e) t) e) : V Γ d mX12_scanWord 49 [(0, .ref T), (1, .int s49.1), (2, .int s49.2.1)] [] (hm T h s49.2.2) t := by
  unfold gbX12_scanWord_49 at H
  refine v_iload_n (q := 50) 2 dX12_scanWord_49 rfl rfl rfl ?_
  refine v_bipush (v := 15) (q := 52) dX12_scanWord_50 (by decide) rfl ?_
  refine v_icmp_ge (q1 := 98) (q2 := 55) dX12_scanWord_52 (by decide) rfl (fun c9 => ?_) (fun c9 => ?_)
  · replace H := ip c9 H
    exact V.sub [] rfl (kE s49.2.2 (Option.some.inj H).symm)
  · replace H := ine c9 H
    refine v_iload_n (q := 56) 1 dX12_scanWord_55 rfl rfl rfl ?_
    refine v_istore_n (L' := [(3, .int s49.1), (0, .ref T), (1, .int s49.1), (2, .int s49.2.1)]) (q := 57) dX12_scanWord_56 rfl (by decide) rfl rfl ?_
    replace H := bs H; obtain ⟨e13, e13L, H⟩ := H
    refine V.sub [1, 2, 3, 0] rfl ?_
    refine lp_V (P := (fun s57 => V Γ d mX12_scanWord 57 [(0, .ref T), (1, .int s49.1), (2, .int s49.2.1), (3, .int s57)] [] (hm T h s49.2.2) t)) (E := (fun e => V Γ d mX12_scanWord 74 [(0, .ref T), (1, .int s49.1), (2, .int s49.2.1), (3, .int e)] [] (hm T h s49.2.2) t)) (fun s r hb kI kE => sgbX12_scanWord_57 hd rs (s57 := s) (r := r) hb kI kE) FU s49.1 e13 e13L ?_
    refine v_aload_n (q := 75) 0 dX12_scanWord_74 rfl rfl rfl ?_
    refine v_iload_n (q := 76) 1 dX12_scanWord_75 rfl rfl rfl ?_
    refine v_iload_n (q := 77) 3 dX12_scanWord_76 rfl rfl rfl ?_
    replace H := bs H; obtain ⟨x14, x14e, H⟩ := H
    refine u_callV1 (M' := mX12_isSame) (d' := 1) (rc := (RX12, TX12, 58)) (As := [.int s49.1, .int e13]) (st := []) (q := 80) oX12_isSame dX12_scanWord_77 w1566 w1568 w0058 rfl rfl (RS.rc rs).1 (RS.rc rs).2 rfl (Nat.le_of_ble_eq_true rfl) (Nat.le_of_ble_eq_true rfl) (Nat.lt_of_lt_of_le (by decide) hd) rfl (sgX12_isSame (Nat.le_refl _) rs x14e) rfl ?_
    refine v_if_eq (q1 := 88) (q2 := 83) dX12_scanWord_80 (by decide) rfl (fun c15 => ?_) (fun c15 => ?_)
    · replace H := ip c15 H
      exact V.sub [0, 2, 3] rfl (sgjX12_scanWord_88 hd rs H kI kE)
    · replace H := ine c15 H
      refine v_aload_n (q := 84) 0 dX12_scanWord_83 rfl rfl rfl ?_
      refine v_iload_n (q := 85) 2 dX12_scanWord_84 rfl rfl rfl ?_
      replace H := bs H; obtain ⟨m18, m18e, H⟩ := H
      refine ur_pI (q := 88) (k := 16) rs m18e dX12_scanWord_85 w1372 (Nat.le_of_ble_eq_true rfl) rfl rfl rfl ?_
      exact V.sub [0, 2, 3] rfl (sgjX12_scanWord_88 hd rs H kI kE)
def gX12_scanWord (m : Mem)  : Option (Mem) :=
(some (up m 0 15 (2 : Int32))).bind fun m1 =>
(some (up m1 0 13 (m1 0 14))).bind fun m2 =>
(lp (gbX12_scanWord_13) FU m2).bind fun e7 =>
(some (up e7 0 16 (-1 : Int32))).bind fun m8 =>
(lp (gbX12_scanWord_49) FU ((0 : Int32), (0 : Int32), m8)).bind fun e19 =>
some e19
set_option maxRecDepth 20000 in
set_option maxHeartbeats 4000000 in
theorem sgX12_scanWord {Γ : Gm} {d : Nat} (hd : 2 ≤ d) {T : Nat} {h : Hp} (rs : RS T h) {m : Mem}  {r : Mem} (H : gX12_scanWord m  = some r) : V Γ d mX12_scanWord 0 [(0, .ref T)] [] (hm T h m) (none, (hm T h r)) := by
  unfold gX12_scanWord at H
  refine v_aload_n (q := 1) 0 dX12_scanWord_0 rfl rfl rfl ?_
  refine v_iconst (v := 2) (q := 2) dX12_scanWord_1 (by decide) rfl ?_
  replace H := bs H; obtain ⟨m1, m1e, H⟩ := H
  refine ur_pI (q := 5) (k := 15) rs m1e dX12_scanWord_2 w1371 (Nat.le_of_ble_eq_true rfl) rfl rfl rfl ?_
  refine v_aload_n (q := 6) 0 dX12_scanWord_5 rfl rfl rfl ?_
  refine v_aload_n (q := 7) 0 dX12_scanWord_6 rfl rfl rfl ?_
  refine ur_gI (q := 10) (x := 0) (k := 14) rs dX12_scanWord_7 w1370 (Nat.le_of_ble_eq_true rfl) rfl rfl ?_
  replace H := bs H; obtain ⟨m2, m2e, H⟩ := H
  refine ur_pI (q := 13) (k := 13) rs m2e dX12_scanWord_10 w1369 (Nat.le_of_ble_eq_true rfl) rfl rfl rfl ?_
  replace H := bs H; obtain ⟨e7, e7L, H⟩ := H
  refine V.sub [0] rfl ?_
  refine lp_V (P := (fun s13 => V Γ d mX12_scanWord 13 [(0, .ref T)] [] (hm T h s13) (none, (hm T h r)))) (E := (fun e => V Γ d mX12_scanWord 40 [(0, .ref T)] [] (hm T h e) (none, (hm T h r)))) (fun s r hb kI kE => sgbX12_scanWord_13 hd rs (s13 := s) (r := r) hb kI kE) FU m2 e7 e7L ?_
  refine v_aload_n (q := 41) 0 dX12_scanWord_40 rfl rfl rfl ?_
  refine v_iconst (v := -1) (q := 42) dX12_scanWord_41 (by decide) rfl ?_
  replace H := bs H; obtain ⟨m8, m8e, H⟩ := H
  refine ur_pI (q := 45) (k := 16) rs m8e dX12_scanWord_42 w1372 (Nat.le_of_ble_eq_true rfl) rfl rfl rfl ?_
  refine v_iconst (v := 0) (q := 46) dX12_scanWord_45 (by decide) rfl ?_
  refine v_istore_n (L' := [(1, .int (0 : Int32)), (0, .ref T)]) (q := 47) dX12_scanWord_46 rfl (by decide) rfl rfl ?_
  refine v_iconst (v := 0) (q := 48) dX12_scanWord_47 (by decide) rfl ?_
  refine v_istore_n (L' := [(2, .int (0 : Int32)), (1, .int (0 : Int32)), (0, .ref T)]) (q := 49) dX12_scanWord_48 rfl (by decide) rfl rfl ?_
  replace H := bs H; obtain ⟨e19, e19L, H⟩ := H
  refine V.sub [2, 1, 0] rfl ?_
  refine lp_V (P := (fun s49 => V Γ d mX12_scanWord 49 [(0, .ref T), (1, .int s49.1), (2, .int s49.2.1)] [] (hm T h s49.2.2) (none, (hm T h r)))) (E := (fun e => V Γ d mX12_scanWord 98 [] [] (hm T h e) (none, (hm T h r)))) (fun s r hb kI kE => sgbX12_scanWord_49 hd rs (s49 := s) (r := r) hb kI kE) FU ((0 : Int32), (0 : Int32), m8) e19 e19L ?_
  cases H
  exact v_return rfl dX12_scanWord_98
def mX12_scan : MI := (yX12_scan, cX12_scan, 1, none)
theorem oX12_scan : mOK mX12_scan 0 := ⟨by decide +kernel, by decide +kernel, by decide +kernel, by decide, w1550, w0150⟩
def gbX12_scan_8  (s8 : Mem) : Option ((Mem) ⊕ (Mem)) :=
(gX12_isBlank s8 (s8 0 14)).bind fun x2 =>
if x2 = 0 then (
some (.inr s8)) else (
(some (up s8 0 14 ((s8 0 14) + (1 : Int32)))).bind fun m4 =>
some (.inl m4))
set_option maxRecDepth 20000 in
set_option maxHeartbeats 4000000 in
theorem sgbX12_scan_8 {Γ : Gm} {d : Nat} (hd : 3 ≤ d) {T : Nat} {h : Hp} (rs : RS T h)  {s8 : Mem} {r : (Mem) ⊕ (Mem)} {t : Option Value × Hp} (H : gbX12_scan_8  s8 = some r) (kI : ∀ s, r = .inl s → (fun s8 => V Γ d mX12_scan 8 [(0, .ref T)] [] (hm T h s8) t) s) (kE : ∀ e, r = .inr e → (fun e => V Γ d mX12_scan 32 [(0, .ref T)] [] (hm T h e) t) e) : V Γ d mX12_scan 8 [(0, .ref T)] [] (hm T h s8) t := by
  unfold gbX12_scan_8 at H
  refine v_aload_n (q := 9) 0 dX12_scan_8 rfl rfl rfl ?_
  refine v_aload_n (q := 10) 0 dX12_scan_9 rfl rfl rfl ?_
  refine ur_gI (q := 13) (x := 0) (k := 14) rs dX12_scan_10 w1370 (Nat.le_of_ble_eq_true rfl) rfl rfl ?_
  replace H := bs H; obtain ⟨x2, x2e, H⟩ := H
  refine u_callV1 (M' := mX12_isBlank) (d' := 1) (rc := (RX12, TX12, 58)) (As := [.int (s8 0 14)]) (st := []) (q := 16) oX12_isBlank dX12_scan_13 w1551 w1553 w0055 rfl rfl (RS.rc rs).1 (RS.rc rs).2 rfl (Nat.le_of_ble_eq_true rfl) (Nat.le_of_ble_eq_true rfl) (Nat.lt_of_lt_of_le (by decide) hd) rfl (sgX12_isBlank (Nat.le_refl _) rs x2e) rfl ?_
  refine v_if_eq (q1 := 32) (q2 := 19) dX12_scan_16 (by decide) rfl (fun c3 => ?_) (fun c3 => ?_)
  · replace H := ip c3 H
    exact V.sub [0] rfl (kE s8 (Option.some.inj H).symm)
  · replace H := ine c3 H
    refine v_aload_n (q := 20) 0 dX12_scan_19 rfl rfl rfl ?_
    refine v_dup (q := 21) dX12_scan_20 rfl rfl ?_
    refine ur_gI (q := 24) (x := 0) (k := 14) rs dX12_scan_21 w1370 (Nat.le_of_ble_eq_true rfl) rfl rfl ?_
    refine v_iconst (v := 1) (q := 25) dX12_scan_24 (by decide) rfl ?_
    refine v_iadd (q := 26) dX12_scan_25 rfl ?_
    replace H := bs H; obtain ⟨m4, m4e, H⟩ := H
    refine ur_pI (q := 29) (k := 14) rs m4e dX12_scan_26 w1370 (Nat.le_of_ble_eq_true rfl) rfl rfl rfl ?_
    refine v_goto (q := 8) dX12_scan_29 (by decide) ?_
    exact V.sub [0] rfl (kI m4 (Option.some.inj H).symm)
def gjX12_scan_112 (m : Mem) : Option (Mem) :=
some m
set_option maxRecDepth 20000 in
set_option maxHeartbeats 4000000 in
theorem sgjX12_scan_112 {Γ : Gm} {d : Nat} (hd : 3 ≤ d) {T : Nat} {h : Hp} (rs : RS T h) {m : Mem} {r : Mem} (H : gjX12_scan_112 m = some r) : V Γ d mX12_scan 112 [] [] (hm T h m) (none, (hm T h r)) := by
  unfold gjX12_scan_112 at H
  cases H
  exact v_return rfl dX12_scan_112
def gjX12_scan_109 (y0 : Int32) (m : Mem) : Option (Mem) :=
(some (up m 0 15 y0)).bind fun m13 =>
gjX12_scan_112 m13
set_option maxRecDepth 20000 in
set_option maxHeartbeats 4000000 in
theorem sgjX12_scan_109 {Γ : Gm} {d : Nat} (hd : 3 ≤ d) {T : Nat} {h : Hp} (rs : RS T h) {y0 : Int32} {m : Mem} {r : Mem} (H : gjX12_scan_109 y0 m = some r) : V Γ d mX12_scan 109 [] [.int y0, .ref T] (hm T h m) (none, (hm T h r)) := by
  unfold gjX12_scan_109 at H
  replace H := bs H; obtain ⟨m13, m13e, H⟩ := H
  refine ur_pI (q := 112) (k := 15) rs m13e dX12_scan_109 w1371 (Nat.le_of_ble_eq_true rfl) rfl rfl rfl ?_
  exact V.sub [] rfl (sgjX12_scan_112 hd rs H)
def gX12_scan (m : Mem)  : Option (Mem) :=
(some (up m 0 14 (m 0 13))).bind fun m1 =>
(lp (gbX12_scan_8) FU m1).bind fun e5 =>
(some (up e5 0 13 ((e5 0 14) + (1 : Int32)))).bind fun m6 =>
if (m6 0 14) < (m6 0 12) then (
(gX12_signAt m6 (m6 0 14)).bind fun x8 =>
(gX12_isLetter x8).bind fun x9 =>
if x9 = 0 then (
(gX12_signAt m6 (m6 0 14)).bind fun x11 =>
if x11 = (59 : Int32) then (
gjX12_scan_109 (3 : Int32) m6) else (
gjX12_scan_109 (1 : Int32) m6)) else (
(gX12_scanWord m6).bind fun x14 =>
gjX12_scan_112 x14)) else (
(some (up m6 0 13 (m6 0 14))).bind fun m15 =>
(some (up m15 0 15 (0 : Int32))).bind fun m16 =>
gjX12_scan_112 m16)
set_option maxRecDepth 20000 in
set_option maxHeartbeats 4000000 in
theorem sgX12_scan {Γ : Gm} {d : Nat} (hd : 3 ≤ d) {T : Nat} {h : Hp} (rs : RS T h) {m : Mem}  {r : Mem} (H : gX12_scan m  = some r) : V Γ d mX12_scan 0 [(0, .ref T)] [] (hm T h m) (none, (hm T h r)) := by
  unfold gX12_scan at H
  refine v_aload_n (q := 1) 0 dX12_scan_0 rfl rfl rfl ?_
  refine v_aload_n (q := 2) 0 dX12_scan_1 rfl rfl rfl ?_
  refine ur_gI (q := 5) (x := 0) (k := 13) rs dX12_scan_2 w1369 (Nat.le_of_ble_eq_true rfl) rfl rfl ?_
  replace H := bs H; obtain ⟨m1, m1e, H⟩ := H
  refine ur_pI (q := 8) (k := 14) rs m1e dX12_scan_5 w1370 (Nat.le_of_ble_eq_true rfl) rfl rfl rfl ?_
  replace H := bs H; obtain ⟨e5, e5L, H⟩ := H
  refine V.sub [0] rfl ?_
  refine lp_V (P := (fun s8 => V Γ d mX12_scan 8 [(0, .ref T)] [] (hm T h s8) (none, (hm T h r)))) (E := (fun e => V Γ d mX12_scan 32 [(0, .ref T)] [] (hm T h e) (none, (hm T h r)))) (fun s r hb kI kE => sgbX12_scan_8 hd rs (s8 := s) (r := r) hb kI kE) FU m1 e5 e5L ?_
  refine v_aload_n (q := 33) 0 dX12_scan_32 rfl rfl rfl ?_
  refine v_aload_n (q := 34) 0 dX12_scan_33 rfl rfl rfl ?_
  refine ur_gI (q := 37) (x := 0) (k := 14) rs dX12_scan_34 w1370 (Nat.le_of_ble_eq_true rfl) rfl rfl ?_
  refine v_iconst (v := 1) (q := 38) dX12_scan_37 (by decide) rfl ?_
  refine v_iadd (q := 39) dX12_scan_38 rfl ?_
  replace H := bs H; obtain ⟨m6, m6e, H⟩ := H
  refine ur_pI (q := 42) (k := 13) rs m6e dX12_scan_39 w1369 (Nat.le_of_ble_eq_true rfl) rfl rfl rfl ?_
  refine v_aload_n (q := 43) 0 dX12_scan_42 rfl rfl rfl ?_
  refine ur_gI (q := 46) (x := 0) (k := 14) rs dX12_scan_43 w1370 (Nat.le_of_ble_eq_true rfl) rfl rfl ?_
  refine v_aload_n (q := 47) 0 dX12_scan_46 rfl rfl rfl ?_
  refine ur_gI (q := 50) (x := 0) (k := 12) rs dX12_scan_47 w1368 (Nat.le_of_ble_eq_true rfl) rfl rfl ?_
  refine v_icmp_lt (q1 := 69) (q2 := 53) dX12_scan_50 (by decide) rfl (fun c7 => ?_) (fun c7 => ?_)
  · replace H := ip c7 H
    refine v_aload_n (q := 70) 0 dX12_scan_69 rfl rfl rfl ?_
    refine v_aload_n (q := 71) 0 dX12_scan_70 rfl rfl rfl ?_
    refine ur_gI (q := 74) (x := 0) (k := 14) rs dX12_scan_71 w1370 (Nat.le_of_ble_eq_true rfl) rfl rfl ?_
    replace H := bs H; obtain ⟨x8, x8e, H⟩ := H
    refine u_callV1 (M' := mX12_signAt) (d' := 1) (rc := (RX12, TX12, 58)) (As := [.int (m6 0 14)]) (st := []) (q := 77) oX12_signAt dX12_scan_74 w1555 w1557 w0056 rfl rfl (RS.rc rs).1 (RS.rc rs).2 rfl (Nat.le_of_ble_eq_true rfl) (Nat.le_of_ble_eq_true rfl) (Nat.lt_of_lt_of_le (by decide) hd) rfl (sgX12_signAt (Nat.le_refl _) rs x8e) rfl ?_
    replace H := bs H; obtain ⟨x9, x9e, H⟩ := H
    refine u_callS1 (M' := mX12_isLetter) (d' := 1) (As := [.int x8]) (st := []) (q := 80) oX12_isLetter dX12_scan_77 w1559 w1560 rfl (Nat.le_of_ble_eq_true rfl) (Nat.le_of_ble_eq_true rfl) (Nat.lt_of_lt_of_le (by decide) hd) rfl (sgX12_isLetter (Nat.le_refl _) x9e) rfl ?_
    refine v_if_eq (q1 := 90) (q2 := 83) dX12_scan_80 (by decide) rfl (fun c10 => ?_) (fun c10 => ?_)
    · replace H := ip c10 H
      refine v_aload_n (q := 91) 0 dX12_scan_90 rfl rfl rfl ?_
      refine v_aload_n (q := 92) 0 dX12_scan_91 rfl rfl rfl ?_
      refine v_aload_n (q := 93) 0 dX12_scan_92 rfl rfl rfl ?_
      refine ur_gI (q := 96) (x := 0) (k := 14) rs dX12_scan_93 w1370 (Nat.le_of_ble_eq_true rfl) rfl rfl ?_
      replace H := bs H; obtain ⟨x11, x11e, H⟩ := H
      refine u_callV1 (M' := mX12_signAt) (d' := 1) (rc := (RX12, TX12, 58)) (As := [.int (m6 0 14)]) (st := [.ref T]) (q := 99) oX12_signAt dX12_scan_96 w1555 w1557 w0056 rfl rfl (RS.rc rs).1 (RS.rc rs).2 rfl (Nat.le_of_ble_eq_true rfl) (Nat.le_of_ble_eq_true rfl) (Nat.lt_of_lt_of_le (by decide) hd) rfl (sgX12_signAt (Nat.le_refl _) rs x11e) rfl ?_
      refine v_bipush (v := 59) (q := 101) dX12_scan_99 (by decide) rfl ?_
      refine v_icmp_ne (q1 := 108) (q2 := 104) dX12_scan_101 (by decide) rfl (fun c12 => ?_) (fun c12 => ?_)
      · replace H := ine c12 H
        refine v_iconst (v := 1) (q := 109) dX12_scan_108 (by decide) rfl ?_
        exact V.sub [] rfl (sgjX12_scan_109 hd rs H)
      · replace H := ip c12 H
        refine v_iconst (v := 3) (q := 105) dX12_scan_104 (by decide) rfl ?_
        refine v_goto (q := 109) dX12_scan_105 (by decide) ?_
        exact V.sub [] rfl (sgjX12_scan_109 hd rs H)
    · replace H := ine c10 H
      refine v_aload_n (q := 84) 0 dX12_scan_83 rfl rfl rfl ?_
      replace H := bs H; obtain ⟨x14, x14e, H⟩ := H
      refine u_callV0 (M' := mX12_scanWord) (d' := 2) (rc := (RX12, TX12, 58)) (As := []) (st := []) (q := 87) oX12_scanWord dX12_scan_84 w1562 w1564 w0057 rfl rfl (RS.rc rs).1 (RS.rc rs).2 rfl (Nat.le_of_ble_eq_true rfl) (Nat.le_of_ble_eq_true rfl) (Nat.lt_of_lt_of_le (by decide) hd) rfl (sgX12_scanWord (Nat.le_refl _) rs x14e) rfl ?_
      refine v_goto (q := 112) dX12_scan_87 (by decide) ?_
      exact V.sub [] rfl (sgjX12_scan_112 hd rs H)
  · replace H := ine c7 H
    refine v_aload_n (q := 54) 0 dX12_scan_53 rfl rfl rfl ?_
    refine v_aload_n (q := 55) 0 dX12_scan_54 rfl rfl rfl ?_
    refine ur_gI (q := 58) (x := 0) (k := 14) rs dX12_scan_55 w1370 (Nat.le_of_ble_eq_true rfl) rfl rfl ?_
    replace H := bs H; obtain ⟨m15, m15e, H⟩ := H
    refine ur_pI (q := 61) (k := 13) rs m15e dX12_scan_58 w1369 (Nat.le_of_ble_eq_true rfl) rfl rfl rfl ?_
    refine v_aload_n (q := 62) 0 dX12_scan_61 rfl rfl rfl ?_
    refine v_iconst (v := 0) (q := 63) dX12_scan_62 (by decide) rfl ?_
    replace H := bs H; obtain ⟨m16, m16e, H⟩ := H
    refine ur_pI (q := 66) (k := 15) rs m16e dX12_scan_63 w1371 (Nat.le_of_ble_eq_true rfl) rfl rfl rfl ?_
    refine v_goto (q := 112) dX12_scan_66 (by decide) ?_
    exact V.sub [] rfl (sgjX12_scan_112 hd rs H)
def mX12_newName : MI := (yX12_newName, cX12_newName, 3, none)
theorem oX12_newName : mOK mX12_newName 2 := ⟨by decide +kernel, by decide +kernel, by decide +kernel, by decide, w1585, w0150⟩
def gjX12_newName_27 (v1 : Int32) (v2 : Int32) (m : Mem) : Option (Mem) :=
if (m 0 17) ≤ 0 then (
(wr m 12 24 (m 0 26) (m 0 14)).bind fun m6 =>
(wr m6 13 24 (m6 0 26) ((m6 0 13) - (m6 0 14))).bind fun m7 =>
(wr m7 14 24 (m7 0 26) v1).bind fun m8 =>
(wr m8 15 24 (m8 0 26) v2).bind fun m9 =>
(some (up m9 0 26 ((m9 0 26) + (1 : Int32)))).bind fun m10 =>
(gX12_scan m10).bind fun x11 =>
some x11) else (
some m)
set_option maxRecDepth 20000 in
set_option maxHeartbeats 4000000 in
theorem sgjX12_newName_27 {Γ : Gm} {d : Nat} (hd : 4 ≤ d) {T : Nat} {h : Hp} (rs : RS T h) {v1 : Int32} {v2 : Int32} {m : Mem} {r : Mem} (H : gjX12_newName_27 v1 v2 m = some r) : V Γ d mX12_newName 27 [(0, .ref T), (1, .int v1), (2, .int v2)] [] (hm T h m) (none, (hm T h r)) := by
  unfold gjX12_newName_27 at H
  refine v_aload_n (q := 28) 0 dX12_newName_27 rfl rfl rfl ?_
  refine ur_gI (q := 31) (x := 0) (k := 17) rs dX12_newName_28 w1373 (Nat.le_of_ble_eq_true rfl) rfl rfl ?_
  refine v_if_le (q1 := 35) (q2 := 34) dX12_newName_31 (by decide) rfl (fun c5 => ?_) (fun c5 => ?_)
  · replace H := ip c5 H
    refine v_aload_n (q := 36) 0 dX12_newName_35 rfl rfl rfl ?_
    refine ur_arr (q := 39) rs rt22 dX12_newName_36 w1378 (Nat.le_of_ble_eq_true rfl) rfl rfl ?_
    refine v_aload_n (q := 40) 0 dX12_newName_39 rfl rfl rfl ?_
    refine ur_gI (q := 43) (x := 0) (k := 26) rs dX12_newName_40 w1382 (Nat.le_of_ble_eq_true rfl) rfl rfl ?_
    refine v_aload_n (q := 44) 0 dX12_newName_43 rfl rfl rfl ?_
    refine ur_gI (q := 47) (x := 0) (k := 14) rs dX12_newName_44 w1370 (Nat.le_of_ble_eq_true rfl) rfl rfl ?_
    replace H := bs H; obtain ⟨m6, m6e, H⟩ := H
    refine ur_wr (q := 48) rs rt22 m6e dX12_newName_47 rfl ?_
    refine v_aload_n (q := 49) 0 dX12_newName_48 rfl rfl rfl ?_
    refine ur_arr (q := 52) rs rt23 dX12_newName_49 w1379 (Nat.le_of_ble_eq_true rfl) rfl rfl ?_
    refine v_aload_n (q := 53) 0 dX12_newName_52 rfl rfl rfl ?_
    refine ur_gI (q := 56) (x := 0) (k := 26) rs dX12_newName_53 w1382 (Nat.le_of_ble_eq_true rfl) rfl rfl ?_
    refine v_aload_n (q := 57) 0 dX12_newName_56 rfl rfl rfl ?_
    refine ur_gI (q := 60) (x := 0) (k := 13) rs dX12_newName_57 w1369 (Nat.le_of_ble_eq_true rfl) rfl rfl ?_
    refine v_aload_n (q := 61) 0 dX12_newName_60 rfl rfl rfl ?_
    refine ur_gI (q := 64) (x := 0) (k := 14) rs dX12_newName_61 w1370 (Nat.le_of_ble_eq_true rfl) rfl rfl ?_
    refine v_isub (q := 65) dX12_newName_64 rfl ?_
    replace H := bs H; obtain ⟨m7, m7e, H⟩ := H
    refine ur_wr (q := 66) rs rt23 m7e dX12_newName_65 rfl ?_
    refine v_aload_n (q := 67) 0 dX12_newName_66 rfl rfl rfl ?_
    refine ur_arr (q := 70) rs rt24 dX12_newName_67 w1380 (Nat.le_of_ble_eq_true rfl) rfl rfl ?_
    refine v_aload_n (q := 71) 0 dX12_newName_70 rfl rfl rfl ?_
    refine ur_gI (q := 74) (x := 0) (k := 26) rs dX12_newName_71 w1382 (Nat.le_of_ble_eq_true rfl) rfl rfl ?_
    refine v_iload_n (q := 75) 1 dX12_newName_74 rfl rfl rfl ?_
    replace H := bs H; obtain ⟨m8, m8e, H⟩ := H
    refine ur_wr (q := 76) rs rt24 m8e dX12_newName_75 rfl ?_
    refine v_aload_n (q := 77) 0 dX12_newName_76 rfl rfl rfl ?_
    refine ur_arr (q := 80) rs rt25 dX12_newName_77 w1381 (Nat.le_of_ble_eq_true rfl) rfl rfl ?_
    refine v_aload_n (q := 81) 0 dX12_newName_80 rfl rfl rfl ?_
    refine ur_gI (q := 84) (x := 0) (k := 26) rs dX12_newName_81 w1382 (Nat.le_of_ble_eq_true rfl) rfl rfl ?_
    refine v_iload_n (q := 85) 2 dX12_newName_84 rfl rfl rfl ?_
    replace H := bs H; obtain ⟨m9, m9e, H⟩ := H
    refine ur_wr (q := 86) rs rt25 m9e dX12_newName_85 rfl ?_
    refine v_aload_n (q := 87) 0 dX12_newName_86 rfl rfl rfl ?_
    refine v_dup (q := 88) dX12_newName_87 rfl rfl ?_
    refine ur_gI (q := 91) (x := 0) (k := 26) rs dX12_newName_88 w1382 (Nat.le_of_ble_eq_true rfl) rfl rfl ?_
    refine v_iconst (v := 1) (q := 92) dX12_newName_91 (by decide) rfl ?_
    refine v_iadd (q := 93) dX12_newName_92 rfl ?_
    replace H := bs H; obtain ⟨m10, m10e, H⟩ := H
    refine ur_pI (q := 96) (k := 26) rs m10e dX12_newName_93 w1382 (Nat.le_of_ble_eq_true rfl) rfl rfl rfl ?_
    refine v_aload_n (q := 97) 0 dX12_newName_96 rfl rfl rfl ?_
    replace H := bs H; obtain ⟨x11, x11e, H⟩ := H
    refine u_callV0 (M' := mX12_scan) (d' := 3) (rc := (RX12, TX12, 58)) (As := []) (st := []) (q := 100) oX12_scan dX12_newName_97 w1547 w1549 w0054 rfl rfl (RS.rc rs).1 (RS.rc rs).2 rfl (Nat.le_of_ble_eq_true rfl) (Nat.le_of_ble_eq_true rfl) (Nat.lt_of_lt_of_le (by decide) hd) rfl (sgX12_scan (Nat.le_refl _) rs x11e) rfl ?_
    cases H
    exact v_return rfl dX12_newName_100
  · replace H := ine c5 H
    cases H
    exact v_return rfl dX12_newName_34
def gX12_newName (m : Mem) (v1 : Int32) (v2 : Int32) : Option (Mem) :=
(gX12_isName m).bind fun x1 =>
if x1 = 0 then (
(gX12_fail m (1 : Int32)).bind fun x13 =>
gjX12_newName_27 v1 v2 x13) else (
(gX12_nameHere m).bind fun x3 =>
if x3 < 0 then (
gjX12_newName_27 v1 v2 m) else (
(gX12_fail m (2 : Int32)).bind fun x12 =>
gjX12_newName_27 v1 v2 x12))
set_option maxRecDepth 20000 in
set_option maxHeartbeats 4000000 in
theorem sgX12_newName {Γ : Gm} {d : Nat} (hd : 4 ≤ d) {T : Nat} {h : Hp} (rs : RS T h) {m : Mem} {v1 : Int32} {v2 : Int32} {r : Mem} (H : gX12_newName m v1 v2 = some r) : V Γ d mX12_newName 0 [(0, .ref T), (1, .int v1), (2, .int v2)] [] (hm T h m) (none, (hm T h r)) := by
  unfold gX12_newName at H
  refine v_aload_n (q := 1) 0 dX12_newName_0 rfl rfl rfl ?_
  replace H := bs H; obtain ⟨x1, x1e, H⟩ := H
  refine u_callV1 (M' := mX12_isName) (d' := 1) (rc := (RX12, TX12, 58)) (As := []) (st := []) (q := 4) oX12_isName dX12_newName_1 w1586 w1588 w0063 rfl rfl (RS.rc rs).1 (RS.rc rs).2 rfl (Nat.le_of_ble_eq_true rfl) (Nat.le_of_ble_eq_true rfl) (Nat.lt_of_lt_of_le (by decide) hd) rfl (sgX12_isName (Nat.le_refl _) rs x1e) rfl ?_
  refine v_if_ne (q1 := 15) (q2 := 7) dX12_newName_4 (by decide) rfl (fun c2 => ?_) (fun c2 => ?_)
  · replace H := ine c2 H
    refine v_aload_n (q := 16) 0 dX12_newName_15 rfl rfl rfl ?_
    replace H := bs H; obtain ⟨x3, x3e, H⟩ := H
    refine u_callV1 (M' := mX12_nameHere) (d' := 2) (rc := (RX12, TX12, 58)) (As := []) (st := []) (q := 19) oX12_nameHere dX12_newName_16 w1590 w1592 w0064 rfl rfl (RS.rc rs).1 (RS.rc rs).2 rfl (Nat.le_of_ble_eq_true rfl) (Nat.le_of_ble_eq_true rfl) (Nat.lt_of_lt_of_le (by decide) hd) rfl (sgX12_nameHere (Nat.le_refl _) rs x3e) rfl ?_
    refine v_if_lt (q1 := 27) (q2 := 22) dX12_newName_19 (by decide) rfl (fun c4 => ?_) (fun c4 => ?_)
    · replace H := ip c4 H
      exact V.sub [0, 1, 2] rfl (sgjX12_newName_27 hd rs H)
    · replace H := ine c4 H
      refine v_aload_n (q := 23) 0 dX12_newName_22 rfl rfl rfl ?_
      refine v_iconst (v := 2) (q := 24) dX12_newName_23 (by decide) rfl ?_
      replace H := bs H; obtain ⟨x12, x12e, H⟩ := H
      refine u_callV0 (M' := mX12_fail) (d' := 1) (rc := (RX12, TX12, 58)) (As := [.int (2 : Int32)]) (st := []) (q := 27) oX12_fail dX12_newName_24 w1578 w1580 w0061 rfl rfl (RS.rc rs).1 (RS.rc rs).2 rfl (Nat.le_of_ble_eq_true rfl) (Nat.le_of_ble_eq_true rfl) (Nat.lt_of_lt_of_le (by decide) hd) rfl (sgX12_fail (Nat.le_refl _) rs x12e) rfl ?_
      exact V.sub [0, 1, 2] rfl (sgjX12_newName_27 hd rs H)
  · replace H := ip c2 H
    refine v_aload_n (q := 8) 0 dX12_newName_7 rfl rfl rfl ?_
    refine v_iconst (v := 1) (q := 9) dX12_newName_8 (by decide) rfl ?_
    replace H := bs H; obtain ⟨x13, x13e, H⟩ := H
    refine u_callV0 (M' := mX12_fail) (d' := 1) (rc := (RX12, TX12, 58)) (As := [.int (1 : Int32)]) (st := []) (q := 12) oX12_fail dX12_newName_9 w1578 w1580 w0061 rfl rfl (RS.rc rs).1 (RS.rc rs).2 rfl (Nat.le_of_ble_eq_true rfl) (Nat.le_of_ble_eq_true rfl) (Nat.lt_of_lt_of_le (by decide) hd) rfl (sgX12_fail (Nat.le_refl _) rs x13e) rfl ?_
    refine v_goto (q := 27) dX12_newName_12 (by decide) ?_
    exact V.sub [0, 1, 2] rfl (sgjX12_newName_27 hd rs H)
def mX12_oldName : MI := (yX12_oldName, cX12_oldName, 3, some .int)
theorem oX12_oldName : mOK mX12_oldName 1 := ⟨by decide +kernel, by decide +kernel, by decide +kernel, by decide, w1605, w0150⟩
def gjX12_oldName_50 (v2 : Int32) (m : Mem) : Option (Int32 × Mem) :=
if (m 0 17) ≤ 0 then (
(gX12_scan m).bind fun x8 =>
(rd x8 15 24 v2).bind fun x9 =>
some (x9, x8)) else (
some (((0 : Int32), m)))
set_option maxRecDepth 20000 in
set_option maxHeartbeats 4000000 in
theorem sgjX12_oldName_50 {Γ : Gm} {d : Nat} (hd : 4 ≤ d) {T : Nat} {h : Hp} (rs : RS T h) {v2 : Int32} {m : Mem} {r : Int32 × Mem} (H : gjX12_oldName_50 v2 m = some r) : V Γ d mX12_oldName 50 [(0, .ref T), (2, .int v2)] [] (hm T h m) (some (.int r.1), (hm T h r.2)) := by
  unfold gjX12_oldName_50 at H
  refine v_aload_n (q := 51) 0 dX12_oldName_50 rfl rfl rfl ?_
  refine ur_gI (q := 54) (x := 0) (k := 17) rs dX12_oldName_51 w1373 (Nat.le_of_ble_eq_true rfl) rfl rfl ?_
  refine v_if_le (q1 := 59) (q2 := 57) dX12_oldName_54 (by decide) rfl (fun c7 => ?_) (fun c7 => ?_)
  · replace H := ip c7 H
    refine v_aload_n (q := 60) 0 dX12_oldName_59 rfl rfl rfl ?_
    replace H := bs H; obtain ⟨x8, x8e, H⟩ := H
    refine u_callV0 (M' := mX12_scan) (d' := 3) (rc := (RX12, TX12, 58)) (As := []) (st := []) (q := 63) oX12_scan dX12_oldName_60 w1547 w1549 w0054 rfl rfl (RS.rc rs).1 (RS.rc rs).2 rfl (Nat.le_of_ble_eq_true rfl) (Nat.le_of_ble_eq_true rfl) (Nat.lt_of_lt_of_le (by decide) hd) rfl (sgX12_scan (Nat.le_refl _) rs x8e) rfl ?_
    refine v_aload_n (q := 64) 0 dX12_oldName_63 rfl rfl rfl ?_
    refine ur_arr (q := 67) rs rt25 dX12_oldName_64 w1381 (Nat.le_of_ble_eq_true rfl) rfl rfl ?_
    refine v_iload_n (q := 68) 1 dX12_oldName_67 rfl rfl rfl ?_
    replace H := bs H; obtain ⟨x9, x9e, H⟩ := H
    refine ur_rd (q := 69) rs rt25 x9e dX12_oldName_68 rfl ?_
    cases H
    exact v_ireturn rfl dX12_oldName_69
  · replace H := ine c7 H
    refine v_iconst (v := 0) (q := 58) dX12_oldName_57 (by decide) rfl ?_
    cases H
    exact v_ireturn rfl dX12_oldName_58
def gjX12_oldName_45 (v2 : Int32) (m : Mem) : Option (Int32 × Mem) :=
(gX12_fail m (3 : Int32)).bind fun x6 =>
gjX12_oldName_50 v2 x6
set_option maxRecDepth 20000 in
set_option maxHeartbeats 4000000 in
theorem sgjX12_oldName_45 {Γ : Gm} {d : Nat} (hd : 4 ≤ d) {T : Nat} {h : Hp} (rs : RS T h) {v2 : Int32} {m : Mem} {r : Int32 × Mem} (H : gjX12_oldName_45 v2 m = some r) : V Γ d mX12_oldName 45 [(0, .ref T), (2, .int v2)] [] (hm T h m) (some (.int r.1), (hm T h r.2)) := by
  unfold gjX12_oldName_45 at H
  refine v_aload_n (q := 46) 0 dX12_oldName_45 rfl rfl rfl ?_
  refine v_iconst (v := 3) (q := 47) dX12_oldName_46 (by decide) rfl ?_
  replace H := bs H; obtain ⟨x6, x6e, H⟩ := H
  refine u_callV0 (M' := mX12_fail) (d' := 1) (rc := (RX12, TX12, 58)) (As := [.int (3 : Int32)]) (st := []) (q := 50) oX12_fail dX12_oldName_47 w1578 w1580 w0061 rfl rfl (RS.rc rs).1 (RS.rc rs).2 rfl (Nat.le_of_ble_eq_true rfl) (Nat.le_of_ble_eq_true rfl) (Nat.lt_of_lt_of_le (by decide) hd) rfl (sgX12_fail (Nat.le_refl _) rs x6e) rfl ?_
  exact V.sub [0, 1] rfl (sgjX12_oldName_50 hd rs H)
def gjX12_oldName_15 (v1 : Int32) (y0 : Int32) (m : Mem) : Option (Int32 × Mem) :=
(gX12_isName m).bind fun x3 =>
if x3 = 0 then (
(gX12_fail m (1 : Int32)).bind fun x12 =>
gjX12_oldName_50 y0 x12) else (
if y0 < 0 then (
gjX12_oldName_45 y0 m) else (
(rd m 14 24 y0).bind fun x10 =>
if x10 = v1 then (
gjX12_oldName_50 y0 m) else (
gjX12_oldName_45 y0 m)))
set_option maxRecDepth 20000 in
set_option maxHeartbeats 4000000 in
theorem sgjX12_oldName_15 {Γ : Gm} {d : Nat} (hd : 4 ≤ d) {T : Nat} {h : Hp} (rs : RS T h) {v1 : Int32} {y0 : Int32} {m : Mem} {r : Int32 × Mem} (H : gjX12_oldName_15 v1 y0 m = some r) : V Γ d mX12_oldName 15 [(0, .ref T), (1, .int v1)] [.int y0] (hm T h m) (some (.int r.1), (hm T h r.2)) := by
  unfold gjX12_oldName_15 at H
  refine v_istore_n (L' := [(2, .int y0), (0, .ref T), (1, .int v1)]) (q := 16) dX12_oldName_15 rfl (by decide) rfl rfl ?_
  refine v_aload_n (q := 17) 1 dX12_oldName_16 rfl rfl rfl ?_
  replace H := bs H; obtain ⟨x3, x3e, H⟩ := H
  refine u_callV1 (M' := mX12_isName) (d' := 1) (rc := (RX12, TX12, 58)) (As := []) (st := []) (q := 20) oX12_isName dX12_oldName_17 w1586 w1588 w0063 rfl rfl (RS.rc rs).1 (RS.rc rs).2 rfl (Nat.le_of_ble_eq_true rfl) (Nat.le_of_ble_eq_true rfl) (Nat.lt_of_lt_of_le (by decide) hd) rfl (sgX12_isName (Nat.le_refl _) rs x3e) rfl ?_
  refine v_if_ne (q1 := 31) (q2 := 23) dX12_oldName_20 (by decide) rfl (fun c4 => ?_) (fun c4 => ?_)
  · replace H := ine c4 H
    refine v_iload_n (q := 32) 0 dX12_oldName_31 rfl rfl rfl ?_
    refine v_if_lt (q1 := 45) (q2 := 35) dX12_oldName_32 (by decide) rfl (fun c5 => ?_) (fun c5 => ?_)
    · replace H := ip c5 H
      exact V.sub [1, 0] rfl (sgjX12_oldName_45 hd rs H)
    · replace H := ine c5 H
      refine v_aload_n (q := 36) 1 dX12_oldName_35 rfl rfl rfl ?_
      refine ur_arr (q := 39) rs rt24 dX12_oldName_36 w1380 (Nat.le_of_ble_eq_true rfl) rfl rfl ?_
      refine v_iload_n (q := 40) 0 dX12_oldName_39 rfl rfl rfl ?_
      replace H := bs H; obtain ⟨x10, x10e, H⟩ := H
      refine ur_rd (q := 41) rs rt24 x10e dX12_oldName_40 rfl ?_
      refine v_iload_n (q := 42) 2 dX12_oldName_41 rfl rfl rfl ?_
      refine v_icmp_eq (q1 := 50) (q2 := 45) dX12_oldName_42 (by decide) rfl (fun c11 => ?_) (fun c11 => ?_)
      · replace H := ip c11 H
        exact V.sub [1, 0] rfl (sgjX12_oldName_50 hd rs H)
      · replace H := ine c11 H
        exact V.sub [1, 0] rfl (sgjX12_oldName_45 hd rs H)
  · replace H := ip c4 H
    refine v_aload_n (q := 24) 1 dX12_oldName_23 rfl rfl rfl ?_
    refine v_iconst (v := 1) (q := 25) dX12_oldName_24 (by decide) rfl ?_
    replace H := bs H; obtain ⟨x12, x12e, H⟩ := H
    refine u_callV0 (M' := mX12_fail) (d' := 1) (rc := (RX12, TX12, 58)) (As := [.int (1 : Int32)]) (st := []) (q := 28) oX12_fail dX12_oldName_25 w1578 w1580 w0061 rfl rfl (RS.rc rs).1 (RS.rc rs).2 rfl (Nat.le_of_ble_eq_true rfl) (Nat.le_of_ble_eq_true rfl) (Nat.lt_of_lt_of_le (by decide) hd) rfl (sgX12_fail (Nat.le_refl _) rs x12e) rfl ?_
    refine v_goto (q := 50) dX12_oldName_28 (by decide) ?_
    exact V.sub [1, 0] rfl (sgjX12_oldName_50 hd rs H)
def gX12_oldName (m : Mem) (v1 : Int32) : Option (Int32 × Mem) :=
(gX12_isName m).bind fun x1 =>
if x1 = 0 then (
gjX12_oldName_15 v1 (-1 : Int32) m) else (
(gX12_nameHere m).bind fun x13 =>
gjX12_oldName_15 v1 x13 m)
set_option maxRecDepth 20000 in
set_option maxHeartbeats 4000000 in
theorem sgX12_oldName {Γ : Gm} {d : Nat} (hd : 4 ≤ d) {T : Nat} {h : Hp} (rs : RS T h) {m : Mem} {v1 : Int32} {r : Int32 × Mem} (H : gX12_oldName m v1 = some r) : V Γ d mX12_oldName 0 [(0, .ref T), (1, .int v1)] [] (hm T h m) (some (.int r.1), (hm T h r.2)) := by
  unfold gX12_oldName at H
  refine v_aload_n (q := 1) 0 dX12_oldName_0 rfl rfl rfl ?_
  replace H := bs H; obtain ⟨x1, x1e, H⟩ := H
  refine u_callV1 (M' := mX12_isName) (d' := 1) (rc := (RX12, TX12, 58)) (As := []) (st := []) (q := 4) oX12_isName dX12_oldName_1 w1586 w1588 w0063 rfl rfl (RS.rc rs).1 (RS.rc rs).2 rfl (Nat.le_of_ble_eq_true rfl) (Nat.le_of_ble_eq_true rfl) (Nat.lt_of_lt_of_le (by decide) hd) rfl (sgX12_isName (Nat.le_refl _) rs x1e) rfl ?_
  refine v_if_eq (q1 := 14) (q2 := 7) dX12_oldName_4 (by decide) rfl (fun c2 => ?_) (fun c2 => ?_)
  · replace H := ip c2 H
    refine v_iconst (v := -1) (q := 15) dX12_oldName_14 (by decide) rfl ?_
    exact V.sub [0, 1] rfl (sgjX12_oldName_15 hd rs H)
  · replace H := ine c2 H
    refine v_aload_n (q := 8) 0 dX12_oldName_7 rfl rfl rfl ?_
    replace H := bs H; obtain ⟨x13, x13e, H⟩ := H
    refine u_callV1 (M' := mX12_nameHere) (d' := 2) (rc := (RX12, TX12, 58)) (As := []) (st := []) (q := 11) oX12_nameHere dX12_oldName_8 w1590 w1592 w0064 rfl rfl (RS.rc rs).1 (RS.rc rs).2 rfl (Nat.le_of_ble_eq_true rfl) (Nat.le_of_ble_eq_true rfl) (Nat.lt_of_lt_of_le (by decide) hd) rfl (sgX12_nameHere (Nat.le_refl _) rs x13e) rfl ?_
    refine v_goto (q := 15) dX12_oldName_11 (by decide) ?_
    exact V.sub [0, 1] rfl (sgjX12_oldName_15 hd rs H)
def mX12_order : MI := (yX12_order, cX12_order, 3, some .int)
theorem oX12_order : mOK mX12_order 1 := ⟨by decide +kernel, by decide +kernel, by decide +kernel, by decide, w1939, w0150⟩
def gjX12_order_26 (y0 : Int32) (m : Mem) : Option (Int32 × Mem) :=
some (y0, m)
set_option maxRecDepth 20000 in
set_option maxHeartbeats 4000000 in
theorem sgjX12_order_26 {Γ : Gm} {d : Nat} (hd : 4 ≤ d) {T : Nat} {h : Hp} (rs : RS T h) {y0 : Int32} {m : Mem} {r : Int32 × Mem} (H : gjX12_order_26 y0 m = some r) : V Γ d mX12_order 26 [] [.int y0] (hm T h m) (some (.int r.1), (hm T h r.2)) := by
  unfold gjX12_order_26 at H
  cases H
  exact v_ireturn rfl dX12_order_26
def gX12_order (m : Mem) (v1 : Int32) : Option (Int32 × Mem) :=
(gX12_layOrder m).bind fun x1 =>
(gX12_isIn v1 (0 : Int32) (x1.1 - (1 : Int32))).bind fun x2 =>
if x2 = 0 then (
gjX12_order_26 (-1 : Int32) x1.2) else (
(rd x1.2 21 16 v1).bind fun x4 =>
gjX12_order_26 x4 x1.2)
set_option maxRecDepth 20000 in
set_option maxHeartbeats 4000000 in
theorem sgX12_order {Γ : Gm} {d : Nat} (hd : 4 ≤ d) {T : Nat} {h : Hp} (rs : RS T h) {m : Mem} {v1 : Int32} {r : Int32 × Mem} (H : gX12_order m v1 = some r) : V Γ d mX12_order 0 [(0, .ref T), (1, .int v1)] [] (hm T h m) (some (.int r.1), (hm T h r.2)) := by
  unfold gX12_order at H
  refine v_aload_n (q := 1) 0 dX12_order_0 rfl rfl rfl ?_
  replace H := bs H; obtain ⟨x1, x1e, H⟩ := H
  refine u_callV1 (M' := mX12_layOrder) (d' := 3) (rc := (RX12, TX12, 58)) (As := []) (st := []) (q := 4) oX12_layOrder dX12_order_1 w1940 w1942 w0127 rfl rfl (RS.rc rs).1 (RS.rc rs).2 rfl (Nat.le_of_ble_eq_true rfl) (Nat.le_of_ble_eq_true rfl) (Nat.lt_of_lt_of_le (by decide) hd) rfl (sgX12_layOrder (Nat.le_refl _) rs x1e) rfl ?_
  refine v_istore_n (L' := [(2, .int x1.1), (0, .ref T), (1, .int v1)]) (q := 5) dX12_order_4 rfl (by decide) rfl rfl ?_
  refine v_iload_n (q := 6) 2 dX12_order_5 rfl rfl rfl ?_
  refine v_iconst (v := 0) (q := 7) dX12_order_6 (by decide) rfl ?_
  refine v_iload_n (q := 8) 0 dX12_order_7 rfl rfl rfl ?_
  refine v_iconst (v := 1) (q := 9) dX12_order_8 (by decide) rfl ?_
  refine v_isub (q := 10) dX12_order_9 rfl ?_
  replace H := bs H; obtain ⟨x2, x2e, H⟩ := H
  refine u_callS1 (M' := mX12_isIn) (d' := 1) (As := [.int v1, .int (0 : Int32), .int (x1.1 - (1 : Int32))]) (st := []) (q := 13) oX12_isIn dX12_order_10 w1618 w1619 rfl (Nat.le_of_ble_eq_true rfl) (Nat.le_of_ble_eq_true rfl) (Nat.lt_of_lt_of_le (by decide) hd) rfl (sgX12_isIn (Nat.le_refl _) x2e) rfl ?_
  refine v_if_eq (q1 := 25) (q2 := 16) dX12_order_13 (by decide) rfl (fun c3 => ?_) (fun c3 => ?_)
  · replace H := ip c3 H
    refine v_iconst (v := -1) (q := 26) dX12_order_25 (by decide) rfl ?_
    exact V.sub [] rfl (sgjX12_order_26 hd rs H)
  · replace H := ine c3 H
    refine v_aload_n (q := 17) 1 dX12_order_16 rfl rfl rfl ?_
    refine ur_arr (q := 20) rs rt33 dX12_order_17 w1389 (Nat.le_of_ble_eq_true rfl) rfl rfl ?_
    refine v_iload_n (q := 21) 2 dX12_order_20 rfl rfl rfl ?_
    replace H := bs H; obtain ⟨x4, x4e, H⟩ := H
    refine ur_rd (q := 22) rs rt33 x4e dX12_order_21 rfl ?_
    refine v_goto (q := 26) dX12_order_22 (by decide) ?_
    exact V.sub [] rfl (sgjX12_order_26 hd rs H)
def mX12_program : MI := (yX12_program, cX12_program, 3, some .int)
theorem oX12_program : mOK mX12_program 2 := ⟨by decide +kernel, by decide +kernel, by decide +kernel, by decide, w1765, w0150⟩
def gjX12_program_54 (y0 : Int32) (m : Mem) : Option (Int32) :=
some y0
set_option maxRecDepth 20000 in
set_option maxHeartbeats 4000000 in
theorem sgjX12_program_54 {Γ : Gm} {d : Nat} (hd : 3 ≤ d) {T : Nat} {h : Hp} (rs : RS T h) {y0 : Int32} {m : Mem} {r : Int32} (H : gjX12_program_54 y0 m = some r) : V Γ d mX12_program 54 [] [.int y0] (hm T h m) (some (.int r), (hm T h m)) := by
  unfold gjX12_program_54 at H
  cases H
  exact v_ireturn rfl dX12_program_54
def gX12_program (m : Mem) (v1 : Int32) (v2 : Int32) : Option (Int32) :=
(gX12_isProgram m v1).bind fun x1 =>
if x1 = 0 then (
some (-1 : Int32)) else (
if v2 = 0 then (
(gX12_sortOf m v1).bind fun x8 =>
gjX12_program_54 x8 m) else (
if v2 = (1 : Int32) then (
(gX12_stepsOf m v1).bind fun x7 =>
gjX12_program_54 x7 m) else (
if v2 = (2 : Int32) then (
(rd m 1 9685 ((1533 : Int32) + v1)).bind fun x6 =>
gjX12_program_54 x6 m) else (
gjX12_program_54 (-1 : Int32) m))))
set_option maxRecDepth 20000 in
set_option maxHeartbeats 4000000 in
theorem sgX12_program {Γ : Gm} {d : Nat} (hd : 3 ≤ d) {T : Nat} {h : Hp} (rs : RS T h) {m : Mem} {v1 : Int32} {v2 : Int32} {r : Int32} (H : gX12_program m v1 v2 = some r) : V Γ d mX12_program 0 [(0, .ref T), (1, .int v1), (2, .int v2)] [] (hm T h m) (some (.int r), (hm T h m)) := by
  unfold gX12_program at H
  refine v_aload_n (q := 1) 0 dX12_program_0 rfl rfl rfl ?_
  refine v_iload_n (q := 2) 1 dX12_program_1 rfl rfl rfl ?_
  replace H := bs H; obtain ⟨x1, x1e, H⟩ := H
  refine u_callV1 (M' := mX12_isProgram) (d' := 2) (rc := (RX12, TX12, 58)) (As := [.int v1]) (st := []) (q := 5) oX12_isProgram dX12_program_2 w1629 w1631 w0071 rfl rfl (RS.rc rs).1 (RS.rc rs).2 rfl (Nat.le_of_ble_eq_true rfl) (Nat.le_of_ble_eq_true rfl) (Nat.lt_of_lt_of_le (by decide) hd) rfl (sgX12_isProgram (Nat.le_refl _) rs x1e) rfl ?_
  refine v_if_ne (q1 := 10) (q2 := 8) dX12_program_5 (by decide) rfl (fun c2 => ?_) (fun c2 => ?_)
  · replace H := ine c2 H
    refine v_iload_n (q := 11) 2 dX12_program_10 rfl rfl rfl ?_
    refine v_if_ne (q1 := 22) (q2 := 14) dX12_program_11 (by decide) rfl (fun c3 => ?_) (fun c3 => ?_)
    · replace H := ine c3 H
      refine v_iload_n (q := 23) 2 dX12_program_22 rfl rfl rfl ?_
      refine v_iconst (v := 1) (q := 24) dX12_program_23 (by decide) rfl ?_
      refine v_icmp_ne (q1 := 35) (q2 := 27) dX12_program_24 (by decide) rfl (fun c4 => ?_) (fun c4 => ?_)
      · replace H := ine c4 H
        refine v_iload_n (q := 36) 2 dX12_program_35 rfl rfl rfl ?_
        refine v_iconst (v := 2) (q := 37) dX12_program_36 (by decide) rfl ?_
        refine v_icmp_ne (q1 := 53) (q2 := 40) dX12_program_37 (by decide) rfl (fun c5 => ?_) (fun c5 => ?_)
        · replace H := ine c5 H
          refine v_iconst (v := -1) (q := 54) dX12_program_53 (by decide) rfl ?_
          exact V.sub [] rfl (sgjX12_program_54 hd rs H)
        · replace H := ip c5 H
          refine v_aload_n (q := 41) 0 dX12_program_40 rfl rfl rfl ?_
          refine ur_arr (q := 44) rs rt0 dX12_program_41 w1356 (Nat.le_of_ble_eq_true rfl) rfl rfl ?_
          refine v_sipush (v := 1533) (q := 47) dX12_program_44 (by decide) rfl ?_
          refine v_iload_n (q := 48) 1 dX12_program_47 rfl rfl rfl ?_
          refine v_iadd (q := 49) dX12_program_48 rfl ?_
          replace H := bs H; obtain ⟨x6, x6e, H⟩ := H
          refine ur_rd (q := 50) rs rt0 x6e dX12_program_49 rfl ?_
          refine v_goto (q := 54) dX12_program_50 (by decide) ?_
          exact V.sub [] rfl (sgjX12_program_54 hd rs H)
      · replace H := ip c4 H
        refine v_aload_n (q := 28) 0 dX12_program_27 rfl rfl rfl ?_
        refine v_iload_n (q := 29) 1 dX12_program_28 rfl rfl rfl ?_
        replace H := bs H; obtain ⟨x7, x7e, H⟩ := H
        refine u_callV1 (M' := mX12_stepsOf) (d' := 1) (rc := (RX12, TX12, 58)) (As := [.int v1]) (st := []) (q := 32) oX12_stepsOf dX12_program_29 w1642 w1644 w0074 rfl rfl (RS.rc rs).1 (RS.rc rs).2 rfl (Nat.le_of_ble_eq_true rfl) (Nat.le_of_ble_eq_true rfl) (Nat.lt_of_lt_of_le (by decide) hd) rfl (sgX12_stepsOf (Nat.le_refl _) rs x7e) rfl ?_
        refine v_goto (q := 54) dX12_program_32 (by decide) ?_
        exact V.sub [] rfl (sgjX12_program_54 hd rs H)
    · replace H := ip c3 H
      refine v_aload_n (q := 15) 0 dX12_program_14 rfl rfl rfl ?_
      refine v_iload_n (q := 16) 1 dX12_program_15 rfl rfl rfl ?_
      replace H := bs H; obtain ⟨x8, x8e, H⟩ := H
      refine u_callV1 (M' := mX12_sortOf) (d' := 1) (rc := (RX12, TX12, 58)) (As := [.int v1]) (st := []) (q := 19) oX12_sortOf dX12_program_16 w1718 w1720 w0092 rfl rfl (RS.rc rs).1 (RS.rc rs).2 rfl (Nat.le_of_ble_eq_true rfl) (Nat.le_of_ble_eq_true rfl) (Nat.lt_of_lt_of_le (by decide) hd) rfl (sgX12_sortOf (Nat.le_refl _) rs x8e) rfl ?_
      refine v_goto (q := 54) dX12_program_19 (by decide) ?_
      exact V.sub [] rfl (sgjX12_program_54 hd rs H)
  · replace H := ip c2 H
    refine v_iconst (v := -1) (q := 9) dX12_program_8 (by decide) rfl ?_
    cases H
    exact v_ireturn rfl dX12_program_9
def mX12_proves : MI := (yX12_proves, cX12_proves, 4, some .int)
theorem oX12_proves : mOK mX12_proves 1 := ⟨by decide +kernel, by decide +kernel, by decide +kernel, by decide, w2003, w0150⟩
def gjX12_proves_22 (m : Mem) : Option (Int32 × Mem) :=
some (((-1 : Int32), m))
set_option maxRecDepth 20000 in
set_option maxHeartbeats 4000000 in
theorem sgjX12_proves_22 {Γ : Gm} {d : Nat} (hd : 10 ≤ d) {T : Nat} {h : Hp} (rs : RS T h) {m : Mem} {r : Int32 × Mem} (H : gjX12_proves_22 m = some r) : V Γ d mX12_proves 22 [] [] (hm T h m) (some (.int r.1), (hm T h r.2)) := by
  unfold gjX12_proves_22 at H
  refine v_iconst (v := -1) (q := 23) dX12_proves_22 (by decide) rfl ?_
  cases H
  exact v_ireturn rfl dX12_proves_23
def gjX12_proves_71 (u2 : Int32) (v3 : Int32) (m : Mem) : Option ((Int32 × Mem) ⊕ ((Mem) ⊕ (Mem))) :=
(some (v3 + (1 : Int32))).bind fun x11 =>
some (.inl (x11, m))
set_option maxRecDepth 20000 in
set_option maxHeartbeats 4000000 in
theorem sgjX12_proves_71 {Γ : Gm} {d : Nat} (hd : 10 ≤ d) {T : Nat} {h : Hp} (rs : RS T h) {u2 : Int32} {v3 : Int32} {m : Mem} {r : (Int32 × Mem) ⊕ ((Mem) ⊕ (Mem))} {t : Option Value × Hp} (H : gjX12_proves_71 u2 v3 m = some r) (kI : ∀ s, r = .inl s → (fun s32 => V Γ d mX12_proves 32 [(0, .ref T), (2, .int u2), (3, .int s32.1)] [] (hm T h s32.2) t) s) (kE : ∀ e, r = .inr e → (fun e => (match e with | .inl a0 => V Γ d mX12_proves 77 [] [] (hm T h a0) t | .inr b0 => V Γ d mX12_proves 69 [] [] (hm T h b0) t)) e) : V Γ d mX12_proves 71 [(0, .ref T), (2, .int u2), (3, .int v3)] [] (hm T h m) t := by
  unfold gjX12_proves_71 at H
  replace H := bs H; obtain ⟨x11, x11e, H⟩ := H
  refine v_iinc (v := x11) (L' := [(3, .int x11), (0, .ref T), (2, .int u2)]) (q := 74) 2 dX12_proves_71 rfl (Option.some.inj x11e) (by decide) rfl rfl ?_
  refine v_goto (q := 32) dX12_proves_74 (by decide) ?_
  exact V.sub [1, 2, 0] rfl (kI (x11, m) (Option.some.inj H).symm)
def gbX12_proves_32 (u2 : Int32) (s32 : Int32 × Mem) : Option ((Int32 × Mem) ⊕ ((Mem) ⊕ (Mem))) :=
(rd s32.2 4 2 (s32.2 0 9)).bind fun x7 =>
if ((1 : Int32) <<< (x7 &&& 31)) ≤ s32.1 then (
some (.inr (.inl s32.2))) else (
(gX12_stuck s32.2 s32.1 (0 : Int32)).bind fun x9 =>
if x9.1 = (1 : Int32) then (
(gX12_ringLocks x9.2).bind fun x12 =>
(gX12_areOf x9.2 x12 u2).bind fun x13 =>
if x13 = 0 then (
gjX12_proves_71 u2 s32.1 x9.2) else (
some (.inr (.inr x9.2)))) else (
gjX12_proves_71 u2 s32.1 x9.2))
set_option maxRecDepth 20000 in
set_option maxHeartbeats 4000000 in
theorem sgbX12_proves_32 {Γ : Gm} {d : Nat} (hd : 10 ≤ d) {T : Nat} {h : Hp} (rs : RS T h) {u2 : Int32} {s32 : Int32 × Mem} {r : (Int32 × Mem) ⊕ ((Mem) ⊕ (Mem))} {t : Option Value × Hp} (H : gbX12_proves_32 u2 s32 = some r) (kI : ∀ s, r = .inl s → (fun s32 => V Γ d mX12_proves 32 [(0, .ref T), (2, .int u2), (3, .int s32.1)] [] (hm T h s32.2) t) s) (kE : ∀ e, r = .inr e → (fun e => (match e with | .inl a0 => V Γ d mX12_proves 77 [] [] (hm T h a0) t | .inr b0 => V Γ d mX12_proves 69 [] [] (hm T h b0) t)) e) : V Γ d mX12_proves 32 [(0, .ref T), (2, .int u2), (3, .int s32.1)] [] (hm T h s32.2) t := by
  unfold gbX12_proves_32 at H
  refine v_iload_n (q := 33) 2 dX12_proves_32 rfl rfl rfl ?_
  refine v_iconst (v := 1) (q := 34) dX12_proves_33 (by decide) rfl ?_
  refine v_aload_n (q := 35) 0 dX12_proves_34 rfl rfl rfl ?_
  refine ur_arr (q := 38) rs rt3 dX12_proves_35 w1359 (Nat.le_of_ble_eq_true rfl) rfl rfl ?_
  refine v_aload_n (q := 39) 0 dX12_proves_38 rfl rfl rfl ?_
  refine ur_gI (q := 42) (x := 0) (k := 9) rs dX12_proves_39 w1365 (Nat.le_of_ble_eq_true rfl) rfl rfl ?_
  replace H := bs H; obtain ⟨x7, x7e, H⟩ := H
  refine ur_rd (q := 43) rs rt3 x7e dX12_proves_42 rfl ?_
  refine v_ishl (q := 44) dX12_proves_43 rfl ?_
  refine v_icmp_ge (q1 := 77) (q2 := 47) dX12_proves_44 (by decide) rfl (fun c8 => ?_) (fun c8 => ?_)
  · replace H := ip c8 H
    exact V.sub [] rfl (kE (.inl s32.2) (Option.some.inj H).symm)
  · replace H := ine c8 H
    refine v_aload_n (q := 48) 0 dX12_proves_47 rfl rfl rfl ?_
    refine v_iload_n (q := 49) 2 dX12_proves_48 rfl rfl rfl ?_
    refine v_iconst (v := 0) (q := 50) dX12_proves_49 (by decide) rfl ?_
    replace H := bs H; obtain ⟨x9, x9e, H⟩ := H
    refine u_callV1 (M' := mX12_stuck) (d' := 9) (rc := (RX12, TX12, 58)) (As := [.int s32.1, .int (0 : Int32)]) (st := []) (q := 53) oX12_stuck dX12_proves_50 w1838 w1839 w1840 rfl rfl (RS.rc rs).1 (RS.rc rs).2 rfl (Nat.le_of_ble_eq_true rfl) (Nat.le_of_ble_eq_true rfl) (Nat.lt_of_lt_of_le (by decide) hd) rfl (sgX12_stuck (Nat.le_refl _) rs x9e) rfl ?_
    refine v_iconst (v := 1) (q := 54) dX12_proves_53 (by decide) rfl ?_
    refine v_icmp_ne (q1 := 71) (q2 := 57) dX12_proves_54 (by decide) rfl (fun c10 => ?_) (fun c10 => ?_)
    · replace H := ine c10 H
      exact V.sub [0, 1, 2] rfl (sgjX12_proves_71 hd rs H kI kE)
    · replace H := ip c10 H
      refine v_aload_n (q := 58) 0 dX12_proves_57 rfl rfl rfl ?_
      refine v_aload_n (q := 59) 0 dX12_proves_58 rfl rfl rfl ?_
      replace H := bs H; obtain ⟨x12, x12e, H⟩ := H
      refine u_callV1 (M' := mX12_ringLocks) (d' := 1) (rc := (RX12, TX12, 58)) (As := []) (st := [.ref T]) (q := 62) oX12_ringLocks dX12_proves_59 w1925 w1927 w0126 rfl rfl (RS.rc rs).1 (RS.rc rs).2 rfl (Nat.le_of_ble_eq_true rfl) (Nat.le_of_ble_eq_true rfl) (Nat.lt_of_lt_of_le (by decide) hd) rfl (sgX12_ringLocks (Nat.le_refl _) rs x12e) rfl ?_
      refine v_iload_n (q := 63) 1 dX12_proves_62 rfl rfl rfl ?_
      replace H := bs H; obtain ⟨x13, x13e, H⟩ := H
      refine u_callV1 (M' := mX12_areOf) (d' := 2) (rc := (RX12, TX12, 58)) (As := [.int x12, .int u2]) (st := []) (q := 66) oX12_areOf dX12_proves_63 w2004 w2006 w0135 rfl rfl (RS.rc rs).1 (RS.rc rs).2 rfl (Nat.le_of_ble_eq_true rfl) (Nat.le_of_ble_eq_true rfl) (Nat.lt_of_lt_of_le (by decide) hd) rfl (sgX12_areOf (Nat.le_refl _) rs x13e) rfl ?_
      refine v_if_eq (q1 := 71) (q2 := 69) dX12_proves_66 (by decide) rfl (fun c14 => ?_) (fun c14 => ?_)
      · replace H := ip c14 H
        exact V.sub [0, 1, 2] rfl (sgjX12_proves_71 hd rs H kI kE)
      · replace H := ine c14 H
        exact V.sub [] rfl (kE (.inr x9.2) (Option.some.inj H).symm)
def gX12_proves (m : Mem) (v1 : Int32) : Option (Int32 × Mem) :=
(gX12_isReport m v1).bind fun x1 =>
if x1 = 0 then (
gjX12_proves_22 m) else (
(gX12_atReport v1 (0 : Int32)).bind fun x3 =>
(rd m 1 9685 x3).bind fun x4 =>
if x4 = (3 : Int32) then (
(gX12_kindsOf m v1).bind fun x6 =>
(lp (gbX12_proves_32 x6) FU ((1 : Int32), m)).bind fun e15 =>
(match e15 with
| .inl e16 => (
some (((0 : Int32), e16)))
| .inr e17 => (
some (((1 : Int32), e17))))) else (
gjX12_proves_22 m))
set_option maxRecDepth 20000 in
set_option maxHeartbeats 4000000 in
theorem sgX12_proves {Γ : Gm} {d : Nat} (hd : 10 ≤ d) {T : Nat} {h : Hp} (rs : RS T h) {m : Mem} {v1 : Int32} {r : Int32 × Mem} (H : gX12_proves m v1 = some r) : V Γ d mX12_proves 0 [(0, .ref T), (1, .int v1)] [] (hm T h m) (some (.int r.1), (hm T h r.2)) := by
  unfold gX12_proves at H
  refine v_aload_n (q := 1) 0 dX12_proves_0 rfl rfl rfl ?_
  refine v_iload_n (q := 2) 1 dX12_proves_1 rfl rfl rfl ?_
  replace H := bs H; obtain ⟨x1, x1e, H⟩ := H
  refine u_callV1 (M' := mX12_isReport) (d' := 2) (rc := (RX12, TX12, 58)) (As := [.int v1]) (st := []) (q := 5) oX12_isReport dX12_proves_2 w1797 w1799 w0101 rfl rfl (RS.rc rs).1 (RS.rc rs).2 rfl (Nat.le_of_ble_eq_true rfl) (Nat.le_of_ble_eq_true rfl) (Nat.lt_of_lt_of_le (by decide) hd) rfl (sgX12_isReport (Nat.le_refl _) rs x1e) rfl ?_
  refine v_if_eq (q1 := 22) (q2 := 8) dX12_proves_5 (by decide) rfl (fun c2 => ?_) (fun c2 => ?_)
  · replace H := ip c2 H
    exact V.sub [] rfl (sgjX12_proves_22 hd rs H)
  · replace H := ine c2 H
    refine v_aload_n (q := 9) 0 dX12_proves_8 rfl rfl rfl ?_
    refine ur_arr (q := 12) rs rt0 dX12_proves_9 w1356 (Nat.le_of_ble_eq_true rfl) rfl rfl ?_
    refine v_iload_n (q := 13) 1 dX12_proves_12 rfl rfl rfl ?_
    refine v_iconst (v := 0) (q := 14) dX12_proves_13 (by decide) rfl ?_
    replace H := bs H; obtain ⟨x3, x3e, H⟩ := H
    refine u_callS1 (M' := mX12_atReport) (d' := 1) (As := [.int v1, .int (0 : Int32)]) (st := [.ref (T + 1)]) (q := 17) oX12_atReport dX12_proves_14 w1670 w1671 rfl (Nat.le_of_ble_eq_true rfl) (Nat.le_of_ble_eq_true rfl) (Nat.lt_of_lt_of_le (by decide) hd) rfl (sgX12_atReport (Nat.le_refl _) x3e) rfl ?_
    replace H := bs H; obtain ⟨x4, x4e, H⟩ := H
    refine ur_rd (q := 18) rs rt0 x4e dX12_proves_17 rfl ?_
    refine v_iconst (v := 3) (q := 19) dX12_proves_18 (by decide) rfl ?_
    refine v_icmp_eq (q1 := 24) (q2 := 22) dX12_proves_19 (by decide) rfl (fun c5 => ?_) (fun c5 => ?_)
    · replace H := ip c5 H
      refine v_aload_n (q := 25) 0 dX12_proves_24 rfl rfl rfl ?_
      refine v_iload_n (q := 26) 1 dX12_proves_25 rfl rfl rfl ?_
      replace H := bs H; obtain ⟨x6, x6e, H⟩ := H
      refine u_callV1 (M' := mX12_kindsOf) (d' := 2) (rc := (RX12, TX12, 58)) (As := [.int v1]) (st := []) (q := 29) oX12_kindsOf dX12_proves_26 w1996 w1998 w0134 rfl rfl (RS.rc rs).1 (RS.rc rs).2 rfl (Nat.le_of_ble_eq_true rfl) (Nat.le_of_ble_eq_true rfl) (Nat.lt_of_lt_of_le (by decide) hd) rfl (sgX12_kindsOf (Nat.le_refl _) rs x6e) rfl ?_
      refine v_istore_n (L' := [(2, .int x6), (0, .ref T), (1, .int v1)]) (q := 30) dX12_proves_29 rfl (by decide) rfl rfl ?_
      refine v_iconst (v := 1) (q := 31) dX12_proves_30 (by decide) rfl ?_
      refine v_istore_n (L' := [(3, .int (1 : Int32)), (2, .int x6), (0, .ref T), (1, .int v1)]) (q := 32) dX12_proves_31 rfl (by decide) rfl rfl ?_
      replace H := bs H; obtain ⟨e15, e15L, H⟩ := H
      refine V.sub [2, 1, 0] rfl ?_
      refine lp_V (P := (fun s32 => V Γ d mX12_proves 32 [(0, .ref T), (2, .int x6), (3, .int s32.1)] [] (hm T h s32.2) (some (.int r.1), (hm T h r.2)))) (E := (fun e => (match e with | .inl a0 => V Γ d mX12_proves 77 [] [] (hm T h a0) (some (.int r.1), (hm T h r.2)) | .inr b0 => V Γ d mX12_proves 69 [] [] (hm T h b0) (some (.int r.1), (hm T h r.2))))) (fun s r hb kI kE => sgbX12_proves_32 hd rs (s32 := s) (r := r) hb kI kE) FU ((1 : Int32), m) e15 e15L ?_
      rcases e15 with e16 | e17
      · skip
        refine v_iconst (v := 0) (q := 78) dX12_proves_77 (by decide) rfl ?_
        cases H
        exact v_ireturn rfl dX12_proves_78
      · skip
        refine v_iconst (v := 1) (q := 70) dX12_proves_69 (by decide) rfl ?_
        cases H
        exact v_ireturn rfl dX12_proves_70
    · replace H := ine c5 H
      exact V.sub [] rfl (sgjX12_proves_22 hd rs H)
def mX12_reaches : MI := (yX12_reaches, cX12_reaches, 4, some .int)
theorem oX12_reaches : mOK mX12_reaches 1 := ⟨by decide +kernel, by decide +kernel, by decide +kernel, by decide, w1788, w0150⟩
def gjX12_reaches_34 (u1 : Int32) (v3 : Int32) (y0 : Int32) (y1 : Int32) (m : Mem) : Option ((Int32 × Int32 × Mem) ⊕ (Int32 × Mem)) :=
(some (y1 ||| y0)).bind fun x6 =>
(some (v3 + (1 : Int32))).bind fun x7 =>
some (.inl (x6, x7, m))
set_option maxRecDepth 20000 in
set_option maxHeartbeats 4000000 in
theorem sgjX12_reaches_34 {Γ : Gm} {d : Nat} (hd : 4 ≤ d) {T : Nat} {h : Hp} (rs : RS T h) {u1 : Int32} {v3 : Int32} {y0 : Int32} {y1 : Int32} {m : Mem} {r : (Int32 × Int32 × Mem) ⊕ (Int32 × Mem)} {t : Option Value × Hp} (H : gjX12_reaches_34 u1 v3 y0 y1 m = some r) (kI : ∀ s, r = .inl s → (fun s4 => V Γ d mX12_reaches 4 [(0, .ref T), (1, .int u1), (2, .int s4.1), (3, .int s4.2.1)] [] (hm T h s4.2.2) t) s) (kE : ∀ e, r = .inr e → (fun e => V Γ d mX12_reaches 42 [(2, .int e.1)] [] (hm T h e.2) t) e) : V Γ d mX12_reaches 34 [(0, .ref T), (1, .int u1), (3, .int v3)] [.int y0, .int y1] (hm T h m) t := by
  unfold gjX12_reaches_34 at H
  refine v_ior (q := 35) dX12_reaches_34 rfl ?_
  replace H := bs H; obtain ⟨x6, x6e, H⟩ := H
  refine v_topi (Option.some.inj x6e) ?_
  refine v_istore_n (L' := [(2, .int x6), (0, .ref T), (1, .int u1), (3, .int v3)]) (q := 36) dX12_reaches_35 rfl (by decide) rfl rfl ?_
  replace H := bs H; obtain ⟨x7, x7e, H⟩ := H
  refine v_iinc (v := x7) (L' := [(3, .int x7), (2, .int x6), (0, .ref T), (1, .int u1)]) (q := 39) 3 dX12_reaches_36 rfl (Option.some.inj x7e) (by decide) rfl rfl ?_
  refine v_goto (q := 4) dX12_reaches_39 (by decide) ?_
  exact V.sub [2, 3, 1, 0] rfl (kI (x6, x7, m) (Option.some.inj H).symm)
def gbX12_reaches_4 (u1 : Int32) (s4 : Int32 × Int32 × Mem) : Option ((Int32 × Int32 × Mem) ⊕ (Int32 × Mem)) :=
if (16 : Int32) ≤ s4.2.1 then (
some (.inr (s4.1, s4.2.2))) else (
(gX12_isNode u1).bind fun x2 =>
if x2 = 0 then (
some (.inr (s4.1, s4.2.2))) else (
(gX12_isWay s4.2.2 u1 s4.2.1).bind fun x4 =>
if x4.1 = 0 then (
gjX12_reaches_34 u1 s4.2.1 (0 : Int32) s4.1 x4.2) else (
gjX12_reaches_34 u1 s4.2.1 ((1 : Int32) <<< (s4.2.1 &&& 31)) s4.1 x4.2)))
set_option maxRecDepth 20000 in
set_option maxHeartbeats 4000000 in
theorem sgbX12_reaches_4 {Γ : Gm} {d : Nat} (hd : 4 ≤ d) {T : Nat} {h : Hp} (rs : RS T h) {u1 : Int32} {s4 : Int32 × Int32 × Mem} {r : (Int32 × Int32 × Mem) ⊕ (Int32 × Mem)} {t : Option Value × Hp} (H : gbX12_reaches_4 u1 s4 = some r) (kI : ∀ s, r = .inl s → (fun s4 => V Γ d mX12_reaches 4 [(0, .ref T), (1, .int u1), (2, .int s4.1), (3, .int s4.2.1)] [] (hm T h s4.2.2) t) s) (kE : ∀ e, r = .inr e → (fun e => V Γ d mX12_reaches 42 [(2, .int e.1)] [] (hm T h e.2) t) e) : V Γ d mX12_reaches 4 [(0, .ref T), (1, .int u1), (2, .int s4.1), (3, .int s4.2.1)] [] (hm T h s4.2.2) t := by
  unfold gbX12_reaches_4 at H
  refine v_iload_n (q := 5) 3 dX12_reaches_4 rfl rfl rfl ?_
  refine v_bipush (v := 16) (q := 7) dX12_reaches_5 (by decide) rfl ?_
  refine v_icmp_ge (q1 := 42) (q2 := 10) dX12_reaches_7 (by decide) rfl (fun c1 => ?_) (fun c1 => ?_)
  · replace H := ip c1 H
    exact V.sub [2] rfl (kE (s4.1, s4.2.2) (Option.some.inj H).symm)
  · replace H := ine c1 H
    refine v_iload_n (q := 11) 1 dX12_reaches_10 rfl rfl rfl ?_
    replace H := bs H; obtain ⟨x2, x2e, H⟩ := H
    refine u_callS1 (M' := mX12_isNode) (d' := 2) (As := [.int u1]) (st := []) (q := 14) oX12_isNode dX12_reaches_11 w1774 w1775 rfl (Nat.le_of_ble_eq_true rfl) (Nat.le_of_ble_eq_true rfl) (Nat.lt_of_lt_of_le (by decide) hd) rfl (sgX12_isNode (Nat.le_refl _) x2e) rfl ?_
    refine v_if_eq (q1 := 42) (q2 := 17) dX12_reaches_14 (by decide) rfl (fun c3 => ?_) (fun c3 => ?_)
    · replace H := ip c3 H
      exact V.sub [2] rfl (kE (s4.1, s4.2.2) (Option.some.inj H).symm)
    · replace H := ine c3 H
      refine v_iload_n (q := 18) 2 dX12_reaches_17 rfl rfl rfl ?_
      refine v_aload_n (q := 19) 0 dX12_reaches_18 rfl rfl rfl ?_
      refine v_iload_n (q := 20) 1 dX12_reaches_19 rfl rfl rfl ?_
      refine v_iload_n (q := 21) 3 dX12_reaches_20 rfl rfl rfl ?_
      replace H := bs H; obtain ⟨x4, x4e, H⟩ := H
      refine u_callV1 (M' := mX12_isWay) (d' := 3) (rc := (RX12, TX12, 58)) (As := [.int u1, .int s4.2.1]) (st := [.int s4.1]) (q := 24) oX12_isWay dX12_reaches_21 w1789 w1791 w0100 rfl rfl (RS.rc rs).1 (RS.rc rs).2 rfl (Nat.le_of_ble_eq_true rfl) (Nat.le_of_ble_eq_true rfl) (Nat.lt_of_lt_of_le (by decide) hd) rfl (sgX12_isWay (Nat.le_refl _) rs x4e) rfl ?_
      refine v_if_eq (q1 := 33) (q2 := 27) dX12_reaches_24 (by decide) rfl (fun c5 => ?_) (fun c5 => ?_)
      · replace H := ip c5 H
        refine v_iconst (v := 0) (q := 34) dX12_reaches_33 (by decide) rfl ?_
        exact V.sub [0, 1, 3] rfl (sgjX12_reaches_34 hd rs H kI kE)
      · replace H := ine c5 H
        refine v_iconst (v := 1) (q := 28) dX12_reaches_27 (by decide) rfl ?_
        refine v_iload_n (q := 29) 3 dX12_reaches_28 rfl rfl rfl ?_
        refine v_ishl (q := 30) dX12_reaches_29 rfl ?_
        refine v_goto (q := 34) dX12_reaches_30 (by decide) ?_
        exact V.sub [0, 1, 3] rfl (sgjX12_reaches_34 hd rs H kI kE)
def gX12_reaches (m : Mem) (v1 : Int32) : Option (Int32 × Mem) :=
(lp (gbX12_reaches_4 v1) FU ((0 : Int32), (0 : Int32), m)).bind fun e8 =>
some (e8.1, e8.2)
set_option maxRecDepth 20000 in
set_option maxHeartbeats 4000000 in
theorem sgX12_reaches {Γ : Gm} {d : Nat} (hd : 4 ≤ d) {T : Nat} {h : Hp} (rs : RS T h) {m : Mem} {v1 : Int32} {r : Int32 × Mem} (H : gX12_reaches m v1 = some r) : V Γ d mX12_reaches 0 [(0, .ref T), (1, .int v1)] [] (hm T h m) (some (.int r.1), (hm T h r.2)) := by
  unfold gX12_reaches at H
  refine v_iconst (v := 0) (q := 1) dX12_reaches_0 (by decide) rfl ?_
  refine v_istore_n (L' := [(2, .int (0 : Int32)), (0, .ref T), (1, .int v1)]) (q := 2) dX12_reaches_1 rfl (by decide) rfl rfl ?_
  refine v_iconst (v := 0) (q := 3) dX12_reaches_2 (by decide) rfl ?_
  refine v_istore_n (L' := [(3, .int (0 : Int32)), (2, .int (0 : Int32)), (0, .ref T), (1, .int v1)]) (q := 4) dX12_reaches_3 rfl (by decide) rfl rfl ?_
  replace H := bs H; obtain ⟨e8, e8L, H⟩ := H
  refine V.sub [2, 3, 1, 0] rfl ?_
  refine lp_V (P := (fun s4 => V Γ d mX12_reaches 4 [(0, .ref T), (1, .int v1), (2, .int s4.1), (3, .int s4.2.1)] [] (hm T h s4.2.2) (some (.int r.1), (hm T h r.2)))) (E := (fun e => V Γ d mX12_reaches 42 [(2, .int e.1)] [] (hm T h e.2) (some (.int r.1), (hm T h r.2)))) (fun s r hb kI kE => sgbX12_reaches_4 hd rs (s4 := s) (r := r) hb kI kE) FU ((0 : Int32), (0 : Int32), m) e8 e8L ?_
  refine v_iload_n (q := 43) 0 dX12_reaches_42 rfl rfl rfl ?_
  cases H
  exact v_ireturn rfl dX12_reaches_43

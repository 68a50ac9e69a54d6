def mX12_bestSwap : MI := (yX12_bestSwap, cX12_bestSwap, 7, some .int)
theorem oX12_bestSwap : mOK mX12_bestSwap 1 := ⟨by decide +kernel, by decide +kernel, by decide +kernel, by decide, w1832, w0150⟩
def gjX12_bestSwap_96 (u1 : Int32) (v2 : Int32) (v3 : Int32) (u4 : Int32) (v5 : Int32) (m : Mem) : Option ((Int32 × Int32 × Int32 × Mem) ⊕ (Int32 × Int32 × Mem)) :=
(some (v5 + (1 : Int32))).bind fun x13 =>
some (.inl (v2, v3, x13, m))
set_option maxRecDepth 20000 in
set_option maxHeartbeats 4000000 in
theorem sgjX12_bestSwap_96 {Γ : Gm} {d : Nat} (hd : 10 ≤ d) {T : Nat} {h : Hp} (rs : RS T h) {u1 : Int32} {v2 : Int32} {v3 : Int32} {u4 : Int32} {v5 : Int32} {m : Mem} {r : (Int32 × Int32 × Int32 × Mem) ⊕ (Int32 × Int32 × Mem)} {t : Option Value × Hp} (H : gjX12_bestSwap_96 u1 v2 v3 u4 v5 m = some r) (kI : ∀ s, r = .inl s → (fun s39 => V Γ d mX12_bestSwap 39 [(0, .ref T), (1, .int u1), (2, .int s39.1), (3, .int s39.2.1), (4, .int u4), (5, .int s39.2.2.1)] [] (hm T h s39.2.2.2) t) s) (kE : ∀ e, r = .inr e → (fun e => V Γ d mX12_bestSwap 102 [(0, .ref T), (1, .int u1), (2, .int e.1), (3, .int e.2.1), (4, .int u4)] [] (hm T h e.2.2) t) e) : V Γ d mX12_bestSwap 96 [(0, .ref T), (1, .int u1), (2, .int v2), (3, .int v3), (4, .int u4), (5, .int v5)] [] (hm T h m) t := by
  unfold gjX12_bestSwap_96 at H
  replace H := bs H; obtain ⟨x13, x13e, H⟩ := H
  refine v_iinc (v := x13) (L' := [(5, .int x13), (0, .ref T), (1, .int u1), (2, .int v2), (3, .int v3), (4, .int u4)]) (q := 99) 5 dX12_bestSwap_96 rfl (Option.some.inj x13e) (by decide) rfl rfl ?_
  refine v_goto (q := 39) dX12_bestSwap_99 (by decide) ?_
  exact V.sub [1, 2, 3, 4, 5, 0] rfl (kI (v2, v3, x13, m) (Option.some.inj H).symm)
def gbX12_bestSwap_39 (u1 : Int32) (u4 : Int32) (s39 : Int32 × Int32 × Int32 × Mem) : Option ((Int32 × Int32 × Int32 × Mem) ⊕ (Int32 × Int32 × Mem)) :=
(gX12_stepsOf s39.2.2.2 u4).bind fun x6 =>
if x6 ≤ (s39.2.2.1 + (1 : Int32)) then (
some (.inr (s39.1, s39.2.1, s39.2.2.2))) else (
(gX12_swapSteps s39.2.2.2 u4 s39.2.2.1).bind fun x8 =>
(gX12_all x8 (3 : Int32)).bind fun x9 =>
(gX12_swapSteps x9.2 u4 s39.2.2.1).bind fun x10 =>
if x9.1 < s39.1 then (
(some (((12 : Int32) * u4) + s39.2.2.1)).bind fun x12 =>
gjX12_bestSwap_96 u1 x9.1 x12 u4 s39.2.2.1 x10) else (
gjX12_bestSwap_96 u1 s39.1 s39.2.1 u4 s39.2.2.1 x10))
set_option maxRecDepth 20000 in
set_option maxHeartbeats 4000000 in
theorem sgbX12_bestSwap_39 {Γ : Gm} {d : Nat} (hd : 10 ≤ d) {T : Nat} {h : Hp} (rs : RS T h) {u1 : Int32} {u4 : Int32} {s39 : Int32 × Int32 × Int32 × Mem} {r : (Int32 × Int32 × Int32 × Mem) ⊕ (Int32 × Int32 × Mem)} {t : Option Value × Hp} (H : gbX12_bestSwap_39 u1 u4 s39 = some r) (kI : ∀ s, r = .inl s → (fun s39 => V Γ d mX12_bestSwap 39 [(0, .ref T), (1, .int u1), (2, .int s39.1), (3, .int s39.2.1), (4, .int u4), (5, .int s39.2.2.1)] [] (hm T h s39.2.2.2) t) s) (kE : ∀ e, r = .inr e → (fun e => V Γ d mX12_bestSwap 102 [(0, .ref T), (1, .int u1), (2, .int e.1), (3, .int e.2.1), (4, .int u4)] [] (hm T h e.2.2) t) e) : V Γ d mX12_bestSwap 39 [(0, .ref T), (1, .int u1), (2, .int s39.1), (3, .int s39.2.1), (4, .int u4), (5, .int s39.2.2.1)] [] (hm T h s39.2.2.2) t := by
  unfold gbX12_bestSwap_39 at H
  refine v_iload (q := 41) 5 dX12_bestSwap_39 rfl rfl ?_
  refine v_iconst (v := 1) (q := 42) dX12_bestSwap_41 (by decide) rfl ?_
  refine v_iadd (q := 43) dX12_bestSwap_42 rfl ?_
  refine v_aload_n (q := 44) 0 dX12_bestSwap_43 rfl rfl rfl ?_
  refine v_iload (q := 46) 4 dX12_bestSwap_44 rfl rfl ?_
  replace H := bs H; obtain ⟨x6, x6e, H⟩ := H
  refine u_callV1 (M' := mX12_stepsOf) (d' := 1) (rc := (RX12, TX12, 58)) (As := [.int u4]) (st := [.int (s39.2.2.1 + (1 : Int32))]) (q := 49) oX12_stepsOf dX12_bestSwap_46 w1642 w1644 w0074 rfl rfl (RS.rc rs).1 (RS.rc rs).2 rfl (Nat.le_of_ble_eq_true rfl) (Nat.le_of_ble_eq_true rfl) (Nat.lt_of_lt_of_le (by decide) hd) rfl (sgX12_stepsOf (Nat.le_refl _) rs x6e) rfl ?_
  refine v_icmp_ge (q1 := 102) (q2 := 52) dX12_bestSwap_49 (by decide) rfl (fun c7 => ?_) (fun c7 => ?_)
  · replace H := ip c7 H
    exact V.sub [0, 1, 2, 3, 4] rfl (kE (s39.1, s39.2.1, s39.2.2.2) (Option.some.inj H).symm)
  · replace H := ine c7 H
    refine v_aload_n (q := 53) 0 dX12_bestSwap_52 rfl rfl rfl ?_
    refine v_iload (q := 55) 4 dX12_bestSwap_53 rfl rfl ?_
    refine v_iload (q := 57) 5 dX12_bestSwap_55 rfl rfl ?_
    replace H := bs H; obtain ⟨x8, x8e, H⟩ := H
    refine u_callV0 (M' := mX12_swapSteps) (d' := 2) (rc := (RX12, TX12, 58)) (As := [.int u4, .int s39.2.2.1]) (st := []) (q := 60) oX12_swapSteps dX12_bestSwap_57 w1750 w1752 w0098 rfl rfl (RS.rc rs).1 (RS.rc rs).2 rfl (Nat.le_of_ble_eq_true rfl) (Nat.le_of_ble_eq_true rfl) (Nat.lt_of_lt_of_le (by decide) hd) rfl (sgX12_swapSteps (Nat.le_refl _) rs x8e) rfl ?_
    refine v_aload_n (q := 61) 0 dX12_bestSwap_60 rfl rfl rfl ?_
    refine v_iconst (v := 3) (q := 62) dX12_bestSwap_61 (by decide) rfl ?_
    replace H := bs H; obtain ⟨x9, x9e, H⟩ := H
    refine u_callV1 (M' := mX12_all) (d' := 9) (rc := (RX12, TX12, 58)) (As := [.int (3 : Int32)]) (st := []) (q := 65) oX12_all dX12_bestSwap_62 w1833 w1822 w1823 rfl rfl (RS.rc rs).1 (RS.rc rs).2 rfl (Nat.le_of_ble_eq_true rfl) (Nat.le_of_ble_eq_true rfl) (Nat.lt_of_lt_of_le (by decide) hd) rfl (sgX12_all (Nat.le_refl _) rs x9e) rfl ?_
    refine v_istore (L' := [(6, .int x9.1), (0, .ref T), (1, .int u1), (2, .int s39.1), (3, .int s39.2.1), (4, .int u4), (5, .int s39.2.2.1)]) (q := 67) dX12_bestSwap_65 (by decide) rfl rfl ?_
    refine v_aload_n (q := 68) 1 dX12_bestSwap_67 rfl rfl rfl ?_
    refine v_iload (q := 70) 5 dX12_bestSwap_68 rfl rfl ?_
    refine v_iload (q := 72) 6 dX12_bestSwap_70 rfl rfl ?_
    replace H := bs H; obtain ⟨x10, x10e, H⟩ := H
    refine u_callV0 (M' := mX12_swapSteps) (d' := 2) (rc := (RX12, TX12, 58)) (As := [.int u4, .int s39.2.2.1]) (st := []) (q := 75) oX12_swapSteps dX12_bestSwap_72 w1750 w1752 w0098 rfl rfl (RS.rc rs).1 (RS.rc rs).2 rfl (Nat.le_of_ble_eq_true rfl) (Nat.le_of_ble_eq_true rfl) (Nat.lt_of_lt_of_le (by decide) hd) rfl (sgX12_swapSteps (Nat.le_refl _) rs x10e) rfl ?_
    refine v_iload (q := 77) 0 dX12_bestSwap_75 rfl rfl ?_
    refine v_iload_n (q := 78) 3 dX12_bestSwap_77 rfl rfl rfl ?_
    refine v_icmp_lt (q1 := 84) (q2 := 81) dX12_bestSwap_78 (by decide) rfl (fun c11 => ?_) (fun c11 => ?_)
    · replace H := ip c11 H
      refine v_iload (q := 86) 0 dX12_bestSwap_84 rfl rfl ?_
      refine v_istore_n (L' := [(2, .int x9.1), (6, .int x9.1), (0, .ref T), (1, .int u1), (3, .int s39.2.1), (4, .int u4), (5, .int s39.2.2.1)]) (q := 87) dX12_bestSwap_86 rfl (by decide) rfl rfl ?_
      refine v_bipush (v := 12) (q := 89) dX12_bestSwap_87 (by decide) rfl ?_
      refine v_iload (q := 91) 5 dX12_bestSwap_89 rfl rfl ?_
      refine v_imul (q := 92) dX12_bestSwap_91 rfl ?_
      refine v_iload (q := 94) 6 dX12_bestSwap_92 rfl rfl ?_
      refine v_iadd (q := 95) dX12_bestSwap_94 rfl ?_
      replace H := bs H; obtain ⟨x12, x12e, H⟩ := H
      refine v_topi (Option.some.inj x12e) ?_
      refine v_istore_n (L' := [(3, .int x12), (2, .int x9.1), (6, .int x9.1), (0, .ref T), (1, .int u1), (4, .int u4), (5, .int s39.2.2.1)]) (q := 96) dX12_bestSwap_95 rfl (by decide) rfl rfl ?_
      exact V.sub [3, 4, 1, 0, 5, 6] rfl (sgjX12_bestSwap_96 hd rs H kI kE)
    · replace H := ine c11 H
      refine v_goto (q := 96) dX12_bestSwap_81 (by decide) ?_
      exact V.sub [1, 2, 3, 4, 5, 6] rfl (sgjX12_bestSwap_96 hd rs H kI kE)
def gbX12_bestSwap_22 (u1 : Int32) (s22 : Int32 × Int32 × Int32 × Mem) : Option ((Int32 × Int32 × Int32 × Mem) ⊕ (Int32 × Int32 × Mem)) :=
(rd s22.2.2.2 4 2 (s22.2.2.2 0 9)).bind fun x4 =>
if x4 ≤ s22.2.2.1 then (
some (.inr (s22.1, s22.2.1, s22.2.2.2))) else (
(lp (gbX12_bestSwap_39 u1 s22.2.2.1) FU (s22.1, s22.2.1, (0 : Int32), s22.2.2.2)).bind fun e14 =>
(some (s22.2.2.1 + (1 : Int32))).bind fun x15 =>
some (.inl (e14.1, e14.2.1, x15, e14.2.2)))
set_option maxRecDepth 20000 in
set_option maxHeartbeats 4000000 in
theorem sgbX12_bestSwap_22 {Γ : Gm} {d : Nat} (hd : 10 ≤ d) {T : Nat} {h : Hp} (rs : RS T h) {u1 : Int32} {s22 : Int32 × Int32 × Int32 × Mem} {r : (Int32 × Int32 × Int32 × Mem) ⊕ (Int32 × Int32 × Mem)} {t : Option Value × Hp} (H : gbX12_bestSwap_22 u1 s22 = some r) (kI : ∀ s, r = .inl s → (fun s22 => V Γ d mX12_bestSwap 22 [(0, .ref T), (1, .int u1), (2, .int s22.1), (3, .int s22.2.1), (4, .int s22.2.2.1)] [] (hm T h s22.2.2.2) t) s) (kE : ∀ e, r = .inr e → (fun e => V Γ d mX12_bestSwap 108 [(1, .int u1), (2, .int e.1), (3, .int e.2.1)] [] (hm T h e.2.2) t) e) : V Γ d mX12_bestSwap 22 [(0, .ref T), (1, .int u1), (2, .int s22.1), (3, .int s22.2.1), (4, .int s22.2.2.1)] [] (hm T h s22.2.2.2) t := by
  unfold gbX12_bestSwap_22 at H
  refine v_iload (q := 24) 4 dX12_bestSwap_22 rfl rfl ?_
  refine v_aload_n (q := 25) 0 dX12_bestSwap_24 rfl rfl rfl ?_
  refine ur_arr (q := 28) rs rt3 dX12_bestSwap_25 w1359 (Nat.le_of_ble_eq_true rfl) rfl rfl ?_
  refine v_aload_n (q := 29) 0 dX12_bestSwap_28 rfl rfl rfl ?_
  refine ur_gI (q := 32) (x := 0) (k := 9) rs dX12_bestSwap_29 w1365 (Nat.le_of_ble_eq_true rfl) rfl rfl ?_
  replace H := bs H; obtain ⟨x4, x4e, H⟩ := H
  refine ur_rd (q := 33) rs rt3 x4e dX12_bestSwap_32 rfl ?_
  refine v_icmp_ge (q1 := 108) (q2 := 36) dX12_bestSwap_33 (by decide) rfl (fun c5 => ?_) (fun c5 => ?_)
  · replace H := ip c5 H
    exact V.sub [1, 2, 3] rfl (kE (s22.1, s22.2.1, s22.2.2.2) (Option.some.inj H).symm)
  · replace H := ine c5 H
    refine v_iconst (v := 0) (q := 37) dX12_bestSwap_36 (by decide) rfl ?_
    refine v_istore (L' := [(5, .int (0 : Int32)), (0, .ref T), (1, .int u1), (2, .int s22.1), (3, .int s22.2.1), (4, .int s22.2.2.1)]) (q := 39) dX12_bestSwap_37 (by decide) rfl rfl ?_
    replace H := bs H; obtain ⟨e14, e14L, H⟩ := H
    refine V.sub [1, 2, 3, 4, 5, 0] rfl ?_
    refine lp_V (P := (fun s39 => V Γ d mX12_bestSwap 39 [(0, .ref T), (1, .int u1), (2, .int s39.1), (3, .int s39.2.1), (4, .int s22.2.2.1), (5, .int s39.2.2.1)] [] (hm T h s39.2.2.2) t)) (E := (fun e => V Γ d mX12_bestSwap 102 [(0, .ref T), (1, .int u1), (2, .int e.1), (3, .int e.2.1), (4, .int s22.2.2.1)] [] (hm T h e.2.2) t)) (fun s r hb kI kE => sgbX12_bestSwap_39 hd rs (s39 := s) (r := r) hb kI kE) FU (s22.1, s22.2.1, (0 : Int32), s22.2.2.2) e14 e14L ?_
    replace H := bs H; obtain ⟨x15, x15e, H⟩ := H
    refine v_iinc (v := x15) (L' := [(4, .int x15), (0, .ref T), (1, .int u1), (2, .int e14.1), (3, .int e14.2.1)]) (q := 105) 4 dX12_bestSwap_102 rfl (Option.some.inj x15e) (by decide) rfl rfl ?_
    refine v_goto (q := 22) dX12_bestSwap_105 (by decide) ?_
    exact V.sub [1, 2, 3, 4, 0] rfl (kI (e14.1, e14.2.1, x15, e14.2.2) (Option.some.inj H).symm)
def gjX12_bestSwap_138 (y0 : Int32) (m : Mem) : Option (Int32 × Mem) :=
some (y0, m)
set_option maxRecDepth 20000 in
set_option maxHeartbeats 4000000 in
theorem sgjX12_bestSwap_138 {Γ : Gm} {d : Nat} (hd : 10 ≤ d) {T : Nat} {h : Hp} (rs : RS T h) {y0 : Int32} {m : Mem} {r : Int32 × Mem} (H : gjX12_bestSwap_138 y0 m = some r) : V Γ d mX12_bestSwap 138 [] [.int y0] (hm T h m) (some (.int r.1), (hm T h r.2)) := by
  unfold gjX12_bestSwap_138 at H
  cases H
  exact v_ireturn rfl dX12_bestSwap_138
def gX12_bestSwap (m : Mem) (v1 : Int32) : Option (Int32 × Mem) :=
(gX12_isIn v1 (0 : Int32) (2 : Int32)).bind fun x1 =>
if x1 = 0 then (
some (((-1 : Int32), m))) else (
(gX12_all m (3 : Int32)).bind fun x3 =>
(lp (gbX12_bestSwap_22 v1) FU (x3.1, (-1 : Int32), (0 : Int32), x3.2)).bind fun e16 =>
if 0 ≤ e16.2.1 then (
if v1 = 0 then (
gjX12_bestSwap_138 e16.1 e16.2.2) else (
if v1 = (1 : Int32) then (
gjX12_bestSwap_138 (e16.2.1 / (12 : Int32)) e16.2.2) else (
gjX12_bestSwap_138 (e16.2.1 - e16.2.1 / (12 : Int32) * (12 : Int32)) e16.2.2))) else (
some (((-1 : Int32), e16.2.2))))
set_option maxRecDepth 20000 in
set_option maxHeartbeats 4000000 in
theorem sgX12_bestSwap {Γ : Gm} {d : Nat} (hd : 10 ≤ d) {T : Nat} {h : Hp} (rs : RS T h) {m : Mem} {v1 : Int32} {r : Int32 × Mem} (H : gX12_bestSwap m v1 = some r) : V Γ d mX12_bestSwap 0 [(0, .ref T), (1, .int v1)] [] (hm T h m) (some (.int r.1), (hm T h r.2)) := by
  unfold gX12_bestSwap at H
  refine v_iload_n (q := 1) 1 dX12_bestSwap_0 rfl rfl rfl ?_
  refine v_iconst (v := 0) (q := 2) dX12_bestSwap_1 (by decide) rfl ?_
  refine v_iconst (v := 2) (q := 3) dX12_bestSwap_2 (by decide) rfl ?_
  replace H := bs H; obtain ⟨x1, x1e, H⟩ := H
  refine u_callS1 (M' := mX12_isIn) (d' := 1) (As := [.int v1, .int (0 : Int32), .int (2 : Int32)]) (st := []) (q := 6) oX12_isIn dX12_bestSwap_3 w1618 w1619 rfl (Nat.le_of_ble_eq_true rfl) (Nat.le_of_ble_eq_true rfl) (Nat.lt_of_lt_of_le (by decide) hd) rfl (sgX12_isIn (Nat.le_refl _) x1e) rfl ?_
  refine v_if_ne (q1 := 11) (q2 := 9) dX12_bestSwap_6 (by decide) rfl (fun c2 => ?_) (fun c2 => ?_)
  · replace H := ine c2 H
    refine v_aload_n (q := 12) 0 dX12_bestSwap_11 rfl rfl rfl ?_
    refine v_iconst (v := 3) (q := 13) dX12_bestSwap_12 (by decide) rfl ?_
    replace H := bs H; obtain ⟨x3, x3e, H⟩ := H
    refine u_callV1 (M' := mX12_all) (d' := 9) (rc := (RX12, TX12, 58)) (As := [.int (3 : Int32)]) (st := []) (q := 16) oX12_all dX12_bestSwap_13 w1833 w1822 w1823 rfl rfl (RS.rc rs).1 (RS.rc rs).2 rfl (Nat.le_of_ble_eq_true rfl) (Nat.le_of_ble_eq_true rfl) (Nat.lt_of_lt_of_le (by decide) hd) rfl (sgX12_all (Nat.le_refl _) rs x3e) rfl ?_
    refine v_istore_n (L' := [(2, .int x3.1), (0, .ref T), (1, .int v1)]) (q := 17) dX12_bestSwap_16 rfl (by decide) rfl rfl ?_
    refine v_iconst (v := -1) (q := 18) dX12_bestSwap_17 (by decide) rfl ?_
    refine v_istore_n (L' := [(3, .int (-1 : Int32)), (2, .int x3.1), (0, .ref T), (1, .int v1)]) (q := 19) dX12_bestSwap_18 rfl (by decide) rfl rfl ?_
    refine v_iconst (v := 0) (q := 20) dX12_bestSwap_19 (by decide) rfl ?_
    refine v_istore (L' := [(4, .int (0 : Int32)), (3, .int (-1 : Int32)), (2, .int x3.1), (0, .ref T), (1, .int v1)]) (q := 22) dX12_bestSwap_20 (by decide) rfl rfl ?_
    replace H := bs H; obtain ⟨e16, e16L, H⟩ := H
    refine V.sub [3, 4, 2, 1, 0] rfl ?_
    refine lp_V (P := (fun s22 => V Γ d mX12_bestSwap 22 [(0, .ref T), (1, .int v1), (2, .int s22.1), (3, .int s22.2.1), (4, .int s22.2.2.1)] [] (hm T h s22.2.2.2) (some (.int r.1), (hm T h r.2)))) (E := (fun e => V Γ d mX12_bestSwap 108 [(1, .int v1), (2, .int e.1), (3, .int e.2.1)] [] (hm T h e.2.2) (some (.int r.1), (hm T h r.2)))) (fun s r hb kI kE => sgbX12_bestSwap_22 hd rs (s22 := s) (r := r) hb kI kE) FU (x3.1, (-1 : Int32), (0 : Int32), x3.2) e16 e16L ?_
    refine v_iload_n (q := 109) 2 dX12_bestSwap_108 rfl rfl rfl ?_
    refine v_if_ge (q1 := 114) (q2 := 112) dX12_bestSwap_109 (by decide) rfl (fun c17 => ?_) (fun c17 => ?_)
    · replace H := ip c17 H
      refine v_iload_n (q := 115) 0 dX12_bestSwap_114 rfl rfl rfl ?_
      refine v_if_ne (q1 := 122) (q2 := 118) dX12_bestSwap_115 (by decide) rfl (fun c18 => ?_) (fun c18 => ?_)
      · replace H := ine c18 H
        refine v_iload_n (q := 123) 0 dX12_bestSwap_122 rfl rfl rfl ?_
        refine v_iconst (v := 1) (q := 124) dX12_bestSwap_123 (by decide) rfl ?_
        refine v_icmp_ne (q1 := 134) (q2 := 127) dX12_bestSwap_124 (by decide) rfl (fun c19 => ?_) (fun c19 => ?_)
        · replace H := ine c19 H
          refine v_iload_n (q := 135) 2 dX12_bestSwap_134 rfl rfl rfl ?_
          refine v_bipush (v := 12) (q := 137) dX12_bestSwap_135 (by decide) rfl ?_
          refine v_irem (q := 138) dX12_bestSwap_137 (by decide) rfl ?_
          exact V.sub [] rfl (sgjX12_bestSwap_138 hd rs H)
        · replace H := ip c19 H
          refine v_iload_n (q := 128) 2 dX12_bestSwap_127 rfl rfl rfl ?_
          refine v_bipush (v := 12) (q := 130) dX12_bestSwap_128 (by decide) rfl ?_
          refine v_idiv (q := 131) dX12_bestSwap_130 (by decide) rfl ?_
          refine v_goto (q := 138) dX12_bestSwap_131 (by decide) ?_
          exact V.sub [] rfl (sgjX12_bestSwap_138 hd rs H)
      · replace H := ip c18 H
        refine v_iload_n (q := 119) 1 dX12_bestSwap_118 rfl rfl rfl ?_
        refine v_goto (q := 138) dX12_bestSwap_119 (by decide) ?_
        exact V.sub [] rfl (sgjX12_bestSwap_138 hd rs H)
    · replace H := ine c17 H
      refine v_iconst (v := -1) (q := 113) dX12_bestSwap_112 (by decide) rfl ?_
      cases H
      exact v_ireturn rfl dX12_bestSwap_113
  · replace H := ip c2 H
    refine v_iconst (v := -1) (q := 10) dX12_bestSwap_9 (by decide) rfl ?_
    cases H
    exact v_ireturn rfl dX12_bestSwap_10
def mX12_canCome : MI := (yX12_canCome, cX12_canCome, 3, some .boolean)
theorem oX12_canCome : mOK mX12_canCome 2 := ⟨by decide +kernel, by decide +kernel, by decide +kernel, by decide, w1916, w0150⟩
def gjX12_canCome_25 (m : Mem) : Option (Int32) :=
some (0 : Int32)
set_option maxRecDepth 20000 in
set_option maxHeartbeats 4000000 in
theorem sgjX12_canCome_25 {Γ : Gm} {d : Nat} (hd : 4 ≤ d) {T : Nat} {h : Hp} (rs : RS T h) {m : Mem} {r : Int32} (H : gjX12_canCome_25 m = some r) : V Γ d mX12_canCome 25 [] [] (hm T h m) (some (.int r), (hm T h m)) := by
  unfold gjX12_canCome_25 at H
  refine v_iconst (v := 0) (q := 26) dX12_canCome_25 (by decide) rfl ?_
  cases H
  exact v_zreturn rfl (by decide) dX12_canCome_26
def gjX12_canCome_93 (y0 : Int32) (m : Mem) : Option (Int32) :=
(bz y0).bind fun x11 =>
some x11
set_option maxRecDepth 20000 in
set_option maxHeartbeats 4000000 in
theorem sgjX12_canCome_93 {Γ : Gm} {d : Nat} (hd : 4 ≤ d) {T : Nat} {h : Hp} (rs : RS T h) {y0 : Int32} {m : Mem} {r : Int32} (H : gjX12_canCome_93 y0 m = some r) : V Γ d mX12_canCome 93 [] [.int y0] (hm T h m) (some (.int r), (hm T h m)) := by
  unfold gjX12_canCome_93 at H
  replace H := bs H; obtain ⟨x11, x11e, H⟩ := H
  obtain ⟨x11q, x11z⟩ := bz_sp x11e
  refine v_topi x11q.symm ?_
  cases H
  exact v_zreturn rfl (by rw [x11q]; exact x11z) dX12_canCome_93
def gjX12_canCome_92 (m : Mem) : Option (Int32) :=
gjX12_canCome_93 (0 : Int32) m
set_option maxRecDepth 20000 in
set_option maxHeartbeats 4000000 in
theorem sgjX12_canCome_92 {Γ : Gm} {d : Nat} (hd : 4 ≤ d) {T : Nat} {h : Hp} (rs : RS T h) {m : Mem} {r : Int32} (H : gjX12_canCome_92 m = some r) : V Γ d mX12_canCome 92 [] [] (hm T h m) (some (.int r), (hm T h m)) := by
  unfold gjX12_canCome_92 at H
  refine v_iconst (v := 0) (q := 93) dX12_canCome_92 (by decide) rfl ?_
  exact V.sub [] rfl (sgjX12_canCome_93 hd rs H)
def gjX12_canCome_63 (y0 : Int32) (m : Mem) : Option (Int32) :=
(bz y0).bind fun x17 =>
some x17
set_option maxRecDepth 20000 in
set_option maxHeartbeats 4000000 in
theorem sgjX12_canCome_63 {Γ : Gm} {d : Nat} (hd : 4 ≤ d) {T : Nat} {h : Hp} (rs : RS T h) {y0 : Int32} {m : Mem} {r : Int32} (H : gjX12_canCome_63 y0 m = some r) : V Γ d mX12_canCome 63 [] [.int y0] (hm T h m) (some (.int r), (hm T h m)) := by
  unfold gjX12_canCome_63 at H
  replace H := bs H; obtain ⟨x17, x17e, H⟩ := H
  obtain ⟨x17q, x17z⟩ := bz_sp x17e
  refine v_topi x17q.symm ?_
  cases H
  exact v_zreturn rfl (by rw [x17q]; exact x17z) dX12_canCome_63
def gjX12_canCome_62 (m : Mem) : Option (Int32) :=
gjX12_canCome_63 (0 : Int32) m
set_option maxRecDepth 20000 in
set_option maxHeartbeats 4000000 in
theorem sgjX12_canCome_62 {Γ : Gm} {d : Nat} (hd : 4 ≤ d) {T : Nat} {h : Hp} (rs : RS T h) {m : Mem} {r : Int32} (H : gjX12_canCome_62 m = some r) : V Γ d mX12_canCome 62 [] [] (hm T h m) (some (.int r), (hm T h m)) := by
  unfold gjX12_canCome_62 at H
  refine v_iconst (v := 0) (q := 63) dX12_canCome_62 (by decide) rfl ?_
  exact V.sub [] rfl (sgjX12_canCome_63 hd rs H)
def gX12_canCome (m : Mem) (v1 : Int32) (v2 : Int32) : Option (Int32) :=
(gX12_isIn0 m v1).bind fun x1 =>
if x1 = 0 then (
gjX12_canCome_25 m) else (
(gX12_sortOf m v1).bind fun x3 =>
if x3 = 0 then (
gjX12_canCome_25 m) else (
(rd m 23 6 v1).bind fun x5 =>
if x5 < 0 then (
(gX12_sortOf m v1).bind fun x7 =>
if x7 = (1 : Int32) then (
(gX12_sortOf m v2).bind fun x15 =>
if x15 = 0 then (
(rd m 23 6 v2).bind fun x18 =>
(gX12_canSoft m v2 x18).bind fun x19 =>
if x19 = 0 then (
gjX12_canCome_62 m) else (
gjX12_canCome_63 (1 : Int32) m)) else (
gjX12_canCome_62 m)) else (
(gX12_sortOf m v2).bind fun x9 =>
if x9 = (2 : Int32) then (
gjX12_canCome_92 m) else (
(rd m 23 6 v2).bind fun x12 =>
(gX12_isOn m v2 x12 (1 : Int32)).bind fun x13 =>
if x13 = 0 then (
gjX12_canCome_92 m) else (
gjX12_canCome_93 (1 : Int32) m)))) else (
gjX12_canCome_25 m)))
set_option maxRecDepth 20000 in
set_option maxHeartbeats 4000000 in
theorem sgX12_canCome {Γ : Gm} {d : Nat} (hd : 4 ≤ d) {T : Nat} {h : Hp} (rs : RS T h) {m : Mem} {v1 : Int32} {v2 : Int32} {r : Int32} (H : gX12_canCome m v1 v2 = some r) : V Γ d mX12_canCome 0 [(0, .ref T), (1, .int v1), (2, .int v2)] [] (hm T h m) (some (.int r), (hm T h m)) := by
  unfold gX12_canCome at H
  refine v_aload_n (q := 1) 0 dX12_canCome_0 rfl rfl rfl ?_
  refine v_iload_n (q := 2) 1 dX12_canCome_1 rfl rfl rfl ?_
  replace H := bs H; obtain ⟨x1, x1e, H⟩ := H
  refine u_callV1 (M' := mX12_isIn0) (d' := 2) (rc := (RX12, TX12, 58)) (As := [.int v1]) (st := []) (q := 5) oX12_isIn0 dX12_canCome_2 w1857 w1859 w0109 rfl rfl (RS.rc rs).1 (RS.rc rs).2 rfl (Nat.le_of_ble_eq_true rfl) (Nat.le_of_ble_eq_true rfl) (Nat.lt_of_lt_of_le (by decide) hd) rfl (sgX12_isIn0 (Nat.le_refl _) rs x1e) rfl ?_
  refine v_if_eq (q1 := 25) (q2 := 8) dX12_canCome_5 (by decide) rfl (fun c2 => ?_) (fun c2 => ?_)
  · replace H := ip c2 H
    exact V.sub [] rfl (sgjX12_canCome_25 hd rs H)
  · replace H := ine c2 H
    refine v_aload_n (q := 9) 0 dX12_canCome_8 rfl rfl rfl ?_
    refine v_iload_n (q := 10) 1 dX12_canCome_9 rfl rfl rfl ?_
    replace H := bs H; obtain ⟨x3, x3e, H⟩ := H
    refine u_callV1 (M' := mX12_sortOf) (d' := 1) (rc := (RX12, TX12, 58)) (As := [.int v1]) (st := []) (q := 13) oX12_sortOf dX12_canCome_10 w1718 w1720 w0092 rfl rfl (RS.rc rs).1 (RS.rc rs).2 rfl (Nat.le_of_ble_eq_true rfl) (Nat.le_of_ble_eq_true rfl) (Nat.lt_of_lt_of_le (by decide) hd) rfl (sgX12_sortOf (Nat.le_refl _) rs x3e) rfl ?_
    refine v_if_eq (q1 := 25) (q2 := 16) dX12_canCome_13 (by decide) rfl (fun c4 => ?_) (fun c4 => ?_)
    · replace H := ip c4 H
      exact V.sub [] rfl (sgjX12_canCome_25 hd rs H)
    · replace H := ine c4 H
      refine v_aload_n (q := 17) 0 dX12_canCome_16 rfl rfl rfl ?_
      refine ur_arr (q := 20) rs rt36 dX12_canCome_17 w1392 (Nat.le_of_ble_eq_true rfl) rfl rfl ?_
      refine v_iload_n (q := 21) 1 dX12_canCome_20 rfl rfl rfl ?_
      replace H := bs H; obtain ⟨x5, x5e, H⟩ := H
      refine ur_rd (q := 22) rs rt36 x5e dX12_canCome_21 rfl ?_
      refine v_if_lt (q1 := 27) (q2 := 25) dX12_canCome_22 (by decide) rfl (fun c6 => ?_) (fun c6 => ?_)
      · replace H := ip c6 H
        refine v_aload_n (q := 28) 0 dX12_canCome_27 rfl rfl rfl ?_
        refine v_iload_n (q := 29) 1 dX12_canCome_28 rfl rfl rfl ?_
        replace H := bs H; obtain ⟨x7, x7e, H⟩ := H
        refine u_callV1 (M' := mX12_sortOf) (d' := 1) (rc := (RX12, TX12, 58)) (As := [.int v1]) (st := []) (q := 32) oX12_sortOf dX12_canCome_29 w1718 w1720 w0092 rfl rfl (RS.rc rs).1 (RS.rc rs).2 rfl (Nat.le_of_ble_eq_true rfl) (Nat.le_of_ble_eq_true rfl) (Nat.lt_of_lt_of_le (by decide) hd) rfl (sgX12_sortOf (Nat.le_refl _) rs x7e) rfl ?_
        refine v_iconst (v := 1) (q := 33) dX12_canCome_32 (by decide) rfl ?_
        refine v_icmp_ne (q1 := 64) (q2 := 36) dX12_canCome_33 (by decide) rfl (fun c8 => ?_) (fun c8 => ?_)
        · replace H := ine c8 H
          refine v_aload_n (q := 65) 0 dX12_canCome_64 rfl rfl rfl ?_
          refine v_iload_n (q := 66) 2 dX12_canCome_65 rfl rfl rfl ?_
          replace H := bs H; obtain ⟨x9, x9e, H⟩ := H
          refine u_callV1 (M' := mX12_sortOf) (d' := 1) (rc := (RX12, TX12, 58)) (As := [.int v2]) (st := []) (q := 69) oX12_sortOf dX12_canCome_66 w1718 w1720 w0092 rfl rfl (RS.rc rs).1 (RS.rc rs).2 rfl (Nat.le_of_ble_eq_true rfl) (Nat.le_of_ble_eq_true rfl) (Nat.lt_of_lt_of_le (by decide) hd) rfl (sgX12_sortOf (Nat.le_refl _) rs x9e) rfl ?_
          refine v_iconst (v := 2) (q := 70) dX12_canCome_69 (by decide) rfl ?_
          refine v_icmp_eq (q1 := 92) (q2 := 73) dX12_canCome_70 (by decide) rfl (fun c10 => ?_) (fun c10 => ?_)
          · replace H := ip c10 H
            exact V.sub [] rfl (sgjX12_canCome_92 hd rs H)
          · replace H := ine c10 H
            refine v_aload_n (q := 74) 0 dX12_canCome_73 rfl rfl rfl ?_
            refine v_iload_n (q := 75) 2 dX12_canCome_74 rfl rfl rfl ?_
            refine v_aload_n (q := 76) 0 dX12_canCome_75 rfl rfl rfl ?_
            refine ur_arr (q := 79) rs rt36 dX12_canCome_76 w1392 (Nat.le_of_ble_eq_true rfl) rfl rfl ?_
            refine v_iload_n (q := 80) 2 dX12_canCome_79 rfl rfl rfl ?_
            replace H := bs H; obtain ⟨x12, x12e, H⟩ := H
            refine ur_rd (q := 81) rs rt36 x12e dX12_canCome_80 rfl ?_
            refine v_iconst (v := 1) (q := 82) dX12_canCome_81 (by decide) rfl ?_
            replace H := bs H; obtain ⟨x13, x13e, H⟩ := H
            refine u_callV1 (M' := mX12_isOn) (d' := 2) (rc := (RX12, TX12, 58)) (As := [.int v2, .int x12, .int (1 : Int32)]) (st := []) (q := 85) oX12_isOn dX12_canCome_82 w1722 w1724 w0093 rfl rfl (RS.rc rs).1 (RS.rc rs).2 rfl (Nat.le_of_ble_eq_true rfl) (Nat.le_of_ble_eq_true rfl) (Nat.lt_of_lt_of_le (by decide) hd) rfl (sgX12_isOn (Nat.le_refl _) rs x13e) rfl ?_
            refine v_if_eq (q1 := 92) (q2 := 88) dX12_canCome_85 (by decide) rfl (fun c14 => ?_) (fun c14 => ?_)
            · replace H := ip c14 H
              exact V.sub [] rfl (sgjX12_canCome_92 hd rs H)
            · replace H := ine c14 H
              refine v_iconst (v := 1) (q := 89) dX12_canCome_88 (by decide) rfl ?_
              refine v_goto (q := 93) dX12_canCome_89 (by decide) ?_
              exact V.sub [] rfl (sgjX12_canCome_93 hd rs H)
        · replace H := ip c8 H
          refine v_aload_n (q := 37) 0 dX12_canCome_36 rfl rfl rfl ?_
          refine v_iload_n (q := 38) 2 dX12_canCome_37 rfl rfl rfl ?_
          replace H := bs H; obtain ⟨x15, x15e, H⟩ := H
          refine u_callV1 (M' := mX12_sortOf) (d' := 1) (rc := (RX12, TX12, 58)) (As := [.int v2]) (st := []) (q := 41) oX12_sortOf dX12_canCome_38 w1718 w1720 w0092 rfl rfl (RS.rc rs).1 (RS.rc rs).2 rfl (Nat.le_of_ble_eq_true rfl) (Nat.le_of_ble_eq_true rfl) (Nat.lt_of_lt_of_le (by decide) hd) rfl (sgX12_sortOf (Nat.le_refl _) rs x15e) rfl ?_
          refine v_if_ne (q1 := 62) (q2 := 44) dX12_canCome_41 (by decide) rfl (fun c16 => ?_) (fun c16 => ?_)
          · replace H := ine c16 H
            exact V.sub [] rfl (sgjX12_canCome_62 hd rs H)
          · replace H := ip c16 H
            refine v_aload_n (q := 45) 0 dX12_canCome_44 rfl rfl rfl ?_
            refine v_iload_n (q := 46) 2 dX12_canCome_45 rfl rfl rfl ?_
            refine v_aload_n (q := 47) 0 dX12_canCome_46 rfl rfl rfl ?_
            refine ur_arr (q := 50) rs rt36 dX12_canCome_47 w1392 (Nat.le_of_ble_eq_true rfl) rfl rfl ?_
            refine v_iload_n (q := 51) 2 dX12_canCome_50 rfl rfl rfl ?_
            replace H := bs H; obtain ⟨x18, x18e, H⟩ := H
            refine ur_rd (q := 52) rs rt36 x18e dX12_canCome_51 rfl ?_
            replace H := bs H; obtain ⟨x19, x19e, H⟩ := H
            refine u_callV1 (M' := mX12_canSoft) (d' := 3) (rc := (RX12, TX12, 58)) (As := [.int v2, .int x18]) (st := []) (q := 55) oX12_canSoft dX12_canCome_52 w1726 w1728 w0094 rfl rfl (RS.rc rs).1 (RS.rc rs).2 rfl (Nat.le_of_ble_eq_true rfl) (Nat.le_of_ble_eq_true rfl) (Nat.lt_of_lt_of_le (by decide) hd) rfl (sgX12_canSoft (Nat.le_refl _) rs x19e) rfl ?_
            refine v_if_eq (q1 := 62) (q2 := 58) dX12_canCome_55 (by decide) rfl (fun c20 => ?_) (fun c20 => ?_)
            · replace H := ip c20 H
              exact V.sub [] rfl (sgjX12_canCome_62 hd rs H)
            · replace H := ine c20 H
              refine v_iconst (v := 1) (q := 59) dX12_canCome_58 (by decide) rfl ?_
              refine v_goto (q := 63) dX12_canCome_59 (by decide) ?_
              exact V.sub [] rfl (sgjX12_canCome_63 hd rs H)
      · replace H := ine c6 H
        exact V.sub [] rfl (sgjX12_canCome_25 hd rs H)
def mX12_isLedTo : MI := (yX12_isLedTo, cX12_isLedTo, 4, some .boolean)
theorem oX12_isLedTo : mOK mX12_isLedTo 2 := ⟨by decide +kernel, by decide +kernel, by decide +kernel, by decide, w1947, w0150⟩
def gjX12_isLedTo_27 (u1 : Int32) (u2 : Int32) (v3 : Int32) (m : Mem) : Option ((Int32) ⊕ ((Unit) ⊕ (Unit))) :=
(some (v3 + (1 : Int32))).bind fun x4 =>
some (.inl x4)
set_option maxRecDepth 20000 in
set_option maxHeartbeats 4000000 in
theorem sgjX12_isLedTo_27 {Γ : Gm} {d : Nat} (hd : 2 ≤ d) {T : Nat} {h : Hp} (rs : RS T h) {u1 : Int32} {u2 : Int32} {v3 : Int32} {m : Mem} {r : (Int32) ⊕ ((Unit) ⊕ (Unit))} {t : Option Value × Hp} (H : gjX12_isLedTo_27 u1 u2 v3 m = some r) (kI : ∀ s, r = .inl s → (fun s2 => V Γ d mX12_isLedTo 2 [(0, .ref T), (1, .int u1), (2, .int u2), (3, .int s2)] [] (hm T h m) t) s) (kE : ∀ e, r = .inr e → (fun e => (match e with | .inl a0 => V Γ d mX12_isLedTo 33 [] [] (hm T h m) t | .inr b0 => V Γ d mX12_isLedTo 25 [] [] (hm T h m) t)) e) : V Γ d mX12_isLedTo 27 [(0, .ref T), (1, .int u1), (2, .int u2), (3, .int v3)] [] (hm T h m) t := by
  unfold gjX12_isLedTo_27 at H
  replace H := bs H; obtain ⟨x4, x4e, H⟩ := H
  refine v_iinc (v := x4) (L' := [(3, .int x4), (0, .ref T), (1, .int u1), (2, .int u2)]) (q := 30) 3 dX12_isLedTo_27 rfl (Option.some.inj x4e) (by decide) rfl rfl ?_
  refine v_goto (q := 2) dX12_isLedTo_30 (by decide) ?_
  exact V.sub [1, 2, 3, 0] rfl (kI x4 (Option.some.inj H).symm)
def gbX12_isLedTo_2 (u1 : Int32) (u2 : Int32) (m : Mem) (s2 : Int32) : Option ((Int32) ⊕ ((Unit) ⊕ (Unit))) :=
if (16 : Int32) ≤ s2 then (
some (.inr (.inl ()))) else (
(gX12_has u2 s2).bind fun x2 =>
if x2 = 0 then (
gjX12_isLedTo_27 u1 u2 s2 m) else (
(gX12_isEdge m s2 u1).bind fun x5 =>
if x5 = 0 then (
gjX12_isLedTo_27 u1 u2 s2 m) else (
some (.inr (.inr ())))))
set_option maxRecDepth 20000 in
set_option maxHeartbeats 4000000 in
theorem sgbX12_isLedTo_2 {Γ : Gm} {d : Nat} (hd : 2 ≤ d) {T : Nat} {h : Hp} (rs : RS T h) {u1 : Int32} {u2 : Int32} {m : Mem} {s2 : Int32} {r : (Int32) ⊕ ((Unit) ⊕ (Unit))} {t : Option Value × Hp} (H : gbX12_isLedTo_2 u1 u2 m s2 = some r) (kI : ∀ s, r = .inl s → (fun s2 => V Γ d mX12_isLedTo 2 [(0, .ref T), (1, .int u1), (2, .int u2), (3, .int s2)] [] (hm T h m) t) s) (kE : ∀ e, r = .inr e → (fun e => (match e with | .inl a0 => V Γ d mX12_isLedTo 33 [] [] (hm T h m) t | .inr b0 => V Γ d mX12_isLedTo 25 [] [] (hm T h m) t)) e) : V Γ d mX12_isLedTo 2 [(0, .ref T), (1, .int u1), (2, .int u2), (3, .int s2)] [] (hm T h m) t := by
  unfold gbX12_isLedTo_2 at H
  refine v_iload_n (q := 3) 3 dX12_isLedTo_2 rfl rfl rfl ?_
  refine v_bipush (v := 16) (q := 5) dX12_isLedTo_3 (by decide) rfl ?_
  refine v_icmp_ge (q1 := 33) (q2 := 8) dX12_isLedTo_5 (by decide) rfl (fun c1 => ?_) (fun c1 => ?_)
  · replace H := ip c1 H
    exact V.sub [] rfl (kE (.inl ()) (Option.some.inj H).symm)
  · replace H := ine c1 H
    refine v_iload_n (q := 9) 2 dX12_isLedTo_8 rfl rfl rfl ?_
    refine v_iload_n (q := 10) 3 dX12_isLedTo_9 rfl rfl rfl ?_
    replace H := bs H; obtain ⟨x2, x2e, H⟩ := H
    refine u_callS1 (M' := mX12_has) (d' := 1) (As := [.int u2, .int s2]) (st := []) (q := 13) oX12_has dX12_isLedTo_10 w1846 w1847 rfl (Nat.le_of_ble_eq_true rfl) (Nat.le_of_ble_eq_true rfl) (Nat.lt_of_lt_of_le (by decide) hd) rfl (sgX12_has (Nat.le_refl _) x2e) rfl ?_
    refine v_if_eq (q1 := 27) (q2 := 16) dX12_isLedTo_13 (by decide) rfl (fun c3 => ?_) (fun c3 => ?_)
    · replace H := ip c3 H
      exact V.sub [0, 1, 2, 3] rfl (sgjX12_isLedTo_27 hd rs H kI kE)
    · replace H := ine c3 H
      refine v_aload_n (q := 17) 0 dX12_isLedTo_16 rfl rfl rfl ?_
      refine v_iload_n (q := 18) 3 dX12_isLedTo_17 rfl rfl rfl ?_
      refine v_iload_n (q := 19) 1 dX12_isLedTo_18 rfl rfl rfl ?_
      replace H := bs H; obtain ⟨x5, x5e, H⟩ := H
      refine u_callV1 (M' := mX12_isEdge) (d' := 1) (rc := (RX12, TX12, 58)) (As := [.int s2, .int u1]) (st := []) (q := 22) oX12_isEdge dX12_isLedTo_19 w1701 w1703 w0088 rfl rfl (RS.rc rs).1 (RS.rc rs).2 rfl (Nat.le_of_ble_eq_true rfl) (Nat.le_of_ble_eq_true rfl) (Nat.lt_of_lt_of_le (by decide) hd) rfl (sgX12_isEdge (Nat.le_refl _) rs x5e) rfl ?_
      refine v_if_eq (q1 := 27) (q2 := 25) dX12_isLedTo_22 (by decide) rfl (fun c6 => ?_) (fun c6 => ?_)
      · replace H := ip c6 H
        exact V.sub [0, 1, 2, 3] rfl (sgjX12_isLedTo_27 hd rs H kI kE)
      · replace H := ine c6 H
        exact V.sub [] rfl (kE (.inr ()) (Option.some.inj H).symm)
def gX12_isLedTo (m : Mem) (v1 : Int32) (v2 : Int32) : Option (Int32) :=
(lp (gbX12_isLedTo_2 v1 v2 m) FU (0 : Int32)).bind fun e7 =>
(match e7 with
| .inl e8 => (
some (0 : Int32))
| .inr e9 => (
some (1 : Int32)))
set_option maxRecDepth 20000 in
set_option maxHeartbeats 4000000 in
theorem sgX12_isLedTo {Γ : Gm} {d : Nat} (hd : 2 ≤ d) {T : Nat} {h : Hp} (rs : RS T h) {m : Mem} {v1 : Int32} {v2 : Int32} {r : Int32} (H : gX12_isLedTo m v1 v2 = some r) : V Γ d mX12_isLedTo 0 [(0, .ref T), (1, .int v1), (2, .int v2)] [] (hm T h m) (some (.int r), (hm T h m)) := by
  unfold gX12_isLedTo at H
  refine v_iconst (v := 0) (q := 1) dX12_isLedTo_0 (by decide) rfl ?_
  refine v_istore_n (L' := [(3, .int (0 : Int32)), (0, .ref T), (1, .int v1), (2, .int v2)]) (q := 2) dX12_isLedTo_1 rfl (by decide) rfl rfl ?_
  replace H := bs H; obtain ⟨e7, e7L, H⟩ := H
  refine V.sub [1, 2, 3, 0] rfl ?_
  refine lp_V (P := (fun s2 => V Γ d mX12_isLedTo 2 [(0, .ref T), (1, .int v1), (2, .int v2), (3, .int s2)] [] (hm T h m) (some (.int r), (hm T h m)))) (E := (fun e => (match e with | .inl a0 => V Γ d mX12_isLedTo 33 [] [] (hm T h m) (some (.int r), (hm T h m)) | .inr b0 => V Γ d mX12_isLedTo 25 [] [] (hm T h m) (some (.int r), (hm T h m))))) (fun s r hb kI kE => sgbX12_isLedTo_2 hd rs (s2 := s) (r := r) hb kI kE) FU (0 : Int32) e7 e7L ?_
  rcases e7 with e8 | e9
  · skip
    refine v_iconst (v := 0) (q := 34) dX12_isLedTo_33 (by decide) rfl ?_
    cases H
    exact v_zreturn rfl (by decide) dX12_isLedTo_34
  · skip
    refine v_iconst (v := 1) (q := 26) dX12_isLedTo_25 (by decide) rfl ?_
    cases H
    exact v_zreturn rfl (by decide) dX12_isLedTo_26
def mX12_layOrder : MI := (yX12_layOrder, cX12_layOrder, 5, some .int)
theorem oX12_layOrder : mOK mX12_layOrder 0 := ⟨by decide +kernel, by decide +kernel, by decide +kernel, by decide, w1943, w0150⟩
def gjX12_layOrder_45 (u2 : Int32) (u3 : Int32) (v4 : Int32) (y0 : Int32) (y1 : Int32) (m : Mem) : Option ((Int32 × Int32) ⊕ (Int32)) :=
(some (y1 ||| y0)).bind fun x5 =>
(some (v4 + (1 : Int32))).bind fun x6 =>
some (.inl (x5, x6))
set_option maxRecDepth 20000 in
set_option maxHeartbeats 4000000 in
theorem sgjX12_layOrder_45 {Γ : Gm} {d : Nat} (hd : 3 ≤ d) {T : Nat} {h : Hp} (rs : RS T h) {u2 : Int32} {u3 : Int32} {v4 : Int32} {y0 : Int32} {y1 : Int32} {m : Mem} {r : (Int32 × Int32) ⊕ (Int32)} {t : Option Value × Hp} (H : gjX12_layOrder_45 u2 u3 v4 y0 y1 m = some r) (kI : ∀ s, r = .inl s → (fun s15 => V Γ d mX12_layOrder 15 [(0, .ref T), (1, .int s15.1), (2, .int u2), (3, .int u3), (4, .int s15.2)] [] (hm T h m) t) s) (kE : ∀ e, r = .inr e → (fun e => V Γ d mX12_layOrder 53 [(0, .ref T), (1, .int e), (2, .int u2), (3, .int u3)] [] (hm T h m) t) e) : V Γ d mX12_layOrder 45 [(0, .ref T), (2, .int u2), (3, .int u3), (4, .int v4)] [.int y0, .int y1] (hm T h m) t := by
  unfold gjX12_layOrder_45 at H
  refine v_ior (q := 46) dX12_layOrder_45 rfl ?_
  replace H := bs H; obtain ⟨x5, x5e, H⟩ := H
  refine v_topi (Option.some.inj x5e) ?_
  refine v_istore_n (L' := [(1, .int x5), (0, .ref T), (2, .int u2), (3, .int u3), (4, .int v4)]) (q := 47) dX12_layOrder_46 rfl (by decide) rfl rfl ?_
  replace H := bs H; obtain ⟨x6, x6e, H⟩ := H
  refine v_iinc (v := x6) (L' := [(4, .int x6), (1, .int x5), (0, .ref T), (2, .int u2), (3, .int u3)]) (q := 50) 4 dX12_layOrder_47 rfl (Option.some.inj x6e) (by decide) rfl rfl ?_
  refine v_goto (q := 15) dX12_layOrder_50 (by decide) ?_
  exact V.sub [2, 1, 3, 4, 0] rfl (kI (x5, x6) (Option.some.inj H).symm)
def gbX12_layOrder_15 (u2 : Int32) (u3 : Int32) (m : Mem) (s15 : Int32 × Int32) : Option ((Int32 × Int32) ⊕ (Int32)) :=
if (16 : Int32) ≤ s15.2 then (
some (.inr s15.1)) else (
(gX12_isEdge m u3 s15.2).bind fun x3 =>
if x3 = 0 then (
gjX12_layOrder_45 u2 u3 s15.2 (0 : Int32) s15.1 m) else (
gjX12_layOrder_45 u2 u3 s15.2 (((1 : Int32) <<< (u3 &&& 31)) ||| ((1 : Int32) <<< (s15.2 &&& 31))) s15.1 m))
set_option maxRecDepth 20000 in
set_option maxHeartbeats 4000000 in
theorem sgbX12_layOrder_15 {Γ : Gm} {d : Nat} (hd : 3 ≤ d) {T : Nat} {h : Hp} (rs : RS T h) {u2 : Int32} {u3 : Int32} {m : Mem} {s15 : Int32 × Int32} {r : (Int32 × Int32) ⊕ (Int32)} {t : Option Value × Hp} (H : gbX12_layOrder_15 u2 u3 m s15 = some r) (kI : ∀ s, r = .inl s → (fun s15 => V Γ d mX12_layOrder 15 [(0, .ref T), (1, .int s15.1), (2, .int u2), (3, .int u3), (4, .int s15.2)] [] (hm T h m) t) s) (kE : ∀ e, r = .inr e → (fun e => V Γ d mX12_layOrder 53 [(0, .ref T), (1, .int e), (2, .int u2), (3, .int u3)] [] (hm T h m) t) e) : V Γ d mX12_layOrder 15 [(0, .ref T), (1, .int s15.1), (2, .int u2), (3, .int u3), (4, .int s15.2)] [] (hm T h m) t := by
  unfold gbX12_layOrder_15 at H
  refine v_iload (q := 17) 4 dX12_layOrder_15 rfl rfl ?_
  refine v_bipush (v := 16) (q := 19) dX12_layOrder_17 (by decide) rfl ?_
  refine v_icmp_ge (q1 := 53) (q2 := 22) dX12_layOrder_19 (by decide) rfl (fun c2 => ?_) (fun c2 => ?_)
  · replace H := ip c2 H
    exact V.sub [0, 1, 2, 3] rfl (kE s15.1 (Option.some.inj H).symm)
  · replace H := ine c2 H
    refine v_iload_n (q := 23) 1 dX12_layOrder_22 rfl rfl rfl ?_
    refine v_aload_n (q := 24) 0 dX12_layOrder_23 rfl rfl rfl ?_
    refine v_iload_n (q := 25) 3 dX12_layOrder_24 rfl rfl rfl ?_
    refine v_iload (q := 27) 4 dX12_layOrder_25 rfl rfl ?_
    replace H := bs H; obtain ⟨x3, x3e, H⟩ := H
    refine u_callV1 (M' := mX12_isEdge) (d' := 1) (rc := (RX12, TX12, 58)) (As := [.int u3, .int s15.2]) (st := [.int s15.1]) (q := 30) oX12_isEdge dX12_layOrder_27 w1701 w1703 w0088 rfl rfl (RS.rc rs).1 (RS.rc rs).2 rfl (Nat.le_of_ble_eq_true rfl) (Nat.le_of_ble_eq_true rfl) (Nat.lt_of_lt_of_le (by decide) hd) rfl (sgX12_isEdge (Nat.le_refl _) rs x3e) rfl ?_
    refine v_if_eq (q1 := 44) (q2 := 33) dX12_layOrder_30 (by decide) rfl (fun c4 => ?_) (fun c4 => ?_)
    · replace H := ip c4 H
      refine v_iconst (v := 0) (q := 45) dX12_layOrder_44 (by decide) rfl ?_
      exact V.sub [0, 2, 3, 4] rfl (sgjX12_layOrder_45 hd rs H kI kE)
    · replace H := ine c4 H
      refine v_iconst (v := 1) (q := 34) dX12_layOrder_33 (by decide) rfl ?_
      refine v_iload_n (q := 35) 3 dX12_layOrder_34 rfl rfl rfl ?_
      refine v_ishl (q := 36) dX12_layOrder_35 rfl ?_
      refine v_iconst (v := 1) (q := 37) dX12_layOrder_36 (by decide) rfl ?_
      refine v_iload (q := 39) 4 dX12_layOrder_37 rfl rfl ?_
      refine v_ishl (q := 40) dX12_layOrder_39 rfl ?_
      refine v_ior (q := 41) dX12_layOrder_40 rfl ?_
      refine v_goto (q := 45) dX12_layOrder_41 (by decide) ?_
      exact V.sub [0, 2, 3, 4] rfl (sgjX12_layOrder_45 hd rs H kI kE)
def gbX12_layOrder_6 (u2 : Int32) (m : Mem) (s6 : Int32 × Int32) : Option ((Int32 × Int32) ⊕ (Int32)) :=
if (16 : Int32) ≤ s6.2 then (
some (.inr s6.1)) else (
(lp (gbX12_layOrder_15 u2 s6.2 m) FU (s6.1, (0 : Int32))).bind fun e7 =>
(some (s6.2 + (1 : Int32))).bind fun x8 =>
some (.inl (e7, x8)))
set_option maxRecDepth 20000 in
set_option maxHeartbeats 4000000 in
theorem sgbX12_layOrder_6 {Γ : Gm} {d : Nat} (hd : 3 ≤ d) {T : Nat} {h : Hp} (rs : RS T h) {u2 : Int32} {m : Mem} {s6 : Int32 × Int32} {r : (Int32 × Int32) ⊕ (Int32)} {t : Option Value × Hp} (H : gbX12_layOrder_6 u2 m s6 = some r) (kI : ∀ s, r = .inl s → (fun s6 => V Γ d mX12_layOrder 6 [(0, .ref T), (1, .int s6.1), (2, .int u2), (3, .int s6.2)] [] (hm T h m) t) s) (kE : ∀ e, r = .inr e → (fun e => V Γ d mX12_layOrder 59 [(0, .ref T), (1, .int e), (2, .int u2)] [] (hm T h m) t) e) : V Γ d mX12_layOrder 6 [(0, .ref T), (1, .int s6.1), (2, .int u2), (3, .int s6.2)] [] (hm T h m) t := by
  unfold gbX12_layOrder_6 at H
  refine v_iload_n (q := 7) 3 dX12_layOrder_6 rfl rfl rfl ?_
  refine v_bipush (v := 16) (q := 9) dX12_layOrder_7 (by decide) rfl ?_
  refine v_icmp_ge (q1 := 59) (q2 := 12) dX12_layOrder_9 (by decide) rfl (fun c1 => ?_) (fun c1 => ?_)
  · replace H := ip c1 H
    exact V.sub [0, 1, 2] rfl (kE s6.1 (Option.some.inj H).symm)
  · replace H := ine c1 H
    refine v_iconst (v := 0) (q := 13) dX12_layOrder_12 (by decide) rfl ?_
    refine v_istore (L' := [(4, .int (0 : Int32)), (0, .ref T), (1, .int s6.1), (2, .int u2), (3, .int s6.2)]) (q := 15) dX12_layOrder_13 (by decide) rfl rfl ?_
    replace H := bs H; obtain ⟨e7, e7L, H⟩ := H
    refine V.sub [1, 2, 3, 4, 0] rfl ?_
    refine lp_V (P := (fun s15 => V Γ d mX12_layOrder 15 [(0, .ref T), (1, .int s15.1), (2, .int u2), (3, .int s6.2), (4, .int s15.2)] [] (hm T h m) t)) (E := (fun e => V Γ d mX12_layOrder 53 [(0, .ref T), (1, .int e), (2, .int u2), (3, .int s6.2)] [] (hm T h m) t)) (fun s r hb kI kE => sgbX12_layOrder_15 hd rs (s15 := s) (r := r) hb kI kE) FU (s6.1, (0 : Int32)) e7 e7L ?_
    replace H := bs H; obtain ⟨x8, x8e, H⟩ := H
    refine v_iinc (v := x8) (L' := [(3, .int x8), (0, .ref T), (1, .int e7), (2, .int u2)]) (q := 56) 3 dX12_layOrder_53 rfl (Option.some.inj x8e) (by decide) rfl rfl ?_
    refine v_goto (q := 6) dX12_layOrder_56 (by decide) ?_
    exact V.sub [1, 2, 3, 0] rfl (kI (e7, x8) (Option.some.inj H).symm)
def gjX12_layOrder_88 (u1 : Int32) (u2 : Int32) (v3 : Int32) (m : Mem) : Option ((Int32) ⊕ (Int32)) :=
(some (v3 + (1 : Int32))).bind fun x14 =>
some (.inl x14)
set_option maxRecDepth 20000 in
set_option maxHeartbeats 4000000 in
theorem sgjX12_layOrder_88 {Γ : Gm} {d : Nat} (hd : 3 ≤ d) {T : Nat} {h : Hp} (rs : RS T h) {u1 : Int32} {u2 : Int32} {v3 : Int32} {m : Mem} {r : (Int32) ⊕ (Int32)} {t : Option Value × Hp} (H : gjX12_layOrder_88 u1 u2 v3 m = some r) (kI : ∀ s, r = .inl s → (fun s65 => V Γ d mX12_layOrder 65 [(0, .ref T), (1, .int u1), (2, .int u2), (3, .int s65)] [] (hm T h m) t) s) (kE : ∀ e, r = .inr e → (fun e => V Γ d mX12_layOrder 94 [(0, .ref T), (1, .int u1), (2, .int u2), (3, .int e)] [] (hm T h m) t) e) : V Γ d mX12_layOrder 88 [(0, .ref T), (1, .int u1), (2, .int u2), (3, .int v3)] [] (hm T h m) t := by
  unfold gjX12_layOrder_88 at H
  replace H := bs H; obtain ⟨x14, x14e, H⟩ := H
  refine v_iinc (v := x14) (L' := [(3, .int x14), (0, .ref T), (1, .int u1), (2, .int u2)]) (q := 91) 3 dX12_layOrder_88 rfl (Option.some.inj x14e) (by decide) rfl rfl ?_
  refine v_goto (q := 65) dX12_layOrder_91 (by decide) ?_
  exact V.sub [1, 2, 3, 0] rfl (kI x14 (Option.some.inj H).symm)
def gbX12_layOrder_65 (u1 : Int32) (u2 : Int32) (m : Mem) (s65 : Int32) : Option ((Int32) ⊕ (Int32)) :=
if (16 : Int32) ≤ s65 then (
some (.inr s65)) else (
(gX12_has u1 s65).bind fun x12 =>
if x12 = 0 then (
gjX12_layOrder_88 u1 u2 s65 m) else (
(gX12_isLedTo m s65 u1).bind fun x15 =>
if x15 = 0 then (
some (.inr s65)) else (
gjX12_layOrder_88 u1 u2 s65 m)))
set_option maxRecDepth 20000 in
set_option maxHeartbeats 4000000 in
theorem sgbX12_layOrder_65 {Γ : Gm} {d : Nat} (hd : 3 ≤ d) {T : Nat} {h : Hp} (rs : RS T h) {u1 : Int32} {u2 : Int32} {m : Mem} {s65 : Int32} {r : (Int32) ⊕ (Int32)} {t : Option Value × Hp} (H : gbX12_layOrder_65 u1 u2 m s65 = some r) (kI : ∀ s, r = .inl s → (fun s65 => V Γ d mX12_layOrder 65 [(0, .ref T), (1, .int u1), (2, .int u2), (3, .int s65)] [] (hm T h m) t) s) (kE : ∀ e, r = .inr e → (fun e => V Γ d mX12_layOrder 94 [(0, .ref T), (1, .int u1), (2, .int u2), (3, .int e)] [] (hm T h m) t) e) : V Γ d mX12_layOrder 65 [(0, .ref T), (1, .int u1), (2, .int u2), (3, .int s65)] [] (hm T h m) t := by
  unfold gbX12_layOrder_65 at H
  refine v_iload_n (q := 66) 3 dX12_layOrder_65 rfl rfl rfl ?_
  refine v_bipush (v := 16) (q := 68) dX12_layOrder_66 (by decide) rfl ?_
  refine v_icmp_ge (q1 := 94) (q2 := 71) dX12_layOrder_68 (by decide) rfl (fun c11 => ?_) (fun c11 => ?_)
  · replace H := ip c11 H
    exact V.sub [0, 1, 2, 3] rfl (kE s65 (Option.some.inj H).symm)
  · replace H := ine c11 H
    refine v_iload_n (q := 72) 1 dX12_layOrder_71 rfl rfl rfl ?_
    refine v_iload_n (q := 73) 3 dX12_layOrder_72 rfl rfl rfl ?_
    replace H := bs H; obtain ⟨x12, x12e, H⟩ := H
    refine u_callS1 (M' := mX12_has) (d' := 1) (As := [.int u1, .int s65]) (st := []) (q := 76) oX12_has dX12_layOrder_73 w1846 w1847 rfl (Nat.le_of_ble_eq_true rfl) (Nat.le_of_ble_eq_true rfl) (Nat.lt_of_lt_of_le (by decide) hd) rfl (sgX12_has (Nat.le_refl _) x12e) rfl ?_
    refine v_if_eq (q1 := 88) (q2 := 79) dX12_layOrder_76 (by decide) rfl (fun c13 => ?_) (fun c13 => ?_)
    · replace H := ip c13 H
      exact V.sub [0, 1, 2, 3] rfl (sgjX12_layOrder_88 hd rs H kI kE)
    · replace H := ine c13 H
      refine v_aload_n (q := 80) 0 dX12_layOrder_79 rfl rfl rfl ?_
      refine v_iload_n (q := 81) 3 dX12_layOrder_80 rfl rfl rfl ?_
      refine v_iload_n (q := 82) 1 dX12_layOrder_81 rfl rfl rfl ?_
      replace H := bs H; obtain ⟨x15, x15e, H⟩ := H
      refine u_callV1 (M' := mX12_isLedTo) (d' := 2) (rc := (RX12, TX12, 58)) (As := [.int s65, .int u1]) (st := []) (q := 85) oX12_isLedTo dX12_layOrder_82 w1944 w1946 w0128 rfl rfl (RS.rc rs).1 (RS.rc rs).2 rfl (Nat.le_of_ble_eq_true rfl) (Nat.le_of_ble_eq_true rfl) (Nat.lt_of_lt_of_le (by decide) hd) rfl (sgX12_isLedTo (Nat.le_refl _) rs x15e) rfl ?_
      refine v_if_eq (q1 := 94) (q2 := 88) dX12_layOrder_85 (by decide) rfl (fun c16 => ?_) (fun c16 => ?_)
      · replace H := ip c16 H
        exact V.sub [0, 1, 2, 3] rfl (kE s65 (Option.some.inj H).symm)
      · replace H := ine c16 H
        exact V.sub [0, 1, 2, 3] rfl (sgjX12_layOrder_88 hd rs H kI kE)
def gbX12_layOrder_59  (s59 : Int32 × Int32 × Mem) : Option ((Int32 × Int32 × Mem) ⊕ ((Int32 × Mem) ⊕ (Mem))) :=
if s59.1 = 0 then (
some (.inr (.inl (s59.2.1, s59.2.2)))) else (
(lp (gbX12_layOrder_65 s59.1 s59.2.1 s59.2.2) FU (0 : Int32)).bind fun e17 =>
if e17 = (16 : Int32) then (
some (.inr (.inr s59.2.2))) else (
(wr s59.2.2 21 16 s59.2.1 e17).bind fun m19 =>
(some (s59.2.1 + (1 : Int32))).bind fun x20 =>
(some (s59.1 &&& (((1 : Int32) <<< (e17 &&& 31)) ^^^ (-1 : Int32)))).bind fun x21 =>
some (.inl (x21, x20, m19))))
set_option maxRecDepth 20000 in
set_option maxHeartbeats 4000000 in
theorem sgbX12_layOrder_59 {Γ : Gm} {d : Nat} (hd : 3 ≤ d) {T : Nat} {h : Hp} (rs : RS T h)  {s59 : Int32 × Int32 × Mem} {r : (Int32 × Int32 × Mem) ⊕ ((Int32 × Mem) ⊕ (Mem))} {t : Option Value × Hp} (H : gbX12_layOrder_59  s59 = some r) (kI : ∀ s, r = .inl s → (fun s59 => V Γ d mX12_layOrder 59 [(0, .ref T), (1, .int s59.1), (2, .int s59.2.1)] [] (hm T h s59.2.2) t) s) (kE : ∀ e, r = .inr e → (fun e => (match e with | .inl a0 => V Γ d mX12_layOrder 123 [(2, .int a0.1)] [] (hm T h a0.2) t | .inr b0 => V Γ d mX12_layOrder 100 [] [] (hm T h b0) t)) e) : V Γ d mX12_layOrder 59 [(0, .ref T), (1, .int s59.1), (2, .int s59.2.1)] [] (hm T h s59.2.2) t := by
  unfold gbX12_layOrder_59 at H
  refine v_iload_n (q := 60) 1 dX12_layOrder_59 rfl rfl rfl ?_
  refine v_if_eq (q1 := 123) (q2 := 63) dX12_layOrder_60 (by decide) rfl (fun c10 => ?_) (fun c10 => ?_)
  · replace H := ip c10 H
    exact V.sub [2] rfl (kE (.inl (s59.2.1, s59.2.2)) (Option.some.inj H).symm)
  · replace H := ine c10 H
    refine v_iconst (v := 0) (q := 64) dX12_layOrder_63 (by decide) rfl ?_
    refine v_istore_n (L' := [(3, .int (0 : Int32)), (0, .ref T), (1, .int s59.1), (2, .int s59.2.1)]) (q := 65) dX12_layOrder_64 rfl (by decide) rfl rfl ?_
    replace H := bs H; obtain ⟨e17, e17L, H⟩ := H
    refine V.sub [1, 2, 3, 0] rfl ?_
    refine lp_V (P := (fun s65 => V Γ d mX12_layOrder 65 [(0, .ref T), (1, .int s59.1), (2, .int s59.2.1), (3, .int s65)] [] (hm T h s59.2.2) t)) (E := (fun e => V Γ d mX12_layOrder 94 [(0, .ref T), (1, .int s59.1), (2, .int s59.2.1), (3, .int e)] [] (hm T h s59.2.2) t)) (fun s r hb kI kE => sgbX12_layOrder_65 hd rs (s65 := s) (r := r) hb kI kE) FU (0 : Int32) e17 e17L ?_
    refine v_iload_n (q := 95) 3 dX12_layOrder_94 rfl rfl rfl ?_
    refine v_bipush (v := 16) (q := 97) dX12_layOrder_95 (by decide) rfl ?_
    refine v_icmp_ne (q1 := 102) (q2 := 100) dX12_layOrder_97 (by decide) rfl (fun c18 => ?_) (fun c18 => ?_)
    · replace H := ine c18 H
      refine v_aload_n (q := 103) 0 dX12_layOrder_102 rfl rfl rfl ?_
      refine ur_arr (q := 106) rs rt33 dX12_layOrder_103 w1389 (Nat.le_of_ble_eq_true rfl) rfl rfl ?_
      refine v_iload_n (q := 107) 2 dX12_layOrder_106 rfl rfl rfl ?_
      refine v_iload_n (q := 108) 3 dX12_layOrder_107 rfl rfl rfl ?_
      replace H := bs H; obtain ⟨m19, m19e, H⟩ := H
      refine ur_wr (q := 109) rs rt33 m19e dX12_layOrder_108 rfl ?_
      replace H := bs H; obtain ⟨x20, x20e, H⟩ := H
      refine v_iinc (v := x20) (L' := [(2, .int x20), (0, .ref T), (1, .int s59.1), (3, .int e17)]) (q := 112) 2 dX12_layOrder_109 rfl (Option.some.inj x20e) (by decide) rfl rfl ?_
      refine v_iload_n (q := 113) 2 dX12_layOrder_112 rfl rfl rfl ?_
      refine v_iconst (v := 1) (q := 114) dX12_layOrder_113 (by decide) rfl ?_
      refine v_iload_n (q := 115) 3 dX12_layOrder_114 rfl rfl rfl ?_
      refine v_ishl (q := 116) dX12_layOrder_115 rfl ?_
      refine v_iconst (v := -1) (q := 117) dX12_layOrder_116 (by decide) rfl ?_
      refine v_ixor (q := 118) dX12_layOrder_117 rfl ?_
      refine v_iand (q := 119) dX12_layOrder_118 rfl ?_
      replace H := bs H; obtain ⟨x21, x21e, H⟩ := H
      refine v_topi (Option.some.inj x21e) ?_
      refine v_istore_n (L' := [(1, .int x21), (2, .int x20), (0, .ref T), (3, .int e17)]) (q := 120) dX12_layOrder_119 rfl (by decide) rfl rfl ?_
      refine v_goto (q := 59) dX12_layOrder_120 (by decide) ?_
      exact V.sub [2, 0, 1] rfl (kI (x21, x20, m19) (Option.some.inj H).symm)
    · replace H := ip c18 H
      exact V.sub [] rfl (kE (.inr s59.2.2) (Option.some.inj H).symm)
def gX12_layOrder (m : Mem)  : Option (Int32 × Mem) :=
(lp (gbX12_layOrder_6 (0 : Int32) m) FU ((0 : Int32), (0 : Int32))).bind fun e9 =>
(lp (gbX12_layOrder_59) FU (e9, (0 : Int32), m)).bind fun e22 =>
(match e22 with
| .inl e23 => (
some (e23.1, e23.2))
| .inr e24 => (
some (((-1 : Int32), e24))))
set_option maxRecDepth 20000 in
set_option maxHeartbeats 4000000 in
theorem sgX12_layOrder {Γ : Gm} {d : Nat} (hd : 3 ≤ d) {T : Nat} {h : Hp} (rs : RS T h) {m : Mem}  {r : Int32 × Mem} (H : gX12_layOrder m  = some r) : V Γ d mX12_layOrder 0 [(0, .ref T)] [] (hm T h m) (some (.int r.1), (hm T h r.2)) := by
  unfold gX12_layOrder at H
  refine v_iconst (v := 0) (q := 1) dX12_layOrder_0 (by decide) rfl ?_
  refine v_istore_n (L' := [(1, .int (0 : Int32)), (0, .ref T)]) (q := 2) dX12_layOrder_1 rfl (by decide) rfl rfl ?_
  refine v_iconst (v := 0) (q := 3) dX12_layOrder_2 (by decide) rfl ?_
  refine v_istore_n (L' := [(2, .int (0 : Int32)), (1, .int (0 : Int32)), (0, .ref T)]) (q := 4) dX12_layOrder_3 rfl (by decide) rfl rfl ?_
  refine v_iconst (v := 0) (q := 5) dX12_layOrder_4 (by decide) rfl ?_
  refine v_istore_n (L' := [(3, .int (0 : Int32)), (2, .int (0 : Int32)), (1, .int (0 : Int32)), (0, .ref T)]) (q := 6) dX12_layOrder_5 rfl (by decide) rfl rfl ?_
  replace H := bs H; obtain ⟨e9, e9L, H⟩ := H
  refine V.sub [3, 2, 1, 0] rfl ?_
  refine lp_V (P := (fun s6 => V Γ d mX12_layOrder 6 [(0, .ref T), (1, .int s6.1), (2, .int (0 : Int32)), (3, .int s6.2)] [] (hm T h m) (some (.int r.1), (hm T h r.2)))) (E := (fun e => V Γ d mX12_layOrder 59 [(0, .ref T), (1, .int e), (2, .int (0 : Int32))] [] (hm T h m) (some (.int r.1), (hm T h r.2)))) (fun s r hb kI kE => sgbX12_layOrder_6 hd rs (s6 := s) (r := r) hb kI kE) FU ((0 : Int32), (0 : Int32)) e9 e9L ?_
  replace H := bs H; obtain ⟨e22, e22L, H⟩ := H
  refine V.sub [0, 1, 2] rfl ?_
  refine lp_V (P := (fun s59 => V Γ d mX12_layOrder 59 [(0, .ref T), (1, .int s59.1), (2, .int s59.2.1)] [] (hm T h s59.2.2) (some (.int r.1), (hm T h r.2)))) (E := (fun e => (match e with | .inl a0 => V Γ d mX12_layOrder 123 [(2, .int a0.1)] [] (hm T h a0.2) (some (.int r.1), (hm T h r.2)) | .inr b0 => V Γ d mX12_layOrder 100 [] [] (hm T h b0) (some (.int r.1), (hm T h r.2))))) (fun s r hb kI kE => sgbX12_layOrder_59 hd rs (s59 := s) (r := r) hb kI kE) FU (e9, (0 : Int32), m) e22 e22L ?_
  rcases e22 with e23 | e24
  · skip
    refine v_iload_n (q := 124) 0 dX12_layOrder_123 rfl rfl rfl ?_
    cases H
    exact v_ireturn rfl dX12_layOrder_124
  · skip
    refine v_iconst (v := -1) (q := 101) dX12_layOrder_100 (by decide) rfl ?_
    cases H
    exact v_ireturn rfl dX12_layOrder_101
def mX12_canMendLast : MI := (yX12_canMendLast, cX12_canMendLast, 6, some .boolean)
theorem oX12_canMendLast : mOK mX12_canMendLast 2 := ⟨by decide +kernel, by decide +kernel, by decide +kernel, by decide, w1963, w0150⟩
def gjX12_canMendLast_48 (u2 : Int32) (v3 : Int32) (v4 : Int32) (y0 : Int32) (m : Mem) : Option ((Int32 × Mem) ⊕ ((Mem) ⊕ (Mem))) :=
(rd m 22 256 v3).bind fun x8 =>
(wr m 1 9685 ((0 : Int32) + x8) v4).bind fun m9 =>
if y0 = 0 then (
(some (v3 + (1 : Int32))).bind fun x11 =>
some (.inl (x11, m9))) else (
some (.inr (.inr m9)))
set_option maxRecDepth 20000 in
set_option maxHeartbeats 4000000 in
theorem sgjX12_canMendLast_48 {Γ : Gm} {d : Nat} (hd : 4 ≤ d) {T : Nat} {h : Hp} (rs : RS T h) {u2 : Int32} {v3 : Int32} {v4 : Int32} {y0 : Int32} {m : Mem} {r : (Int32 × Mem) ⊕ ((Mem) ⊕ (Mem))} {t : Option Value × Hp} (H : gjX12_canMendLast_48 u2 v3 v4 y0 m = some r) (kI : ∀ s, r = .inl s → (fun s2 => V Γ d mX12_canMendLast 2 [(0, .ref T), (2, .int u2), (3, .int s2.1)] [] (hm T h s2.2) t) s) (kE : ∀ e, r = .inr e → (fun e => (match e with | .inl a0 => V Γ d mX12_canMendLast 78 [] [] (hm T h a0) t | .inr b0 => V Γ d mX12_canMendLast 70 [] [] (hm T h b0) t)) e) : V Γ d mX12_canMendLast 48 [(0, .ref T), (2, .int u2), (3, .int v3), (4, .int v4)] [.int y0] (hm T h m) t := by
  unfold gjX12_canMendLast_48 at H
  refine v_istore (L' := [(5, .int y0), (0, .ref T), (2, .int u2), (3, .int v3), (4, .int v4)]) (q := 50) dX12_canMendLast_48 (by decide) rfl rfl ?_
  refine v_aload_n (q := 51) 1 dX12_canMendLast_50 rfl rfl rfl ?_
  refine ur_arr (q := 54) rs rt0 dX12_canMendLast_51 w1356 (Nat.le_of_ble_eq_true rfl) rfl rfl ?_
  refine v_iconst (v := 0) (q := 55) dX12_canMendLast_54 (by decide) rfl ?_
  refine v_aload_n (q := 56) 1 dX12_canMendLast_55 rfl rfl rfl ?_
  refine ur_arr (q := 59) rs rt34 dX12_canMendLast_56 w1390 (Nat.le_of_ble_eq_true rfl) rfl rfl ?_
  refine v_iload_n (q := 60) 3 dX12_canMendLast_59 rfl rfl rfl ?_
  replace H := bs H; obtain ⟨x8, x8e, H⟩ := H
  refine ur_rd (q := 61) rs rt34 x8e dX12_canMendLast_60 rfl ?_
  refine v_iadd (q := 62) dX12_canMendLast_61 rfl ?_
  refine v_iload (q := 64) 4 dX12_canMendLast_62 rfl rfl ?_
  replace H := bs H; obtain ⟨m9, m9e, H⟩ := H
  refine ur_wr (q := 65) rs rt0 m9e dX12_canMendLast_64 rfl ?_
  refine v_iload (q := 67) 0 dX12_canMendLast_65 rfl rfl ?_
  refine v_if_eq (q1 := 72) (q2 := 70) dX12_canMendLast_67 (by decide) rfl (fun c10 => ?_) (fun c10 => ?_)
  · replace H := ip c10 H
    replace H := bs H; obtain ⟨x11, x11e, H⟩ := H
    refine v_iinc (v := x11) (L' := [(3, .int x11), (5, .int y0), (0, .ref T), (2, .int u2), (4, .int v4)]) (q := 75) 3 dX12_canMendLast_72 rfl (Option.some.inj x11e) (by decide) rfl rfl ?_
    refine v_goto (q := 2) dX12_canMendLast_75 (by decide) ?_
    exact V.sub [2, 3, 0] rfl (kI (x11, m9) (Option.some.inj H).symm)
  · replace H := ine c10 H
    exact V.sub [] rfl (kE (.inr m9) (Option.some.inj H).symm)
def gbX12_canMendLast_2 (u2 : Int32) (s2 : Int32 × Mem) : Option ((Int32 × Mem) ⊕ ((Mem) ⊕ (Mem))) :=
if u2 ≤ s2.1 then (
some (.inr (.inl s2.2))) else (
(rd s2.2 22 256 s2.1).bind fun x2 =>
(rd s2.2 1 9685 ((0 : Int32) + x2)).bind fun x3 =>
(rd s2.2 22 256 s2.1).bind fun x4 =>
(wr s2.2 1 9685 ((0 : Int32) + x4) (0 : Int32)).bind fun m5 =>
(gX12_layOrder m5).bind fun x6 =>
if x6.1 < 0 then (
gjX12_canMendLast_48 u2 s2.1 x3 (0 : Int32) x6.2) else (
gjX12_canMendLast_48 u2 s2.1 x3 (1 : Int32) x6.2))
set_option maxRecDepth 20000 in
set_option maxHeartbeats 4000000 in
theorem sgbX12_canMendLast_2 {Γ : Gm} {d : Nat} (hd : 4 ≤ d) {T : Nat} {h : Hp} (rs : RS T h) {u2 : Int32} {s2 : Int32 × Mem} {r : (Int32 × Mem) ⊕ ((Mem) ⊕ (Mem))} {t : Option Value × Hp} (H : gbX12_canMendLast_2 u2 s2 = some r) (kI : ∀ s, r = .inl s → (fun s2 => V Γ d mX12_canMendLast 2 [(0, .ref T), (2, .int u2), (3, .int s2.1)] [] (hm T h s2.2) t) s) (kE : ∀ e, r = .inr e → (fun e => (match e with | .inl a0 => V Γ d mX12_canMendLast 78 [] [] (hm T h a0) t | .inr b0 => V Γ d mX12_canMendLast 70 [] [] (hm T h b0) t)) e) : V Γ d mX12_canMendLast 2 [(0, .ref T), (2, .int u2), (3, .int s2.1)] [] (hm T h s2.2) t := by
  unfold gbX12_canMendLast_2 at H
  refine v_iload_n (q := 3) 2 dX12_canMendLast_2 rfl rfl rfl ?_
  refine v_iload_n (q := 4) 1 dX12_canMendLast_3 rfl rfl rfl ?_
  refine v_icmp_ge (q1 := 78) (q2 := 7) dX12_canMendLast_4 (by decide) rfl (fun c1 => ?_) (fun c1 => ?_)
  · replace H := ip c1 H
    exact V.sub [] rfl (kE (.inl s2.2) (Option.some.inj H).symm)
  · replace H := ine c1 H
    refine v_aload_n (q := 8) 0 dX12_canMendLast_7 rfl rfl rfl ?_
    refine ur_arr (q := 11) rs rt0 dX12_canMendLast_8 w1356 (Nat.le_of_ble_eq_true rfl) rfl rfl ?_
    refine v_iconst (v := 0) (q := 12) dX12_canMendLast_11 (by decide) rfl ?_
    refine v_aload_n (q := 13) 0 dX12_canMendLast_12 rfl rfl rfl ?_
    refine ur_arr (q := 16) rs rt34 dX12_canMendLast_13 w1390 (Nat.le_of_ble_eq_true rfl) rfl rfl ?_
    refine v_iload_n (q := 17) 2 dX12_canMendLast_16 rfl rfl rfl ?_
    replace H := bs H; obtain ⟨x2, x2e, H⟩ := H
    refine ur_rd (q := 18) rs rt34 x2e dX12_canMendLast_17 rfl ?_
    refine v_iadd (q := 19) dX12_canMendLast_18 rfl ?_
    replace H := bs H; obtain ⟨x3, x3e, H⟩ := H
    refine ur_rd (q := 20) rs rt0 x3e dX12_canMendLast_19 rfl ?_
    refine v_istore (L' := [(4, .int x3), (0, .ref T), (2, .int u2), (3, .int s2.1)]) (q := 22) dX12_canMendLast_20 (by decide) rfl rfl ?_
    refine v_aload_n (q := 23) 1 dX12_canMendLast_22 rfl rfl rfl ?_
    refine ur_arr (q := 26) rs rt0 dX12_canMendLast_23 w1356 (Nat.le_of_ble_eq_true rfl) rfl rfl ?_
    refine v_iconst (v := 0) (q := 27) dX12_canMendLast_26 (by decide) rfl ?_
    refine v_aload_n (q := 28) 1 dX12_canMendLast_27 rfl rfl rfl ?_
    refine ur_arr (q := 31) rs rt34 dX12_canMendLast_28 w1390 (Nat.le_of_ble_eq_true rfl) rfl rfl ?_
    refine v_iload_n (q := 32) 3 dX12_canMendLast_31 rfl rfl rfl ?_
    replace H := bs H; obtain ⟨x4, x4e, H⟩ := H
    refine ur_rd (q := 33) rs rt34 x4e dX12_canMendLast_32 rfl ?_
    refine v_iadd (q := 34) dX12_canMendLast_33 rfl ?_
    refine v_iconst (v := 0) (q := 35) dX12_canMendLast_34 (by decide) rfl ?_
    replace H := bs H; obtain ⟨m5, m5e, H⟩ := H
    refine ur_wr (q := 36) rs rt0 m5e dX12_canMendLast_35 rfl ?_
    refine v_aload_n (q := 37) 1 dX12_canMendLast_36 rfl rfl rfl ?_
    replace H := bs H; obtain ⟨x6, x6e, H⟩ := H
    refine u_callV1 (M' := mX12_layOrder) (d' := 3) (rc := (RX12, TX12, 58)) (As := []) (st := []) (q := 40) oX12_layOrder dX12_canMendLast_37 w1940 w1942 w0127 rfl rfl (RS.rc rs).1 (RS.rc rs).2 rfl (Nat.le_of_ble_eq_true rfl) (Nat.le_of_ble_eq_true rfl) (Nat.lt_of_lt_of_le (by decide) hd) rfl (sgX12_layOrder (Nat.le_refl _) rs x6e) rfl ?_
    refine v_if_lt (q1 := 47) (q2 := 43) dX12_canMendLast_40 (by decide) rfl (fun c7 => ?_) (fun c7 => ?_)
    · replace H := ip c7 H
      refine v_iconst (v := 0) (q := 48) dX12_canMendLast_47 (by decide) rfl ?_
      exact V.sub [1, 2, 3, 0] rfl (sgjX12_canMendLast_48 hd rs H kI kE)
    · replace H := ine c7 H
      refine v_iconst (v := 1) (q := 44) dX12_canMendLast_43 (by decide) rfl ?_
      refine v_goto (q := 48) dX12_canMendLast_44 (by decide) ?_
      exact V.sub [1, 2, 3, 0] rfl (sgjX12_canMendLast_48 hd rs H kI kE)
def gX12_canMendLast (m : Mem) (v1 : Int32) (v2 : Int32) : Option (Int32 × Mem) :=
(lp (gbX12_canMendLast_2 v2) FU (v1, m)).bind fun e12 =>
(match e12 with
| .inl e13 => (
some (((0 : Int32), e13)))
| .inr e14 => (
some (((1 : Int32), e14))))
set_option maxRecDepth 20000 in
set_option maxHeartbeats 4000000 in
theorem sgX12_canMendLast {Γ : Gm} {d : Nat} (hd : 4 ≤ d) {T : Nat} {h : Hp} (rs : RS T h) {m : Mem} {v1 : Int32} {v2 : Int32} {r : Int32 × Mem} (H : gX12_canMendLast m v1 v2 = some r) : V Γ d mX12_canMendLast 0 [(0, .ref T), (1, .int v1), (2, .int v2)] [] (hm T h m) (some (.int r.1), (hm T h r.2)) := by
  unfold gX12_canMendLast at H
  refine v_iload_n (q := 1) 1 dX12_canMendLast_0 rfl rfl rfl ?_
  refine v_istore_n (L' := [(3, .int v1), (0, .ref T), (1, .int v1), (2, .int v2)]) (q := 2) dX12_canMendLast_1 rfl (by decide) rfl rfl ?_
  replace H := bs H; obtain ⟨e12, e12L, H⟩ := H
  refine V.sub [1, 3, 0] rfl ?_
  refine lp_V (P := (fun s2 => V Γ d mX12_canMendLast 2 [(0, .ref T), (2, .int v2), (3, .int s2.1)] [] (hm T h s2.2) (some (.int r.1), (hm T h r.2)))) (E := (fun e => (match e with | .inl a0 => V Γ d mX12_canMendLast 78 [] [] (hm T h a0) (some (.int r.1), (hm T h r.2)) | .inr b0 => V Γ d mX12_canMendLast 70 [] [] (hm T h b0) (some (.int r.1), (hm T h r.2))))) (fun s r hb kI kE => sgbX12_canMendLast_2 hd rs (s2 := s) (r := r) hb kI kE) FU (v1, m) e12 e12L ?_
  rcases e12 with e13 | e14
  · skip
    refine v_iconst (v := 0) (q := 79) dX12_canMendLast_78 (by decide) rfl ?_
    cases H
    exact v_zreturn rfl (by decide) dX12_canMendLast_79
  · skip
    refine v_iconst (v := 1) (q := 71) dX12_canMendLast_70 (by decide) rfl ?_
    cases H
    exact v_zreturn rfl (by decide) dX12_canMendLast_71
def mX12_canMendMore : MI := (yX12_canMendMore, cX12_canMendMore, 7, some .boolean)
theorem oX12_canMendMore : mOK mX12_canMendMore 3 := ⟨by decide +kernel, by decide +kernel, by decide +kernel, by decide, w1959, w0150⟩
def gjX12_canMendMore_69 (u1 : Int32) (u3 : Int32) (v4 : Int32) (v5 : Int32) (y0 : Int32) (m : Mem) : Option ((Int32 × Mem) ⊕ ((Mem) ⊕ (Mem))) :=
(rd m 22 256 v4).bind fun x8 =>
(wr m 1 9685 ((0 : Int32) + x8) v5).bind fun m9 =>
if y0 = 0 then (
(some (v4 + (1 : Int32))).bind fun x11 =>
some (.inl (x11, m9))) else (
some (.inr (.inr m9)))
set_option maxRecDepth 20000 in
set_option maxHeartbeats 4000000 in
theorem sgjX12_canMendMore_69 {Γ : Gm} {d : Nat} (hd : 5 ≤ d) {T : Nat} {h : Hp} (rs : RS T h) {u1 : Int32} {u3 : Int32} {v4 : Int32} {v5 : Int32} {y0 : Int32} {m : Mem} {r : (Int32 × Mem) ⊕ ((Mem) ⊕ (Mem))} {t : Option Value × Hp} (H : gjX12_canMendMore_69 u1 u3 v4 v5 y0 m = some r) (kI : ∀ s, r = .inl s → (fun s3 => V Γ d mX12_canMendMore 3 [(0, .ref T), (1, .int u1), (3, .int u3), (4, .int s3.1)] [] (hm T h s3.2) t) s) (kE : ∀ e, r = .inr e → (fun e => (match e with | .inl a0 => V Γ d mX12_canMendMore 100 [] [] (hm T h a0) t | .inr b0 => V Γ d mX12_canMendMore 92 [] [] (hm T h b0) t)) e) : V Γ d mX12_canMendMore 69 [(0, .ref T), (1, .int u1), (3, .int u3), (4, .int v4), (5, .int v5)] [.int y0] (hm T h m) t := by
  unfold gjX12_canMendMore_69 at H
  refine v_istore (L' := [(6, .int y0), (0, .ref T), (1, .int u1), (3, .int u3), (4, .int v4), (5, .int v5)]) (q := 71) dX12_canMendMore_69 (by decide) rfl rfl ?_
  refine v_aload_n (q := 72) 1 dX12_canMendMore_71 rfl rfl rfl ?_
  refine ur_arr (q := 75) rs rt0 dX12_canMendMore_72 w1356 (Nat.le_of_ble_eq_true rfl) rfl rfl ?_
  refine v_iconst (v := 0) (q := 76) dX12_canMendMore_75 (by decide) rfl ?_
  refine v_aload_n (q := 77) 1 dX12_canMendMore_76 rfl rfl rfl ?_
  refine ur_arr (q := 80) rs rt34 dX12_canMendMore_77 w1390 (Nat.le_of_ble_eq_true rfl) rfl rfl ?_
  refine v_iload (q := 82) 4 dX12_canMendMore_80 rfl rfl ?_
  replace H := bs H; obtain ⟨x8, x8e, H⟩ := H
  refine ur_rd (q := 83) rs rt34 x8e dX12_canMendMore_82 rfl ?_
  refine v_iadd (q := 84) dX12_canMendMore_83 rfl ?_
  refine v_iload (q := 86) 5 dX12_canMendMore_84 rfl rfl ?_
  replace H := bs H; obtain ⟨m9, m9e, H⟩ := H
  refine ur_wr (q := 87) rs rt0 m9e dX12_canMendMore_86 rfl ?_
  refine v_iload (q := 89) 0 dX12_canMendMore_87 rfl rfl ?_
  refine v_if_eq (q1 := 94) (q2 := 92) dX12_canMendMore_89 (by decide) rfl (fun c10 => ?_) (fun c10 => ?_)
  · replace H := ip c10 H
    replace H := bs H; obtain ⟨x11, x11e, H⟩ := H
    refine v_iinc (v := x11) (L' := [(4, .int x11), (6, .int y0), (0, .ref T), (1, .int u1), (3, .int u3), (5, .int v5)]) (q := 97) 4 dX12_canMendMore_94 rfl (Option.some.inj x11e) (by decide) rfl rfl ?_
    refine v_goto (q := 3) dX12_canMendMore_97 (by decide) ?_
    exact V.sub [2, 3, 4, 0] rfl (kI (x11, m9) (Option.some.inj H).symm)
  · replace H := ine c10 H
    exact V.sub [] rfl (kE (.inr m9) (Option.some.inj H).symm)
def gbX12_canMendMore_3 (u1 : Int32) (u3 : Int32) (s3 : Int32 × Mem) : Option ((Int32 × Mem) ⊕ ((Mem) ⊕ (Mem))) :=
if u3 ≤ s3.1 then (
some (.inr (.inl s3.2))) else (
(rd s3.2 22 256 s3.1).bind fun x2 =>
(rd s3.2 1 9685 ((0 : Int32) + x2)).bind fun x3 =>
(rd s3.2 22 256 s3.1).bind fun x4 =>
(wr s3.2 1 9685 ((0 : Int32) + x4) (0 : Int32)).bind fun m5 =>
if u1 = (1 : Int32) then (
(gX12_layOrder m5).bind fun x12 =>
if x12.1 < 0 then (
gjX12_canMendMore_69 u1 u3 s3.1 x3 (0 : Int32) x12.2) else (
gjX12_canMendMore_69 u1 u3 s3.1 x3 (1 : Int32) x12.2)) else (
(gX12_canMendLast m5 (s3.1 + (1 : Int32)) u3).bind fun x7 =>
gjX12_canMendMore_69 u1 u3 s3.1 x3 x7.1 x7.2))
set_option maxRecDepth 20000 in
set_option maxHeartbeats 4000000 in
theorem sgbX12_canMendMore_3 {Γ : Gm} {d : Nat} (hd : 5 ≤ d) {T : Nat} {h : Hp} (rs : RS T h) {u1 : Int32} {u3 : Int32} {s3 : Int32 × Mem} {r : (Int32 × Mem) ⊕ ((Mem) ⊕ (Mem))} {t : Option Value × Hp} (H : gbX12_canMendMore_3 u1 u3 s3 = some r) (kI : ∀ s, r = .inl s → (fun s3 => V Γ d mX12_canMendMore 3 [(0, .ref T), (1, .int u1), (3, .int u3), (4, .int s3.1)] [] (hm T h s3.2) t) s) (kE : ∀ e, r = .inr e → (fun e => (match e with | .inl a0 => V Γ d mX12_canMendMore 100 [] [] (hm T h a0) t | .inr b0 => V Γ d mX12_canMendMore 92 [] [] (hm T h b0) t)) e) : V Γ d mX12_canMendMore 3 [(0, .ref T), (1, .int u1), (3, .int u3), (4, .int s3.1)] [] (hm T h s3.2) t := by
  unfold gbX12_canMendMore_3 at H
  refine v_iload (q := 5) 3 dX12_canMendMore_3 rfl rfl ?_
  refine v_iload_n (q := 6) 2 dX12_canMendMore_5 rfl rfl rfl ?_
  refine v_icmp_ge (q1 := 100) (q2 := 9) dX12_canMendMore_6 (by decide) rfl (fun c1 => ?_) (fun c1 => ?_)
  · replace H := ip c1 H
    exact V.sub [] rfl (kE (.inl s3.2) (Option.some.inj H).symm)
  · replace H := ine c1 H
    refine v_aload_n (q := 10) 0 dX12_canMendMore_9 rfl rfl rfl ?_
    refine ur_arr (q := 13) rs rt0 dX12_canMendMore_10 w1356 (Nat.le_of_ble_eq_true rfl) rfl rfl ?_
    refine v_iconst (v := 0) (q := 14) dX12_canMendMore_13 (by decide) rfl ?_
    refine v_aload_n (q := 15) 0 dX12_canMendMore_14 rfl rfl rfl ?_
    refine ur_arr (q := 18) rs rt34 dX12_canMendMore_15 w1390 (Nat.le_of_ble_eq_true rfl) rfl rfl ?_
    refine v_iload (q := 20) 3 dX12_canMendMore_18 rfl rfl ?_
    replace H := bs H; obtain ⟨x2, x2e, H⟩ := H
    refine ur_rd (q := 21) rs rt34 x2e dX12_canMendMore_20 rfl ?_
    refine v_iadd (q := 22) dX12_canMendMore_21 rfl ?_
    replace H := bs H; obtain ⟨x3, x3e, H⟩ := H
    refine ur_rd (q := 23) rs rt0 x3e dX12_canMendMore_22 rfl ?_
    refine v_istore (L' := [(5, .int x3), (0, .ref T), (1, .int u1), (3, .int u3), (4, .int s3.1)]) (q := 25) dX12_canMendMore_23 (by decide) rfl rfl ?_
    refine v_aload_n (q := 26) 1 dX12_canMendMore_25 rfl rfl rfl ?_
    refine ur_arr (q := 29) rs rt0 dX12_canMendMore_26 w1356 (Nat.le_of_ble_eq_true rfl) rfl rfl ?_
    refine v_iconst (v := 0) (q := 30) dX12_canMendMore_29 (by decide) rfl ?_
    refine v_aload_n (q := 31) 1 dX12_canMendMore_30 rfl rfl rfl ?_
    refine ur_arr (q := 34) rs rt34 dX12_canMendMore_31 w1390 (Nat.le_of_ble_eq_true rfl) rfl rfl ?_
    refine v_iload (q := 36) 4 dX12_canMendMore_34 rfl rfl ?_
    replace H := bs H; obtain ⟨x4, x4e, H⟩ := H
    refine ur_rd (q := 37) rs rt34 x4e dX12_canMendMore_36 rfl ?_
    refine v_iadd (q := 38) dX12_canMendMore_37 rfl ?_
    refine v_iconst (v := 0) (q := 39) dX12_canMendMore_38 (by decide) rfl ?_
    replace H := bs H; obtain ⟨m5, m5e, H⟩ := H
    refine ur_wr (q := 40) rs rt0 m5e dX12_canMendMore_39 rfl ?_
    refine v_iload_n (q := 41) 2 dX12_canMendMore_40 rfl rfl rfl ?_
    refine v_iconst (v := 1) (q := 42) dX12_canMendMore_41 (by decide) rfl ?_
    refine v_icmp_ne (q1 := 60) (q2 := 45) dX12_canMendMore_42 (by decide) rfl (fun c6 => ?_) (fun c6 => ?_)
    · replace H := ine c6 H
      refine v_aload_n (q := 61) 1 dX12_canMendMore_60 rfl rfl rfl ?_
      refine v_iload (q := 63) 4 dX12_canMendMore_61 rfl rfl ?_
      refine v_iconst (v := 1) (q := 64) dX12_canMendMore_63 (by decide) rfl ?_
      refine v_iadd (q := 65) dX12_canMendMore_64 rfl ?_
      refine v_iload_n (q := 66) 3 dX12_canMendMore_65 rfl rfl rfl ?_
      replace H := bs H; obtain ⟨x7, x7e, H⟩ := H
      refine u_callV1 (M' := mX12_canMendLast) (d' := 4) (rc := (RX12, TX12, 58)) (As := [.int (s3.1 + (1 : Int32)), .int u3]) (st := []) (q := 69) oX12_canMendLast dX12_canMendMore_66 w1960 w1962 w0131 rfl rfl (RS.rc rs).1 (RS.rc rs).2 rfl (Nat.le_of_ble_eq_true rfl) (Nat.le_of_ble_eq_true rfl) (Nat.lt_of_lt_of_le (by decide) hd) rfl (sgX12_canMendLast (Nat.le_refl _) rs x7e) rfl ?_
      exact V.sub [1, 2, 3, 4, 0] rfl (sgjX12_canMendMore_69 hd rs H kI kE)
    · replace H := ip c6 H
      refine v_aload_n (q := 46) 1 dX12_canMendMore_45 rfl rfl rfl ?_
      replace H := bs H; obtain ⟨x12, x12e, H⟩ := H
      refine u_callV1 (M' := mX12_layOrder) (d' := 3) (rc := (RX12, TX12, 58)) (As := []) (st := []) (q := 49) oX12_layOrder dX12_canMendMore_46 w1940 w1942 w0127 rfl rfl (RS.rc rs).1 (RS.rc rs).2 rfl (Nat.le_of_ble_eq_true rfl) (Nat.le_of_ble_eq_true rfl) (Nat.lt_of_lt_of_le (by decide) hd) rfl (sgX12_layOrder (Nat.le_refl _) rs x12e) rfl ?_
      refine v_if_lt (q1 := 56) (q2 := 52) dX12_canMendMore_49 (by decide) rfl (fun c13 => ?_) (fun c13 => ?_)
      · replace H := ip c13 H
        refine v_iconst (v := 0) (q := 57) dX12_canMendMore_56 (by decide) rfl ?_
        refine v_goto (q := 69) dX12_canMendMore_57 (by decide) ?_
        exact V.sub [1, 2, 3, 4, 0] rfl (sgjX12_canMendMore_69 hd rs H kI kE)
      · replace H := ine c13 H
        refine v_iconst (v := 1) (q := 53) dX12_canMendMore_52 (by decide) rfl ?_
        refine v_goto (q := 69) dX12_canMendMore_53 (by decide) ?_
        exact V.sub [1, 2, 3, 4, 0] rfl (sgjX12_canMendMore_69 hd rs H kI kE)
def gX12_canMendMore (m : Mem) (v1 : Int32) (v2 : Int32) (v3 : Int32) : Option (Int32 × Mem) :=
(lp (gbX12_canMendMore_3 v1 v3) FU (v2, m)).bind fun e14 =>
(match e14 with
| .inl e15 => (
some (((0 : Int32), e15)))
| .inr e16 => (
some (((1 : Int32), e16))))
set_option maxRecDepth 20000 in
set_option maxHeartbeats 4000000 in
theorem sgX12_canMendMore {Γ : Gm} {d : Nat} (hd : 5 ≤ d) {T : Nat} {h : Hp} (rs : RS T h) {m : Mem} {v1 : Int32} {v2 : Int32} {v3 : Int32} {r : Int32 × Mem} (H : gX12_canMendMore m v1 v2 v3 = some r) : V Γ d mX12_canMendMore 0 [(0, .ref T), (1, .int v1), (2, .int v2), (3, .int v3)] [] (hm T h m) (some (.int r.1), (hm T h r.2)) := by
  unfold gX12_canMendMore at H
  refine v_iload_n (q := 1) 2 dX12_canMendMore_0 rfl rfl rfl ?_
  refine v_istore (L' := [(4, .int v2), (0, .ref T), (1, .int v1), (2, .int v2), (3, .int v3)]) (q := 3) dX12_canMendMore_1 (by decide) rfl rfl ?_
  replace H := bs H; obtain ⟨e14, e14L, H⟩ := H
  refine V.sub [1, 2, 4, 0] rfl ?_
  refine lp_V (P := (fun s3 => V Γ d mX12_canMendMore 3 [(0, .ref T), (1, .int v1), (3, .int v3), (4, .int s3.1)] [] (hm T h s3.2) (some (.int r.1), (hm T h r.2)))) (E := (fun e => (match e with | .inl a0 => V Γ d mX12_canMendMore 100 [] [] (hm T h a0) (some (.int r.1), (hm T h r.2)) | .inr b0 => V Γ d mX12_canMendMore 92 [] [] (hm T h b0) (some (.int r.1), (hm T h r.2))))) (fun s r hb kI kE => sgbX12_canMendMore_3 hd rs (s3 := s) (r := r) hb kI kE) FU (v2, m) e14 e14L ?_
  rcases e14 with e15 | e16
  · skip
    refine v_iconst (v := 0) (q := 101) dX12_canMendMore_100 (by decide) rfl ?_
    cases H
    exact v_zreturn rfl (by decide) dX12_canMendMore_101
  · skip
    refine v_iconst (v := 1) (q := 93) dX12_canMendMore_92 (by decide) rfl ?_
    cases H
    exact v_zreturn rfl (by decide) dX12_canMendMore_93
def mX12_canMend : MI := (yX12_canMend, cX12_canMend, 7, some .boolean)
theorem oX12_canMend : mOK mX12_canMend 3 := ⟨by decide +kernel, by decide +kernel, by decide +kernel, by decide, w1955, w0150⟩
def gjX12_canMend_89 (u1 : Int32) (u3 : Int32) (v4 : Int32) (v5 : Int32) (y0 : Int32) (m : Mem) : Option ((Int32 × Mem) ⊕ ((Mem) ⊕ (Int32 × Mem))) :=
(rd m 22 256 v4).bind fun x9 =>
(wr m 1 9685 ((0 : Int32) + x9) v5).bind fun m10 =>
if y0 = 0 then (
(some (v4 + (1 : Int32))).bind fun x12 =>
some (.inl (x12, m10))) else (
some (.inr (.inr (v4, m10))))
set_option maxRecDepth 20000 in
set_option maxHeartbeats 4000000 in
theorem sgjX12_canMend_89 {Γ : Gm} {d : Nat} (hd : 6 ≤ d) {T : Nat} {h : Hp} (rs : RS T h) {u1 : Int32} {u3 : Int32} {v4 : Int32} {v5 : Int32} {y0 : Int32} {m : Mem} {r : (Int32 × Mem) ⊕ ((Mem) ⊕ (Int32 × Mem))} {t : Option Value × Hp} (H : gjX12_canMend_89 u1 u3 v4 v5 y0 m = some r) (kI : ∀ s, r = .inl s → (fun s20 => V Γ d mX12_canMend 20 [(0, .ref T), (1, .int u1), (3, .int u3), (4, .int s20.1)] [] (hm T h s20.2) t) s) (kE : ∀ e, r = .inr e → (fun e => (match e with | .inl a0 => V Γ d mX12_canMend 134 [] [] (hm T h a0) t | .inr b0 => V Γ d mX12_canMend 115 [(0, .ref T), (4, .int b0.1)] [] (hm T h b0.2) t)) e) : V Γ d mX12_canMend 89 [(0, .ref T), (1, .int u1), (3, .int u3), (4, .int v4), (5, .int v5)] [.int y0] (hm T h m) t := by
  unfold gjX12_canMend_89 at H
  refine v_istore (L' := [(6, .int y0), (0, .ref T), (1, .int u1), (3, .int u3), (4, .int v4), (5, .int v5)]) (q := 91) dX12_canMend_89 (by decide) rfl rfl ?_
  refine v_aload_n (q := 92) 1 dX12_canMend_91 rfl rfl rfl ?_
  refine ur_arr (q := 95) rs rt0 dX12_canMend_92 w1356 (Nat.le_of_ble_eq_true rfl) rfl rfl ?_
  refine v_iconst (v := 0) (q := 96) dX12_canMend_95 (by decide) rfl ?_
  refine v_aload_n (q := 97) 1 dX12_canMend_96 rfl rfl rfl ?_
  refine ur_arr (q := 100) rs rt34 dX12_canMend_97 w1390 (Nat.le_of_ble_eq_true rfl) rfl rfl ?_
  refine v_iload (q := 102) 4 dX12_canMend_100 rfl rfl ?_
  replace H := bs H; obtain ⟨x9, x9e, H⟩ := H
  refine ur_rd (q := 103) rs rt34 x9e dX12_canMend_102 rfl ?_
  refine v_iadd (q := 104) dX12_canMend_103 rfl ?_
  refine v_iload (q := 106) 5 dX12_canMend_104 rfl rfl ?_
  replace H := bs H; obtain ⟨m10, m10e, H⟩ := H
  refine ur_wr (q := 107) rs rt0 m10e dX12_canMend_106 rfl ?_
  refine v_iload (q := 109) 0 dX12_canMend_107 rfl rfl ?_
  refine v_if_ne (q1 := 115) (q2 := 112) dX12_canMend_109 (by decide) rfl (fun c11 => ?_) (fun c11 => ?_)
  · replace H := ine c11 H
    exact V.sub [1, 4] rfl (kE (.inr (v4, m10)) (Option.some.inj H).symm)
  · replace H := ip c11 H
    refine v_goto (q := 128) dX12_canMend_112 (by decide) ?_
    replace H := bs H; obtain ⟨x12, x12e, H⟩ := H
    refine v_iinc (v := x12) (L' := [(4, .int x12), (6, .int y0), (0, .ref T), (1, .int u1), (3, .int u3), (5, .int v5)]) (q := 131) 4 dX12_canMend_128 rfl (Option.some.inj x12e) (by decide) rfl rfl ?_
    refine v_goto (q := 20) dX12_canMend_131 (by decide) ?_
    exact V.sub [2, 3, 4, 0] rfl (kI (x12, m10) (Option.some.inj H).symm)
def gbX12_canMend_20 (u1 : Int32) (u3 : Int32) (s20 : Int32 × Mem) : Option ((Int32 × Mem) ⊕ ((Mem) ⊕ (Int32 × Mem))) :=
if u3 ≤ s20.1 then (
some (.inr (.inl s20.2))) else (
(rd s20.2 22 256 s20.1).bind fun x3 =>
(rd s20.2 1 9685 ((0 : Int32) + x3)).bind fun x4 =>
(rd s20.2 22 256 s20.1).bind fun x5 =>
(wr s20.2 1 9685 ((0 : Int32) + x5) (0 : Int32)).bind fun m6 =>
if u1 = (1 : Int32) then (
(gX12_layOrder m6).bind fun x13 =>
if x13.1 < 0 then (
gjX12_canMend_89 u1 u3 s20.1 x4 (0 : Int32) x13.2) else (
gjX12_canMend_89 u1 u3 s20.1 x4 (1 : Int32) x13.2)) else (
(gX12_canMendMore m6 (u1 - (1 : Int32)) (s20.1 + (1 : Int32)) u3).bind fun x8 =>
gjX12_canMend_89 u1 u3 s20.1 x4 x8.1 x8.2))
set_option maxRecDepth 20000 in
set_option maxHeartbeats 4000000 in
theorem sgbX12_canMend_20 {Γ : Gm} {d : Nat} (hd : 6 ≤ d) {T : Nat} {h : Hp} (rs : RS T h) {u1 : Int32} {u3 : Int32} {s20 : Int32 × Mem} {r : (Int32 × Mem) ⊕ ((Mem) ⊕ (Int32 × Mem))} {t : Option Value × Hp} (H : gbX12_canMend_20 u1 u3 s20 = some r) (kI : ∀ s, r = .inl s → (fun s20 => V Γ d mX12_canMend 20 [(0, .ref T), (1, .int u1), (3, .int u3), (4, .int s20.1)] [] (hm T h s20.2) t) s) (kE : ∀ e, r = .inr e → (fun e => (match e with | .inl a0 => V Γ d mX12_canMend 134 [] [] (hm T h a0) t | .inr b0 => V Γ d mX12_canMend 115 [(0, .ref T), (4, .int b0.1)] [] (hm T h b0.2) t)) e) : V Γ d mX12_canMend 20 [(0, .ref T), (1, .int u1), (3, .int u3), (4, .int s20.1)] [] (hm T h s20.2) t := by
  unfold gbX12_canMend_20 at H
  refine v_iload (q := 22) 3 dX12_canMend_20 rfl rfl ?_
  refine v_iload_n (q := 23) 2 dX12_canMend_22 rfl rfl rfl ?_
  refine v_icmp_ge (q1 := 134) (q2 := 26) dX12_canMend_23 (by decide) rfl (fun c2 => ?_) (fun c2 => ?_)
  · replace H := ip c2 H
    exact V.sub [] rfl (kE (.inl s20.2) (Option.some.inj H).symm)
  · replace H := ine c2 H
    refine v_aload_n (q := 27) 0 dX12_canMend_26 rfl rfl rfl ?_
    refine ur_arr (q := 30) rs rt0 dX12_canMend_27 w1356 (Nat.le_of_ble_eq_true rfl) rfl rfl ?_
    refine v_iconst (v := 0) (q := 31) dX12_canMend_30 (by decide) rfl ?_
    refine v_aload_n (q := 32) 0 dX12_canMend_31 rfl rfl rfl ?_
    refine ur_arr (q := 35) rs rt34 dX12_canMend_32 w1390 (Nat.le_of_ble_eq_true rfl) rfl rfl ?_
    refine v_iload (q := 37) 3 dX12_canMend_35 rfl rfl ?_
    replace H := bs H; obtain ⟨x3, x3e, H⟩ := H
    refine ur_rd (q := 38) rs rt34 x3e dX12_canMend_37 rfl ?_
    refine v_iadd (q := 39) dX12_canMend_38 rfl ?_
    replace H := bs H; obtain ⟨x4, x4e, H⟩ := H
    refine ur_rd (q := 40) rs rt0 x4e dX12_canMend_39 rfl ?_
    refine v_istore (L' := [(5, .int x4), (0, .ref T), (1, .int u1), (3, .int u3), (4, .int s20.1)]) (q := 42) dX12_canMend_40 (by decide) rfl rfl ?_
    refine v_aload_n (q := 43) 1 dX12_canMend_42 rfl rfl rfl ?_
    refine ur_arr (q := 46) rs rt0 dX12_canMend_43 w1356 (Nat.le_of_ble_eq_true rfl) rfl rfl ?_
    refine v_iconst (v := 0) (q := 47) dX12_canMend_46 (by decide) rfl ?_
    refine v_aload_n (q := 48) 1 dX12_canMend_47 rfl rfl rfl ?_
    refine ur_arr (q := 51) rs rt34 dX12_canMend_48 w1390 (Nat.le_of_ble_eq_true rfl) rfl rfl ?_
    refine v_iload (q := 53) 4 dX12_canMend_51 rfl rfl ?_
    replace H := bs H; obtain ⟨x5, x5e, H⟩ := H
    refine ur_rd (q := 54) rs rt34 x5e dX12_canMend_53 rfl ?_
    refine v_iadd (q := 55) dX12_canMend_54 rfl ?_
    refine v_iconst (v := 0) (q := 56) dX12_canMend_55 (by decide) rfl ?_
    replace H := bs H; obtain ⟨m6, m6e, H⟩ := H
    refine ur_wr (q := 57) rs rt0 m6e dX12_canMend_56 rfl ?_
    refine v_iload_n (q := 58) 2 dX12_canMend_57 rfl rfl rfl ?_
    refine v_iconst (v := 1) (q := 59) dX12_canMend_58 (by decide) rfl ?_
    refine v_icmp_ne (q1 := 77) (q2 := 62) dX12_canMend_59 (by decide) rfl (fun c7 => ?_) (fun c7 => ?_)
    · replace H := ine c7 H
      refine v_aload_n (q := 78) 1 dX12_canMend_77 rfl rfl rfl ?_
      refine v_iload_n (q := 79) 2 dX12_canMend_78 rfl rfl rfl ?_
      refine v_iconst (v := 1) (q := 80) dX12_canMend_79 (by decide) rfl ?_
      refine v_isub (q := 81) dX12_canMend_80 rfl ?_
      refine v_iload (q := 83) 4 dX12_canMend_81 rfl rfl ?_
      refine v_iconst (v := 1) (q := 84) dX12_canMend_83 (by decide) rfl ?_
      refine v_iadd (q := 85) dX12_canMend_84 rfl ?_
      refine v_iload_n (q := 86) 3 dX12_canMend_85 rfl rfl rfl ?_
      replace H := bs H; obtain ⟨x8, x8e, H⟩ := H
      refine u_callV1 (M' := mX12_canMendMore) (d' := 5) (rc := (RX12, TX12, 58)) (As := [.int (u1 - (1 : Int32)), .int (s20.1 + (1 : Int32)), .int u3]) (st := []) (q := 89) oX12_canMendMore dX12_canMend_86 w1956 w1958 w0130 rfl rfl (RS.rc rs).1 (RS.rc rs).2 rfl (Nat.le_of_ble_eq_true rfl) (Nat.le_of_ble_eq_true rfl) (Nat.lt_of_lt_of_le (by decide) hd) rfl (sgX12_canMendMore (Nat.le_refl _) rs x8e) rfl ?_
      exact V.sub [1, 2, 3, 4, 0] rfl (sgjX12_canMend_89 hd rs H kI kE)
    · replace H := ip c7 H
      refine v_aload_n (q := 63) 1 dX12_canMend_62 rfl rfl rfl ?_
      replace H := bs H; obtain ⟨x13, x13e, H⟩ := H
      refine u_callV1 (M' := mX12_layOrder) (d' := 3) (rc := (RX12, TX12, 58)) (As := []) (st := []) (q := 66) oX12_layOrder dX12_canMend_63 w1940 w1942 w0127 rfl rfl (RS.rc rs).1 (RS.rc rs).2 rfl (Nat.le_of_ble_eq_true rfl) (Nat.le_of_ble_eq_true rfl) (Nat.lt_of_lt_of_le (by decide) hd) rfl (sgX12_layOrder (Nat.le_refl _) rs x13e) rfl ?_
      refine v_if_lt (q1 := 73) (q2 := 69) dX12_canMend_66 (by decide) rfl (fun c14 => ?_) (fun c14 => ?_)
      · replace H := ip c14 H
        refine v_iconst (v := 0) (q := 74) dX12_canMend_73 (by decide) rfl ?_
        refine v_goto (q := 89) dX12_canMend_74 (by decide) ?_
        exact V.sub [1, 2, 3, 4, 0] rfl (sgjX12_canMend_89 hd rs H kI kE)
      · replace H := ine c14 H
        refine v_iconst (v := 1) (q := 70) dX12_canMend_69 (by decide) rfl ?_
        refine v_goto (q := 89) dX12_canMend_70 (by decide) ?_
        exact V.sub [1, 2, 3, 4, 0] rfl (sgjX12_canMend_89 hd rs H kI kE)
def gjX12_canMend_16 (y0 : Int32) (m : Mem) : Option (Int32 × Mem) :=
(bz y0).bind fun x22 =>
some (x22, m)
set_option maxRecDepth 20000 in
set_option maxHeartbeats 4000000 in
theorem sgjX12_canMend_16 {Γ : Gm} {d : Nat} (hd : 6 ≤ d) {T : Nat} {h : Hp} (rs : RS T h) {y0 : Int32} {m : Mem} {r : Int32 × Mem} (H : gjX12_canMend_16 y0 m = some r) : V Γ d mX12_canMend 16 [] [.int y0] (hm T h m) (some (.int r.1), (hm T h r.2)) := by
  unfold gjX12_canMend_16 at H
  replace H := bs H; obtain ⟨x22, x22e, H⟩ := H
  obtain ⟨x22q, x22z⟩ := bz_sp x22e
  refine v_topi x22q.symm ?_
  cases H
  exact v_zreturn rfl (by rw [x22q]; exact x22z) dX12_canMend_16
def gX12_canMend (m : Mem) (v1 : Int32) (v2 : Int32) (v3 : Int32) : Option (Int32 × Mem) :=
if v1 = 0 then (
(gX12_layOrder m).bind fun x20 =>
if x20.1 < 0 then (
gjX12_canMend_16 (0 : Int32) x20.2) else (
gjX12_canMend_16 (1 : Int32) x20.2)) else (
(lp (gbX12_canMend_20 v1 v3) FU (v2, m)).bind fun e15 =>
(match e15 with
| .inl e16 => (
some (((0 : Int32), e16)))
| .inr e17 => (
(rd e17.2 22 256 e17.1).bind fun x18 =>
(some (up e17.2 0 35 x18)).bind fun m19 =>
some (((1 : Int32), m19)))))
set_option maxRecDepth 20000 in
set_option maxHeartbeats 4000000 in
theorem sgX12_canMend {Γ : Gm} {d : Nat} (hd : 6 ≤ d) {T : Nat} {h : Hp} (rs : RS T h) {m : Mem} {v1 : Int32} {v2 : Int32} {v3 : Int32} {r : Int32 × Mem} (H : gX12_canMend m v1 v2 v3 = some r) : V Γ d mX12_canMend 0 [(0, .ref T), (1, .int v1), (2, .int v2), (3, .int v3)] [] (hm T h m) (some (.int r.1), (hm T h r.2)) := by
  unfold gX12_canMend at H
  refine v_iload_n (q := 1) 1 dX12_canMend_0 rfl rfl rfl ?_
  refine v_if_ne (q1 := 17) (q2 := 4) dX12_canMend_1 (by decide) rfl (fun c1 => ?_) (fun c1 => ?_)
  · replace H := ine c1 H
    refine v_iload_n (q := 18) 2 dX12_canMend_17 rfl rfl rfl ?_
    refine v_istore (L' := [(4, .int v2), (0, .ref T), (1, .int v1), (2, .int v2), (3, .int v3)]) (q := 20) dX12_canMend_18 (by decide) rfl rfl ?_
    replace H := bs H; obtain ⟨e15, e15L, H⟩ := H
    refine V.sub [1, 2, 4, 0] rfl ?_
    refine lp_V (P := (fun s20 => V Γ d mX12_canMend 20 [(0, .ref T), (1, .int v1), (3, .int v3), (4, .int s20.1)] [] (hm T h s20.2) (some (.int r.1), (hm T h r.2)))) (E := (fun e => (match e with | .inl a0 => V Γ d mX12_canMend 134 [] [] (hm T h a0) (some (.int r.1), (hm T h r.2)) | .inr b0 => V Γ d mX12_canMend 115 [(0, .ref T), (4, .int b0.1)] [] (hm T h b0.2) (some (.int r.1), (hm T h r.2))))) (fun s r hb kI kE => sgbX12_canMend_20 hd rs (s20 := s) (r := r) hb kI kE) FU (v2, m) e15 e15L ?_
    rcases e15 with e16 | e17
    · skip
      refine v_iconst (v := 0) (q := 135) dX12_canMend_134 (by decide) rfl ?_
      cases H
      exact v_zreturn rfl (by decide) dX12_canMend_135
    · skip
      refine v_aload_n (q := 116) 0 dX12_canMend_115 rfl rfl rfl ?_
      refine v_aload_n (q := 117) 0 dX12_canMend_116 rfl rfl rfl ?_
      refine ur_arr (q := 120) rs rt34 dX12_canMend_117 w1390 (Nat.le_of_ble_eq_true rfl) rfl rfl ?_
      refine v_iload (q := 122) 1 dX12_canMend_120 rfl rfl ?_
      replace H := bs H; obtain ⟨x18, x18e, H⟩ := H
      refine ur_rd (q := 123) rs rt34 x18e dX12_canMend_122 rfl ?_
      replace H := bs H; obtain ⟨m19, m19e, H⟩ := H
      refine ur_pI (q := 126) (k := 35) rs m19e dX12_canMend_123 w1391 (Nat.le_of_ble_eq_true rfl) rfl rfl rfl ?_
      refine v_iconst (v := 1) (q := 127) dX12_canMend_126 (by decide) rfl ?_
      cases H
      exact v_zreturn rfl (by decide) dX12_canMend_127
  · replace H := ip c1 H
    refine v_aload_n (q := 5) 0 dX12_canMend_4 rfl rfl rfl ?_
    replace H := bs H; obtain ⟨x20, x20e, H⟩ := H
    refine u_callV1 (M' := mX12_layOrder) (d' := 3) (rc := (RX12, TX12, 58)) (As := []) (st := []) (q := 8) oX12_layOrder dX12_canMend_5 w1940 w1942 w0127 rfl rfl (RS.rc rs).1 (RS.rc rs).2 rfl (Nat.le_of_ble_eq_true rfl) (Nat.le_of_ble_eq_true rfl) (Nat.lt_of_lt_of_le (by decide) hd) rfl (sgX12_layOrder (Nat.le_refl _) rs x20e) rfl ?_
    refine v_if_lt (q1 := 15) (q2 := 11) dX12_canMend_8 (by decide) rfl (fun c21 => ?_) (fun c21 => ?_)
    · replace H := ip c21 H
      refine v_iconst (v := 0) (q := 16) dX12_canMend_15 (by decide) rfl ?_
      exact V.sub [] rfl (sgjX12_canMend_16 hd rs H)
    · replace H := ine c21 H
      refine v_iconst (v := 1) (q := 12) dX12_canMend_11 (by decide) rfl ?_
      refine v_goto (q := 16) dX12_canMend_12 (by decide) ?_
      exact V.sub [] rfl (sgjX12_canMend_16 hd rs H)
def mX12_isReport : MI := (yX12_isReport, cX12_isReport, 2, some .boolean)
theorem oX12_isReport : mOK mX12_isReport 1 := ⟨by decide +kernel, by decide +kernel, by decide +kernel, by decide, w1800, w0150⟩
def gX12_isReport (m : Mem) (v1 : Int32) : Option (Int32) :=
(rd m 1 9685 (272 : Int32)).bind fun x1 =>
(gX12_isIn v1 (0 : Int32) (x1 - (1 : Int32))).bind fun x2 =>
(bz x2).bind fun x3 =>
some x3
set_option maxRecDepth 20000 in
set_option maxHeartbeats 4000000 in
theorem sgX12_isReport {Γ : Gm} {d : Nat} (hd : 2 ≤ d) {T : Nat} {h : Hp} (rs : RS T h) {m : Mem} {v1 : Int32} {r : Int32} (H : gX12_isReport m v1 = some r) : V Γ d mX12_isReport 0 [(0, .ref T), (1, .int v1)] [] (hm T h m) (some (.int r), (hm T h m)) := by
  unfold gX12_isReport at H
  refine v_iload_n (q := 1) 1 dX12_isReport_0 rfl rfl rfl ?_
  refine v_iconst (v := 0) (q := 2) dX12_isReport_1 (by decide) rfl ?_
  refine v_aload_n (q := 3) 0 dX12_isReport_2 rfl rfl rfl ?_
  refine ur_arr (q := 6) rs rt0 dX12_isReport_3 w1356 (Nat.le_of_ble_eq_true rfl) rfl rfl ?_
  refine v_sipush (v := 272) (q := 9) dX12_isReport_6 (by decide) rfl ?_
  replace H := bs H; obtain ⟨x1, x1e, H⟩ := H
  refine ur_rd (q := 10) rs rt0 x1e dX12_isReport_9 rfl ?_
  refine v_iconst (v := 1) (q := 11) dX12_isReport_10 (by decide) rfl ?_
  refine v_isub (q := 12) dX12_isReport_11 rfl ?_
  replace H := bs H; obtain ⟨x2, x2e, H⟩ := H
  refine u_callS1 (M' := mX12_isIn) (d' := 1) (As := [.int v1, .int (0 : Int32), .int (x1 - (1 : Int32))]) (st := []) (q := 15) oX12_isIn dX12_isReport_12 w1618 w1619 rfl (Nat.le_of_ble_eq_true rfl) (Nat.le_of_ble_eq_true rfl) (Nat.lt_of_lt_of_le (by decide) hd) rfl (sgX12_isIn (Nat.le_refl _) x2e) rfl ?_
  replace H := bs H; obtain ⟨x3, x3e, H⟩ := H
  obtain ⟨x3q, x3z⟩ := bz_sp x3e
  refine v_topi x3q.symm ?_
  cases H
  exact v_zreturn rfl (by rw [x3q]; exact x3z) dX12_isReport_15
def mX12_chain : MI := (yX12_chain, cX12_chain, 3, some .int)
theorem oX12_chain : mOK mX12_chain 2 := ⟨by decide +kernel, by decide +kernel, by decide +kernel, by decide, w1804, w0150⟩
def gjX12_chain_44 (y0 : Int32) (m : Mem) : Option (Int32) :=
some y0
set_option maxRecDepth 20000 in
set_option maxHeartbeats 4000000 in
theorem sgjX12_chain_44 {Γ : Gm} {d : Nat} (hd : 3 ≤ d) {T : Nat} {h : Hp} (rs : RS T h) {y0 : Int32} {m : Mem} {r : Int32} (H : gjX12_chain_44 y0 m = some r) : V Γ d mX12_chain 44 [] [.int y0] (hm T h m) (some (.int r), (hm T h m)) := by
  unfold gjX12_chain_44 at H
  cases H
  exact v_ireturn rfl dX12_chain_44
def gjX12_chain_43 (m : Mem) : Option (Int32) :=
gjX12_chain_44 (-1 : Int32) m
set_option maxRecDepth 20000 in
set_option maxHeartbeats 4000000 in
theorem sgjX12_chain_43 {Γ : Gm} {d : Nat} (hd : 3 ≤ d) {T : Nat} {h : Hp} (rs : RS T h) {m : Mem} {r : Int32} (H : gjX12_chain_43 m = some r) : V Γ d mX12_chain 43 [] [] (hm T h m) (some (.int r), (hm T h m)) := by
  unfold gjX12_chain_43 at H
  refine v_iconst (v := -1) (q := 44) dX12_chain_43 (by decide) rfl ?_
  exact V.sub [] rfl (sgjX12_chain_44 hd rs H)
def gX12_chain (m : Mem) (v1 : Int32) (v2 : Int32) : Option (Int32) :=
(gX12_isReport m v1).bind fun x1 =>
if x1 = 0 then (
gjX12_chain_43 m) else (
(gX12_atReport v1 (3 : Int32)).bind fun x3 =>
(rd m 1 9685 x3).bind fun x4 =>
(gX12_isIn v2 (0 : Int32) (x4 - (1 : Int32))).bind fun x5 =>
if x5 = 0 then (
gjX12_chain_43 m) else (
(gX12_atReport v1 ((4 : Int32) + v2)).bind fun x7 =>
(rd m 1 9685 x7).bind fun x8 =>
gjX12_chain_44 x8 m))
set_option maxRecDepth 20000 in
set_option maxHeartbeats 4000000 in
theorem sgX12_chain {Γ : Gm} {d : Nat} (hd : 3 ≤ d) {T : Nat} {h : Hp} (rs : RS T h) {m : Mem} {v1 : Int32} {v2 : Int32} {r : Int32} (H : gX12_chain m v1 v2 = some r) : V Γ d mX12_chain 0 [(0, .ref T), (1, .int v1), (2, .int v2)] [] (hm T h m) (some (.int r), (hm T h m)) := by
  unfold gX12_chain at H
  refine v_aload_n (q := 1) 0 dX12_chain_0 rfl rfl rfl ?_
  refine v_iload_n (q := 2) 1 dX12_chain_1 rfl rfl rfl ?_
  replace H := bs H; obtain ⟨x1, x1e, H⟩ := H
  refine u_callV1 (M' := mX12_isReport) (d' := 2) (rc := (RX12, TX12, 58)) (As := [.int v1]) (st := []) (q := 5) oX12_isReport dX12_chain_2 w1797 w1799 w0101 rfl rfl (RS.rc rs).1 (RS.rc rs).2 rfl (Nat.le_of_ble_eq_true rfl) (Nat.le_of_ble_eq_true rfl) (Nat.lt_of_lt_of_le (by decide) hd) rfl (sgX12_isReport (Nat.le_refl _) rs x1e) rfl ?_
  refine v_if_eq (q1 := 43) (q2 := 8) dX12_chain_5 (by decide) rfl (fun c2 => ?_) (fun c2 => ?_)
  · replace H := ip c2 H
    exact V.sub [] rfl (sgjX12_chain_43 hd rs H)
  · replace H := ine c2 H
    refine v_iload_n (q := 9) 2 dX12_chain_8 rfl rfl rfl ?_
    refine v_iconst (v := 0) (q := 10) dX12_chain_9 (by decide) rfl ?_
    refine v_aload_n (q := 11) 0 dX12_chain_10 rfl rfl rfl ?_
    refine ur_arr (q := 14) rs rt0 dX12_chain_11 w1356 (Nat.le_of_ble_eq_true rfl) rfl rfl ?_
    refine v_iload_n (q := 15) 1 dX12_chain_14 rfl rfl rfl ?_
    refine v_iconst (v := 3) (q := 16) dX12_chain_15 (by decide) rfl ?_
    replace H := bs H; obtain ⟨x3, x3e, H⟩ := H
    refine u_callS1 (M' := mX12_atReport) (d' := 1) (As := [.int v1, .int (3 : Int32)]) (st := [.ref (T + 1), .int (0 : Int32), .int v2]) (q := 19) oX12_atReport dX12_chain_16 w1670 w1671 rfl (Nat.le_of_ble_eq_true rfl) (Nat.le_of_ble_eq_true rfl) (Nat.lt_of_lt_of_le (by decide) hd) rfl (sgX12_atReport (Nat.le_refl _) x3e) rfl ?_
    replace H := bs H; obtain ⟨x4, x4e, H⟩ := H
    refine ur_rd (q := 20) rs rt0 x4e dX12_chain_19 rfl ?_
    refine v_iconst (v := 1) (q := 21) dX12_chain_20 (by decide) rfl ?_
    refine v_isub (q := 22) dX12_chain_21 rfl ?_
    replace H := bs H; obtain ⟨x5, x5e, H⟩ := H
    refine u_callS1 (M' := mX12_isIn) (d' := 1) (As := [.int v2, .int (0 : Int32), .int (x4 - (1 : Int32))]) (st := []) (q := 25) oX12_isIn dX12_chain_22 w1618 w1619 rfl (Nat.le_of_ble_eq_true rfl) (Nat.le_of_ble_eq_true rfl) (Nat.lt_of_lt_of_le (by decide) hd) rfl (sgX12_isIn (Nat.le_refl _) x5e) rfl ?_
    refine v_if_eq (q1 := 43) (q2 := 28) dX12_chain_25 (by decide) rfl (fun c6 => ?_) (fun c6 => ?_)
    · replace H := ip c6 H
      exact V.sub [] rfl (sgjX12_chain_43 hd rs H)
    · replace H := ine c6 H
      refine v_aload_n (q := 29) 0 dX12_chain_28 rfl rfl rfl ?_
      refine ur_arr (q := 32) rs rt0 dX12_chain_29 w1356 (Nat.le_of_ble_eq_true rfl) rfl rfl ?_
      refine v_iload_n (q := 33) 1 dX12_chain_32 rfl rfl rfl ?_
      refine v_iconst (v := 4) (q := 34) dX12_chain_33 (by decide) rfl ?_
      refine v_iload_n (q := 35) 2 dX12_chain_34 rfl rfl rfl ?_
      refine v_iadd (q := 36) dX12_chain_35 rfl ?_
      replace H := bs H; obtain ⟨x7, x7e, H⟩ := H
      refine u_callS1 (M' := mX12_atReport) (d' := 1) (As := [.int v1, .int ((4 : Int32) + v2)]) (st := [.ref (T + 1)]) (q := 39) oX12_atReport dX12_chain_36 w1670 w1671 rfl (Nat.le_of_ble_eq_true rfl) (Nat.le_of_ble_eq_true rfl) (Nat.lt_of_lt_of_le (by decide) hd) rfl (sgX12_atReport (Nat.le_refl _) x7e) rfl ?_
      replace H := bs H; obtain ⟨x8, x8e, H⟩ := H
      refine ur_rd (q := 40) rs rt0 x8e dX12_chain_39 rfl ?_
      refine v_goto (q := 44) dX12_chain_40 (by decide) ?_
      exact V.sub [] rfl (sgjX12_chain_44 hd rs H)
def mX12_isProgram : MI := (yX12_isProgram, cX12_isProgram, 2, some .boolean)
theorem oX12_isProgram : mOK mX12_isProgram 1 := ⟨by decide +kernel, by decide +kernel, by decide +kernel, by decide, w1632, w0150⟩
def gX12_isProgram (m : Mem) (v1 : Int32) : Option (Int32) :=
(rd m 4 2 (m 0 9)).bind fun x1 =>
(gX12_isIn v1 (0 : Int32) (x1 - (1 : Int32))).bind fun x2 =>
(bz x2).bind fun x3 =>
some x3
set_option maxRecDepth 20000 in
set_option maxHeartbeats 4000000 in
theorem sgX12_isProgram {Γ : Gm} {d : Nat} (hd : 2 ≤ d) {T : Nat} {h : Hp} (rs : RS T h) {m : Mem} {v1 : Int32} {r : Int32} (H : gX12_isProgram m v1 = some r) : V Γ d mX12_isProgram 0 [(0, .ref T), (1, .int v1)] [] (hm T h m) (some (.int r), (hm T h m)) := by
  unfold gX12_isProgram at H
  refine v_iload_n (q := 1) 1 dX12_isProgram_0 rfl rfl rfl ?_
  refine v_iconst (v := 0) (q := 2) dX12_isProgram_1 (by decide) rfl ?_
  refine v_aload_n (q := 3) 0 dX12_isProgram_2 rfl rfl rfl ?_
  refine ur_arr (q := 6) rs rt3 dX12_isProgram_3 w1359 (Nat.le_of_ble_eq_true rfl) rfl rfl ?_
  refine v_aload_n (q := 7) 0 dX12_isProgram_6 rfl rfl rfl ?_
  refine ur_gI (q := 10) (x := 0) (k := 9) rs dX12_isProgram_7 w1365 (Nat.le_of_ble_eq_true rfl) rfl rfl ?_
  replace H := bs H; obtain ⟨x1, x1e, H⟩ := H
  refine ur_rd (q := 11) rs rt3 x1e dX12_isProgram_10 rfl ?_
  refine v_iconst (v := 1) (q := 12) dX12_isProgram_11 (by decide) rfl ?_
  refine v_isub (q := 13) dX12_isProgram_12 rfl ?_
  replace H := bs H; obtain ⟨x2, x2e, H⟩ := H
  refine u_callS1 (M' := mX12_isIn) (d' := 1) (As := [.int v1, .int (0 : Int32), .int (x1 - (1 : Int32))]) (st := []) (q := 16) oX12_isIn dX12_isProgram_13 w1618 w1619 rfl (Nat.le_of_ble_eq_true rfl) (Nat.le_of_ble_eq_true rfl) (Nat.lt_of_lt_of_le (by decide) hd) rfl (sgX12_isIn (Nat.le_refl _) x2e) rfl ?_
  replace H := bs H; obtain ⟨x3, x3e, H⟩ := H
  obtain ⟨x3q, x3z⟩ := bz_sp x3e
  refine v_topi x3q.symm ?_
  cases H
  exact v_zreturn rfl (by rw [x3q]; exact x3z) dX12_isProgram_16
def mX12_isSet : MI := (yX12_isSet, cX12_isSet, 4, some .boolean)
theorem oX12_isSet : mOK mX12_isSet 1 := ⟨by decide +kernel, by decide +kernel, by decide +kernel, by decide, w1845, w0150⟩
def gjX12_isSet_43 (u1 : Int32) (v3 : Int32) (y0 : Int32) (m : Mem) : Option ((Int32 × Int32) ⊕ (Int32)) :=
(some (v3 + (1 : Int32))).bind fun x3 =>
some (.inl (y0, x3))
set_option maxRecDepth 20000 in
set_option maxHeartbeats 4000000 in
theorem sgjX12_isSet_43 {Γ : Gm} {d : Nat} (hd : 3 ≤ d) {T : Nat} {h : Hp} (rs : RS T h) {u1 : Int32} {v3 : Int32} {y0 : Int32} {m : Mem} {r : (Int32 × Int32) ⊕ (Int32)} {t : Option Value × Hp} (H : gjX12_isSet_43 u1 v3 y0 m = some r) (kI : ∀ s, r = .inl s → (fun s4 => V Γ d mX12_isSet 4 [(0, .ref T), (1, .int u1), (2, .int s4.1), (3, .int s4.2)] [] (hm T h m) t) s) (kE : ∀ e, r = .inr e → (fun e => V Γ d mX12_isSet 50 [(0, .ref T), (1, .int u1), (2, .int e)] [] (hm T h m) t) e) : V Γ d mX12_isSet 43 [(0, .ref T), (1, .int u1), (3, .int v3)] [.int y0] (hm T h m) t := by
  unfold gjX12_isSet_43 at H
  refine v_istore_n (L' := [(2, .int y0), (0, .ref T), (1, .int u1), (3, .int v3)]) (q := 44) dX12_isSet_43 rfl (by decide) rfl rfl ?_
  replace H := bs H; obtain ⟨x3, x3e, H⟩ := H
  refine v_iinc (v := x3) (L' := [(3, .int x3), (2, .int y0), (0, .ref T), (1, .int u1)]) (q := 47) 3 dX12_isSet_44 rfl (Option.some.inj x3e) (by decide) rfl rfl ?_
  refine v_goto (q := 4) dX12_isSet_47 (by decide) ?_
  exact V.sub [2, 3, 1, 0] rfl (kI (y0, x3) (Option.some.inj H).symm)
def gjX12_isSet_38 (u1 : Int32) (v3 : Int32) (m : Mem) : Option ((Int32 × Int32) ⊕ (Int32)) :=
gjX12_isSet_43 u1 v3 (1 : Int32) m
set_option maxRecDepth 20000 in
set_option maxHeartbeats 4000000 in
theorem sgjX12_isSet_38 {Γ : Gm} {d : Nat} (hd : 3 ≤ d) {T : Nat} {h : Hp} (rs : RS T h) {u1 : Int32} {v3 : Int32} {m : Mem} {r : (Int32 × Int32) ⊕ (Int32)} {t : Option Value × Hp} (H : gjX12_isSet_38 u1 v3 m = some r) (kI : ∀ s, r = .inl s → (fun s4 => V Γ d mX12_isSet 4 [(0, .ref T), (1, .int u1), (2, .int s4.1), (3, .int s4.2)] [] (hm T h m) t) s) (kE : ∀ e, r = .inr e → (fun e => V Γ d mX12_isSet 50 [(0, .ref T), (1, .int u1), (2, .int e)] [] (hm T h m) t) e) : V Γ d mX12_isSet 38 [(0, .ref T), (1, .int u1), (3, .int v3)] [] (hm T h m) t := by
  unfold gjX12_isSet_38 at H
  refine v_iconst (v := 1) (q := 39) dX12_isSet_38 (by decide) rfl ?_
  refine v_goto (q := 43) dX12_isSet_39 (by decide) ?_
  exact V.sub [0, 1, 2] rfl (sgjX12_isSet_43 hd rs H kI kE)
def gjX12_isSet_42 (u1 : Int32) (v3 : Int32) (m : Mem) : Option ((Int32 × Int32) ⊕ (Int32)) :=
gjX12_isSet_43 u1 v3 (0 : Int32) m
set_option maxRecDepth 20000 in
set_option maxHeartbeats 4000000 in
theorem sgjX12_isSet_42 {Γ : Gm} {d : Nat} (hd : 3 ≤ d) {T : Nat} {h : Hp} (rs : RS T h) {u1 : Int32} {v3 : Int32} {m : Mem} {r : (Int32 × Int32) ⊕ (Int32)} {t : Option Value × Hp} (H : gjX12_isSet_42 u1 v3 m = some r) (kI : ∀ s, r = .inl s → (fun s4 => V Γ d mX12_isSet 4 [(0, .ref T), (1, .int u1), (2, .int s4.1), (3, .int s4.2)] [] (hm T h m) t) s) (kE : ∀ e, r = .inr e → (fun e => V Γ d mX12_isSet 50 [(0, .ref T), (1, .int u1), (2, .int e)] [] (hm T h m) t) e) : V Γ d mX12_isSet 42 [(0, .ref T), (1, .int u1), (3, .int v3)] [] (hm T h m) t := by
  unfold gjX12_isSet_42 at H
  refine v_iconst (v := 0) (q := 43) dX12_isSet_42 (by decide) rfl ?_
  exact V.sub [0, 1, 2] rfl (sgjX12_isSet_43 hd rs H kI kE)
def gbX12_isSet_4 (u1 : Int32) (m : Mem) (s4 : Int32 × Int32) : Option ((Int32 × Int32) ⊕ (Int32)) :=
if (6 : Int32) ≤ s4.2 then (
some (.inr s4.1)) else (
if s4.1 = 0 then (
(gX12_has u1 s4.2).bind fun x4 =>
if x4 = 0 then (
gjX12_isSet_42 u1 s4.2 m) else (
(gX12_isProgram m s4.2).bind fun x6 =>
if x6 = 0 then (
gjX12_isSet_42 u1 s4.2 m) else (
(gX12_sortOf m s4.2).bind fun x8 =>
if x8 = 0 then (
gjX12_isSet_38 u1 s4.2 m) else (
gjX12_isSet_42 u1 s4.2 m)))) else (
gjX12_isSet_38 u1 s4.2 m))
set_option maxRecDepth 20000 in
set_option maxHeartbeats 4000000 in
theorem sgbX12_isSet_4 {Γ : Gm} {d : Nat} (hd : 3 ≤ d) {T : Nat} {h : Hp} (rs : RS T h) {u1 : Int32} {m : Mem} {s4 : Int32 × Int32} {r : (Int32 × Int32) ⊕ (Int32)} {t : Option Value × Hp} (H : gbX12_isSet_4 u1 m s4 = some r) (kI : ∀ s, r = .inl s → (fun s4 => V Γ d mX12_isSet 4 [(0, .ref T), (1, .int u1), (2, .int s4.1), (3, .int s4.2)] [] (hm T h m) t) s) (kE : ∀ e, r = .inr e → (fun e => V Γ d mX12_isSet 50 [(0, .ref T), (1, .int u1), (2, .int e)] [] (hm T h m) t) e) : V Γ d mX12_isSet 4 [(0, .ref T), (1, .int u1), (2, .int s4.1), (3, .int s4.2)] [] (hm T h m) t := by
  unfold gbX12_isSet_4 at H
  refine v_iload_n (q := 5) 3 dX12_isSet_4 rfl rfl rfl ?_
  refine v_bipush (v := 6) (q := 7) dX12_isSet_5 (by decide) rfl ?_
  refine v_icmp_ge (q1 := 50) (q2 := 10) dX12_isSet_7 (by decide) rfl (fun c1 => ?_) (fun c1 => ?_)
  · replace H := ip c1 H
    exact V.sub [0, 1, 2] rfl (kE s4.1 (Option.some.inj H).symm)
  · replace H := ine c1 H
    refine v_iload_n (q := 11) 2 dX12_isSet_10 rfl rfl rfl ?_
    refine v_if_ne (q1 := 38) (q2 := 14) dX12_isSet_11 (by decide) rfl (fun c2 => ?_) (fun c2 => ?_)
    · replace H := ine c2 H
      exact V.sub [0, 1, 3] rfl (sgjX12_isSet_38 hd rs H kI kE)
    · replace H := ip c2 H
      refine v_iload_n (q := 15) 1 dX12_isSet_14 rfl rfl rfl ?_
      refine v_iload_n (q := 16) 3 dX12_isSet_15 rfl rfl rfl ?_
      replace H := bs H; obtain ⟨x4, x4e, H⟩ := H
      refine u_callS1 (M' := mX12_has) (d' := 1) (As := [.int u1, .int s4.2]) (st := []) (q := 19) oX12_has dX12_isSet_16 w1846 w1847 rfl (Nat.le_of_ble_eq_true rfl) (Nat.le_of_ble_eq_true rfl) (Nat.lt_of_lt_of_le (by decide) hd) rfl (sgX12_has (Nat.le_refl _) x4e) rfl ?_
      refine v_if_eq (q1 := 42) (q2 := 22) dX12_isSet_19 (by decide) rfl (fun c5 => ?_) (fun c5 => ?_)
      · replace H := ip c5 H
        exact V.sub [0, 1, 3] rfl (sgjX12_isSet_42 hd rs H kI kE)
      · replace H := ine c5 H
        refine v_aload_n (q := 23) 0 dX12_isSet_22 rfl rfl rfl ?_
        refine v_iload_n (q := 24) 3 dX12_isSet_23 rfl rfl rfl ?_
        replace H := bs H; obtain ⟨x6, x6e, H⟩ := H
        refine u_callV1 (M' := mX12_isProgram) (d' := 2) (rc := (RX12, TX12, 58)) (As := [.int s4.2]) (st := []) (q := 27) oX12_isProgram dX12_isSet_24 w1629 w1631 w0071 rfl rfl (RS.rc rs).1 (RS.rc rs).2 rfl (Nat.le_of_ble_eq_true rfl) (Nat.le_of_ble_eq_true rfl) (Nat.lt_of_lt_of_le (by decide) hd) rfl (sgX12_isProgram (Nat.le_refl _) rs x6e) rfl ?_
        refine v_if_eq (q1 := 42) (q2 := 30) dX12_isSet_27 (by decide) rfl (fun c7 => ?_) (fun c7 => ?_)
        · replace H := ip c7 H
          exact V.sub [0, 1, 3] rfl (sgjX12_isSet_42 hd rs H kI kE)
        · replace H := ine c7 H
          refine v_aload_n (q := 31) 0 dX12_isSet_30 rfl rfl rfl ?_
          refine v_iload_n (q := 32) 3 dX12_isSet_31 rfl rfl rfl ?_
          replace H := bs H; obtain ⟨x8, x8e, H⟩ := H
          refine u_callV1 (M' := mX12_sortOf) (d' := 1) (rc := (RX12, TX12, 58)) (As := [.int s4.2]) (st := []) (q := 35) oX12_sortOf dX12_isSet_32 w1718 w1720 w0092 rfl rfl (RS.rc rs).1 (RS.rc rs).2 rfl (Nat.le_of_ble_eq_true rfl) (Nat.le_of_ble_eq_true rfl) (Nat.lt_of_lt_of_le (by decide) hd) rfl (sgX12_sortOf (Nat.le_refl _) rs x8e) rfl ?_
          refine v_if_ne (q1 := 42) (q2 := 38) dX12_isSet_35 (by decide) rfl (fun c9 => ?_) (fun c9 => ?_)
          · replace H := ine c9 H
            exact V.sub [0, 1, 3] rfl (sgjX12_isSet_42 hd rs H kI kE)
          · replace H := ip c9 H
            exact V.sub [0, 1, 3] rfl (sgjX12_isSet_38 hd rs H kI kE)
def gjX12_isSet_77 (y0 : Int32) (m : Mem) : Option (Int32) :=
(bz y0).bind fun x12 =>
some x12
set_option maxRecDepth 20000 in
set_option maxHeartbeats 4000000 in
theorem sgjX12_isSet_77 {Γ : Gm} {d : Nat} (hd : 3 ≤ d) {T : Nat} {h : Hp} (rs : RS T h) {y0 : Int32} {m : Mem} {r : Int32} (H : gjX12_isSet_77 y0 m = some r) : V Γ d mX12_isSet 77 [] [.int y0] (hm T h m) (some (.int r), (hm T h m)) := by
  unfold gjX12_isSet_77 at H
  replace H := bs H; obtain ⟨x12, x12e, H⟩ := H
  obtain ⟨x12q, x12z⟩ := bz_sp x12e
  refine v_topi x12q.symm ?_
  cases H
  exact v_zreturn rfl (by rw [x12q]; exact x12z) dX12_isSet_77
def gjX12_isSet_76 (m : Mem) : Option (Int32) :=
gjX12_isSet_77 (0 : Int32) m
set_option maxRecDepth 20000 in
set_option maxHeartbeats 4000000 in
theorem sgjX12_isSet_76 {Γ : Gm} {d : Nat} (hd : 3 ≤ d) {T : Nat} {h : Hp} (rs : RS T h) {m : Mem} {r : Int32} (H : gjX12_isSet_76 m = some r) : V Γ d mX12_isSet 76 [] [] (hm T h m) (some (.int r), (hm T h m)) := by
  unfold gjX12_isSet_76 at H
  refine v_iconst (v := 0) (q := 77) dX12_isSet_76 (by decide) rfl ?_
  exact V.sub [] rfl (sgjX12_isSet_77 hd rs H)
def gX12_isSet (m : Mem) (v1 : Int32) : Option (Int32) :=
(lp (gbX12_isSet_4 v1 m) FU ((0 : Int32), (0 : Int32))).bind fun e10 =>
if e10 = 0 then (
gjX12_isSet_76 m) else (
if v1 < 0 then (
gjX12_isSet_76 m) else (
(rd m 4 2 (m 0 9)).bind fun x14 =>
if (v1 >>> (x14 &&& 31)) = 0 then (
gjX12_isSet_77 (1 : Int32) m) else (
gjX12_isSet_76 m)))
set_option maxRecDepth 20000 in
set_option maxHeartbeats 4000000 in
theorem sgX12_isSet {Γ : Gm} {d : Nat} (hd : 3 ≤ d) {T : Nat} {h : Hp} (rs : RS T h) {m : Mem} {v1 : Int32} {r : Int32} (H : gX12_isSet m v1 = some r) : V Γ d mX12_isSet 0 [(0, .ref T), (1, .int v1)] [] (hm T h m) (some (.int r), (hm T h m)) := by
  unfold gX12_isSet at H
  refine v_iconst (v := 0) (q := 1) dX12_isSet_0 (by decide) rfl ?_
  refine v_istore_n (L' := [(2, .int (0 : Int32)), (0, .ref T), (1, .int v1)]) (q := 2) dX12_isSet_1 rfl (by decide) rfl rfl ?_
  refine v_iconst (v := 0) (q := 3) dX12_isSet_2 (by decide) rfl ?_
  refine v_istore_n (L' := [(3, .int (0 : Int32)), (2, .int (0 : Int32)), (0, .ref T), (1, .int v1)]) (q := 4) dX12_isSet_3 rfl (by decide) rfl rfl ?_
  replace H := bs H; obtain ⟨e10, e10L, H⟩ := H
  refine V.sub [2, 3, 1, 0] rfl ?_
  refine lp_V (P := (fun s4 => V Γ d mX12_isSet 4 [(0, .ref T), (1, .int v1), (2, .int s4.1), (3, .int s4.2)] [] (hm T h m) (some (.int r), (hm T h m)))) (E := (fun e => V Γ d mX12_isSet 50 [(0, .ref T), (1, .int v1), (2, .int e)] [] (hm T h m) (some (.int r), (hm T h m)))) (fun s r hb kI kE => sgbX12_isSet_4 hd rs (s4 := s) (r := r) hb kI kE) FU ((0 : Int32), (0 : Int32)) e10 e10L ?_
  refine v_iload_n (q := 51) 2 dX12_isSet_50 rfl rfl rfl ?_
  refine v_if_eq (q1 := 76) (q2 := 54) dX12_isSet_51 (by decide) rfl (fun c11 => ?_) (fun c11 => ?_)
  · replace H := ip c11 H
    exact V.sub [] rfl (sgjX12_isSet_76 hd rs H)
  · replace H := ine c11 H
    refine v_iload_n (q := 55) 1 dX12_isSet_54 rfl rfl rfl ?_
    refine v_if_lt (q1 := 76) (q2 := 58) dX12_isSet_55 (by decide) rfl (fun c13 => ?_) (fun c13 => ?_)
    · replace H := ip c13 H
      exact V.sub [] rfl (sgjX12_isSet_76 hd rs H)
    · replace H := ine c13 H
      refine v_iload_n (q := 59) 1 dX12_isSet_58 rfl rfl rfl ?_
      refine v_aload_n (q := 60) 0 dX12_isSet_59 rfl rfl rfl ?_
      refine ur_arr (q := 63) rs rt3 dX12_isSet_60 w1359 (Nat.le_of_ble_eq_true rfl) rfl rfl ?_
      refine v_aload_n (q := 64) 0 dX12_isSet_63 rfl rfl rfl ?_
      refine ur_gI (q := 67) (x := 0) (k := 9) rs dX12_isSet_64 w1365 (Nat.le_of_ble_eq_true rfl) rfl rfl ?_
      replace H := bs H; obtain ⟨x14, x14e, H⟩ := H
      refine ur_rd (q := 68) rs rt3 x14e dX12_isSet_67 rfl ?_
      refine v_ishr (q := 69) dX12_isSet_68 rfl ?_
      refine v_if_ne (q1 := 76) (q2 := 72) dX12_isSet_69 (by decide) rfl (fun c15 => ?_) (fun c15 => ?_)
      · replace H := ine c15 H
        exact V.sub [] rfl (sgjX12_isSet_76 hd rs H)
      · replace H := ip c15 H
        refine v_iconst (v := 1) (q := 73) dX12_isSet_72 (by decide) rfl ?_
        refine v_goto (q := 77) dX12_isSet_73 (by decide) ?_
        exact V.sub [] rfl (sgjX12_isSet_77 hd rs H)
def mX12_pack : MI := (yX12_pack, cX12_pack, 4, none)
theorem oX12_pack : mOK mX12_pack 1 := ⟨by decide +kernel, by decide +kernel, by decide +kernel, by decide, w1868, w0150⟩
def gbX12_pack_6 (u2 : Int32) (s6 : Int32 × Mem) : Option ((Int32 × Mem) ⊕ (Mem)) :=
if (5 : Int32) ≤ s6.1 then (
some (.inr s6.2)) else (
(wr s6.2 27 20005 (u2 + s6.1) (0 : Int32)).bind fun m3 =>
(some (s6.1 + (1 : Int32))).bind fun x4 =>
some (.inl (x4, m3)))
set_option maxRecDepth 20000 in
set_option maxHeartbeats 4000000 in
theorem sgbX12_pack_6 {Γ : Gm} {d : Nat} (hd : 1 ≤ d) {T : Nat} {h : Hp} (rs : RS T h) {u2 : Int32} {s6 : Int32 × Mem} {r : (Int32 × Mem) ⊕ (Mem)} {t : Option Value × Hp} (H : gbX12_pack_6 u2 s6 = some r) (kI : ∀ s, r = .inl s → (fun s6 => V Γ d mX12_pack 6 [(0, .ref T), (2, .int u2), (3, .int s6.1)] [] (hm T h s6.2) t) s) (kE : ∀ e, r = .inr e → (fun e => V Γ d mX12_pack 26 [(0, .ref T), (2, .int u2)] [] (hm T h e) t) e) : V Γ d mX12_pack 6 [(0, .ref T), (2, .int u2), (3, .int s6.1)] [] (hm T h s6.2) t := by
  unfold gbX12_pack_6 at H
  refine v_iload_n (q := 7) 2 dX12_pack_6 rfl rfl rfl ?_
  refine v_iconst (v := 5) (q := 8) dX12_pack_7 (by decide) rfl ?_
  refine v_icmp_ge (q1 := 26) (q2 := 11) dX12_pack_8 (by decide) rfl (fun c2 => ?_) (fun c2 => ?_)
  · replace H := ip c2 H
    exact V.sub [0, 1] rfl (kE s6.2 (Option.some.inj H).symm)
  · replace H := ine c2 H
    refine v_aload_n (q := 12) 0 dX12_pack_11 rfl rfl rfl ?_
    refine ur_arr (q := 15) rs rt41 dX12_pack_12 w1397 (Nat.le_of_ble_eq_true rfl) rfl rfl ?_
    refine v_iload_n (q := 16) 1 dX12_pack_15 rfl rfl rfl ?_
    refine v_iload_n (q := 17) 2 dX12_pack_16 rfl rfl rfl ?_
    refine v_iadd (q := 18) dX12_pack_17 rfl ?_
    refine v_iconst (v := 0) (q := 19) dX12_pack_18 (by decide) rfl ?_
    replace H := bs H; obtain ⟨m3, m3e, H⟩ := H
    refine ur_wr (q := 20) rs rt41 m3e dX12_pack_19 rfl ?_
    replace H := bs H; obtain ⟨x4, x4e, H⟩ := H
    refine v_iinc (v := x4) (L' := [(3, .int x4), (0, .ref T), (2, .int u2)]) (q := 23) 2 dX12_pack_20 rfl (Option.some.inj x4e) (by decide) rfl rfl ?_
    refine v_goto (q := 6) dX12_pack_23 (by decide) ?_
    exact V.sub [1, 2, 0] rfl (kI (x4, m3) (Option.some.inj H).symm)
def gbX12_pack_28 (u2 : Int32) (s28 : Int32 × Mem) : Option ((Int32 × Mem) ⊕ (Mem)) :=
if (6 : Int32) ≤ s28.1 then (
some (.inr s28.2)) else (
(rd s28.2 27 20005 u2).bind fun x7 =>
(rd s28.2 23 6 s28.1).bind fun x8 =>
(wr s28.2 27 20005 u2 (x7 ||| ((x8 + (1 : Int32)) <<< (((4 : Int32) * s28.1) &&& 31)))).bind fun m9 =>
(rd m9 27 20005 (u2 + (1 : Int32))).bind fun x10 =>
(rd m9 24 6 s28.1).bind fun x11 =>
(wr m9 27 20005 (u2 + (1 : Int32)) (x10 ||| ((x11 + (1 : Int32)) <<< (((3 : Int32) * s28.1) &&& 31)))).bind fun m12 =>
(some (s28.1 + (1 : Int32))).bind fun x13 =>
some (.inl (x13, m12)))
set_option maxRecDepth 20000 in
set_option maxHeartbeats 4000000 in
theorem sgbX12_pack_28 {Γ : Gm} {d : Nat} (hd : 1 ≤ d) {T : Nat} {h : Hp} (rs : RS T h) {u2 : Int32} {s28 : Int32 × Mem} {r : (Int32 × Mem) ⊕ (Mem)} {t : Option Value × Hp} (H : gbX12_pack_28 u2 s28 = some r) (kI : ∀ s, r = .inl s → (fun s28 => V Γ d mX12_pack 28 [(0, .ref T), (2, .int u2), (3, .int s28.1)] [] (hm T h s28.2) t) s) (kE : ∀ e, r = .inr e → (fun e => V Γ d mX12_pack 84 [(0, .ref T), (2, .int u2)] [] (hm T h e) t) e) : V Γ d mX12_pack 28 [(0, .ref T), (2, .int u2), (3, .int s28.1)] [] (hm T h s28.2) t := by
  unfold gbX12_pack_28 at H
  refine v_iload_n (q := 29) 2 dX12_pack_28 rfl rfl rfl ?_
  refine v_bipush (v := 6) (q := 31) dX12_pack_29 (by decide) rfl ?_
  refine v_icmp_ge (q1 := 84) (q2 := 34) dX12_pack_31 (by decide) rfl (fun c6 => ?_) (fun c6 => ?_)
  · replace H := ip c6 H
    exact V.sub [0, 1] rfl (kE s28.2 (Option.some.inj H).symm)
  · replace H := ine c6 H
    refine v_aload_n (q := 35) 0 dX12_pack_34 rfl rfl rfl ?_
    refine ur_arr (q := 38) rs rt41 dX12_pack_35 w1397 (Nat.le_of_ble_eq_true rfl) rfl rfl ?_
    refine v_iload_n (q := 39) 1 dX12_pack_38 rfl rfl rfl ?_
    refine v_dup2 (q := 40) dX12_pack_39 rfl rfl rfl ?_
    replace H := bs H; obtain ⟨x7, x7e, H⟩ := H
    refine ur_rd (q := 41) rs rt41 x7e dX12_pack_40 rfl ?_
    refine v_aload_n (q := 42) 0 dX12_pack_41 rfl rfl rfl ?_
    refine ur_arr (q := 45) rs rt36 dX12_pack_42 w1392 (Nat.le_of_ble_eq_true rfl) rfl rfl ?_
    refine v_iload_n (q := 46) 2 dX12_pack_45 rfl rfl rfl ?_
    replace H := bs H; obtain ⟨x8, x8e, H⟩ := H
    refine ur_rd (q := 47) rs rt36 x8e dX12_pack_46 rfl ?_
    refine v_iconst (v := 1) (q := 48) dX12_pack_47 (by decide) rfl ?_
    refine v_iadd (q := 49) dX12_pack_48 rfl ?_
    refine v_iconst (v := 4) (q := 50) dX12_pack_49 (by decide) rfl ?_
    refine v_iload_n (q := 51) 2 dX12_pack_50 rfl rfl rfl ?_
    refine v_imul (q := 52) dX12_pack_51 rfl ?_
    refine v_ishl (q := 53) dX12_pack_52 rfl ?_
    refine v_ior (q := 54) dX12_pack_53 rfl ?_
    replace H := bs H; obtain ⟨m9, m9e, H⟩ := H
    refine ur_wr (q := 55) rs rt41 m9e dX12_pack_54 rfl ?_
    refine v_aload_n (q := 56) 0 dX12_pack_55 rfl rfl rfl ?_
    refine ur_arr (q := 59) rs rt41 dX12_pack_56 w1397 (Nat.le_of_ble_eq_true rfl) rfl rfl ?_
    refine v_iload_n (q := 60) 1 dX12_pack_59 rfl rfl rfl ?_
    refine v_iconst (v := 1) (q := 61) dX12_pack_60 (by decide) rfl ?_
    refine v_iadd (q := 62) dX12_pack_61 rfl ?_
    refine v_dup2 (q := 63) dX12_pack_62 rfl rfl rfl ?_
    replace H := bs H; obtain ⟨x10, x10e, H⟩ := H
    refine ur_rd (q := 64) rs rt41 x10e dX12_pack_63 rfl ?_
    refine v_aload_n (q := 65) 0 dX12_pack_64 rfl rfl rfl ?_
    refine ur_arr (q := 68) rs rt37 dX12_pack_65 w1393 (Nat.le_of_ble_eq_true rfl) rfl rfl ?_
    refine v_iload_n (q := 69) 2 dX12_pack_68 rfl rfl rfl ?_
    replace H := bs H; obtain ⟨x11, x11e, H⟩ := H
    refine ur_rd (q := 70) rs rt37 x11e dX12_pack_69 rfl ?_
    refine v_iconst (v := 1) (q := 71) dX12_pack_70 (by decide) rfl ?_
    refine v_iadd (q := 72) dX12_pack_71 rfl ?_
    refine v_iconst (v := 3) (q := 73) dX12_pack_72 (by decide) rfl ?_
    refine v_iload_n (q := 74) 2 dX12_pack_73 rfl rfl rfl ?_
    refine v_imul (q := 75) dX12_pack_74 rfl ?_
    refine v_ishl (q := 76) dX12_pack_75 rfl ?_
    refine v_ior (q := 77) dX12_pack_76 rfl ?_
    replace H := bs H; obtain ⟨m12, m12e, H⟩ := H
    refine ur_wr (q := 78) rs rt41 m12e dX12_pack_77 rfl ?_
    replace H := bs H; obtain ⟨x13, x13e, H⟩ := H
    refine v_iinc (v := x13) (L' := [(3, .int x13), (0, .ref T), (2, .int u2)]) (q := 81) 2 dX12_pack_78 rfl (Option.some.inj x13e) (by decide) rfl rfl ?_
    refine v_goto (q := 28) dX12_pack_81 (by decide) ?_
    exact V.sub [1, 2, 0] rfl (kI (x13, m12) (Option.some.inj H).symm)
def gjX12_pack_130 (u2 : Int32) (v3 : Int32) (y0 : Int32) (y1 : Int32) (m : Mem) : Option ((Int32 × Mem) ⊕ (Mem)) :=
(rd m 27 20005 (y1 + y0)).bind fun x20 =>
(rd m 26 10 v3).bind fun x21 =>
(wr m 27 20005 (y1 + y0) (x20 ||| (x21 <<< (((6 : Int32) * (v3 - v3 / (5 : Int32) * (5 : Int32))) &&& 31)))).bind fun m22 =>
(some (v3 + (1 : Int32))).bind fun x23 =>
some (.inl (x23, m22))
set_option maxRecDepth 20000 in
set_option maxHeartbeats 4000000 in
theorem sgjX12_pack_130 {Γ : Gm} {d : Nat} (hd : 1 ≤ d) {T : Nat} {h : Hp} (rs : RS T h) {u2 : Int32} {v3 : Int32} {y0 : Int32} {y1 : Int32} {m : Mem} {r : (Int32 × Mem) ⊕ (Mem)} {t : Option Value × Hp} (H : gjX12_pack_130 u2 v3 y0 y1 m = some r) (kI : ∀ s, r = .inl s → (fun s86 => V Γ d mX12_pack 86 [(0, .ref T), (2, .int u2), (3, .int s86.1)] [] (hm T h s86.2) t) s) (kE : ∀ e, r = .inr e → (fun e => V Γ d mX12_pack 154 [] [] (hm T h e) t) e) : V Γ d mX12_pack 130 [(0, .ref T), (2, .int u2), (3, .int v3)] [.int y0, .int y1, .ref (T + 27)] (hm T h m) t := by
  unfold gjX12_pack_130 at H
  refine v_iadd (q := 131) dX12_pack_130 rfl ?_
  refine v_dup2 (q := 132) dX12_pack_131 rfl rfl rfl ?_
  replace H := bs H; obtain ⟨x20, x20e, H⟩ := H
  refine ur_rd (q := 133) rs rt41 x20e dX12_pack_132 rfl ?_
  refine v_aload_n (q := 134) 0 dX12_pack_133 rfl rfl rfl ?_
  refine ur_arr (q := 137) rs rt39 dX12_pack_134 w1395 (Nat.le_of_ble_eq_true rfl) rfl rfl ?_
  refine v_iload_n (q := 138) 2 dX12_pack_137 rfl rfl rfl ?_
  replace H := bs H; obtain ⟨x21, x21e, H⟩ := H
  refine ur_rd (q := 139) rs rt39 x21e dX12_pack_138 rfl ?_
  refine v_bipush (v := 6) (q := 141) dX12_pack_139 (by decide) rfl ?_
  refine v_iload_n (q := 142) 2 dX12_pack_141 rfl rfl rfl ?_
  refine v_iconst (v := 5) (q := 143) dX12_pack_142 (by decide) rfl ?_
  refine v_irem (q := 144) dX12_pack_143 (by decide) rfl ?_
  refine v_imul (q := 145) dX12_pack_144 rfl ?_
  refine v_ishl (q := 146) dX12_pack_145 rfl ?_
  refine v_ior (q := 147) dX12_pack_146 rfl ?_
  replace H := bs H; obtain ⟨m22, m22e, H⟩ := H
  refine ur_wr (q := 148) rs rt41 m22e dX12_pack_147 rfl ?_
  replace H := bs H; obtain ⟨x23, x23e, H⟩ := H
  refine v_iinc (v := x23) (L' := [(3, .int x23), (0, .ref T), (2, .int u2)]) (q := 151) 2 dX12_pack_148 rfl (Option.some.inj x23e) (by decide) rfl rfl ?_
  refine v_goto (q := 86) dX12_pack_151 (by decide) ?_
  exact V.sub [1, 2, 0] rfl (kI (x23, m22) (Option.some.inj H).symm)
def gbX12_pack_86 (u2 : Int32) (s86 : Int32 × Mem) : Option ((Int32 × Mem) ⊕ (Mem)) :=
if (10 : Int32) ≤ s86.1 then (
some (.inr s86.2)) else (
(rd s86.2 27 20005 (u2 + (2 : Int32))).bind fun x16 =>
(rd s86.2 25 10 s86.1).bind fun x17 =>
(wr s86.2 27 20005 (u2 + (2 : Int32)) (x16 ||| ((x17 + (1 : Int32)) <<< (((3 : Int32) * s86.1) &&& 31)))).bind fun m18 =>
if (5 : Int32) ≤ s86.1 then (
gjX12_pack_130 u2 s86.1 (4 : Int32) u2 m18) else (
gjX12_pack_130 u2 s86.1 (3 : Int32) u2 m18))
set_option maxRecDepth 20000 in
set_option maxHeartbeats 4000000 in
theorem sgbX12_pack_86 {Γ : Gm} {d : Nat} (hd : 1 ≤ d) {T : Nat} {h : Hp} (rs : RS T h) {u2 : Int32} {s86 : Int32 × Mem} {r : (Int32 × Mem) ⊕ (Mem)} {t : Option Value × Hp} (H : gbX12_pack_86 u2 s86 = some r) (kI : ∀ s, r = .inl s → (fun s86 => V Γ d mX12_pack 86 [(0, .ref T), (2, .int u2), (3, .int s86.1)] [] (hm T h s86.2) t) s) (kE : ∀ e, r = .inr e → (fun e => V Γ d mX12_pack 154 [] [] (hm T h e) t) e) : V Γ d mX12_pack 86 [(0, .ref T), (2, .int u2), (3, .int s86.1)] [] (hm T h s86.2) t := by
  unfold gbX12_pack_86 at H
  refine v_iload_n (q := 87) 2 dX12_pack_86 rfl rfl rfl ?_
  refine v_bipush (v := 10) (q := 89) dX12_pack_87 (by decide) rfl ?_
  refine v_icmp_ge (q1 := 154) (q2 := 92) dX12_pack_89 (by decide) rfl (fun c15 => ?_) (fun c15 => ?_)
  · replace H := ip c15 H
    exact V.sub [] rfl (kE s86.2 (Option.some.inj H).symm)
  · replace H := ine c15 H
    refine v_aload_n (q := 93) 0 dX12_pack_92 rfl rfl rfl ?_
    refine ur_arr (q := 96) rs rt41 dX12_pack_93 w1397 (Nat.le_of_ble_eq_true rfl) rfl rfl ?_
    refine v_iload_n (q := 97) 1 dX12_pack_96 rfl rfl rfl ?_
    refine v_iconst (v := 2) (q := 98) dX12_pack_97 (by decide) rfl ?_
    refine v_iadd (q := 99) dX12_pack_98 rfl ?_
    refine v_dup2 (q := 100) dX12_pack_99 rfl rfl rfl ?_
    replace H := bs H; obtain ⟨x16, x16e, H⟩ := H
    refine ur_rd (q := 101) rs rt41 x16e dX12_pack_100 rfl ?_
    refine v_aload_n (q := 102) 0 dX12_pack_101 rfl rfl rfl ?_
    refine ur_arr (q := 105) rs rt38 dX12_pack_102 w1394 (Nat.le_of_ble_eq_true rfl) rfl rfl ?_
    refine v_iload_n (q := 106) 2 dX12_pack_105 rfl rfl rfl ?_
    replace H := bs H; obtain ⟨x17, x17e, H⟩ := H
    refine ur_rd (q := 107) rs rt38 x17e dX12_pack_106 rfl ?_
    refine v_iconst (v := 1) (q := 108) dX12_pack_107 (by decide) rfl ?_
    refine v_iadd (q := 109) dX12_pack_108 rfl ?_
    refine v_iconst (v := 3) (q := 110) dX12_pack_109 (by decide) rfl ?_
    refine v_iload_n (q := 111) 2 dX12_pack_110 rfl rfl rfl ?_
    refine v_imul (q := 112) dX12_pack_111 rfl ?_
    refine v_ishl (q := 113) dX12_pack_112 rfl ?_
    refine v_ior (q := 114) dX12_pack_113 rfl ?_
    replace H := bs H; obtain ⟨m18, m18e, H⟩ := H
    refine ur_wr (q := 115) rs rt41 m18e dX12_pack_114 rfl ?_
    refine v_aload_n (q := 116) 0 dX12_pack_115 rfl rfl rfl ?_
    refine ur_arr (q := 119) rs rt41 dX12_pack_116 w1397 (Nat.le_of_ble_eq_true rfl) rfl rfl ?_
    refine v_iload_n (q := 120) 1 dX12_pack_119 rfl rfl rfl ?_
    refine v_iload_n (q := 121) 2 dX12_pack_120 rfl rfl rfl ?_
    refine v_iconst (v := 5) (q := 122) dX12_pack_121 (by decide) rfl ?_
    refine v_icmp_ge (q1 := 129) (q2 := 125) dX12_pack_122 (by decide) rfl (fun c19 => ?_) (fun c19 => ?_)
    · replace H := ip c19 H
      refine v_iconst (v := 4) (q := 130) dX12_pack_129 (by decide) rfl ?_
      exact V.sub [0, 1, 2] rfl (sgjX12_pack_130 hd rs H kI kE)
    · replace H := ine c19 H
      refine v_iconst (v := 3) (q := 126) dX12_pack_125 (by decide) rfl ?_
      refine v_goto (q := 130) dX12_pack_126 (by decide) ?_
      exact V.sub [0, 1, 2] rfl (sgjX12_pack_130 hd rs H kI kE)
def gX12_pack (m : Mem) (v1 : Int32) : Option (Mem) :=
(some ((5 : Int32) * v1)).bind fun x1 =>
(lp (gbX12_pack_6 x1) FU ((0 : Int32), m)).bind fun e5 =>
(lp (gbX12_pack_28 x1) FU ((0 : Int32), e5)).bind fun e14 =>
(lp (gbX12_pack_86 x1) FU ((0 : Int32), e14)).bind fun e24 =>
some e24
set_option maxRecDepth 20000 in
set_option maxHeartbeats 4000000 in
theorem sgX12_pack {Γ : Gm} {d : Nat} (hd : 1 ≤ d) {T : Nat} {h : Hp} (rs : RS T h) {m : Mem} {v1 : Int32} {r : Mem} (H : gX12_pack m v1 = some r) : V Γ d mX12_pack 0 [(0, .ref T), (1, .int v1)] [] (hm T h m) (none, (hm T h r)) := by
  unfold gX12_pack at H
  refine v_iconst (v := 5) (q := 1) dX12_pack_0 (by decide) rfl ?_
  refine v_iload_n (q := 2) 1 dX12_pack_1 rfl rfl rfl ?_
  refine v_imul (q := 3) dX12_pack_2 rfl ?_
  replace H := bs H; obtain ⟨x1, x1e, H⟩ := H
  refine v_topi (Option.some.inj x1e) ?_
  refine v_istore_n (L' := [(2, .int x1), (0, .ref T), (1, .int v1)]) (q := 4) dX12_pack_3 rfl (by decide) rfl rfl ?_
  refine v_iconst (v := 0) (q := 5) dX12_pack_4 (by decide) rfl ?_
  refine v_istore_n (L' := [(3, .int (0 : Int32)), (2, .int x1), (0, .ref T), (1, .int v1)]) (q := 6) dX12_pack_5 rfl (by decide) rfl rfl ?_
  replace H := bs H; obtain ⟨e5, e5L, H⟩ := H
  refine V.sub [2, 1, 0] rfl ?_
  refine lp_V (P := (fun s6 => V Γ d mX12_pack 6 [(0, .ref T), (2, .int x1), (3, .int s6.1)] [] (hm T h s6.2) (none, (hm T h r)))) (E := (fun e => V Γ d mX12_pack 26 [(0, .ref T), (2, .int x1)] [] (hm T h e) (none, (hm T h r)))) (fun s r hb kI kE => sgbX12_pack_6 hd rs (s6 := s) (r := r) hb kI kE) FU ((0 : Int32), m) e5 e5L ?_
  refine v_iconst (v := 0) (q := 27) dX12_pack_26 (by decide) rfl ?_
  refine v_istore_n (L' := [(3, .int (0 : Int32)), (0, .ref T), (2, .int x1)]) (q := 28) dX12_pack_27 rfl (by decide) rfl rfl ?_
  replace H := bs H; obtain ⟨e14, e14L, H⟩ := H
  refine V.sub [1, 2, 0] rfl ?_
  refine lp_V (P := (fun s28 => V Γ d mX12_pack 28 [(0, .ref T), (2, .int x1), (3, .int s28.1)] [] (hm T h s28.2) (none, (hm T h r)))) (E := (fun e => V Γ d mX12_pack 84 [(0, .ref T), (2, .int x1)] [] (hm T h e) (none, (hm T h r)))) (fun s r hb kI kE => sgbX12_pack_28 hd rs (s28 := s) (r := r) hb kI kE) FU ((0 : Int32), e5) e14 e14L ?_
  refine v_iconst (v := 0) (q := 85) dX12_pack_84 (by decide) rfl ?_
  refine v_istore_n (L' := [(3, .int (0 : Int32)), (0, .ref T), (2, .int x1)]) (q := 86) dX12_pack_85 rfl (by decide) rfl rfl ?_
  replace H := bs H; obtain ⟨e24, e24L, H⟩ := H
  refine V.sub [1, 2, 0] rfl ?_
  refine lp_V (P := (fun s86 => V Γ d mX12_pack 86 [(0, .ref T), (2, .int x1), (3, .int s86.1)] [] (hm T h s86.2) (none, (hm T h r)))) (E := (fun e => V Γ d mX12_pack 154 [] [] (hm T h e) (none, (hm T h r)))) (fun s r hb kI kE => sgbX12_pack_86 hd rs (s86 := s) (r := r) hb kI kE) FU ((0 : Int32), e14) e24 e24L ?_
  cases H
  exact v_return rfl dX12_pack_154
def mX12_isLike : MI := (yX12_isLike, cX12_isLike, 4, some .boolean)
theorem oX12_isLike : mOK mX12_isLike 2 := ⟨by decide +kernel, by decide +kernel, by decide +kernel, by decide, w1872, w0150⟩
def gbX12_isLike_2 (u1 : Int32) (u2 : Int32) (m : Mem) (s2 : Int32) : Option ((Int32) ⊕ ((Unit) ⊕ (Unit))) :=
if (5 : Int32) ≤ s2 then (
some (.inr (.inl ()))) else (
(rd m 27 20005 (((5 : Int32) * u1) + s2)).bind fun x2 =>
(rd m 27 20005 (((5 : Int32) * u2) + s2)).bind fun x3 =>
if x2 = x3 then (
(some (s2 + (1 : Int32))).bind fun x5 =>
some (.inl x5)) else (
some (.inr (.inr ()))))
set_option maxRecDepth 20000 in
set_option maxHeartbeats 4000000 in
theorem sgbX12_isLike_2 {Γ : Gm} {d : Nat} (hd : 1 ≤ d) {T : Nat} {h : Hp} (rs : RS T h) {u1 : Int32} {u2 : Int32} {m : Mem} {s2 : Int32} {r : (Int32) ⊕ ((Unit) ⊕ (Unit))} {t : Option Value × Hp} (H : gbX12_isLike_2 u1 u2 m s2 = some r) (kI : ∀ s, r = .inl s → (fun s2 => V Γ d mX12_isLike 2 [(0, .ref T), (1, .int u1), (2, .int u2), (3, .int s2)] [] (hm T h m) t) s) (kE : ∀ e, r = .inr e → (fun e => (match e with | .inl a0 => V Γ d mX12_isLike 38 [] [] (hm T h m) t | .inr b0 => V Γ d mX12_isLike 30 [] [] (hm T h m) t)) e) : V Γ d mX12_isLike 2 [(0, .ref T), (1, .int u1), (2, .int u2), (3, .int s2)] [] (hm T h m) t := by
  unfold gbX12_isLike_2 at H
  refine v_iload_n (q := 3) 3 dX12_isLike_2 rfl rfl rfl ?_
  refine v_iconst (v := 5) (q := 4) dX12_isLike_3 (by decide) rfl ?_
  refine v_icmp_ge (q1 := 38) (q2 := 7) dX12_isLike_4 (by decide) rfl (fun c1 => ?_) (fun c1 => ?_)
  · replace H := ip c1 H
    exact V.sub [] rfl (kE (.inl ()) (Option.some.inj H).symm)
  · replace H := ine c1 H
    refine v_aload_n (q := 8) 0 dX12_isLike_7 rfl rfl rfl ?_
    refine ur_arr (q := 11) rs rt41 dX12_isLike_8 w1397 (Nat.le_of_ble_eq_true rfl) rfl rfl ?_
    refine v_iconst (v := 5) (q := 12) dX12_isLike_11 (by decide) rfl ?_
    refine v_iload_n (q := 13) 1 dX12_isLike_12 rfl rfl rfl ?_
    refine v_imul (q := 14) dX12_isLike_13 rfl ?_
    refine v_iload_n (q := 15) 3 dX12_isLike_14 rfl rfl rfl ?_
    refine v_iadd (q := 16) dX12_isLike_15 rfl ?_
    replace H := bs H; obtain ⟨x2, x2e, H⟩ := H
    refine ur_rd (q := 17) rs rt41 x2e dX12_isLike_16 rfl ?_
    refine v_aload_n (q := 18) 0 dX12_isLike_17 rfl rfl rfl ?_
    refine ur_arr (q := 21) rs rt41 dX12_isLike_18 w1397 (Nat.le_of_ble_eq_true rfl) rfl rfl ?_
    refine v_iconst (v := 5) (q := 22) dX12_isLike_21 (by decide) rfl ?_
    refine v_iload_n (q := 23) 2 dX12_isLike_22 rfl rfl rfl ?_
    refine v_imul (q := 24) dX12_isLike_23 rfl ?_
    refine v_iload_n (q := 25) 3 dX12_isLike_24 rfl rfl rfl ?_
    refine v_iadd (q := 26) dX12_isLike_25 rfl ?_
    replace H := bs H; obtain ⟨x3, x3e, H⟩ := H
    refine ur_rd (q := 27) rs rt41 x3e dX12_isLike_26 rfl ?_
    refine v_icmp_eq (q1 := 32) (q2 := 30) dX12_isLike_27 (by decide) rfl (fun c4 => ?_) (fun c4 => ?_)
    · replace H := ip c4 H
      replace H := bs H; obtain ⟨x5, x5e, H⟩ := H
      refine v_iinc (v := x5) (L' := [(3, .int x5), (0, .ref T), (1, .int u1), (2, .int u2)]) (q := 35) 3 dX12_isLike_32 rfl (Option.some.inj x5e) (by decide) rfl rfl ?_
      refine v_goto (q := 2) dX12_isLike_35 (by decide) ?_
      exact V.sub [1, 2, 3, 0] rfl (kI x5 (Option.some.inj H).symm)
    · replace H := ine c4 H
      exact V.sub [] rfl (kE (.inr ()) (Option.some.inj H).symm)
def gX12_isLike (m : Mem) (v1 : Int32) (v2 : Int32) : Option (Int32) :=
(lp (gbX12_isLike_2 v1 v2 m) FU (0 : Int32)).bind fun e6 =>
(match e6 with
| .inl e7 => (
some (1 : Int32))
| .inr e8 => (
some (0 : Int32)))
set_option maxRecDepth 20000 in
set_option maxHeartbeats 4000000 in
theorem sgX12_isLike {Γ : Gm} {d : Nat} (hd : 1 ≤ d) {T : Nat} {h : Hp} (rs : RS T h) {m : Mem} {v1 : Int32} {v2 : Int32} {r : Int32} (H : gX12_isLike m v1 v2 = some r) : V Γ d mX12_isLike 0 [(0, .ref T), (1, .int v1), (2, .int v2)] [] (hm T h m) (some (.int r), (hm T h m)) := by
  unfold gX12_isLike at H
  refine v_iconst (v := 0) (q := 1) dX12_isLike_0 (by decide) rfl ?_
  refine v_istore_n (L' := [(3, .int (0 : Int32)), (0, .ref T), (1, .int v1), (2, .int v2)]) (q := 2) dX12_isLike_1 rfl (by decide) rfl rfl ?_
  replace H := bs H; obtain ⟨e6, e6L, H⟩ := H
  refine V.sub [1, 2, 3, 0] rfl ?_
  refine lp_V (P := (fun s2 => V Γ d mX12_isLike 2 [(0, .ref T), (1, .int v1), (2, .int v2), (3, .int s2)] [] (hm T h m) (some (.int r), (hm T h m)))) (E := (fun e => (match e with | .inl a0 => V Γ d mX12_isLike 38 [] [] (hm T h m) (some (.int r), (hm T h m)) | .inr b0 => V Γ d mX12_isLike 30 [] [] (hm T h m) (some (.int r), (hm T h m))))) (fun s r hb kI kE => sgbX12_isLike_2 hd rs (s2 := s) (r := r) hb kI kE) FU (0 : Int32) e6 e6L ?_
  rcases e6 with e7 | e8
  · skip
    refine v_iconst (v := 1) (q := 39) dX12_isLike_38 (by decide) rfl ?_
    cases H
    exact v_zreturn rfl (by decide) dX12_isLike_39
  · skip
    refine v_iconst (v := 0) (q := 31) dX12_isLike_30 (by decide) rfl ?_
    cases H
    exact v_zreturn rfl (by decide) dX12_isLike_31
def mX12_isTask : MI := (yX12_isTask, cX12_isTask, 2, some .boolean)
theorem oX12_isTask : mOK mX12_isTask 1 := ⟨by decide +kernel, by decide +kernel, by decide +kernel, by decide, w1884, w0150⟩
def gjX12_isTask_21 (y0 : Int32) (m : Mem) : Option (Int32) :=
(bz y0).bind fun x3 =>
some x3
set_option maxRecDepth 20000 in
set_option maxHeartbeats 4000000 in
theorem sgjX12_isTask_21 {Γ : Gm} {d : Nat} (hd : 3 ≤ d) {T : Nat} {h : Hp} (rs : RS T h) {y0 : Int32} {m : Mem} {r : Int32} (H : gjX12_isTask_21 y0 m = some r) : V Γ d mX12_isTask 21 [] [.int y0] (hm T h m) (some (.int r), (hm T h m)) := by
  unfold gjX12_isTask_21 at H
  replace H := bs H; obtain ⟨x3, x3e, H⟩ := H
  obtain ⟨x3q, x3z⟩ := bz_sp x3e
  refine v_topi x3q.symm ?_
  cases H
  exact v_zreturn rfl (by rw [x3q]; exact x3z) dX12_isTask_21
def gjX12_isTask_20 (m : Mem) : Option (Int32) :=
gjX12_isTask_21 (0 : Int32) m
set_option maxRecDepth 20000 in
set_option maxHeartbeats 4000000 in
theorem sgjX12_isTask_20 {Γ : Gm} {d : Nat} (hd : 3 ≤ d) {T : Nat} {h : Hp} (rs : RS T h) {m : Mem} {r : Int32} (H : gjX12_isTask_20 m = some r) : V Γ d mX12_isTask 20 [] [] (hm T h m) (some (.int r), (hm T h m)) := by
  unfold gjX12_isTask_20 at H
  refine v_iconst (v := 0) (q := 21) dX12_isTask_20 (by decide) rfl ?_
  exact V.sub [] rfl (sgjX12_isTask_21 hd rs H)
def gX12_isTask (m : Mem) (v1 : Int32) : Option (Int32) :=
(gX12_isIn0 m v1).bind fun x1 =>
if x1 = 0 then (
gjX12_isTask_20 m) else (
(gX12_sortOf m v1).bind fun x4 =>
if x4 = 0 then (
gjX12_isTask_21 (1 : Int32) m) else (
gjX12_isTask_20 m))
set_option maxRecDepth 20000 in
set_option maxHeartbeats 4000000 in
theorem sgX12_isTask {Γ : Gm} {d : Nat} (hd : 3 ≤ d) {T : Nat} {h : Hp} (rs : RS T h) {m : Mem} {v1 : Int32} {r : Int32} (H : gX12_isTask m v1 = some r) : V Γ d mX12_isTask 0 [(0, .ref T), (1, .int v1)] [] (hm T h m) (some (.int r), (hm T h m)) := by
  unfold gX12_isTask at H
  refine v_aload_n (q := 1) 0 dX12_isTask_0 rfl rfl rfl ?_
  refine v_iload_n (q := 2) 1 dX12_isTask_1 rfl rfl rfl ?_
  replace H := bs H; obtain ⟨x1, x1e, H⟩ := H
  refine u_callV1 (M' := mX12_isIn0) (d' := 2) (rc := (RX12, TX12, 58)) (As := [.int v1]) (st := []) (q := 5) oX12_isIn0 dX12_isTask_2 w1857 w1859 w0109 rfl rfl (RS.rc rs).1 (RS.rc rs).2 rfl (Nat.le_of_ble_eq_true rfl) (Nat.le_of_ble_eq_true rfl) (Nat.lt_of_lt_of_le (by decide) hd) rfl (sgX12_isIn0 (Nat.le_refl _) rs x1e) rfl ?_
  refine v_if_eq (q1 := 20) (q2 := 8) dX12_isTask_5 (by decide) rfl (fun c2 => ?_) (fun c2 => ?_)
  · replace H := ip c2 H
    exact V.sub [] rfl (sgjX12_isTask_20 hd rs H)
  · replace H := ine c2 H
    refine v_aload_n (q := 9) 0 dX12_isTask_8 rfl rfl rfl ?_
    refine v_iload_n (q := 10) 1 dX12_isTask_9 rfl rfl rfl ?_
    replace H := bs H; obtain ⟨x4, x4e, H⟩ := H
    refine u_callV1 (M' := mX12_sortOf) (d' := 1) (rc := (RX12, TX12, 58)) (As := [.int v1]) (st := []) (q := 13) oX12_sortOf dX12_isTask_10 w1718 w1720 w0092 rfl rfl (RS.rc rs).1 (RS.rc rs).2 rfl (Nat.le_of_ble_eq_true rfl) (Nat.le_of_ble_eq_true rfl) (Nat.lt_of_lt_of_le (by decide) hd) rfl (sgX12_sortOf (Nat.le_refl _) rs x4e) rfl ?_
    refine v_if_ne (q1 := 20) (q2 := 16) dX12_isTask_13 (by decide) rfl (fun c5 => ?_) (fun c5 => ?_)
    · replace H := ine c5 H
      exact V.sub [] rfl (sgjX12_isTask_20 hd rs H)
    · replace H := ip c5 H
      refine v_iconst (v := 1) (q := 17) dX12_isTask_16 (by decide) rfl ?_
      refine v_goto (q := 21) dX12_isTask_17 (by decide) ?_
      exact V.sub [] rfl (sgjX12_isTask_21 hd rs H)
def mX12_isThrough : MI := (yX12_isThrough, cX12_isThrough, 2, some .boolean)
theorem oX12_isThrough : mOK mX12_isThrough 1 := ⟨by decide +kernel, by decide +kernel, by decide +kernel, by decide, w1892, w0150⟩
def gjX12_isThrough_19 (y0 : Int32) (m : Mem) : Option (Int32) :=
(bz y0).bind fun x4 =>
some x4
set_option maxRecDepth 20000 in
set_option maxHeartbeats 4000000 in
theorem sgjX12_isThrough_19 {Γ : Gm} {d : Nat} (hd : 2 ≤ d) {T : Nat} {h : Hp} (rs : RS T h) {y0 : Int32} {m : Mem} {r : Int32} (H : gjX12_isThrough_19 y0 m = some r) : V Γ d mX12_isThrough 19 [] [.int y0] (hm T h m) (some (.int r), (hm T h m)) := by
  unfold gjX12_isThrough_19 at H
  replace H := bs H; obtain ⟨x4, x4e, H⟩ := H
  obtain ⟨x4q, x4z⟩ := bz_sp x4e
  refine v_topi x4q.symm ?_
  cases H
  exact v_zreturn rfl (by rw [x4q]; exact x4z) dX12_isThrough_19
def gX12_isThrough (m : Mem) (v1 : Int32) : Option (Int32) :=
(rd m 23 6 v1).bind fun x1 =>
(gX12_stepsOf m v1).bind fun x2 =>
if x1 = x2 then (
gjX12_isThrough_19 (1 : Int32) m) else (
gjX12_isThrough_19 (0 : Int32) m)
set_option maxRecDepth 20000 in
set_option maxHeartbeats 4000000 in
theorem sgX12_isThrough {Γ : Gm} {d : Nat} (hd : 2 ≤ d) {T : Nat} {h : Hp} (rs : RS T h) {m : Mem} {v1 : Int32} {r : Int32} (H : gX12_isThrough m v1 = some r) : V Γ d mX12_isThrough 0 [(0, .ref T), (1, .int v1)] [] (hm T h m) (some (.int r), (hm T h m)) := by
  unfold gX12_isThrough at H
  refine v_aload_n (q := 1) 0 dX12_isThrough_0 rfl rfl rfl ?_
  refine ur_arr (q := 4) rs rt36 dX12_isThrough_1 w1392 (Nat.le_of_ble_eq_true rfl) rfl rfl ?_
  refine v_iload_n (q := 5) 1 dX12_isThrough_4 rfl rfl rfl ?_
  replace H := bs H; obtain ⟨x1, x1e, H⟩ := H
  refine ur_rd (q := 6) rs rt36 x1e dX12_isThrough_5 rfl ?_
  refine v_aload_n (q := 7) 0 dX12_isThrough_6 rfl rfl rfl ?_
  refine v_iload_n (q := 8) 1 dX12_isThrough_7 rfl rfl rfl ?_
  replace H := bs H; obtain ⟨x2, x2e, H⟩ := H
  refine u_callV1 (M' := mX12_stepsOf) (d' := 1) (rc := (RX12, TX12, 58)) (As := [.int v1]) (st := [.int x1]) (q := 11) oX12_stepsOf dX12_isThrough_8 w1642 w1644 w0074 rfl rfl (RS.rc rs).1 (RS.rc rs).2 rfl (Nat.le_of_ble_eq_true rfl) (Nat.le_of_ble_eq_true rfl) (Nat.lt_of_lt_of_le (by decide) hd) rfl (sgX12_stepsOf (Nat.le_refl _) rs x2e) rfl ?_
  refine v_icmp_ne (q1 := 18) (q2 := 14) dX12_isThrough_11 (by decide) rfl (fun c3 => ?_) (fun c3 => ?_)
  · replace H := ine c3 H
    refine v_iconst (v := 0) (q := 19) dX12_isThrough_18 (by decide) rfl ?_
    exact V.sub [] rfl (sgjX12_isThrough_19 hd rs H)
  · replace H := ip c3 H
    refine v_iconst (v := 1) (q := 15) dX12_isThrough_14 (by decide) rfl ?_
    refine v_goto (q := 19) dX12_isThrough_15 (by decide) ?_
    exact V.sub [] rfl (sgjX12_isThrough_19 hd rs H)
def mX12_goesOn : MI := (yX12_goesOn, cX12_goesOn, 5, some .int)
theorem oX12_goesOn : mOK mX12_goesOn 1 := ⟨by decide +kernel, by decide +kernel, by decide +kernel, by decide, w1888, w0150⟩
def gjX12_goesOn_83 (u1 : Int32) (v2 : Int32) (u3 : Int32) (v4 : Int32) (m : Mem) : Option ((Int32 × Int32) ⊕ (Int32)) :=
(some (v4 + (1 : Int32))).bind fun x7 =>
some (.inl (v2, x7))
set_option maxRecDepth 20000 in
set_option maxHeartbeats 4000000 in
theorem sgjX12_goesOn_83 {Γ : Gm} {d : Nat} (hd : 3 ≤ d) {T : Nat} {h : Hp} (rs : RS T h) {u1 : Int32} {v2 : Int32} {u3 : Int32} {v4 : Int32} {m : Mem} {r : (Int32 × Int32) ⊕ (Int32)} {t : Option Value × Hp} (H : gjX12_goesOn_83 u1 v2 u3 v4 m = some r) (kI : ∀ s, r = .inl s → (fun s24 => V Γ d mX12_goesOn 24 [(0, .ref T), (1, .int u1), (2, .int s24.1), (3, .int u3), (4, .int s24.2)] [] (hm T h m) t) s) (kE : ∀ e, r = .inr e → (fun e => V Γ d mX12_goesOn 89 [(0, .ref T), (1, .int u1), (2, .int e), (3, .int u3)] [] (hm T h m) t) e) : V Γ d mX12_goesOn 83 [(0, .ref T), (1, .int u1), (2, .int v2), (3, .int u3), (4, .int v4)] [] (hm T h m) t := by
  unfold gjX12_goesOn_83 at H
  replace H := bs H; obtain ⟨x7, x7e, H⟩ := H
  refine v_iinc (v := x7) (L' := [(4, .int x7), (0, .ref T), (1, .int u1), (2, .int v2), (3, .int u3)]) (q := 86) 4 dX12_goesOn_83 rfl (Option.some.inj x7e) (by decide) rfl rfl ?_
  refine v_goto (q := 24) dX12_goesOn_86 (by decide) ?_
  exact V.sub [1, 2, 3, 4, 0] rfl (kI (v2, x7) (Option.some.inj H).symm)
def gbX12_goesOn_24 (u1 : Int32) (u3 : Int32) (m : Mem) (s24 : Int32 × Int32) : Option ((Int32 × Int32) ⊕ (Int32)) :=
if (6 : Int32) ≤ s24.2 then (
some (.inr s24.1)) else (
(gX12_isIn0 m s24.2).bind fun x5 =>
if x5 = 0 then (
gjX12_goesOn_83 u1 s24.1 u3 s24.2 m) else (
(gX12_sortOf m s24.2).bind fun x8 =>
if x8 = u3 then (
(rd m 24 6 s24.2).bind fun x10 =>
if x10 = u1 then (
(rd m 23 6 s24.2).bind fun x12 =>
if x12 < 0 then (
gjX12_goesOn_83 u1 s24.1 u3 s24.2 m) else (
(gX12_isThrough m s24.2).bind fun x14 =>
if x14 = 0 then (
gjX12_goesOn_83 u1 s24.2 u3 s24.2 m) else (
gjX12_goesOn_83 u1 s24.1 u3 s24.2 m))) else (
gjX12_goesOn_83 u1 s24.1 u3 s24.2 m)) else (
gjX12_goesOn_83 u1 s24.1 u3 s24.2 m)))
set_option maxRecDepth 20000 in
set_option maxHeartbeats 4000000 in
theorem sgbX12_goesOn_24 {Γ : Gm} {d : Nat} (hd : 3 ≤ d) {T : Nat} {h : Hp} (rs : RS T h) {u1 : Int32} {u3 : Int32} {m : Mem} {s24 : Int32 × Int32} {r : (Int32 × Int32) ⊕ (Int32)} {t : Option Value × Hp} (H : gbX12_goesOn_24 u1 u3 m s24 = some r) (kI : ∀ s, r = .inl s → (fun s24 => V Γ d mX12_goesOn 24 [(0, .ref T), (1, .int u1), (2, .int s24.1), (3, .int u3), (4, .int s24.2)] [] (hm T h m) t) s) (kE : ∀ e, r = .inr e → (fun e => V Γ d mX12_goesOn 89 [(0, .ref T), (1, .int u1), (2, .int e), (3, .int u3)] [] (hm T h m) t) e) : V Γ d mX12_goesOn 24 [(0, .ref T), (1, .int u1), (2, .int s24.1), (3, .int u3), (4, .int s24.2)] [] (hm T h m) t := by
  unfold gbX12_goesOn_24 at H
  refine v_iload (q := 26) 4 dX12_goesOn_24 rfl rfl ?_
  refine v_bipush (v := 6) (q := 28) dX12_goesOn_26 (by decide) rfl ?_
  refine v_icmp_ge (q1 := 89) (q2 := 31) dX12_goesOn_28 (by decide) rfl (fun c4 => ?_) (fun c4 => ?_)
  · replace H := ip c4 H
    exact V.sub [0, 1, 2, 3] rfl (kE s24.1 (Option.some.inj H).symm)
  · replace H := ine c4 H
    refine v_aload_n (q := 32) 0 dX12_goesOn_31 rfl rfl rfl ?_
    refine v_iload (q := 34) 4 dX12_goesOn_32 rfl rfl ?_
    replace H := bs H; obtain ⟨x5, x5e, H⟩ := H
    refine u_callV1 (M' := mX12_isIn0) (d' := 2) (rc := (RX12, TX12, 58)) (As := [.int s24.2]) (st := []) (q := 37) oX12_isIn0 dX12_goesOn_34 w1857 w1859 w0109 rfl rfl (RS.rc rs).1 (RS.rc rs).2 rfl (Nat.le_of_ble_eq_true rfl) (Nat.le_of_ble_eq_true rfl) (Nat.lt_of_lt_of_le (by decide) hd) rfl (sgX12_isIn0 (Nat.le_refl _) rs x5e) rfl ?_
    refine v_if_eq (q1 := 83) (q2 := 40) dX12_goesOn_37 (by decide) rfl (fun c6 => ?_) (fun c6 => ?_)
    · replace H := ip c6 H
      exact V.sub [0, 1, 2, 3, 4] rfl (sgjX12_goesOn_83 hd rs H kI kE)
    · replace H := ine c6 H
      refine v_aload_n (q := 41) 0 dX12_goesOn_40 rfl rfl rfl ?_
      refine v_iload (q := 43) 4 dX12_goesOn_41 rfl rfl ?_
      replace H := bs H; obtain ⟨x8, x8e, H⟩ := H
      refine u_callV1 (M' := mX12_sortOf) (d' := 1) (rc := (RX12, TX12, 58)) (As := [.int s24.2]) (st := []) (q := 46) oX12_sortOf dX12_goesOn_43 w1718 w1720 w0092 rfl rfl (RS.rc rs).1 (RS.rc rs).2 rfl (Nat.le_of_ble_eq_true rfl) (Nat.le_of_ble_eq_true rfl) (Nat.lt_of_lt_of_le (by decide) hd) rfl (sgX12_sortOf (Nat.le_refl _) rs x8e) rfl ?_
      refine v_iload_n (q := 47) 3 dX12_goesOn_46 rfl rfl rfl ?_
      refine v_icmp_ne (q1 := 83) (q2 := 50) dX12_goesOn_47 (by decide) rfl (fun c9 => ?_) (fun c9 => ?_)
      · replace H := ine c9 H
        exact V.sub [0, 1, 2, 3, 4] rfl (sgjX12_goesOn_83 hd rs H kI kE)
      · replace H := ip c9 H
        refine v_aload_n (q := 51) 0 dX12_goesOn_50 rfl rfl rfl ?_
        refine ur_arr (q := 54) rs rt37 dX12_goesOn_51 w1393 (Nat.le_of_ble_eq_true rfl) rfl rfl ?_
        refine v_iload (q := 56) 4 dX12_goesOn_54 rfl rfl ?_
        replace H := bs H; obtain ⟨x10, x10e, H⟩ := H
        refine ur_rd (q := 57) rs rt37 x10e dX12_goesOn_56 rfl ?_
        refine v_iload_n (q := 58) 1 dX12_goesOn_57 rfl rfl rfl ?_
        refine v_icmp_ne (q1 := 83) (q2 := 61) dX12_goesOn_58 (by decide) rfl (fun c11 => ?_) (fun c11 => ?_)
        · replace H := ine c11 H
          exact V.sub [0, 1, 2, 3, 4] rfl (sgjX12_goesOn_83 hd rs H kI kE)
        · replace H := ip c11 H
          refine v_aload_n (q := 62) 0 dX12_goesOn_61 rfl rfl rfl ?_
          refine ur_arr (q := 65) rs rt36 dX12_goesOn_62 w1392 (Nat.le_of_ble_eq_true rfl) rfl rfl ?_
          refine v_iload (q := 67) 4 dX12_goesOn_65 rfl rfl ?_
          replace H := bs H; obtain ⟨x12, x12e, H⟩ := H
          refine ur_rd (q := 68) rs rt36 x12e dX12_goesOn_67 rfl ?_
          refine v_if_lt (q1 := 83) (q2 := 71) dX12_goesOn_68 (by decide) rfl (fun c13 => ?_) (fun c13 => ?_)
          · replace H := ip c13 H
            exact V.sub [0, 1, 2, 3, 4] rfl (sgjX12_goesOn_83 hd rs H kI kE)
          · replace H := ine c13 H
            refine v_aload_n (q := 72) 0 dX12_goesOn_71 rfl rfl rfl ?_
            refine v_iload (q := 74) 4 dX12_goesOn_72 rfl rfl ?_
            replace H := bs H; obtain ⟨x14, x14e, H⟩ := H
            refine u_callV1 (M' := mX12_isThrough) (d' := 2) (rc := (RX12, TX12, 58)) (As := [.int s24.2]) (st := []) (q := 77) oX12_isThrough dX12_goesOn_74 w1889 w1891 w0117 rfl rfl (RS.rc rs).1 (RS.rc rs).2 rfl (Nat.le_of_ble_eq_true rfl) (Nat.le_of_ble_eq_true rfl) (Nat.lt_of_lt_of_le (by decide) hd) rfl (sgX12_isThrough (Nat.le_refl _) rs x14e) rfl ?_
            refine v_if_ne (q1 := 83) (q2 := 80) dX12_goesOn_77 (by decide) rfl (fun c15 => ?_) (fun c15 => ?_)
            · replace H := ine c15 H
              exact V.sub [0, 1, 2, 3, 4] rfl (sgjX12_goesOn_83 hd rs H kI kE)
            · replace H := ip c15 H
              refine v_iload (q := 82) 4 dX12_goesOn_80 rfl rfl ?_
              refine v_istore_n (L' := [(2, .int s24.2), (0, .ref T), (1, .int u1), (3, .int u3), (4, .int s24.2)]) (q := 83) dX12_goesOn_82 rfl (by decide) rfl rfl ?_
              exact V.sub [1, 2, 0, 3, 4] rfl (sgjX12_goesOn_83 hd rs H kI kE)
def gbX12_goesOn_16 (u1 : Int32) (m : Mem) (s16 : Int32 × Int32) : Option ((Int32 × Int32) ⊕ (Int32)) :=
if (2 : Int32) < s16.2 then (
some (.inr s16.1)) else (
(lp (gbX12_goesOn_24 u1 s16.2 m) FU (s16.1, (0 : Int32))).bind fun e16 =>
(some (s16.2 + (1 : Int32))).bind fun x17 =>
some (.inl (e16, x17)))
set_option maxRecDepth 20000 in
set_option maxHeartbeats 4000000 in
theorem sgbX12_goesOn_16 {Γ : Gm} {d : Nat} (hd : 3 ≤ d) {T : Nat} {h : Hp} (rs : RS T h) {u1 : Int32} {m : Mem} {s16 : Int32 × Int32} {r : (Int32 × Int32) ⊕ (Int32)} {t : Option Value × Hp} (H : gbX12_goesOn_16 u1 m s16 = some r) (kI : ∀ s, r = .inl s → (fun s16 => V Γ d mX12_goesOn 16 [(0, .ref T), (1, .int u1), (2, .int s16.1), (3, .int s16.2)] [] (hm T h m) t) s) (kE : ∀ e, r = .inr e → (fun e => V Γ d mX12_goesOn 95 [(2, .int e)] [] (hm T h m) t) e) : V Γ d mX12_goesOn 16 [(0, .ref T), (1, .int u1), (2, .int s16.1), (3, .int s16.2)] [] (hm T h m) t := by
  unfold gbX12_goesOn_16 at H
  refine v_iload_n (q := 17) 3 dX12_goesOn_16 rfl rfl rfl ?_
  refine v_iconst (v := 2) (q := 18) dX12_goesOn_17 (by decide) rfl ?_
  refine v_icmp_gt (q1 := 95) (q2 := 21) dX12_goesOn_18 (by decide) rfl (fun c3 => ?_) (fun c3 => ?_)
  · replace H := ip c3 H
    exact V.sub [2] rfl (kE s16.1 (Option.some.inj H).symm)
  · replace H := ine c3 H
    refine v_iconst (v := 0) (q := 22) dX12_goesOn_21 (by decide) rfl ?_
    refine v_istore (L' := [(4, .int (0 : Int32)), (0, .ref T), (1, .int u1), (2, .int s16.1), (3, .int s16.2)]) (q := 24) dX12_goesOn_22 (by decide) rfl rfl ?_
    replace H := bs H; obtain ⟨e16, e16L, H⟩ := H
    refine V.sub [1, 2, 3, 4, 0] rfl ?_
    refine lp_V (P := (fun s24 => V Γ d mX12_goesOn 24 [(0, .ref T), (1, .int u1), (2, .int s24.1), (3, .int s16.2), (4, .int s24.2)] [] (hm T h m) t)) (E := (fun e => V Γ d mX12_goesOn 89 [(0, .ref T), (1, .int u1), (2, .int e), (3, .int s16.2)] [] (hm T h m) t)) (fun s r hb kI kE => sgbX12_goesOn_24 hd rs (s24 := s) (r := r) hb kI kE) FU (s16.1, (0 : Int32)) e16 e16L ?_
    replace H := bs H; obtain ⟨x17, x17e, H⟩ := H
    refine v_iinc (v := x17) (L' := [(3, .int x17), (0, .ref T), (1, .int u1), (2, .int e16)]) (q := 92) 3 dX12_goesOn_89 rfl (Option.some.inj x17e) (by decide) rfl rfl ?_
    refine v_goto (q := 16) dX12_goesOn_92 (by decide) ?_
    exact V.sub [1, 2, 3, 0] rfl (kI (e16, x17) (Option.some.inj H).symm)
def gjX12_goesOn_13 (v1 : Int32) (y0 : Int32) (m : Mem) : Option (Int32) :=
(lp (gbX12_goesOn_16 v1 m) FU (y0, (1 : Int32))).bind fun e18 =>
some e18
set_option maxRecDepth 20000 in
set_option maxHeartbeats 4000000 in
theorem sgjX12_goesOn_13 {Γ : Gm} {d : Nat} (hd : 3 ≤ d) {T : Nat} {h : Hp} (rs : RS T h) {v1 : Int32} {y0 : Int32} {m : Mem} {r : Int32} (H : gjX12_goesOn_13 v1 y0 m = some r) : V Γ d mX12_goesOn 13 [(0, .ref T), (1, .int v1)] [.int y0] (hm T h m) (some (.int r), (hm T h m)) := by
  unfold gjX12_goesOn_13 at H
  refine v_istore_n (L' := [(2, .int y0), (0, .ref T), (1, .int v1)]) (q := 14) dX12_goesOn_13 rfl (by decide) rfl rfl ?_
  refine v_iconst (v := 1) (q := 15) dX12_goesOn_14 (by decide) rfl ?_
  refine v_istore_n (L' := [(3, .int (1 : Int32)), (2, .int y0), (0, .ref T), (1, .int v1)]) (q := 16) dX12_goesOn_15 rfl (by decide) rfl rfl ?_
  replace H := bs H; obtain ⟨e18, e18L, H⟩ := H
  refine V.sub [2, 3, 1, 0] rfl ?_
  refine lp_V (P := (fun s16 => V Γ d mX12_goesOn 16 [(0, .ref T), (1, .int v1), (2, .int s16.1), (3, .int s16.2)] [] (hm T h m) (some (.int r), (hm T h m)))) (E := (fun e => V Γ d mX12_goesOn 95 [(2, .int e)] [] (hm T h m) (some (.int r), (hm T h m)))) (fun s r hb kI kE => sgbX12_goesOn_16 hd rs (s16 := s) (r := r) hb kI kE) FU (y0, (1 : Int32)) e18 e18L ?_
  refine v_iload_n (q := 96) 0 dX12_goesOn_95 rfl rfl rfl ?_
  cases H
  exact v_ireturn rfl dX12_goesOn_96
def gX12_goesOn (m : Mem) (v1 : Int32) : Option (Int32) :=
(gX12_isThrough m v1).bind fun x1 =>
if x1 = 0 then (
gjX12_goesOn_13 v1 v1 m) else (
gjX12_goesOn_13 v1 (-1 : Int32) m)
set_option maxRecDepth 20000 in
set_option maxHeartbeats 4000000 in
theorem sgX12_goesOn {Γ : Gm} {d : Nat} (hd : 3 ≤ d) {T : Nat} {h : Hp} (rs : RS T h) {m : Mem} {v1 : Int32} {r : Int32} (H : gX12_goesOn m v1 = some r) : V Γ d mX12_goesOn 0 [(0, .ref T), (1, .int v1)] [] (hm T h m) (some (.int r), (hm T h m)) := by
  unfold gX12_goesOn at H
  refine v_aload_n (q := 1) 0 dX12_goesOn_0 rfl rfl rfl ?_
  refine v_iload_n (q := 2) 1 dX12_goesOn_1 rfl rfl rfl ?_
  replace H := bs H; obtain ⟨x1, x1e, H⟩ := H
  refine u_callV1 (M' := mX12_isThrough) (d' := 2) (rc := (RX12, TX12, 58)) (As := [.int v1]) (st := []) (q := 5) oX12_isThrough dX12_goesOn_2 w1889 w1891 w0117 rfl rfl (RS.rc rs).1 (RS.rc rs).2 rfl (Nat.le_of_ble_eq_true rfl) (Nat.le_of_ble_eq_true rfl) (Nat.lt_of_lt_of_le (by decide) hd) rfl (sgX12_isThrough (Nat.le_refl _) rs x1e) rfl ?_
  refine v_if_eq (q1 := 12) (q2 := 8) dX12_goesOn_5 (by decide) rfl (fun c2 => ?_) (fun c2 => ?_)
  · replace H := ip c2 H
    refine v_iload_n (q := 13) 1 dX12_goesOn_12 rfl rfl rfl ?_
    exact V.sub [0, 1] rfl (sgjX12_goesOn_13 hd rs H)
  · replace H := ine c2 H
    refine v_iconst (v := -1) (q := 9) dX12_goesOn_8 (by decide) rfl ?_
    refine v_goto (q := 13) dX12_goesOn_9 (by decide) ?_
    exact V.sub [0, 1] rfl (sgjX12_goesOn_13 hd rs H)

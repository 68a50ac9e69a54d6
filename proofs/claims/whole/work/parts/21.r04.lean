def mX12_movesTo : MI := (yX12_movesTo, cX12_movesTo, 4, some .int)
theorem oX12_movesTo : mOK mX12_movesTo 1 := ⟨by decide +kernel, by decide +kernel, by decide +kernel, by decide, w1920, w0150⟩
def gbX12_movesTo_4  (m : Mem) (s4 : Int32 × Int32) : Option ((Int32 × Int32) ⊕ (Int32)) :=
(rd m 28 4001 s4.2).bind fun x1 =>
if x1 < 0 then (
some (.inr s4.1)) else (
(some (s4.1 + (1 : Int32))).bind fun x3 =>
(rd m 28 4001 s4.2).bind fun x4 =>
some (.inl (x3, x4)))
set_option maxRecDepth 20000 in
set_option maxHeartbeats 4000000 in
theorem sgbX12_movesTo_4 {Γ : Gm} {d : Nat} (hd : 1 ≤ d) {T : Nat} {h : Hp} (rs : RS T h)  {m : Mem} {s4 : Int32 × Int32} {r : (Int32 × Int32) ⊕ (Int32)} {t : Option Value × Hp} (H : gbX12_movesTo_4  m s4 = some r) (kI : ∀ s, r = .inl s → (fun s4 => V Γ d mX12_movesTo 4 [(0, .ref T), (2, .int s4.1), (3, .int s4.2)] [] (hm T h m) t) s) (kE : ∀ e, r = .inr e → (fun e => V Γ d mX12_movesTo 26 [(2, .int e)] [] (hm T h m) t) e) : V Γ d mX12_movesTo 4 [(0, .ref T), (2, .int s4.1), (3, .int s4.2)] [] (hm T h m) t := by
  unfold gbX12_movesTo_4 at H
  refine v_aload_n (q := 5) 0 dX12_movesTo_4 rfl rfl rfl ?_
  refine ur_arr (q := 8) rs rt42 dX12_movesTo_5 w1398 (Nat.le_of_ble_eq_true rfl) rfl rfl ?_
  refine v_iload_n (q := 9) 2 dX12_movesTo_8 rfl rfl rfl ?_
  replace H := bs H; obtain ⟨x1, x1e, H⟩ := H
  refine ur_rd (q := 10) rs rt42 x1e dX12_movesTo_9 rfl ?_
  refine v_if_lt (q1 := 26) (q2 := 13) dX12_movesTo_10 (by decide) rfl (fun c2 => ?_) (fun c2 => ?_)
  · replace H := ip c2 H
    exact V.sub [1] rfl (kE s4.1 (Option.some.inj H).symm)
  · replace H := ine c2 H
    replace H := bs H; obtain ⟨x3, x3e, H⟩ := H
    refine v_iinc (v := x3) (L' := [(2, .int x3), (0, .ref T), (3, .int s4.2)]) (q := 16) 1 dX12_movesTo_13 rfl (Option.some.inj x3e) (by decide) rfl rfl ?_
    refine v_aload_n (q := 17) 1 dX12_movesTo_16 rfl rfl rfl ?_
    refine ur_arr (q := 20) rs rt42 dX12_movesTo_17 w1398 (Nat.le_of_ble_eq_true rfl) rfl rfl ?_
    refine v_iload_n (q := 21) 2 dX12_movesTo_20 rfl rfl rfl ?_
    replace H := bs H; obtain ⟨x4, x4e, H⟩ := H
    refine ur_rd (q := 22) rs rt42 x4e dX12_movesTo_21 rfl ?_
    refine v_istore_n (L' := [(3, .int x4), (2, .int x3), (0, .ref T)]) (q := 23) dX12_movesTo_22 rfl (by decide) rfl rfl ?_
    refine v_goto (q := 4) dX12_movesTo_23 (by decide) ?_
    exact V.sub [2, 1, 0] rfl (kI (x3, x4) (Option.some.inj H).symm)
def gX12_movesTo (m : Mem) (v1 : Int32) : Option (Int32) :=
(lp (gbX12_movesTo_4 m) FU ((0 : Int32), v1)).bind fun e5 =>
some e5
set_option maxRecDepth 20000 in
set_option maxHeartbeats 4000000 in
theorem sgX12_movesTo {Γ : Gm} {d : Nat} (hd : 1 ≤ d) {T : Nat} {h : Hp} (rs : RS T h) {m : Mem} {v1 : Int32} {r : Int32} (H : gX12_movesTo m v1 = some r) : V Γ d mX12_movesTo 0 [(0, .ref T), (1, .int v1)] [] (hm T h m) (some (.int r), (hm T h m)) := by
  unfold gX12_movesTo at H
  refine v_iconst (v := 0) (q := 1) dX12_movesTo_0 (by decide) rfl ?_
  refine v_istore_n (L' := [(2, .int (0 : Int32)), (0, .ref T), (1, .int v1)]) (q := 2) dX12_movesTo_1 rfl (by decide) rfl rfl ?_
  refine v_iload_n (q := 3) 2 dX12_movesTo_2 rfl rfl rfl ?_
  refine v_istore_n (L' := [(3, .int v1), (2, .int (0 : Int32)), (0, .ref T), (1, .int v1)]) (q := 4) dX12_movesTo_3 rfl (by decide) rfl rfl ?_
  replace H := bs H; obtain ⟨e5, e5L, H⟩ := H
  refine V.sub [2, 1, 0] rfl ?_
  refine lp_V (P := (fun s4 => V Γ d mX12_movesTo 4 [(0, .ref T), (2, .int s4.1), (3, .int s4.2)] [] (hm T h m) (some (.int r), (hm T h m)))) (E := (fun e => V Γ d mX12_movesTo 26 [(2, .int e)] [] (hm T h m) (some (.int r), (hm T h m)))) (fun s r hb kI kE => sgbX12_movesTo_4 hd rs (s4 := s) (r := r) hb kI kE) FU ((0 : Int32), v1) e5 e5L ?_
  refine v_iload_n (q := 27) 0 dX12_movesTo_26 rfl rfl rfl ?_
  cases H
  exact v_ireturn rfl dX12_movesTo_27
def mX12_ringTasks : MI := (yX12_ringTasks, cX12_ringTasks, 3, some .int)
theorem oX12_ringTasks : mOK mX12_ringTasks 0 := ⟨by decide +kernel, by decide +kernel, by decide +kernel, by decide, w1924, w0150⟩
def gbX12_ringTasks_4  (m : Mem) (s4 : Int32 × Int32) : Option ((Int32 × Int32) ⊕ (Int32)) :=
if (m 0 52) ≤ s4.2 then (
some (.inr s4.1)) else (
(rd m 34 8 s4.2).bind fun x2 =>
(some (s4.1 ||| ((1 : Int32) <<< (x2 &&& 31)))).bind fun x3 =>
(some (s4.2 + (1 : Int32))).bind fun x4 =>
some (.inl (x3, x4)))
set_option maxRecDepth 20000 in
set_option maxHeartbeats 4000000 in
theorem sgbX12_ringTasks_4 {Γ : Gm} {d : Nat} (hd : 1 ≤ d) {T : Nat} {h : Hp} (rs : RS T h)  {m : Mem} {s4 : Int32 × Int32} {r : (Int32 × Int32) ⊕ (Int32)} {t : Option Value × Hp} (H : gbX12_ringTasks_4  m s4 = some r) (kI : ∀ s, r = .inl s → (fun s4 => V Γ d mX12_ringTasks 4 [(0, .ref T), (1, .int s4.1), (2, .int s4.2)] [] (hm T h m) t) s) (kE : ∀ e, r = .inr e → (fun e => V Γ d mX12_ringTasks 29 [(1, .int e)] [] (hm T h m) t) e) : V Γ d mX12_ringTasks 4 [(0, .ref T), (1, .int s4.1), (2, .int s4.2)] [] (hm T h m) t := by
  unfold gbX12_ringTasks_4 at H
  refine v_iload_n (q := 5) 2 dX12_ringTasks_4 rfl rfl rfl ?_
  refine v_aload_n (q := 6) 0 dX12_ringTasks_5 rfl rfl rfl ?_
  refine ur_gI (q := 9) (x := 0) (k := 52) rs dX12_ringTasks_6 w1408 (Nat.le_of_ble_eq_true rfl) rfl rfl ?_
  refine v_icmp_ge (q1 := 29) (q2 := 12) dX12_ringTasks_9 (by decide) rfl (fun c1 => ?_) (fun c1 => ?_)
  · replace H := ip c1 H
    exact V.sub [1] rfl (kE s4.1 (Option.some.inj H).symm)
  · replace H := ine c1 H
    refine v_iload_n (q := 13) 1 dX12_ringTasks_12 rfl rfl rfl ?_
    refine v_iconst (v := 1) (q := 14) dX12_ringTasks_13 (by decide) rfl ?_
    refine v_aload_n (q := 15) 0 dX12_ringTasks_14 rfl rfl rfl ?_
    refine ur_arr (q := 18) rs rt50 dX12_ringTasks_15 w1406 (Nat.le_of_ble_eq_true rfl) rfl rfl ?_
    refine v_iload_n (q := 19) 2 dX12_ringTasks_18 rfl rfl rfl ?_
    replace H := bs H; obtain ⟨x2, x2e, H⟩ := H
    refine ur_rd (q := 20) rs rt50 x2e dX12_ringTasks_19 rfl ?_
    refine v_ishl (q := 21) dX12_ringTasks_20 rfl ?_
    refine v_ior (q := 22) dX12_ringTasks_21 rfl ?_
    replace H := bs H; obtain ⟨x3, x3e, H⟩ := H
    refine v_topi (Option.some.inj x3e) ?_
    refine v_istore_n (L' := [(1, .int x3), (0, .ref T), (2, .int s4.2)]) (q := 23) dX12_ringTasks_22 rfl (by decide) rfl rfl ?_
    replace H := bs H; obtain ⟨x4, x4e, H⟩ := H
    refine v_iinc (v := x4) (L' := [(2, .int x4), (1, .int x3), (0, .ref T)]) (q := 26) 2 dX12_ringTasks_23 rfl (Option.some.inj x4e) (by decide) rfl rfl ?_
    refine v_goto (q := 4) dX12_ringTasks_26 (by decide) ?_
    exact V.sub [2, 1, 0] rfl (kI (x3, x4) (Option.some.inj H).symm)
def gX12_ringTasks (m : Mem)  : Option (Int32) :=
(lp (gbX12_ringTasks_4 m) FU ((0 : Int32), (0 : Int32))).bind fun e5 =>
some e5
set_option maxRecDepth 20000 in
set_option maxHeartbeats 4000000 in
theorem sgX12_ringTasks {Γ : Gm} {d : Nat} (hd : 1 ≤ d) {T : Nat} {h : Hp} (rs : RS T h) {m : Mem}  {r : Int32} (H : gX12_ringTasks m  = some r) : V Γ d mX12_ringTasks 0 [(0, .ref T)] [] (hm T h m) (some (.int r), (hm T h m)) := by
  unfold gX12_ringTasks at H
  refine v_iconst (v := 0) (q := 1) dX12_ringTasks_0 (by decide) rfl ?_
  refine v_istore_n (L' := [(1, .int (0 : Int32)), (0, .ref T)]) (q := 2) dX12_ringTasks_1 rfl (by decide) rfl rfl ?_
  refine v_iconst (v := 0) (q := 3) dX12_ringTasks_2 (by decide) rfl ?_
  refine v_istore_n (L' := [(2, .int (0 : Int32)), (1, .int (0 : Int32)), (0, .ref T)]) (q := 4) dX12_ringTasks_3 rfl (by decide) rfl rfl ?_
  replace H := bs H; obtain ⟨e5, e5L, H⟩ := H
  refine V.sub [2, 1, 0] rfl ?_
  refine lp_V (P := (fun s4 => V Γ d mX12_ringTasks 4 [(0, .ref T), (1, .int s4.1), (2, .int s4.2)] [] (hm T h m) (some (.int r), (hm T h m)))) (E := (fun e => V Γ d mX12_ringTasks 29 [(1, .int e)] [] (hm T h m) (some (.int r), (hm T h m)))) (fun s r hb kI kE => sgbX12_ringTasks_4 hd rs (s4 := s) (r := r) hb kI kE) FU ((0 : Int32), (0 : Int32)) e5 e5L ?_
  refine v_iload_n (q := 30) 0 dX12_ringTasks_29 rfl rfl rfl ?_
  cases H
  exact v_ireturn rfl dX12_ringTasks_30
def mX12_ringLocks : MI := (yX12_ringLocks, cX12_ringLocks, 3, some .int)
theorem oX12_ringLocks : mOK mX12_ringLocks 0 := ⟨by decide +kernel, by decide +kernel, by decide +kernel, by decide, w1928, w0150⟩
def gbX12_ringLocks_4  (m : Mem) (s4 : Int32 × Int32) : Option ((Int32 × Int32) ⊕ (Int32)) :=
if (m 0 52) ≤ s4.2 then (
some (.inr s4.1)) else (
(rd m 34 8 s4.2).bind fun x2 =>
(rd m 32 6 x2).bind fun x3 =>
(some (s4.1 ||| ((1 : Int32) <<< (x3 &&& 31)))).bind fun x4 =>
(some (s4.2 + (1 : Int32))).bind fun x5 =>
some (.inl (x4, x5)))
set_option maxRecDepth 20000 in
set_option maxHeartbeats 4000000 in
theorem sgbX12_ringLocks_4 {Γ : Gm} {d : Nat} (hd : 1 ≤ d) {T : Nat} {h : Hp} (rs : RS T h)  {m : Mem} {s4 : Int32 × Int32} {r : (Int32 × Int32) ⊕ (Int32)} {t : Option Value × Hp} (H : gbX12_ringLocks_4  m s4 = some r) (kI : ∀ s, r = .inl s → (fun s4 => V Γ d mX12_ringLocks 4 [(0, .ref T), (1, .int s4.1), (2, .int s4.2)] [] (hm T h m) t) s) (kE : ∀ e, r = .inr e → (fun e => V Γ d mX12_ringLocks 34 [(1, .int e)] [] (hm T h m) t) e) : V Γ d mX12_ringLocks 4 [(0, .ref T), (1, .int s4.1), (2, .int s4.2)] [] (hm T h m) t := by
  unfold gbX12_ringLocks_4 at H
  refine v_iload_n (q := 5) 2 dX12_ringLocks_4 rfl rfl rfl ?_
  refine v_aload_n (q := 6) 0 dX12_ringLocks_5 rfl rfl rfl ?_
  refine ur_gI (q := 9) (x := 0) (k := 52) rs dX12_ringLocks_6 w1408 (Nat.le_of_ble_eq_true rfl) rfl rfl ?_
  refine v_icmp_ge (q1 := 34) (q2 := 12) dX12_ringLocks_9 (by decide) rfl (fun c1 => ?_) (fun c1 => ?_)
  · replace H := ip c1 H
    exact V.sub [1] rfl (kE s4.1 (Option.some.inj H).symm)
  · replace H := ine c1 H
    refine v_iload_n (q := 13) 1 dX12_ringLocks_12 rfl rfl rfl ?_
    refine v_iconst (v := 1) (q := 14) dX12_ringLocks_13 (by decide) rfl ?_
    refine v_aload_n (q := 15) 0 dX12_ringLocks_14 rfl rfl rfl ?_
    refine ur_arr (q := 18) rs rt48 dX12_ringLocks_15 w1404 (Nat.le_of_ble_eq_true rfl) rfl rfl ?_
    refine v_aload_n (q := 19) 0 dX12_ringLocks_18 rfl rfl rfl ?_
    refine ur_arr (q := 22) rs rt50 dX12_ringLocks_19 w1406 (Nat.le_of_ble_eq_true rfl) rfl rfl ?_
    refine v_iload_n (q := 23) 2 dX12_ringLocks_22 rfl rfl rfl ?_
    replace H := bs H; obtain ⟨x2, x2e, H⟩ := H
    refine ur_rd (q := 24) rs rt50 x2e dX12_ringLocks_23 rfl ?_
    replace H := bs H; obtain ⟨x3, x3e, H⟩ := H
    refine ur_rd (q := 25) rs rt48 x3e dX12_ringLocks_24 rfl ?_
    refine v_ishl (q := 26) dX12_ringLocks_25 rfl ?_
    refine v_ior (q := 27) dX12_ringLocks_26 rfl ?_
    replace H := bs H; obtain ⟨x4, x4e, H⟩ := H
    refine v_topi (Option.some.inj x4e) ?_
    refine v_istore_n (L' := [(1, .int x4), (0, .ref T), (2, .int s4.2)]) (q := 28) dX12_ringLocks_27 rfl (by decide) rfl rfl ?_
    replace H := bs H; obtain ⟨x5, x5e, H⟩ := H
    refine v_iinc (v := x5) (L' := [(2, .int x5), (1, .int x4), (0, .ref T)]) (q := 31) 2 dX12_ringLocks_28 rfl (Option.some.inj x5e) (by decide) rfl rfl ?_
    refine v_goto (q := 4) dX12_ringLocks_31 (by decide) ?_
    exact V.sub [2, 1, 0] rfl (kI (x4, x5) (Option.some.inj H).symm)
def gX12_ringLocks (m : Mem)  : Option (Int32) :=
(lp (gbX12_ringLocks_4 m) FU ((0 : Int32), (0 : Int32))).bind fun e6 =>
some e6
set_option maxRecDepth 20000 in
set_option maxHeartbeats 4000000 in
theorem sgX12_ringLocks {Γ : Gm} {d : Nat} (hd : 1 ≤ d) {T : Nat} {h : Hp} (rs : RS T h) {m : Mem}  {r : Int32} (H : gX12_ringLocks m  = some r) : V Γ d mX12_ringLocks 0 [(0, .ref T)] [] (hm T h m) (some (.int r), (hm T h m)) := by
  unfold gX12_ringLocks at H
  refine v_iconst (v := 0) (q := 1) dX12_ringLocks_0 (by decide) rfl ?_
  refine v_istore_n (L' := [(1, .int (0 : Int32)), (0, .ref T)]) (q := 2) dX12_ringLocks_1 rfl (by decide) rfl rfl ?_
  refine v_iconst (v := 0) (q := 3) dX12_ringLocks_2 (by decide) rfl ?_
  refine v_istore_n (L' := [(2, .int (0 : Int32)), (1, .int (0 : Int32)), (0, .ref T)]) (q := 4) dX12_ringLocks_3 rfl (by decide) rfl rfl ?_
  replace H := bs H; obtain ⟨e6, e6L, H⟩ := H
  refine V.sub [2, 1, 0] rfl ?_
  refine lp_V (P := (fun s4 => V Γ d mX12_ringLocks 4 [(0, .ref T), (1, .int s4.1), (2, .int s4.2)] [] (hm T h m) (some (.int r), (hm T h m)))) (E := (fun e => V Γ d mX12_ringLocks 34 [(1, .int e)] [] (hm T h m) (some (.int r), (hm T h m)))) (fun s r hb kI kE => sgbX12_ringLocks_4 hd rs (s4 := s) (r := r) hb kI kE) FU ((0 : Int32), (0 : Int32)) e6 e6L ?_
  refine v_iload_n (q := 35) 0 dX12_ringLocks_34 rfl rfl rfl ?_
  cases H
  exact v_ireturn rfl dX12_ringLocks_35
def mX12_stuck : MI := (yX12_stuck, cX12_stuck, 3, some .int)
theorem oX12_stuck : mOK mX12_stuck 2 := ⟨by decide +kernel, by decide +kernel, by decide +kernel, by decide, w1841, w0150⟩
def gjX12_stuck_25 (m : Mem) : Option (Int32 × Mem) :=
some (((-1 : Int32), m))
set_option maxRecDepth 20000 in
set_option maxHeartbeats 4000000 in
theorem sgjX12_stuck_25 {Γ : Gm} {d : Nat} (hd : 9 ≤ d) {T : Nat} {h : Hp} (rs : RS T h) {m : Mem} {r : Int32 × Mem} (H : gjX12_stuck_25 m = some r) : V Γ d mX12_stuck 25 [] [] (hm T h m) (some (.int r.1), (hm T h r.2)) := by
  unfold gjX12_stuck_25 at H
  refine v_iconst (v := -1) (q := 26) dX12_stuck_25 (by decide) rfl ?_
  cases H
  exact v_ireturn rfl dX12_stuck_26
def gjX12_stuck_95 (y0 : Int32) (m : Mem) : Option (Int32 × Mem) :=
some (y0, m)
set_option maxRecDepth 20000 in
set_option maxHeartbeats 4000000 in
theorem sgjX12_stuck_95 {Γ : Gm} {d : Nat} (hd : 9 ≤ d) {T : Nat} {h : Hp} (rs : RS T h) {y0 : Int32} {m : Mem} {r : Int32 × Mem} (H : gjX12_stuck_95 y0 m = some r) : V Γ d mX12_stuck 95 [] [.int y0] (hm T h m) (some (.int r.1), (hm T h r.2)) := by
  unfold gjX12_stuck_95 at H
  cases H
  exact v_ireturn rfl dX12_stuck_95
def gjX12_stuck_43 (y0 : Int32) (m : Mem) : Option (Int32 × Mem) :=
some (y0, m)
set_option maxRecDepth 20000 in
set_option maxHeartbeats 4000000 in
theorem sgjX12_stuck_43 {Γ : Gm} {d : Nat} (hd : 9 ≤ d) {T : Nat} {h : Hp} (rs : RS T h) {y0 : Int32} {m : Mem} {r : Int32 × Mem} (H : gjX12_stuck_43 y0 m = some r) : V Γ d mX12_stuck 43 [] [.int y0] (hm T h m) (some (.int r.1), (hm T h r.2)) := by
  unfold gjX12_stuck_43 at H
  cases H
  exact v_ireturn rfl dX12_stuck_43
def gX12_stuck (m : Mem) (v1 : Int32) (v2 : Int32) : Option (Int32 × Mem) :=
(gX12_isSet m v1).bind fun x1 =>
if x1 = 0 then (
gjX12_stuck_25 m) else (
(gX12_isIn v2 (0 : Int32) (4 : Int32)).bind fun x3 =>
if x3 = 0 then (
gjX12_stuck_25 m) else (
(gX12_search m v1).bind fun x5 =>
if x5.1 = 0 then (
gjX12_stuck_25 x5.2) else (
if v2 = 0 then (
if 0 ≤ (x5.2 0 47) then (
gjX12_stuck_43 (1 : Int32) x5.2) else (
gjX12_stuck_43 (0 : Int32) x5.2)) else (
if v2 = (2 : Int32) then (
some (x5.2 0 46, x5.2)) else (
if 0 ≤ (x5.2 0 47) then (
if v2 = (1 : Int32) then (
(gX12_movesTo x5.2 (x5.2 0 47)).bind fun x14 =>
gjX12_stuck_95 x14 x5.2) else (
if v2 = (3 : Int32) then (
(gX12_ringTasks x5.2).bind fun x13 =>
gjX12_stuck_95 x13 x5.2) else (
(gX12_ringLocks x5.2).bind fun x12 =>
gjX12_stuck_95 x12 x5.2))) else (
some (((-1 : Int32), x5.2))))))))
set_option maxRecDepth 20000 in
set_option maxHeartbeats 4000000 in
theorem sgX12_stuck {Γ : Gm} {d : Nat} (hd : 9 ≤ d) {T : Nat} {h : Hp} (rs : RS T h) {m : Mem} {v1 : Int32} {v2 : Int32} {r : Int32 × Mem} (H : gX12_stuck m v1 v2 = some r) : V Γ d mX12_stuck 0 [(0, .ref T), (1, .int v1), (2, .int v2)] [] (hm T h m) (some (.int r.1), (hm T h r.2)) := by
  unfold gX12_stuck at H
  refine v_aload_n (q := 1) 0 dX12_stuck_0 rfl rfl rfl ?_
  refine v_iload_n (q := 2) 1 dX12_stuck_1 rfl rfl rfl ?_
  replace H := bs H; obtain ⟨x1, x1e, H⟩ := H
  refine u_callV1 (M' := mX12_isSet) (d' := 3) (rc := (RX12, TX12, 58)) (As := [.int v1]) (st := []) (q := 5) oX12_isSet dX12_stuck_2 w1842 w1844 w0106 rfl rfl (RS.rc rs).1 (RS.rc rs).2 rfl (Nat.le_of_ble_eq_true rfl) (Nat.le_of_ble_eq_true rfl) (Nat.lt_of_lt_of_le (by decide) hd) rfl (sgX12_isSet (Nat.le_refl _) rs x1e) rfl ?_
  refine v_if_eq (q1 := 25) (q2 := 8) dX12_stuck_5 (by decide) rfl (fun c2 => ?_) (fun c2 => ?_)
  · replace H := ip c2 H
    exact V.sub [] rfl (sgjX12_stuck_25 hd rs H)
  · replace H := ine c2 H
    refine v_iload_n (q := 9) 2 dX12_stuck_8 rfl rfl rfl ?_
    refine v_iconst (v := 0) (q := 10) dX12_stuck_9 (by decide) rfl ?_
    refine v_iconst (v := 4) (q := 11) dX12_stuck_10 (by decide) rfl ?_
    replace H := bs H; obtain ⟨x3, x3e, H⟩ := H
    refine u_callS1 (M' := mX12_isIn) (d' := 1) (As := [.int v2, .int (0 : Int32), .int (4 : Int32)]) (st := []) (q := 14) oX12_isIn dX12_stuck_11 w1618 w1619 rfl (Nat.le_of_ble_eq_true rfl) (Nat.le_of_ble_eq_true rfl) (Nat.lt_of_lt_of_le (by decide) hd) rfl (sgX12_isIn (Nat.le_refl _) x3e) rfl ?_
    refine v_if_eq (q1 := 25) (q2 := 17) dX12_stuck_14 (by decide) rfl (fun c4 => ?_) (fun c4 => ?_)
    · replace H := ip c4 H
      exact V.sub [] rfl (sgjX12_stuck_25 hd rs H)
    · replace H := ine c4 H
      refine v_aload_n (q := 18) 0 dX12_stuck_17 rfl rfl rfl ?_
      refine v_iload_n (q := 19) 1 dX12_stuck_18 rfl rfl rfl ?_
      replace H := bs H; obtain ⟨x5, x5e, H⟩ := H
      refine u_callV1 (M' := mX12_search) (d' := 8) (rc := (RX12, TX12, 58)) (As := [.int v1]) (st := []) (q := 22) oX12_search dX12_stuck_19 w1849 w1851 w0107 rfl rfl (RS.rc rs).1 (RS.rc rs).2 rfl (Nat.le_of_ble_eq_true rfl) (Nat.le_of_ble_eq_true rfl) (Nat.lt_of_lt_of_le (by decide) hd) rfl (sgX12_search (Nat.le_refl _) rs x5e) rfl ?_
      refine v_if_ne (q1 := 27) (q2 := 25) dX12_stuck_22 (by decide) rfl (fun c6 => ?_) (fun c6 => ?_)
      · replace H := ine c6 H
        refine v_iload_n (q := 28) 2 dX12_stuck_27 rfl rfl rfl ?_
        refine v_if_ne (q1 := 44) (q2 := 31) dX12_stuck_28 (by decide) rfl (fun c7 => ?_) (fun c7 => ?_)
        · replace H := ine c7 H
          refine v_iload_n (q := 45) 2 dX12_stuck_44 rfl rfl rfl ?_
          refine v_iconst (v := 2) (q := 46) dX12_stuck_45 (by decide) rfl ?_
          refine v_icmp_ne (q1 := 54) (q2 := 49) dX12_stuck_46 (by decide) rfl (fun c8 => ?_) (fun c8 => ?_)
          · replace H := ine c8 H
            refine v_aload_n (q := 55) 0 dX12_stuck_54 rfl rfl rfl ?_
            refine ur_gI (q := 58) (x := 0) (k := 47) rs dX12_stuck_55 w1403 (Nat.le_of_ble_eq_true rfl) rfl rfl ?_
            refine v_if_ge (q1 := 63) (q2 := 61) dX12_stuck_58 (by decide) rfl (fun c9 => ?_) (fun c9 => ?_)
            · replace H := ip c9 H
              refine v_iload_n (q := 64) 2 dX12_stuck_63 rfl rfl rfl ?_
              refine v_iconst (v := 1) (q := 65) dX12_stuck_64 (by decide) rfl ?_
              refine v_icmp_ne (q1 := 79) (q2 := 68) dX12_stuck_65 (by decide) rfl (fun c10 => ?_) (fun c10 => ?_)
              · replace H := ine c10 H
                refine v_iload_n (q := 80) 2 dX12_stuck_79 rfl rfl rfl ?_
                refine v_iconst (v := 3) (q := 81) dX12_stuck_80 (by decide) rfl ?_
                refine v_icmp_ne (q1 := 91) (q2 := 84) dX12_stuck_81 (by decide) rfl (fun c11 => ?_) (fun c11 => ?_)
                · replace H := ine c11 H
                  refine v_aload_n (q := 92) 0 dX12_stuck_91 rfl rfl rfl ?_
                  replace H := bs H; obtain ⟨x12, x12e, H⟩ := H
                  refine u_callV1 (M' := mX12_ringLocks) (d' := 1) (rc := (RX12, TX12, 58)) (As := []) (st := []) (q := 95) oX12_ringLocks dX12_stuck_92 w1925 w1927 w0126 rfl rfl (RS.rc rs).1 (RS.rc rs).2 rfl (Nat.le_of_ble_eq_true rfl) (Nat.le_of_ble_eq_true rfl) (Nat.lt_of_lt_of_le (by decide) hd) rfl (sgX12_ringLocks (Nat.le_refl _) rs x12e) rfl ?_
                  exact V.sub [] rfl (sgjX12_stuck_95 hd rs H)
                · replace H := ip c11 H
                  refine v_aload_n (q := 85) 0 dX12_stuck_84 rfl rfl rfl ?_
                  replace H := bs H; obtain ⟨x13, x13e, H⟩ := H
                  refine u_callV1 (M' := mX12_ringTasks) (d' := 1) (rc := (RX12, TX12, 58)) (As := []) (st := []) (q := 88) oX12_ringTasks dX12_stuck_85 w1921 w1923 w0125 rfl rfl (RS.rc rs).1 (RS.rc rs).2 rfl (Nat.le_of_ble_eq_true rfl) (Nat.le_of_ble_eq_true rfl) (Nat.lt_of_lt_of_le (by decide) hd) rfl (sgX12_ringTasks (Nat.le_refl _) rs x13e) rfl ?_
                  refine v_goto (q := 95) dX12_stuck_88 (by decide) ?_
                  exact V.sub [] rfl (sgjX12_stuck_95 hd rs H)
              · replace H := ip c10 H
                refine v_aload_n (q := 69) 0 dX12_stuck_68 rfl rfl rfl ?_
                refine v_aload_n (q := 70) 0 dX12_stuck_69 rfl rfl rfl ?_
                refine ur_gI (q := 73) (x := 0) (k := 47) rs dX12_stuck_70 w1403 (Nat.le_of_ble_eq_true rfl) rfl rfl ?_
                replace H := bs H; obtain ⟨x14, x14e, H⟩ := H
                refine u_callV1 (M' := mX12_movesTo) (d' := 1) (rc := (RX12, TX12, 58)) (As := [.int (x5.2 0 47)]) (st := []) (q := 76) oX12_movesTo dX12_stuck_73 w1917 w1919 w0124 rfl rfl (RS.rc rs).1 (RS.rc rs).2 rfl (Nat.le_of_ble_eq_true rfl) (Nat.le_of_ble_eq_true rfl) (Nat.lt_of_lt_of_le (by decide) hd) rfl (sgX12_movesTo (Nat.le_refl _) rs x14e) rfl ?_
                refine v_goto (q := 95) dX12_stuck_76 (by decide) ?_
                exact V.sub [] rfl (sgjX12_stuck_95 hd rs H)
            · replace H := ine c9 H
              refine v_iconst (v := -1) (q := 62) dX12_stuck_61 (by decide) rfl ?_
              cases H
              exact v_ireturn rfl dX12_stuck_62
          · replace H := ip c8 H
            refine v_aload_n (q := 50) 0 dX12_stuck_49 rfl rfl rfl ?_
            refine ur_gI (q := 53) (x := 0) (k := 46) rs dX12_stuck_50 w1402 (Nat.le_of_ble_eq_true rfl) rfl rfl ?_
            cases H
            exact v_ireturn rfl dX12_stuck_53
        · replace H := ip c7 H
          refine v_aload_n (q := 32) 0 dX12_stuck_31 rfl rfl rfl ?_
          refine ur_gI (q := 35) (x := 0) (k := 47) rs dX12_stuck_32 w1403 (Nat.le_of_ble_eq_true rfl) rfl rfl ?_
          refine v_if_ge (q1 := 42) (q2 := 38) dX12_stuck_35 (by decide) rfl (fun c15 => ?_) (fun c15 => ?_)
          · replace H := ip c15 H
            refine v_iconst (v := 1) (q := 43) dX12_stuck_42 (by decide) rfl ?_
            exact V.sub [] rfl (sgjX12_stuck_43 hd rs H)
          · replace H := ine c15 H
            refine v_iconst (v := 0) (q := 39) dX12_stuck_38 (by decide) rfl ?_
            refine v_goto (q := 43) dX12_stuck_39 (by decide) ?_
            exact V.sub [] rfl (sgjX12_stuck_43 hd rs H)
      · replace H := ip c6 H
        exact V.sub [] rfl (sgjX12_stuck_25 hd rs H)
def mX12_clash : MI := (yX12_clash, cX12_clash, 5, some .int)
theorem oX12_clash : mOK mX12_clash 2 := ⟨by decide +kernel, by decide +kernel, by decide +kernel, by decide, w1976, w0150⟩
def gjX12_clash_37 (m : Mem) : Option (Int32 × Mem) :=
some (((-1 : Int32), m))
set_option maxRecDepth 20000 in
set_option maxHeartbeats 4000000 in
theorem sgjX12_clash_37 {Γ : Gm} {d : Nat} (hd : 10 ≤ d) {T : Nat} {h : Hp} (rs : RS T h) {m : Mem} {r : Int32 × Mem} (H : gjX12_clash_37 m = some r) : V Γ d mX12_clash 37 [] [] (hm T h m) (some (.int r.1), (hm T h r.2)) := by
  unfold gjX12_clash_37 at H
  refine v_iconst (v := -1) (q := 38) dX12_clash_37 (by decide) rfl ?_
  cases H
  exact v_ireturn rfl dX12_clash_38
def gjX12_clash_82 (v4 : Int32) (y0 : Int32) (y1 : Int32) (m : Mem) : Option ((Int32 × Int32) ⊕ (Int32)) :=
(some (y1 ||| y0)).bind fun x15 =>
(some (v4 + (1 : Int32))).bind fun x16 =>
some (.inl (x15, x16))
set_option maxRecDepth 20000 in
set_option maxHeartbeats 4000000 in
theorem sgjX12_clash_82 {Γ : Gm} {d : Nat} (hd : 10 ≤ d) {T : Nat} {h : Hp} (rs : RS T h) {v4 : Int32} {y0 : Int32} {y1 : Int32} {m : Mem} {r : (Int32 × Int32) ⊕ (Int32)} {t : Option Value × Hp} (H : gjX12_clash_82 v4 y0 y1 m = some r) (kI : ∀ s, r = .inl s → (fun s50 => V Γ d mX12_clash 50 [(0, .ref T), (3, .int s50.1), (4, .int s50.2)] [] (hm T h m) t) s) (kE : ∀ e, r = .inr e → (fun e => V Γ d mX12_clash 90 [(0, .ref T), (3, .int e)] [] (hm T h m) t) e) : V Γ d mX12_clash 82 [(0, .ref T), (4, .int v4)] [.int y0, .int y1] (hm T h m) t := by
  unfold gjX12_clash_82 at H
  refine v_ior (q := 83) dX12_clash_82 rfl ?_
  replace H := bs H; obtain ⟨x15, x15e, H⟩ := H
  refine v_topi (Option.some.inj x15e) ?_
  refine v_istore_n (L' := [(3, .int x15), (0, .ref T), (4, .int v4)]) (q := 84) dX12_clash_83 rfl (by decide) rfl rfl ?_
  replace H := bs H; obtain ⟨x16, x16e, H⟩ := H
  refine v_iinc (v := x16) (L' := [(4, .int x16), (3, .int x15), (0, .ref T)]) (q := 87) 2 dX12_clash_84 rfl (Option.some.inj x16e) (by decide) rfl rfl ?_
  refine v_goto (q := 50) dX12_clash_87 (by decide) ?_
  exact V.sub [2, 1, 0] rfl (kI (x15, x16) (Option.some.inj H).symm)
def gbX12_clash_50  (m : Mem) (s50 : Int32 × Int32) : Option ((Int32 × Int32) ⊕ (Int32)) :=
(rd m 4 2 (m 0 9)).bind fun x11 =>
if x11 ≤ s50.2 then (
some (.inr s50.1)) else (
(gX12_sortOf m s50.2).bind fun x13 =>
if x13 = 0 then (
gjX12_clash_82 s50.2 (0 : Int32) s50.1 m) else (
gjX12_clash_82 s50.2 ((1 : Int32) <<< (s50.2 &&& 31)) s50.1 m))
set_option maxRecDepth 20000 in
set_option maxHeartbeats 4000000 in
theorem sgbX12_clash_50 {Γ : Gm} {d : Nat} (hd : 10 ≤ d) {T : Nat} {h : Hp} (rs : RS T h)  {m : Mem} {s50 : Int32 × Int32} {r : (Int32 × Int32) ⊕ (Int32)} {t : Option Value × Hp} (H : gbX12_clash_50  m s50 = some r) (kI : ∀ s, r = .inl s → (fun s50 => V Γ d mX12_clash 50 [(0, .ref T), (3, .int s50.1), (4, .int s50.2)] [] (hm T h m) t) s) (kE : ∀ e, r = .inr e → (fun e => V Γ d mX12_clash 90 [(0, .ref T), (3, .int e)] [] (hm T h m) t) e) : V Γ d mX12_clash 50 [(0, .ref T), (3, .int s50.1), (4, .int s50.2)] [] (hm T h m) t := by
  unfold gbX12_clash_50 at H
  refine v_iload (q := 52) 2 dX12_clash_50 rfl rfl ?_
  refine v_aload_n (q := 53) 0 dX12_clash_52 rfl rfl rfl ?_
  refine ur_arr (q := 56) rs rt3 dX12_clash_53 w1359 (Nat.le_of_ble_eq_true rfl) rfl rfl ?_
  refine v_aload_n (q := 57) 0 dX12_clash_56 rfl rfl rfl ?_
  refine ur_gI (q := 60) (x := 0) (k := 9) rs dX12_clash_57 w1365 (Nat.le_of_ble_eq_true rfl) rfl rfl ?_
  replace H := bs H; obtain ⟨x11, x11e, H⟩ := H
  refine ur_rd (q := 61) rs rt3 x11e dX12_clash_60 rfl ?_
  refine v_icmp_ge (q1 := 90) (q2 := 64) dX12_clash_61 (by decide) rfl (fun c12 => ?_) (fun c12 => ?_)
  · replace H := ip c12 H
    exact V.sub [0, 1] rfl (kE s50.1 (Option.some.inj H).symm)
  · replace H := ine c12 H
    refine v_iload_n (q := 65) 1 dX12_clash_64 rfl rfl rfl ?_
    refine v_aload_n (q := 66) 0 dX12_clash_65 rfl rfl rfl ?_
    refine v_iload (q := 68) 2 dX12_clash_66 rfl rfl ?_
    replace H := bs H; obtain ⟨x13, x13e, H⟩ := H
    refine u_callV1 (M' := mX12_sortOf) (d' := 1) (rc := (RX12, TX12, 58)) (As := [.int s50.2]) (st := [.int s50.1]) (q := 71) oX12_sortOf dX12_clash_68 w1718 w1720 w0092 rfl rfl (RS.rc rs).1 (RS.rc rs).2 rfl (Nat.le_of_ble_eq_true rfl) (Nat.le_of_ble_eq_true rfl) (Nat.lt_of_lt_of_le (by decide) hd) rfl (sgX12_sortOf (Nat.le_refl _) rs x13e) rfl ?_
    refine v_if_ne (q1 := 78) (q2 := 74) dX12_clash_71 (by decide) rfl (fun c14 => ?_) (fun c14 => ?_)
    · replace H := ine c14 H
      refine v_iconst (v := 1) (q := 79) dX12_clash_78 (by decide) rfl ?_
      refine v_iload (q := 81) 2 dX12_clash_79 rfl rfl ?_
      refine v_ishl (q := 82) dX12_clash_81 rfl ?_
      exact V.sub [0, 2] rfl (sgjX12_clash_82 hd rs H kI kE)
    · replace H := ip c14 H
      refine v_iconst (v := 0) (q := 75) dX12_clash_74 (by decide) rfl ?_
      refine v_goto (q := 82) dX12_clash_75 (by decide) ?_
      exact V.sub [0, 2] rfl (sgjX12_clash_82 hd rs H kI kE)
def gX12_clash (m : Mem) (v1 : Int32) (v2 : Int32) : Option (Int32 × Mem) :=
(gX12_isProgram m v1).bind fun x1 =>
if x1 = 0 then (
gjX12_clash_37 m) else (
(gX12_isProgram m v2).bind fun x3 =>
if x3 = 0 then (
gjX12_clash_37 m) else (
if v1 = v2 then (
gjX12_clash_37 m) else (
(gX12_sortOf m v1).bind fun x6 =>
if x6 = 0 then (
(gX12_sortOf m v2).bind fun x8 =>
if x8 = 0 then (
(some (((1 : Int32) <<< (v1 &&& 31)) ||| ((1 : Int32) <<< (v2 &&& 31)))).bind fun x10 =>
(lp (gbX12_clash_50 m) FU (x10, (0 : Int32))).bind fun e17 =>
(gX12_stuck m e17 (0 : Int32)).bind fun x18 =>
some (x18.1, x18.2)) else (
gjX12_clash_37 m)) else (
gjX12_clash_37 m))))
set_option maxRecDepth 20000 in
set_option maxHeartbeats 4000000 in
theorem sgX12_clash {Γ : Gm} {d : Nat} (hd : 10 ≤ d) {T : Nat} {h : Hp} (rs : RS T h) {m : Mem} {v1 : Int32} {v2 : Int32} {r : Int32 × Mem} (H : gX12_clash m v1 v2 = some r) : V Γ d mX12_clash 0 [(0, .ref T), (1, .int v1), (2, .int v2)] [] (hm T h m) (some (.int r.1), (hm T h r.2)) := by
  unfold gX12_clash at H
  refine v_aload_n (q := 1) 0 dX12_clash_0 rfl rfl rfl ?_
  refine v_iload_n (q := 2) 1 dX12_clash_1 rfl rfl rfl ?_
  replace H := bs H; obtain ⟨x1, x1e, H⟩ := H
  refine u_callV1 (M' := mX12_isProgram) (d' := 2) (rc := (RX12, TX12, 58)) (As := [.int v1]) (st := []) (q := 5) oX12_isProgram dX12_clash_2 w1629 w1631 w0071 rfl rfl (RS.rc rs).1 (RS.rc rs).2 rfl (Nat.le_of_ble_eq_true rfl) (Nat.le_of_ble_eq_true rfl) (Nat.lt_of_lt_of_le (by decide) hd) rfl (sgX12_isProgram (Nat.le_refl _) rs x1e) rfl ?_
  refine v_if_eq (q1 := 37) (q2 := 8) dX12_clash_5 (by decide) rfl (fun c2 => ?_) (fun c2 => ?_)
  · replace H := ip c2 H
    exact V.sub [] rfl (sgjX12_clash_37 hd rs H)
  · replace H := ine c2 H
    refine v_aload_n (q := 9) 0 dX12_clash_8 rfl rfl rfl ?_
    refine v_iload_n (q := 10) 2 dX12_clash_9 rfl rfl rfl ?_
    replace H := bs H; obtain ⟨x3, x3e, H⟩ := H
    refine u_callV1 (M' := mX12_isProgram) (d' := 2) (rc := (RX12, TX12, 58)) (As := [.int v2]) (st := []) (q := 13) oX12_isProgram dX12_clash_10 w1629 w1631 w0071 rfl rfl (RS.rc rs).1 (RS.rc rs).2 rfl (Nat.le_of_ble_eq_true rfl) (Nat.le_of_ble_eq_true rfl) (Nat.lt_of_lt_of_le (by decide) hd) rfl (sgX12_isProgram (Nat.le_refl _) rs x3e) rfl ?_
    refine v_if_eq (q1 := 37) (q2 := 16) dX12_clash_13 (by decide) rfl (fun c4 => ?_) (fun c4 => ?_)
    · replace H := ip c4 H
      exact V.sub [] rfl (sgjX12_clash_37 hd rs H)
    · replace H := ine c4 H
      refine v_iload_n (q := 17) 1 dX12_clash_16 rfl rfl rfl ?_
      refine v_iload_n (q := 18) 2 dX12_clash_17 rfl rfl rfl ?_
      refine v_icmp_eq (q1 := 37) (q2 := 21) dX12_clash_18 (by decide) rfl (fun c5 => ?_) (fun c5 => ?_)
      · replace H := ip c5 H
        exact V.sub [] rfl (sgjX12_clash_37 hd rs H)
      · replace H := ine c5 H
        refine v_aload_n (q := 22) 0 dX12_clash_21 rfl rfl rfl ?_
        refine v_iload_n (q := 23) 1 dX12_clash_22 rfl rfl rfl ?_
        replace H := bs H; obtain ⟨x6, x6e, H⟩ := H
        refine u_callV1 (M' := mX12_sortOf) (d' := 1) (rc := (RX12, TX12, 58)) (As := [.int v1]) (st := []) (q := 26) oX12_sortOf dX12_clash_23 w1718 w1720 w0092 rfl rfl (RS.rc rs).1 (RS.rc rs).2 rfl (Nat.le_of_ble_eq_true rfl) (Nat.le_of_ble_eq_true rfl) (Nat.lt_of_lt_of_le (by decide) hd) rfl (sgX12_sortOf (Nat.le_refl _) rs x6e) rfl ?_
        refine v_if_ne (q1 := 37) (q2 := 29) dX12_clash_26 (by decide) rfl (fun c7 => ?_) (fun c7 => ?_)
        · replace H := ine c7 H
          exact V.sub [] rfl (sgjX12_clash_37 hd rs H)
        · replace H := ip c7 H
          refine v_aload_n (q := 30) 0 dX12_clash_29 rfl rfl rfl ?_
          refine v_iload_n (q := 31) 2 dX12_clash_30 rfl rfl rfl ?_
          replace H := bs H; obtain ⟨x8, x8e, H⟩ := H
          refine u_callV1 (M' := mX12_sortOf) (d' := 1) (rc := (RX12, TX12, 58)) (As := [.int v2]) (st := []) (q := 34) oX12_sortOf dX12_clash_31 w1718 w1720 w0092 rfl rfl (RS.rc rs).1 (RS.rc rs).2 rfl (Nat.le_of_ble_eq_true rfl) (Nat.le_of_ble_eq_true rfl) (Nat.lt_of_lt_of_le (by decide) hd) rfl (sgX12_sortOf (Nat.le_refl _) rs x8e) rfl ?_
          refine v_if_eq (q1 := 39) (q2 := 37) dX12_clash_34 (by decide) rfl (fun c9 => ?_) (fun c9 => ?_)
          · replace H := ip c9 H
            refine v_iconst (v := 1) (q := 40) dX12_clash_39 (by decide) rfl ?_
            refine v_iload_n (q := 41) 1 dX12_clash_40 rfl rfl rfl ?_
            refine v_ishl (q := 42) dX12_clash_41 rfl ?_
            refine v_iconst (v := 1) (q := 43) dX12_clash_42 (by decide) rfl ?_
            refine v_iload_n (q := 44) 2 dX12_clash_43 rfl rfl rfl ?_
            refine v_ishl (q := 45) dX12_clash_44 rfl ?_
            refine v_ior (q := 46) dX12_clash_45 rfl ?_
            replace H := bs H; obtain ⟨x10, x10e, H⟩ := H
            refine v_topi (Option.some.inj x10e) ?_
            refine v_istore_n (L' := [(3, .int x10), (0, .ref T), (1, .int v1), (2, .int v2)]) (q := 47) dX12_clash_46 rfl (by decide) rfl rfl ?_
            refine v_iconst (v := 0) (q := 48) dX12_clash_47 (by decide) rfl ?_
            refine v_istore (L' := [(4, .int (0 : Int32)), (3, .int x10), (0, .ref T), (1, .int v1), (2, .int v2)]) (q := 50) dX12_clash_48 (by decide) rfl rfl ?_
            replace H := bs H; obtain ⟨e17, e17L, H⟩ := H
            refine V.sub [2, 1, 0] rfl ?_
            refine lp_V (P := (fun s50 => V Γ d mX12_clash 50 [(0, .ref T), (3, .int s50.1), (4, .int s50.2)] [] (hm T h m) (some (.int r.1), (hm T h r.2)))) (E := (fun e => V Γ d mX12_clash 90 [(0, .ref T), (3, .int e)] [] (hm T h m) (some (.int r.1), (hm T h r.2)))) (fun s r hb kI kE => sgbX12_clash_50 hd rs (s50 := s) (r := r) hb kI kE) FU (x10, (0 : Int32)) e17 e17L ?_
            refine v_aload_n (q := 91) 0 dX12_clash_90 rfl rfl rfl ?_
            refine v_iload_n (q := 92) 1 dX12_clash_91 rfl rfl rfl ?_
            refine v_iconst (v := 0) (q := 93) dX12_clash_92 (by decide) rfl ?_
            replace H := bs H; obtain ⟨x18, x18e, H⟩ := H
            refine u_callV1 (M' := mX12_stuck) (d' := 9) (rc := (RX12, TX12, 58)) (As := [.int e17, .int (0 : Int32)]) (st := []) (q := 96) oX12_stuck dX12_clash_93 w1838 w1839 w1840 rfl rfl (RS.rc rs).1 (RS.rc rs).2 rfl (Nat.le_of_ble_eq_true rfl) (Nat.le_of_ble_eq_true rfl) (Nat.lt_of_lt_of_le (by decide) hd) rfl (sgX12_stuck (Nat.le_refl _) rs x18e) rfl ?_
            cases H
            exact v_ireturn rfl dX12_clash_96
          · replace H := ine c9 H
            exact V.sub [] rfl (sgjX12_clash_37 hd rs H)
def mX12_clearBank : MI := (yX12_clearBank, cX12_clearBank, 2, none)
theorem oX12_clearBank : mOK mX12_clearBank 1 := ⟨by decide +kernel, by decide +kernel, by decide +kernel, by decide, w1347, w0150⟩
def gX12_clearBank (m : Mem) (v1 : Int32) : Option (Mem) :=
(wr m 2 2 v1 (0 : Int32)).bind fun m1 =>
(wr m1 3 2 v1 (0 : Int32)).bind fun m2 =>
(wr m2 4 2 v1 (0 : Int32)).bind fun m3 =>
some m3
set_option maxRecDepth 20000 in
set_option maxHeartbeats 4000000 in
theorem sgX12_clearBank {Γ : Gm} {d : Nat} (hd : 1 ≤ d) {T : Nat} {h : Hp} (rs : RS T h) {m : Mem} {v1 : Int32} {r : Mem} (H : gX12_clearBank m v1 = some r) : V Γ d mX12_clearBank 0 [(0, .ref T), (1, .int v1)] [] (hm T h m) (none, (hm T h r)) := by
  unfold gX12_clearBank at H
  refine v_aload_n (q := 1) 0 dX12_clearBank_0 rfl rfl rfl ?_
  refine ur_arr (q := 4) rs rt1 dX12_clearBank_1 w1357 (Nat.le_of_ble_eq_true rfl) rfl rfl ?_
  refine v_iload_n (q := 5) 1 dX12_clearBank_4 rfl rfl rfl ?_
  refine v_iconst (v := 0) (q := 6) dX12_clearBank_5 (by decide) rfl ?_
  replace H := bs H; obtain ⟨m1, m1e, H⟩ := H
  refine ur_wr (q := 7) rs rt1 m1e dX12_clearBank_6 rfl ?_
  refine v_aload_n (q := 8) 0 dX12_clearBank_7 rfl rfl rfl ?_
  refine ur_arr (q := 11) rs rt2 dX12_clearBank_8 w1358 (Nat.le_of_ble_eq_true rfl) rfl rfl ?_
  refine v_iload_n (q := 12) 1 dX12_clearBank_11 rfl rfl rfl ?_
  refine v_iconst (v := 0) (q := 13) dX12_clearBank_12 (by decide) rfl ?_
  replace H := bs H; obtain ⟨m2, m2e, H⟩ := H
  refine ur_wr (q := 14) rs rt2 m2e dX12_clearBank_13 rfl ?_
  refine v_aload_n (q := 15) 0 dX12_clearBank_14 rfl rfl rfl ?_
  refine ur_arr (q := 18) rs rt3 dX12_clearBank_15 w1359 (Nat.le_of_ble_eq_true rfl) rfl rfl ?_
  refine v_iload_n (q := 19) 1 dX12_clearBank_18 rfl rfl rfl ?_
  refine v_iconst (v := 0) (q := 20) dX12_clearBank_19 (by decide) rfl ?_
  replace H := bs H; obtain ⟨m3, m3e, H⟩ := H
  refine ur_wr (q := 21) rs rt3 m3e dX12_clearBank_20 rfl ?_
  cases H
  exact v_return rfl dX12_clearBank_21
def mX12_depth : MI := (yX12_depth, cX12_depth, 7, some .int)
theorem oX12_depth : mOK mX12_depth 2 := ⟨by decide +kernel, by decide +kernel, by decide +kernel, by decide, w1967, w0150⟩
def gjX12_depth_17 (m : Mem) : Option (Int32 × Mem) :=
some (((-1 : Int32), m))
set_option maxRecDepth 20000 in
set_option maxHeartbeats 4000000 in
theorem sgjX12_depth_17 {Γ : Gm} {d : Nat} (hd : 7 ≤ d) {T : Nat} {h : Hp} (rs : RS T h) {m : Mem} {r : Int32 × Mem} (H : gjX12_depth_17 m = some r) : V Γ d mX12_depth 17 [] [] (hm T h m) (some (.int r.1), (hm T h r.2)) := by
  unfold gjX12_depth_17 at H
  refine v_iconst (v := -1) (q := 18) dX12_depth_17 (by decide) rfl ?_
  cases H
  exact v_ireturn rfl dX12_depth_18
def gjX12_depth_129 (u1 : Int32) (u2 : Int32) (v3 : Int32) (v4 : Int32) (v5 : Int32) (v6 : Int32) (m : Mem) : Option ((Int32 × Int32 × Int32 × Int32 × Mem) ⊕ (Int32 × Int32 × Int32 × Mem)) :=
(some (v6 + (1 : Int32))).bind fun x18 =>
some (.inl (v3, v4, v5, x18, m))
set_option maxRecDepth 20000 in
set_option maxHeartbeats 4000000 in
theorem sgjX12_depth_129 {Γ : Gm} {d : Nat} (hd : 7 ≤ d) {T : Nat} {h : Hp} (rs : RS T h) {u1 : Int32} {u2 : Int32} {v3 : Int32} {v4 : Int32} {v5 : Int32} {v6 : Int32} {m : Mem} {r : (Int32 × Int32 × Int32 × Int32 × Mem) ⊕ (Int32 × Int32 × Int32 × Mem)} {t : Option Value × Hp} (H : gjX12_depth_129 u1 u2 v3 v4 v5 v6 m = some r) (kI : ∀ s, r = .inl s → (fun s39 => V Γ d mX12_depth 39 [(0, .ref T), (1, .int u1), (2, .int u2), (3, .int s39.1), (4, .int s39.2.1), (5, .int s39.2.2.1), (6, .int s39.2.2.2.1)] [] (hm T h s39.2.2.2.2) t) s) (kE : ∀ e, r = .inr e → (fun e => V Γ d mX12_depth 135 [(0, .ref T), (2, .int u2), (3, .int e.1), (4, .int e.2.1), (5, .int e.2.2.1)] [] (hm T h e.2.2.2) t) e) : V Γ d mX12_depth 129 [(0, .ref T), (1, .int u1), (2, .int u2), (3, .int v3), (4, .int v4), (5, .int v5), (6, .int v6)] [] (hm T h m) t := by
  unfold gjX12_depth_129 at H
  replace H := bs H; obtain ⟨x18, x18e, H⟩ := H
  refine v_iinc (v := x18) (L' := [(6, .int x18), (0, .ref T), (1, .int u1), (2, .int u2), (3, .int v3), (4, .int v4), (5, .int v5)]) (q := 132) 6 dX12_depth_129 rfl (Option.some.inj x18e) (by decide) rfl rfl ?_
  refine v_goto (q := 39) dX12_depth_132 (by decide) ?_
  exact V.sub [1, 2, 3, 4, 5, 6, 0] rfl (kI (v3, v4, v5, x18, m) (Option.some.inj H).symm)
def gjX12_depth_109 (u1 : Int32) (u2 : Int32) (v3 : Int32) (v4 : Int32) (v5 : Int32) (v6 : Int32) (m : Mem) : Option ((Int32 × Int32 × Int32 × Int32 × Mem) ⊕ (Int32 × Int32 × Int32 × Mem)) :=
if v3 < (m 0 31) then (
(some (m 0 31)).bind fun x17 =>
gjX12_depth_129 u1 u2 x17 v6 v5 v6 m) else (
gjX12_depth_129 u1 u2 v3 v4 v5 v6 m)
set_option maxRecDepth 20000 in
set_option maxHeartbeats 4000000 in
theorem sgjX12_depth_109 {Γ : Gm} {d : Nat} (hd : 7 ≤ d) {T : Nat} {h : Hp} (rs : RS T h) {u1 : Int32} {u2 : Int32} {v3 : Int32} {v4 : Int32} {v5 : Int32} {v6 : Int32} {m : Mem} {r : (Int32 × Int32 × Int32 × Int32 × Mem) ⊕ (Int32 × Int32 × Int32 × Mem)} {t : Option Value × Hp} (H : gjX12_depth_109 u1 u2 v3 v4 v5 v6 m = some r) (kI : ∀ s, r = .inl s → (fun s39 => V Γ d mX12_depth 39 [(0, .ref T), (1, .int u1), (2, .int u2), (3, .int s39.1), (4, .int s39.2.1), (5, .int s39.2.2.1), (6, .int s39.2.2.2.1)] [] (hm T h s39.2.2.2.2) t) s) (kE : ∀ e, r = .inr e → (fun e => V Γ d mX12_depth 135 [(0, .ref T), (2, .int u2), (3, .int e.1), (4, .int e.2.1), (5, .int e.2.2.1)] [] (hm T h e.2.2.2) t) e) : V Γ d mX12_depth 109 [(0, .ref T), (1, .int u1), (2, .int u2), (3, .int v3), (4, .int v4), (5, .int v5), (6, .int v6)] [] (hm T h m) t := by
  unfold gjX12_depth_109 at H
  refine v_aload_n (q := 110) 0 dX12_depth_109 rfl rfl rfl ?_
  refine ur_gI (q := 113) (x := 0) (k := 31) rs dX12_depth_110 w1387 (Nat.le_of_ble_eq_true rfl) rfl rfl ?_
  refine v_iload_n (q := 114) 3 dX12_depth_113 rfl rfl rfl ?_
  refine v_icmp_gt (q1 := 120) (q2 := 117) dX12_depth_114 (by decide) rfl (fun c16 => ?_) (fun c16 => ?_)
  · replace H := ip c16 H
    refine v_aload_n (q := 121) 0 dX12_depth_120 rfl rfl rfl ?_
    refine ur_gI (q := 124) (x := 0) (k := 31) rs dX12_depth_121 w1387 (Nat.le_of_ble_eq_true rfl) rfl rfl ?_
    replace H := bs H; obtain ⟨x17, x17e, H⟩ := H
    refine v_topi (Option.some.inj x17e) ?_
    refine v_istore_n (L' := [(3, .int x17), (0, .ref T), (1, .int u1), (2, .int u2), (4, .int v4), (5, .int v5), (6, .int v6)]) (q := 125) dX12_depth_124 rfl (by decide) rfl rfl ?_
    refine v_iload (q := 127) 6 dX12_depth_125 rfl rfl ?_
    refine v_istore (L' := [(4, .int v6), (3, .int x17), (0, .ref T), (1, .int u1), (2, .int u2), (5, .int v5), (6, .int v6)]) (q := 129) dX12_depth_127 (by decide) rfl rfl ?_
    exact V.sub [2, 3, 4, 1, 0, 5, 6] rfl (sgjX12_depth_129 hd rs H kI kE)
  · replace H := ine c16 H
    refine v_goto (q := 129) dX12_depth_117 (by decide) ?_
    exact V.sub [0, 1, 2, 3, 4, 5, 6] rfl (sgjX12_depth_129 hd rs H kI kE)
def gjX12_depth_67 (u1 : Int32) (u2 : Int32) (v3 : Int32) (v4 : Int32) (v6 : Int32) (y0 : Int32) (y1 : Int32) (m : Mem) : Option ((Int32 × Int32 × Int32 × Int32 × Mem) ⊕ (Int32 × Int32 × Int32 × Mem)) :=
(some (y1 + y0)).bind fun x11 =>
(gX12_opOf m u1 v6).bind fun x12 =>
if (4 : Int32) ≤ x12 then (
(gX12_opOf m u1 v6).bind fun x14 =>
if x14 = (4 : Int32) then (
(gX12_doDrop m u1 v6).bind fun x19 =>
gjX12_depth_109 u1 u2 v3 v4 x11 v6 x19) else (
gjX12_depth_109 u1 u2 v3 v4 x11 v6 m)) else (
(gX12_doTake m u1 v6).bind fun x20 =>
gjX12_depth_109 u1 u2 v3 v4 x11 v6 x20)
set_option maxRecDepth 20000 in
set_option maxHeartbeats 4000000 in
theorem sgjX12_depth_67 {Γ : Gm} {d : Nat} (hd : 7 ≤ d) {T : Nat} {h : Hp} (rs : RS T h) {u1 : Int32} {u2 : Int32} {v3 : Int32} {v4 : Int32} {v6 : Int32} {y0 : Int32} {y1 : Int32} {m : Mem} {r : (Int32 × Int32 × Int32 × Int32 × Mem) ⊕ (Int32 × Int32 × Int32 × Mem)} {t : Option Value × Hp} (H : gjX12_depth_67 u1 u2 v3 v4 v6 y0 y1 m = some r) (kI : ∀ s, r = .inl s → (fun s39 => V Γ d mX12_depth 39 [(0, .ref T), (1, .int u1), (2, .int u2), (3, .int s39.1), (4, .int s39.2.1), (5, .int s39.2.2.1), (6, .int s39.2.2.2.1)] [] (hm T h s39.2.2.2.2) t) s) (kE : ∀ e, r = .inr e → (fun e => V Γ d mX12_depth 135 [(0, .ref T), (2, .int u2), (3, .int e.1), (4, .int e.2.1), (5, .int e.2.2.1)] [] (hm T h e.2.2.2) t) e) : V Γ d mX12_depth 67 [(0, .ref T), (1, .int u1), (2, .int u2), (3, .int v3), (4, .int v4), (6, .int v6)] [.int y0, .int y1] (hm T h m) t := by
  unfold gjX12_depth_67 at H
  refine v_iadd (q := 68) dX12_depth_67 rfl ?_
  replace H := bs H; obtain ⟨x11, x11e, H⟩ := H
  refine v_topi (Option.some.inj x11e) ?_
  refine v_istore (L' := [(5, .int x11), (0, .ref T), (1, .int u1), (2, .int u2), (3, .int v3), (4, .int v4), (6, .int v6)]) (q := 70) dX12_depth_68 (by decide) rfl rfl ?_
  refine v_aload_n (q := 71) 1 dX12_depth_70 rfl rfl rfl ?_
  refine v_iload_n (q := 72) 2 dX12_depth_71 rfl rfl rfl ?_
  refine v_iload (q := 74) 6 dX12_depth_72 rfl rfl ?_
  replace H := bs H; obtain ⟨x12, x12e, H⟩ := H
  refine u_callV1 (M' := mX12_opOf) (d' := 1) (rc := (RX12, TX12, 58)) (As := [.int u1, .int v6]) (st := []) (q := 77) oX12_opOf dX12_depth_74 w1646 w1648 w0075 rfl rfl (RS.rc rs).1 (RS.rc rs).2 rfl (Nat.le_of_ble_eq_true rfl) (Nat.le_of_ble_eq_true rfl) (Nat.lt_of_lt_of_le (by decide) hd) rfl (sgX12_opOf (Nat.le_refl _) rs x12e) rfl ?_
  refine v_iconst (v := 4) (q := 78) dX12_depth_77 (by decide) rfl ?_
  refine v_icmp_ge (q1 := 91) (q2 := 81) dX12_depth_78 (by decide) rfl (fun c13 => ?_) (fun c13 => ?_)
  · replace H := ip c13 H
    refine v_aload_n (q := 92) 1 dX12_depth_91 rfl rfl rfl ?_
    refine v_iload_n (q := 93) 2 dX12_depth_92 rfl rfl rfl ?_
    refine v_iload (q := 95) 6 dX12_depth_93 rfl rfl ?_
    replace H := bs H; obtain ⟨x14, x14e, H⟩ := H
    refine u_callV1 (M' := mX12_opOf) (d' := 1) (rc := (RX12, TX12, 58)) (As := [.int u1, .int v6]) (st := []) (q := 98) oX12_opOf dX12_depth_95 w1646 w1648 w0075 rfl rfl (RS.rc rs).1 (RS.rc rs).2 rfl (Nat.le_of_ble_eq_true rfl) (Nat.le_of_ble_eq_true rfl) (Nat.lt_of_lt_of_le (by decide) hd) rfl (sgX12_opOf (Nat.le_refl _) rs x14e) rfl ?_
    refine v_iconst (v := 4) (q := 99) dX12_depth_98 (by decide) rfl ?_
    refine v_icmp_ne (q1 := 109) (q2 := 102) dX12_depth_99 (by decide) rfl (fun c15 => ?_) (fun c15 => ?_)
    · replace H := ine c15 H
      exact V.sub [1, 2, 3, 4, 5, 0, 6] rfl (sgjX12_depth_109 hd rs H kI kE)
    · replace H := ip c15 H
      refine v_aload_n (q := 103) 1 dX12_depth_102 rfl rfl rfl ?_
      refine v_iload_n (q := 104) 2 dX12_depth_103 rfl rfl rfl ?_
      refine v_iload (q := 106) 6 dX12_depth_104 rfl rfl ?_
      replace H := bs H; obtain ⟨x19, x19e, H⟩ := H
      refine u_callV0 (M' := mX12_doDrop) (d' := 4) (rc := (RX12, TX12, 58)) (As := [.int u1, .int v6]) (st := []) (q := 109) oX12_doDrop dX12_depth_106 w1734 w1736 w0096 rfl rfl (RS.rc rs).1 (RS.rc rs).2 rfl (Nat.le_of_ble_eq_true rfl) (Nat.le_of_ble_eq_true rfl) (Nat.lt_of_lt_of_le (by decide) hd) rfl (sgX12_doDrop (Nat.le_refl _) rs x19e) rfl ?_
      exact V.sub [1, 2, 3, 4, 5, 0, 6] rfl (sgjX12_depth_109 hd rs H kI kE)
  · replace H := ine c13 H
    refine v_aload_n (q := 82) 1 dX12_depth_81 rfl rfl rfl ?_
    refine v_iload_n (q := 83) 2 dX12_depth_82 rfl rfl rfl ?_
    refine v_iload (q := 85) 6 dX12_depth_83 rfl rfl ?_
    replace H := bs H; obtain ⟨x20, x20e, H⟩ := H
    refine u_callV0 (M' := mX12_doTake) (d' := 6) (rc := (RX12, TX12, 58)) (As := [.int u1, .int v6]) (st := []) (q := 88) oX12_doTake dX12_depth_85 w1650 w1652 w0076 rfl rfl (RS.rc rs).1 (RS.rc rs).2 rfl (Nat.le_of_ble_eq_true rfl) (Nat.le_of_ble_eq_true rfl) (Nat.lt_of_lt_of_le (by decide) hd) rfl (sgX12_doTake (Nat.le_refl _) rs x20e) rfl ?_
    refine v_goto (q := 109) dX12_depth_88 (by decide) ?_
    exact V.sub [1, 2, 3, 4, 5, 0, 6] rfl (sgjX12_depth_109 hd rs H kI kE)
def gbX12_depth_39 (u1 : Int32) (u2 : Int32) (s39 : Int32 × Int32 × Int32 × Int32 × Mem) : Option ((Int32 × Int32 × Int32 × Int32 × Mem) ⊕ (Int32 × Int32 × Int32 × Mem)) :=
(gX12_stepsOf s39.2.2.2.2 u1).bind fun x7 =>
if x7 ≤ s39.2.2.2.1 then (
some (.inr (s39.1, s39.2.1, s39.2.2.1, s39.2.2.2.2))) else (
(gX12_isOn s39.2.2.2.2 u1 s39.2.2.2.1 (1 : Int32)).bind fun x9 =>
if x9 = 0 then (
gjX12_depth_67 u1 u2 s39.1 s39.2.1 s39.2.2.2.1 (1 : Int32) s39.2.2.1 s39.2.2.2.2) else (
gjX12_depth_67 u1 u2 s39.1 s39.2.1 s39.2.2.2.1 (0 : Int32) s39.2.2.1 s39.2.2.2.2))
set_option maxRecDepth 20000 in
set_option maxHeartbeats 4000000 in
theorem sgbX12_depth_39 {Γ : Gm} {d : Nat} (hd : 7 ≤ d) {T : Nat} {h : Hp} (rs : RS T h) {u1 : Int32} {u2 : Int32} {s39 : Int32 × Int32 × Int32 × Int32 × Mem} {r : (Int32 × Int32 × Int32 × Int32 × Mem) ⊕ (Int32 × Int32 × Int32 × Mem)} {t : Option Value × Hp} (H : gbX12_depth_39 u1 u2 s39 = some r) (kI : ∀ s, r = .inl s → (fun s39 => V Γ d mX12_depth 39 [(0, .ref T), (1, .int u1), (2, .int u2), (3, .int s39.1), (4, .int s39.2.1), (5, .int s39.2.2.1), (6, .int s39.2.2.2.1)] [] (hm T h s39.2.2.2.2) t) s) (kE : ∀ e, r = .inr e → (fun e => V Γ d mX12_depth 135 [(0, .ref T), (2, .int u2), (3, .int e.1), (4, .int e.2.1), (5, .int e.2.2.1)] [] (hm T h e.2.2.2) t) e) : V Γ d mX12_depth 39 [(0, .ref T), (1, .int u1), (2, .int u2), (3, .int s39.1), (4, .int s39.2.1), (5, .int s39.2.2.1), (6, .int s39.2.2.2.1)] [] (hm T h s39.2.2.2.2) t := by
  unfold gbX12_depth_39 at H
  refine v_iload (q := 41) 6 dX12_depth_39 rfl rfl ?_
  refine v_aload_n (q := 42) 0 dX12_depth_41 rfl rfl rfl ?_
  refine v_iload_n (q := 43) 1 dX12_depth_42 rfl rfl rfl ?_
  replace H := bs H; obtain ⟨x7, x7e, H⟩ := H
  refine u_callV1 (M' := mX12_stepsOf) (d' := 1) (rc := (RX12, TX12, 58)) (As := [.int u1]) (st := [.int s39.2.2.2.1]) (q := 46) oX12_stepsOf dX12_depth_43 w1642 w1644 w0074 rfl rfl (RS.rc rs).1 (RS.rc rs).2 rfl (Nat.le_of_ble_eq_true rfl) (Nat.le_of_ble_eq_true rfl) (Nat.lt_of_lt_of_le (by decide) hd) rfl (sgX12_stepsOf (Nat.le_refl _) rs x7e) rfl ?_
  refine v_icmp_ge (q1 := 135) (q2 := 49) dX12_depth_46 (by decide) rfl (fun c8 => ?_) (fun c8 => ?_)
  · replace H := ip c8 H
    exact V.sub [0, 2, 3, 4, 5] rfl (kE (s39.1, s39.2.1, s39.2.2.1, s39.2.2.2.2) (Option.some.inj H).symm)
  · replace H := ine c8 H
    refine v_iload (q := 51) 5 dX12_depth_49 rfl rfl ?_
    refine v_aload_n (q := 52) 0 dX12_depth_51 rfl rfl rfl ?_
    refine v_iload_n (q := 53) 1 dX12_depth_52 rfl rfl rfl ?_
    refine v_iload (q := 55) 6 dX12_depth_53 rfl rfl ?_
    refine v_iconst (v := 1) (q := 56) dX12_depth_55 (by decide) rfl ?_
    replace H := bs H; obtain ⟨x9, x9e, H⟩ := H
    refine u_callV1 (M' := mX12_isOn) (d' := 2) (rc := (RX12, TX12, 58)) (As := [.int u1, .int s39.2.2.2.1, .int (1 : Int32)]) (st := [.int s39.2.2.1]) (q := 59) oX12_isOn dX12_depth_56 w1722 w1724 w0093 rfl rfl (RS.rc rs).1 (RS.rc rs).2 rfl (Nat.le_of_ble_eq_true rfl) (Nat.le_of_ble_eq_true rfl) (Nat.lt_of_lt_of_le (by decide) hd) rfl (sgX12_isOn (Nat.le_refl _) rs x9e) rfl ?_
    refine v_if_eq (q1 := 66) (q2 := 62) dX12_depth_59 (by decide) rfl (fun c10 => ?_) (fun c10 => ?_)
    · replace H := ip c10 H
      refine v_iconst (v := 1) (q := 67) dX12_depth_66 (by decide) rfl ?_
      exact V.sub [0, 1, 2, 3, 4, 6] rfl (sgjX12_depth_67 hd rs H kI kE)
    · replace H := ine c10 H
      refine v_iconst (v := 0) (q := 63) dX12_depth_62 (by decide) rfl ?_
      refine v_goto (q := 67) dX12_depth_63 (by decide) ?_
      exact V.sub [0, 1, 2, 3, 4, 6] rfl (sgjX12_depth_67 hd rs H kI kE)
def gjX12_depth_159 (y0 : Int32) (m : Mem) : Option (Int32 × Mem) :=
some (y0, m)
set_option maxRecDepth 20000 in
set_option maxHeartbeats 4000000 in
theorem sgjX12_depth_159 {Γ : Gm} {d : Nat} (hd : 7 ≤ d) {T : Nat} {h : Hp} (rs : RS T h) {y0 : Int32} {m : Mem} {r : Int32 × Mem} (H : gjX12_depth_159 y0 m = some r) : V Γ d mX12_depth 159 [] [.int y0] (hm T h m) (some (.int r.1), (hm T h r.2)) := by
  unfold gjX12_depth_159 at H
  cases H
  exact v_ireturn rfl dX12_depth_159
def gX12_depth (m : Mem) (v1 : Int32) (v2 : Int32) : Option (Int32 × Mem) :=
(gX12_isProgram m v1).bind fun x1 =>
if x1 = 0 then (
gjX12_depth_17 m) else (
(gX12_isIn v2 (0 : Int32) (2 : Int32)).bind fun x3 =>
if x3 = 0 then (
gjX12_depth_17 m) else (
(gX12_putAside m).bind fun x5 =>
(some (up x5 0 31 (0 : Int32))).bind fun m6 =>
(lp (gbX12_depth_39 v1 v2) FU ((0 : Int32), (-1 : Int32), (0 : Int32), (0 : Int32), m6)).bind fun e21 =>
(gX12_bringBack e21.2.2.2).bind fun x22 =>
if v2 = 0 then (
gjX12_depth_159 e21.1 x22) else (
if v2 = (1 : Int32) then (
gjX12_depth_159 e21.2.1 x22) else (
gjX12_depth_159 e21.2.2.1 x22))))
set_option maxRecDepth 20000 in
set_option maxHeartbeats 4000000 in
theorem sgX12_depth {Γ : Gm} {d : Nat} (hd : 7 ≤ d) {T : Nat} {h : Hp} (rs : RS T h) {m : Mem} {v1 : Int32} {v2 : Int32} {r : Int32 × Mem} (H : gX12_depth m v1 v2 = some r) : V Γ d mX12_depth 0 [(0, .ref T), (1, .int v1), (2, .int v2)] [] (hm T h m) (some (.int r.1), (hm T h r.2)) := by
  unfold gX12_depth at H
  refine v_aload_n (q := 1) 0 dX12_depth_0 rfl rfl rfl ?_
  refine v_iload_n (q := 2) 1 dX12_depth_1 rfl rfl rfl ?_
  replace H := bs H; obtain ⟨x1, x1e, H⟩ := H
  refine u_callV1 (M' := mX12_isProgram) (d' := 2) (rc := (RX12, TX12, 58)) (As := [.int v1]) (st := []) (q := 5) oX12_isProgram dX12_depth_2 w1629 w1631 w0071 rfl rfl (RS.rc rs).1 (RS.rc rs).2 rfl (Nat.le_of_ble_eq_true rfl) (Nat.le_of_ble_eq_true rfl) (Nat.lt_of_lt_of_le (by decide) hd) rfl (sgX12_isProgram (Nat.le_refl _) rs x1e) rfl ?_
  refine v_if_eq (q1 := 17) (q2 := 8) dX12_depth_5 (by decide) rfl (fun c2 => ?_) (fun c2 => ?_)
  · replace H := ip c2 H
    exact V.sub [] rfl (sgjX12_depth_17 hd rs H)
  · replace H := ine c2 H
    refine v_iload_n (q := 9) 2 dX12_depth_8 rfl rfl rfl ?_
    refine v_iconst (v := 0) (q := 10) dX12_depth_9 (by decide) rfl ?_
    refine v_iconst (v := 2) (q := 11) dX12_depth_10 (by decide) rfl ?_
    replace H := bs H; obtain ⟨x3, x3e, H⟩ := H
    refine u_callS1 (M' := mX12_isIn) (d' := 1) (As := [.int v2, .int (0 : Int32), .int (2 : Int32)]) (st := []) (q := 14) oX12_isIn dX12_depth_11 w1618 w1619 rfl (Nat.le_of_ble_eq_true rfl) (Nat.le_of_ble_eq_true rfl) (Nat.lt_of_lt_of_le (by decide) hd) rfl (sgX12_isIn (Nat.le_refl _) x3e) rfl ?_
    refine v_if_ne (q1 := 19) (q2 := 17) dX12_depth_14 (by decide) rfl (fun c4 => ?_) (fun c4 => ?_)
    · replace H := ine c4 H
      refine v_iconst (v := 0) (q := 20) dX12_depth_19 (by decide) rfl ?_
      refine v_istore_n (L' := [(3, .int (0 : Int32)), (0, .ref T), (1, .int v1), (2, .int v2)]) (q := 21) dX12_depth_20 rfl (by decide) rfl rfl ?_
      refine v_iconst (v := -1) (q := 22) dX12_depth_21 (by decide) rfl ?_
      refine v_istore (L' := [(4, .int (-1 : Int32)), (3, .int (0 : Int32)), (0, .ref T), (1, .int v1), (2, .int v2)]) (q := 24) dX12_depth_22 (by decide) rfl rfl ?_
      refine v_iconst (v := 0) (q := 25) dX12_depth_24 (by decide) rfl ?_
      refine v_istore (L' := [(5, .int (0 : Int32)), (4, .int (-1 : Int32)), (3, .int (0 : Int32)), (0, .ref T), (1, .int v1), (2, .int v2)]) (q := 27) dX12_depth_25 (by decide) rfl rfl ?_
      refine v_aload_n (q := 28) 3 dX12_depth_27 rfl rfl rfl ?_
      replace H := bs H; obtain ⟨x5, x5e, H⟩ := H
      refine u_callV0 (M' := mX12_putAside) (d' := 1) (rc := (RX12, TX12, 58)) (As := []) (st := []) (q := 31) oX12_putAside dX12_depth_28 w1809 w1811 w0102 rfl rfl (RS.rc rs).1 (RS.rc rs).2 rfl (Nat.le_of_ble_eq_true rfl) (Nat.le_of_ble_eq_true rfl) (Nat.lt_of_lt_of_le (by decide) hd) rfl (sgX12_putAside (Nat.le_refl _) rs x5e) rfl ?_
      refine v_aload_n (q := 32) 3 dX12_depth_31 rfl rfl rfl ?_
      refine v_iconst (v := 0) (q := 33) dX12_depth_32 (by decide) rfl ?_
      replace H := bs H; obtain ⟨m6, m6e, H⟩ := H
      refine ur_pI (q := 36) (k := 31) rs m6e dX12_depth_33 w1387 (Nat.le_of_ble_eq_true rfl) rfl rfl rfl ?_
      refine v_iconst (v := 0) (q := 37) dX12_depth_36 (by decide) rfl ?_
      refine v_istore (L' := [(6, .int (0 : Int32)), (5, .int (0 : Int32)), (4, .int (-1 : Int32)), (3, .int (0 : Int32)), (0, .ref T), (1, .int v1), (2, .int v2)]) (q := 39) dX12_depth_37 (by decide) rfl rfl ?_
      replace H := bs H; obtain ⟨e21, e21L, H⟩ := H
      refine V.sub [4, 5, 6, 3, 2, 1, 0] rfl ?_
      refine lp_V (P := (fun s39 => V Γ d mX12_depth 39 [(0, .ref T), (1, .int v1), (2, .int v2), (3, .int s39.1), (4, .int s39.2.1), (5, .int s39.2.2.1), (6, .int s39.2.2.2.1)] [] (hm T h s39.2.2.2.2) (some (.int r.1), (hm T h r.2)))) (E := (fun e => V Γ d mX12_depth 135 [(0, .ref T), (2, .int v2), (3, .int e.1), (4, .int e.2.1), (5, .int e.2.2.1)] [] (hm T h e.2.2.2) (some (.int r.1), (hm T h r.2)))) (fun s r hb kI kE => sgbX12_depth_39 hd rs (s39 := s) (r := r) hb kI kE) FU ((0 : Int32), (-1 : Int32), (0 : Int32), (0 : Int32), m6) e21 e21L ?_
      refine v_aload_n (q := 136) 0 dX12_depth_135 rfl rfl rfl ?_
      replace H := bs H; obtain ⟨x22, x22e, H⟩ := H
      refine u_callV0 (M' := mX12_bringBack) (d' := 1) (rc := (RX12, TX12, 58)) (As := []) (st := []) (q := 139) oX12_bringBack dX12_depth_136 w1817 w1819 w0104 rfl rfl (RS.rc rs).1 (RS.rc rs).2 rfl (Nat.le_of_ble_eq_true rfl) (Nat.le_of_ble_eq_true rfl) (Nat.lt_of_lt_of_le (by decide) hd) rfl (sgX12_bringBack (Nat.le_refl _) rs x22e) rfl ?_
      refine v_iload_n (q := 140) 1 dX12_depth_139 rfl rfl rfl ?_
      refine v_if_ne (q1 := 147) (q2 := 143) dX12_depth_140 (by decide) rfl (fun c23 => ?_) (fun c23 => ?_)
      · replace H := ine c23 H
        refine v_iload_n (q := 148) 1 dX12_depth_147 rfl rfl rfl ?_
        refine v_iconst (v := 1) (q := 149) dX12_depth_148 (by decide) rfl ?_
        refine v_icmp_ne (q1 := 157) (q2 := 152) dX12_depth_149 (by decide) rfl (fun c24 => ?_) (fun c24 => ?_)
        · replace H := ine c24 H
          refine v_iload (q := 159) 4 dX12_depth_157 rfl rfl ?_
          exact V.sub [] rfl (sgjX12_depth_159 hd rs H)
        · replace H := ip c24 H
          refine v_iload (q := 154) 3 dX12_depth_152 rfl rfl ?_
          refine v_goto (q := 159) dX12_depth_154 (by decide) ?_
          exact V.sub [] rfl (sgjX12_depth_159 hd rs H)
      · replace H := ip c23 H
        refine v_iload_n (q := 144) 2 dX12_depth_143 rfl rfl rfl ?_
        refine v_goto (q := 159) dX12_depth_144 (by decide) ?_
        exact V.sub [] rfl (sgjX12_depth_159 hd rs H)
    · replace H := ip c4 H
      exact V.sub [] rfl (sgjX12_depth_17 hd rs H)
def mX12_isPair : MI := (yX12_isPair, cX12_isPair, 3, some .boolean)
theorem oX12_isPair : mOK mX12_isPair 2 := ⟨by decide +kernel, by decide +kernel, by decide +kernel, by decide, w1749, w0150⟩
def gjX12_isPair_28 (y0 : Int32) (m : Mem) : Option (Int32) :=
(bz y0).bind fun x3 =>
some x3
set_option maxRecDepth 20000 in
set_option maxHeartbeats 4000000 in
theorem sgjX12_isPair_28 {Γ : Gm} {d : Nat} (hd : 3 ≤ d) {T : Nat} {h : Hp} (rs : RS T h) {y0 : Int32} {m : Mem} {r : Int32} (H : gjX12_isPair_28 y0 m = some r) : V Γ d mX12_isPair 28 [] [.int y0] (hm T h m) (some (.int r), (hm T h m)) := by
  unfold gjX12_isPair_28 at H
  replace H := bs H; obtain ⟨x3, x3e, H⟩ := H
  obtain ⟨x3q, x3z⟩ := bz_sp x3e
  refine v_topi x3q.symm ?_
  cases H
  exact v_zreturn rfl (by rw [x3q]; exact x3z) dX12_isPair_28
def gjX12_isPair_27 (m : Mem) : Option (Int32) :=
gjX12_isPair_28 (0 : Int32) m
set_option maxRecDepth 20000 in
set_option maxHeartbeats 4000000 in
theorem sgjX12_isPair_27 {Γ : Gm} {d : Nat} (hd : 3 ≤ d) {T : Nat} {h : Hp} (rs : RS T h) {m : Mem} {r : Int32} (H : gjX12_isPair_27 m = some r) : V Γ d mX12_isPair 27 [] [] (hm T h m) (some (.int r), (hm T h m)) := by
  unfold gjX12_isPair_27 at H
  refine v_iconst (v := 0) (q := 28) dX12_isPair_27 (by decide) rfl ?_
  exact V.sub [] rfl (sgjX12_isPair_28 hd rs H)
def gX12_isPair (m : Mem) (v1 : Int32) (v2 : Int32) : Option (Int32) :=
(gX12_isProgram m v1).bind fun x1 =>
if x1 = 0 then (
gjX12_isPair_27 m) else (
(gX12_stepsOf m v1).bind fun x4 =>
(gX12_isIn v2 (0 : Int32) (x4 - (2 : Int32))).bind fun x5 =>
if x5 = 0 then (
gjX12_isPair_27 m) else (
gjX12_isPair_28 (1 : Int32) m))
set_option maxRecDepth 20000 in
set_option maxHeartbeats 4000000 in
theorem sgX12_isPair {Γ : Gm} {d : Nat} (hd : 3 ≤ d) {T : Nat} {h : Hp} (rs : RS T h) {m : Mem} {v1 : Int32} {v2 : Int32} {r : Int32} (H : gX12_isPair m v1 v2 = some r) : V Γ d mX12_isPair 0 [(0, .ref T), (1, .int v1), (2, .int v2)] [] (hm T h m) (some (.int r), (hm T h m)) := by
  unfold gX12_isPair at H
  refine v_aload_n (q := 1) 0 dX12_isPair_0 rfl rfl rfl ?_
  refine v_iload_n (q := 2) 1 dX12_isPair_1 rfl rfl rfl ?_
  replace H := bs H; obtain ⟨x1, x1e, H⟩ := H
  refine u_callV1 (M' := mX12_isProgram) (d' := 2) (rc := (RX12, TX12, 58)) (As := [.int v1]) (st := []) (q := 5) oX12_isProgram dX12_isPair_2 w1629 w1631 w0071 rfl rfl (RS.rc rs).1 (RS.rc rs).2 rfl (Nat.le_of_ble_eq_true rfl) (Nat.le_of_ble_eq_true rfl) (Nat.lt_of_lt_of_le (by decide) hd) rfl (sgX12_isProgram (Nat.le_refl _) rs x1e) rfl ?_
  refine v_if_eq (q1 := 27) (q2 := 8) dX12_isPair_5 (by decide) rfl (fun c2 => ?_) (fun c2 => ?_)
  · replace H := ip c2 H
    exact V.sub [] rfl (sgjX12_isPair_27 hd rs H)
  · replace H := ine c2 H
    refine v_iload_n (q := 9) 2 dX12_isPair_8 rfl rfl rfl ?_
    refine v_iconst (v := 0) (q := 10) dX12_isPair_9 (by decide) rfl ?_
    refine v_aload_n (q := 11) 0 dX12_isPair_10 rfl rfl rfl ?_
    refine v_iload_n (q := 12) 1 dX12_isPair_11 rfl rfl rfl ?_
    replace H := bs H; obtain ⟨x4, x4e, H⟩ := H
    refine u_callV1 (M' := mX12_stepsOf) (d' := 1) (rc := (RX12, TX12, 58)) (As := [.int v1]) (st := [.int (0 : Int32), .int v2]) (q := 15) oX12_stepsOf dX12_isPair_12 w1642 w1644 w0074 rfl rfl (RS.rc rs).1 (RS.rc rs).2 rfl (Nat.le_of_ble_eq_true rfl) (Nat.le_of_ble_eq_true rfl) (Nat.lt_of_lt_of_le (by decide) hd) rfl (sgX12_stepsOf (Nat.le_refl _) rs x4e) rfl ?_
    refine v_iconst (v := 2) (q := 16) dX12_isPair_15 (by decide) rfl ?_
    refine v_isub (q := 17) dX12_isPair_16 rfl ?_
    replace H := bs H; obtain ⟨x5, x5e, H⟩ := H
    refine u_callS1 (M' := mX12_isIn) (d' := 1) (As := [.int v2, .int (0 : Int32), .int (x4 - (2 : Int32))]) (st := []) (q := 20) oX12_isIn dX12_isPair_17 w1618 w1619 rfl (Nat.le_of_ble_eq_true rfl) (Nat.le_of_ble_eq_true rfl) (Nat.lt_of_lt_of_le (by decide) hd) rfl (sgX12_isIn (Nat.le_refl _) x5e) rfl ?_
    refine v_if_eq (q1 := 27) (q2 := 23) dX12_isPair_20 (by decide) rfl (fun c6 => ?_) (fun c6 => ?_)
    · replace H := ip c6 H
      exact V.sub [] rfl (sgjX12_isPair_27 hd rs H)
    · replace H := ine c6 H
      refine v_iconst (v := 1) (q := 24) dX12_isPair_23 (by decide) rfl ?_
      refine v_goto (q := 28) dX12_isPair_24 (by decide) ?_
      exact V.sub [] rfl (sgjX12_isPair_28 hd rs H)
def mX12_eased : MI := (yX12_eased, cX12_eased, 6, some .int)
theorem oX12_eased : mOK mX12_eased 2 := ⟨by decide +kernel, by decide +kernel, by decide +kernel, by decide, w1837, w0150⟩
def gjX12_eased_63 (m : Mem) : Option (Int32 × Mem) :=
some (((-1 : Int32), m))
set_option maxRecDepth 20000 in
set_option maxHeartbeats 4000000 in
theorem sgjX12_eased_63 {Γ : Gm} {d : Nat} (hd : 10 ≤ d) {T : Nat} {h : Hp} (rs : RS T h) {m : Mem} {r : Int32 × Mem} (H : gjX12_eased_63 m = some r) : V Γ d mX12_eased 63 [] [] (hm T h m) (some (.int r.1), (hm T h r.2)) := by
  unfold gjX12_eased_63 at H
  refine v_iconst (v := -1) (q := 64) dX12_eased_63 (by decide) rfl ?_
  cases H
  exact v_ireturn rfl dX12_eased_64
def gjX12_eased_81 (y0 : Int32) (m : Mem) : Option (Int32 × Mem) :=
some (y0, m)
set_option maxRecDepth 20000 in
set_option maxHeartbeats 4000000 in
theorem sgjX12_eased_81 {Γ : Gm} {d : Nat} (hd : 10 ≤ d) {T : Nat} {h : Hp} (rs : RS T h) {y0 : Int32} {m : Mem} {r : Int32 × Mem} (H : gjX12_eased_81 y0 m = some r) : V Γ d mX12_eased 81 [] [.int y0] (hm T h m) (some (.int r.1), (hm T h r.2)) := by
  unfold gjX12_eased_81 at H
  cases H
  exact v_ireturn rfl dX12_eased_81
def gjX12_eased_80 (m : Mem) : Option (Int32 × Mem) :=
gjX12_eased_81 (0 : Int32) m
set_option maxRecDepth 20000 in
set_option maxHeartbeats 4000000 in
theorem sgjX12_eased_80 {Γ : Gm} {d : Nat} (hd : 10 ≤ d) {T : Nat} {h : Hp} (rs : RS T h) {m : Mem} {r : Int32 × Mem} (H : gjX12_eased_80 m = some r) : V Γ d mX12_eased 80 [] [] (hm T h m) (some (.int r.1), (hm T h r.2)) := by
  unfold gjX12_eased_80 at H
  refine v_iconst (v := 0) (q := 81) dX12_eased_80 (by decide) rfl ?_
  exact V.sub [] rfl (sgjX12_eased_81 hd rs H)
def gX12_eased (m : Mem) (v1 : Int32) (v2 : Int32) : Option (Int32 × Mem) :=
(gX12_isPair m v1 v2).bind fun x1 =>
if x1 = 0 then (
some (((-1 : Int32), m))) else (
(rd m 4 2 (m 0 9)).bind fun x3 =>
(some (((1 : Int32) <<< (x3 &&& 31)) - (1 : Int32))).bind fun x4 =>
(gX12_stuck m x4 (0 : Int32)).bind fun x5 =>
(gX12_swapSteps x5.2 v1 v2).bind fun x6 =>
(gX12_stuck x6 x4 (0 : Int32)).bind fun x7 =>
(gX12_swapSteps x7.2 v1 v2).bind fun x8 =>
if x5.1 < 0 then (
gjX12_eased_63 x8) else (
if 0 ≤ x7.1 then (
if x5.1 = (1 : Int32) then (
if x7.1 = 0 then (
gjX12_eased_81 (1 : Int32) x8) else (
gjX12_eased_80 x8)) else (
gjX12_eased_80 x8)) else (
gjX12_eased_63 x8)))
set_option maxRecDepth 20000 in
set_option maxHeartbeats 4000000 in
theorem sgX12_eased {Γ : Gm} {d : Nat} (hd : 10 ≤ d) {T : Nat} {h : Hp} (rs : RS T h) {m : Mem} {v1 : Int32} {v2 : Int32} {r : Int32 × Mem} (H : gX12_eased m v1 v2 = some r) : V Γ d mX12_eased 0 [(0, .ref T), (1, .int v1), (2, .int v2)] [] (hm T h m) (some (.int r.1), (hm T h r.2)) := by
  unfold gX12_eased at H
  refine v_aload_n (q := 1) 0 dX12_eased_0 rfl rfl rfl ?_
  refine v_iload_n (q := 2) 1 dX12_eased_1 rfl rfl rfl ?_
  refine v_iload_n (q := 3) 2 dX12_eased_2 rfl rfl rfl ?_
  replace H := bs H; obtain ⟨x1, x1e, H⟩ := H
  refine u_callV1 (M' := mX12_isPair) (d' := 3) (rc := (RX12, TX12, 58)) (As := [.int v1, .int v2]) (st := []) (q := 6) oX12_isPair dX12_eased_3 w1746 w1748 w0097 rfl rfl (RS.rc rs).1 (RS.rc rs).2 rfl (Nat.le_of_ble_eq_true rfl) (Nat.le_of_ble_eq_true rfl) (Nat.lt_of_lt_of_le (by decide) hd) rfl (sgX12_isPair (Nat.le_refl _) rs x1e) rfl ?_
  refine v_if_ne (q1 := 11) (q2 := 9) dX12_eased_6 (by decide) rfl (fun c2 => ?_) (fun c2 => ?_)
  · replace H := ine c2 H
    refine v_iconst (v := 1) (q := 12) dX12_eased_11 (by decide) rfl ?_
    refine v_aload_n (q := 13) 0 dX12_eased_12 rfl rfl rfl ?_
    refine ur_arr (q := 16) rs rt3 dX12_eased_13 w1359 (Nat.le_of_ble_eq_true rfl) rfl rfl ?_
    refine v_aload_n (q := 17) 0 dX12_eased_16 rfl rfl rfl ?_
    refine ur_gI (q := 20) (x := 0) (k := 9) rs dX12_eased_17 w1365 (Nat.le_of_ble_eq_true rfl) rfl rfl ?_
    replace H := bs H; obtain ⟨x3, x3e, H⟩ := H
    refine ur_rd (q := 21) rs rt3 x3e dX12_eased_20 rfl ?_
    refine v_ishl (q := 22) dX12_eased_21 rfl ?_
    refine v_iconst (v := 1) (q := 23) dX12_eased_22 (by decide) rfl ?_
    refine v_isub (q := 24) dX12_eased_23 rfl ?_
    replace H := bs H; obtain ⟨x4, x4e, H⟩ := H
    refine v_topi (Option.some.inj x4e) ?_
    refine v_istore_n (L' := [(3, .int x4), (0, .ref T), (1, .int v1), (2, .int v2)]) (q := 25) dX12_eased_24 rfl (by decide) rfl rfl ?_
    refine v_aload_n (q := 26) 1 dX12_eased_25 rfl rfl rfl ?_
    refine v_iload_n (q := 27) 0 dX12_eased_26 rfl rfl rfl ?_
    refine v_iconst (v := 0) (q := 28) dX12_eased_27 (by decide) rfl ?_
    replace H := bs H; obtain ⟨x5, x5e, H⟩ := H
    refine u_callV1 (M' := mX12_stuck) (d' := 9) (rc := (RX12, TX12, 58)) (As := [.int x4, .int (0 : Int32)]) (st := []) (q := 31) oX12_stuck dX12_eased_28 w1838 w1839 w1840 rfl rfl (RS.rc rs).1 (RS.rc rs).2 rfl (Nat.le_of_ble_eq_true rfl) (Nat.le_of_ble_eq_true rfl) (Nat.lt_of_lt_of_le (by decide) hd) rfl (sgX12_stuck (Nat.le_refl _) rs x5e) rfl ?_
    refine v_istore (L' := [(4, .int x5.1), (3, .int x4), (0, .ref T), (1, .int v1), (2, .int v2)]) (q := 33) dX12_eased_31 (by decide) rfl rfl ?_
    refine v_aload_n (q := 34) 2 dX12_eased_33 rfl rfl rfl ?_
    refine v_iload_n (q := 35) 3 dX12_eased_34 rfl rfl rfl ?_
    refine v_iload_n (q := 36) 4 dX12_eased_35 rfl rfl rfl ?_
    replace H := bs H; obtain ⟨x6, x6e, H⟩ := H
    refine u_callV0 (M' := mX12_swapSteps) (d' := 2) (rc := (RX12, TX12, 58)) (As := [.int v1, .int v2]) (st := []) (q := 39) oX12_swapSteps dX12_eased_36 w1750 w1752 w0098 rfl rfl (RS.rc rs).1 (RS.rc rs).2 rfl (Nat.le_of_ble_eq_true rfl) (Nat.le_of_ble_eq_true rfl) (Nat.lt_of_lt_of_le (by decide) hd) rfl (sgX12_swapSteps (Nat.le_refl _) rs x6e) rfl ?_
    refine v_aload_n (q := 40) 2 dX12_eased_39 rfl rfl rfl ?_
    refine v_iload_n (q := 41) 1 dX12_eased_40 rfl rfl rfl ?_
    refine v_iconst (v := 0) (q := 42) dX12_eased_41 (by decide) rfl ?_
    replace H := bs H; obtain ⟨x7, x7e, H⟩ := H
    refine u_callV1 (M' := mX12_stuck) (d' := 9) (rc := (RX12, TX12, 58)) (As := [.int x4, .int (0 : Int32)]) (st := []) (q := 45) oX12_stuck dX12_eased_42 w1838 w1839 w1840 rfl rfl (RS.rc rs).1 (RS.rc rs).2 rfl (Nat.le_of_ble_eq_true rfl) (Nat.le_of_ble_eq_true rfl) (Nat.lt_of_lt_of_le (by decide) hd) rfl (sgX12_stuck (Nat.le_refl _) rs x7e) rfl ?_
    refine v_istore (L' := [(5, .int x7.1), (4, .int x5.1), (3, .int x4), (0, .ref T), (1, .int v1), (2, .int v2)]) (q := 47) dX12_eased_45 (by decide) rfl rfl ?_
    refine v_aload_n (q := 48) 3 dX12_eased_47 rfl rfl rfl ?_
    refine v_iload_n (q := 49) 4 dX12_eased_48 rfl rfl rfl ?_
    refine v_iload_n (q := 50) 5 dX12_eased_49 rfl rfl rfl ?_
    replace H := bs H; obtain ⟨x8, x8e, H⟩ := H
    refine u_callV0 (M' := mX12_swapSteps) (d' := 2) (rc := (RX12, TX12, 58)) (As := [.int v1, .int v2]) (st := []) (q := 53) oX12_swapSteps dX12_eased_50 w1750 w1752 w0098 rfl rfl (RS.rc rs).1 (RS.rc rs).2 rfl (Nat.le_of_ble_eq_true rfl) (Nat.le_of_ble_eq_true rfl) (Nat.lt_of_lt_of_le (by decide) hd) rfl (sgX12_swapSteps (Nat.le_refl _) rs x8e) rfl ?_
    refine v_iload (q := 55) 1 dX12_eased_53 rfl rfl ?_
    refine v_if_lt (q1 := 63) (q2 := 58) dX12_eased_55 (by decide) rfl (fun c9 => ?_) (fun c9 => ?_)
    · replace H := ip c9 H
      exact V.sub [] rfl (sgjX12_eased_63 hd rs H)
    · replace H := ine c9 H
      refine v_iload (q := 60) 0 dX12_eased_58 rfl rfl ?_
      refine v_if_ge (q1 := 65) (q2 := 63) dX12_eased_60 (by decide) rfl (fun c10 => ?_) (fun c10 => ?_)
      · replace H := ip c10 H
        refine v_iload (q := 67) 1 dX12_eased_65 rfl rfl ?_
        refine v_iconst (v := 1) (q := 68) dX12_eased_67 (by decide) rfl ?_
        refine v_icmp_ne (q1 := 80) (q2 := 71) dX12_eased_68 (by decide) rfl (fun c11 => ?_) (fun c11 => ?_)
        · replace H := ine c11 H
          exact V.sub [] rfl (sgjX12_eased_80 hd rs H)
        · replace H := ip c11 H
          refine v_iload (q := 73) 0 dX12_eased_71 rfl rfl ?_
          refine v_if_ne (q1 := 80) (q2 := 76) dX12_eased_73 (by decide) rfl (fun c12 => ?_) (fun c12 => ?_)
          · replace H := ine c12 H
            exact V.sub [] rfl (sgjX12_eased_80 hd rs H)
          · replace H := ip c12 H
            refine v_iconst (v := 1) (q := 77) dX12_eased_76 (by decide) rfl ?_
            refine v_goto (q := 81) dX12_eased_77 (by decide) ?_
            exact V.sub [] rfl (sgjX12_eased_81 hd rs H)
      · replace H := ine c10 H
        exact V.sub [] rfl (sgjX12_eased_63 hd rs H)
  · replace H := ip c2 H
    refine v_iconst (v := -1) (q := 10) dX12_eased_9 (by decide) rfl ?_
    cases H
    exact v_ireturn rfl dX12_eased_10
def mX12_isNode : MI := (yX12_isNode, cX12_isNode, 1, some .boolean)
theorem oX12_isNode : mOK mX12_isNode 1 := ⟨by decide +kernel, by decide +kernel, by decide +kernel, by decide, w1776, w0150⟩
def gX12_isNode (v0 : Int32) : Option (Int32) :=
(gX12_isIn v0 (0 : Int32) (15 : Int32)).bind fun x1 =>
(bz x1).bind fun x2 =>
some x2
set_option maxRecDepth 20000 in
set_option maxHeartbeats 4000000 in
theorem sgX12_isNode {Γ : Gm} {d : Nat} (hd : 2 ≤ d) {h : Hp} {v0 : Int32} {r : Int32} (H : gX12_isNode v0 = some r) : V Γ d mX12_isNode 0 [(0, .int v0)] [] h (some (.int r), h) := by
  unfold gX12_isNode at H
  refine v_iload_n (q := 1) 0 dX12_isNode_0 rfl rfl rfl ?_
  refine v_iconst (v := 0) (q := 2) dX12_isNode_1 (by decide) rfl ?_
  refine v_bipush (v := 15) (q := 4) dX12_isNode_2 (by decide) rfl ?_
  replace H := bs H; obtain ⟨x1, x1e, H⟩ := H
  refine u_callS1 (M' := mX12_isIn) (d' := 1) (As := [.int v0, .int (0 : Int32), .int (15 : Int32)]) (st := []) (q := 7) oX12_isIn dX12_isNode_4 w1618 w1619 rfl (Nat.le_of_ble_eq_true rfl) (Nat.le_of_ble_eq_true rfl) (Nat.lt_of_lt_of_le (by decide) hd) rfl (sgX12_isIn (Nat.le_refl _) x1e) rfl ?_
  replace H := bs H; obtain ⟨x2, x2e, H⟩ := H
  obtain ⟨x2q, x2z⟩ := bz_sp x2e
  refine v_topi x2q.symm ?_
  cases H
  exact v_zreturn rfl (by rw [x2q]; exact x2z) dX12_isNode_7
def mX12_edge : MI := (yX12_edge, cX12_edge, 5, some .int)
theorem oX12_edge : mOK mX12_edge 3 := ⟨by decide +kernel, by decide +kernel, by decide +kernel, by decide, w1773, w0150⟩
def gjX12_edge_32 (m : Mem) : Option (Int32) :=
some (-1 : Int32)
set_option maxRecDepth 20000 in
set_option maxHeartbeats 4000000 in
theorem sgjX12_edge_32 {Γ : Gm} {d : Nat} (hd : 3 ≤ d) {T : Nat} {h : Hp} (rs : RS T h) {m : Mem} {r : Int32} (H : gjX12_edge_32 m = some r) : V Γ d mX12_edge 32 [] [] (hm T h m) (some (.int r), (hm T h m)) := by
  unfold gjX12_edge_32 at H
  refine v_iconst (v := -1) (q := 33) dX12_edge_32 (by decide) rfl ?_
  cases H
  exact v_ireturn rfl dX12_edge_33
def gjX12_edge_68 (y0 : Int32) (m : Mem) : Option (Int32) :=
some y0
set_option maxRecDepth 20000 in
set_option maxHeartbeats 4000000 in
theorem sgjX12_edge_68 {Γ : Gm} {d : Nat} (hd : 3 ≤ d) {T : Nat} {h : Hp} (rs : RS T h) {y0 : Int32} {m : Mem} {r : Int32} (H : gjX12_edge_68 y0 m = some r) : V Γ d mX12_edge 68 [] [.int y0] (hm T h m) (some (.int r), (hm T h m)) := by
  unfold gjX12_edge_68 at H
  cases H
  exact v_ireturn rfl dX12_edge_68
def gX12_edge (m : Mem) (v1 : Int32) (v2 : Int32) (v3 : Int32) : Option (Int32) :=
(gX12_isNode v1).bind fun x1 =>
if x1 = 0 then (
gjX12_edge_32 m) else (
(gX12_isNode v2).bind fun x3 =>
if x3 = 0 then (
gjX12_edge_32 m) else (
(gX12_isEdge m v1 v2).bind fun x5 =>
if x5 = 0 then (
gjX12_edge_32 m) else (
(gX12_isIn v3 (0 : Int32) (1 : Int32)).bind fun x7 =>
if x7 = 0 then (
gjX12_edge_32 m) else (
(rd m 1 9685 (((0 : Int32) + ((16 : Int32) * v1)) + v2)).bind fun x9 =>
(some (x9 - (1 : Int32))).bind fun x10 =>
if v3 = 0 then (
gjX12_edge_68 (x10 / (16 : Int32)) m) else (
gjX12_edge_68 (x10 - x10 / (16 : Int32) * (16 : Int32)) m)))))
set_option maxRecDepth 20000 in
set_option maxHeartbeats 4000000 in
theorem sgX12_edge {Γ : Gm} {d : Nat} (hd : 3 ≤ d) {T : Nat} {h : Hp} (rs : RS T h) {m : Mem} {v1 : Int32} {v2 : Int32} {v3 : Int32} {r : Int32} (H : gX12_edge m v1 v2 v3 = some r) : V Γ d mX12_edge 0 [(0, .ref T), (1, .int v1), (2, .int v2), (3, .int v3)] [] (hm T h m) (some (.int r), (hm T h m)) := by
  unfold gX12_edge at H
  refine v_iload_n (q := 1) 1 dX12_edge_0 rfl rfl rfl ?_
  replace H := bs H; obtain ⟨x1, x1e, H⟩ := H
  refine u_callS1 (M' := mX12_isNode) (d' := 2) (As := [.int v1]) (st := []) (q := 4) oX12_isNode dX12_edge_1 w1774 w1775 rfl (Nat.le_of_ble_eq_true rfl) (Nat.le_of_ble_eq_true rfl) (Nat.lt_of_lt_of_le (by decide) hd) rfl (sgX12_isNode (Nat.le_refl _) x1e) rfl ?_
  refine v_if_eq (q1 := 32) (q2 := 7) dX12_edge_4 (by decide) rfl (fun c2 => ?_) (fun c2 => ?_)
  · replace H := ip c2 H
    exact V.sub [] rfl (sgjX12_edge_32 hd rs H)
  · replace H := ine c2 H
    refine v_iload_n (q := 8) 2 dX12_edge_7 rfl rfl rfl ?_
    replace H := bs H; obtain ⟨x3, x3e, H⟩ := H
    refine u_callS1 (M' := mX12_isNode) (d' := 2) (As := [.int v2]) (st := []) (q := 11) oX12_isNode dX12_edge_8 w1774 w1775 rfl (Nat.le_of_ble_eq_true rfl) (Nat.le_of_ble_eq_true rfl) (Nat.lt_of_lt_of_le (by decide) hd) rfl (sgX12_isNode (Nat.le_refl _) x3e) rfl ?_
    refine v_if_eq (q1 := 32) (q2 := 14) dX12_edge_11 (by decide) rfl (fun c4 => ?_) (fun c4 => ?_)
    · replace H := ip c4 H
      exact V.sub [] rfl (sgjX12_edge_32 hd rs H)
    · replace H := ine c4 H
      refine v_aload_n (q := 15) 0 dX12_edge_14 rfl rfl rfl ?_
      refine v_iload_n (q := 16) 1 dX12_edge_15 rfl rfl rfl ?_
      refine v_iload_n (q := 17) 2 dX12_edge_16 rfl rfl rfl ?_
      replace H := bs H; obtain ⟨x5, x5e, H⟩ := H
      refine u_callV1 (M' := mX12_isEdge) (d' := 1) (rc := (RX12, TX12, 58)) (As := [.int v1, .int v2]) (st := []) (q := 20) oX12_isEdge dX12_edge_17 w1701 w1703 w0088 rfl rfl (RS.rc rs).1 (RS.rc rs).2 rfl (Nat.le_of_ble_eq_true rfl) (Nat.le_of_ble_eq_true rfl) (Nat.lt_of_lt_of_le (by decide) hd) rfl (sgX12_isEdge (Nat.le_refl _) rs x5e) rfl ?_
      refine v_if_eq (q1 := 32) (q2 := 23) dX12_edge_20 (by decide) rfl (fun c6 => ?_) (fun c6 => ?_)
      · replace H := ip c6 H
        exact V.sub [] rfl (sgjX12_edge_32 hd rs H)
      · replace H := ine c6 H
        refine v_iload_n (q := 24) 3 dX12_edge_23 rfl rfl rfl ?_
        refine v_iconst (v := 0) (q := 25) dX12_edge_24 (by decide) rfl ?_
        refine v_iconst (v := 1) (q := 26) dX12_edge_25 (by decide) rfl ?_
        replace H := bs H; obtain ⟨x7, x7e, H⟩ := H
        refine u_callS1 (M' := mX12_isIn) (d' := 1) (As := [.int v3, .int (0 : Int32), .int (1 : Int32)]) (st := []) (q := 29) oX12_isIn dX12_edge_26 w1618 w1619 rfl (Nat.le_of_ble_eq_true rfl) (Nat.le_of_ble_eq_true rfl) (Nat.lt_of_lt_of_le (by decide) hd) rfl (sgX12_isIn (Nat.le_refl _) x7e) rfl ?_
        refine v_if_ne (q1 := 34) (q2 := 32) dX12_edge_29 (by decide) rfl (fun c8 => ?_) (fun c8 => ?_)
        · replace H := ine c8 H
          refine v_aload_n (q := 35) 0 dX12_edge_34 rfl rfl rfl ?_
          refine ur_arr (q := 38) rs rt0 dX12_edge_35 w1356 (Nat.le_of_ble_eq_true rfl) rfl rfl ?_
          refine v_iconst (v := 0) (q := 39) dX12_edge_38 (by decide) rfl ?_
          refine v_bipush (v := 16) (q := 41) dX12_edge_39 (by decide) rfl ?_
          refine v_iload_n (q := 42) 1 dX12_edge_41 rfl rfl rfl ?_
          refine v_imul (q := 43) dX12_edge_42 rfl ?_
          refine v_iadd (q := 44) dX12_edge_43 rfl ?_
          refine v_iload_n (q := 45) 2 dX12_edge_44 rfl rfl rfl ?_
          refine v_iadd (q := 46) dX12_edge_45 rfl ?_
          replace H := bs H; obtain ⟨x9, x9e, H⟩ := H
          refine ur_rd (q := 47) rs rt0 x9e dX12_edge_46 rfl ?_
          refine v_iconst (v := 1) (q := 48) dX12_edge_47 (by decide) rfl ?_
          refine v_isub (q := 49) dX12_edge_48 rfl ?_
          replace H := bs H; obtain ⟨x10, x10e, H⟩ := H
          refine v_topi (Option.some.inj x10e) ?_
          refine v_istore (L' := [(4, .int x10), (0, .ref T), (1, .int v1), (2, .int v2), (3, .int v3)]) (q := 51) dX12_edge_49 (by decide) rfl rfl ?_
          refine v_iload_n (q := 52) 4 dX12_edge_51 rfl rfl rfl ?_
          refine v_if_ne (q1 := 63) (q2 := 55) dX12_edge_52 (by decide) rfl (fun c11 => ?_) (fun c11 => ?_)
          · replace H := ine c11 H
            refine v_iload (q := 65) 0 dX12_edge_63 rfl rfl ?_
            refine v_bipush (v := 16) (q := 67) dX12_edge_65 (by decide) rfl ?_
            refine v_irem (q := 68) dX12_edge_67 (by decide) rfl ?_
            exact V.sub [] rfl (sgjX12_edge_68 hd rs H)
          · replace H := ip c11 H
            refine v_iload (q := 57) 0 dX12_edge_55 rfl rfl ?_
            refine v_bipush (v := 16) (q := 59) dX12_edge_57 (by decide) rfl ?_
            refine v_idiv (q := 60) dX12_edge_59 (by decide) rfl ?_
            refine v_goto (q := 68) dX12_edge_60 (by decide) ?_
            exact V.sub [] rfl (sgjX12_edge_68 hd rs H)
        · replace H := ip c8 H
          exact V.sub [] rfl (sgjX12_edge_32 hd rs H)
def mX12_end : MI := (yX12_end, cX12_end, 2, some .int)
theorem oX12_end : mOK mX12_end 1 := ⟨by decide +kernel, by decide +kernel, by decide +kernel, by decide, w1538, w0150⟩
def gjX12_end_12 (m : Mem) : Option (Int32 × Mem) :=
some (((-1 : Int32), m))
set_option maxRecDepth 20000 in
set_option maxHeartbeats 4000000 in
theorem sgjX12_end_12 {Γ : Gm} {d : Nat} (hd : 1 ≤ d) {T : Nat} {h : Hp} (rs : RS T h) {m : Mem} {r : Int32 × Mem} (H : gjX12_end_12 m = some r) : V Γ d mX12_end 12 [] [] (hm T h m) (some (.int r.1), (hm T h r.2)) := by
  unfold gjX12_end_12 at H
  refine v_iconst (v := -1) (q := 13) dX12_end_12 (by decide) rfl ?_
  cases H
  exact v_ireturn rfl dX12_end_13
def gX12_end (m : Mem) (v1 : Int32) : Option (Int32 × Mem) :=
if v1 < 0 then (
gjX12_end_12 m) else (
if v1 ≤ (m 0 11) then (
(some (up m 0 11 v1)).bind fun m3 =>
some (v1, m3)) else (
gjX12_end_12 m))
set_option maxRecDepth 20000 in
set_option maxHeartbeats 4000000 in
theorem sgX12_end {Γ : Gm} {d : Nat} (hd : 1 ≤ d) {T : Nat} {h : Hp} (rs : RS T h) {m : Mem} {v1 : Int32} {r : Int32 × Mem} (H : gX12_end m v1 = some r) : V Γ d mX12_end 0 [(0, .ref T), (1, .int v1)] [] (hm T h m) (some (.int r.1), (hm T h r.2)) := by
  unfold gX12_end at H
  refine v_iload_n (q := 1) 1 dX12_end_0 rfl rfl rfl ?_
  refine v_if_lt (q1 := 12) (q2 := 4) dX12_end_1 (by decide) rfl (fun c1 => ?_) (fun c1 => ?_)
  · replace H := ip c1 H
    exact V.sub [] rfl (sgjX12_end_12 hd rs H)
  · replace H := ine c1 H
    refine v_iload_n (q := 5) 1 dX12_end_4 rfl rfl rfl ?_
    refine v_aload_n (q := 6) 0 dX12_end_5 rfl rfl rfl ?_
    refine ur_gI (q := 9) (x := 0) (k := 11) rs dX12_end_6 w1367 (Nat.le_of_ble_eq_true rfl) rfl rfl ?_
    refine v_icmp_le (q1 := 14) (q2 := 12) dX12_end_9 (by decide) rfl (fun c2 => ?_) (fun c2 => ?_)
    · replace H := ip c2 H
      refine v_aload_n (q := 15) 0 dX12_end_14 rfl rfl rfl ?_
      refine v_iload_n (q := 16) 1 dX12_end_15 rfl rfl rfl ?_
      replace H := bs H; obtain ⟨m3, m3e, H⟩ := H
      refine ur_pI (q := 19) (k := 11) rs m3e dX12_end_16 w1367 (Nat.le_of_ble_eq_true rfl) rfl rfl rfl ?_
      refine v_iload_n (q := 20) 1 dX12_end_19 rfl rfl rfl ?_
      cases H
      exact v_ireturn rfl dX12_end_20
    · replace H := ine c2 H
      exact V.sub [] rfl (sgjX12_end_12 hd rs H)
def mX12_fail : MI := (yX12_fail, cX12_fail, 2, none)
theorem oX12_fail : mOK mX12_fail 1 := ⟨by decide +kernel, by decide +kernel, by decide +kernel, by decide, w1581, w0150⟩
def gX12_fail (m : Mem) (v1 : Int32) : Option (Mem) :=
if (m 0 17) ≤ 0 then (
(some (up m 0 17 v1)).bind fun m2 =>
(some (up m2 0 18 (m2 0 14))).bind fun m3 =>
some m3) else (
some m)
set_option maxRecDepth 20000 in
set_option maxHeartbeats 4000000 in
theorem sgX12_fail {Γ : Gm} {d : Nat} (hd : 1 ≤ d) {T : Nat} {h : Hp} (rs : RS T h) {m : Mem} {v1 : Int32} {r : Mem} (H : gX12_fail m v1 = some r) : V Γ d mX12_fail 0 [(0, .ref T), (1, .int v1)] [] (hm T h m) (none, (hm T h r)) := by
  unfold gX12_fail at H
  refine v_aload_n (q := 1) 0 dX12_fail_0 rfl rfl rfl ?_
  refine ur_gI (q := 4) (x := 0) (k := 17) rs dX12_fail_1 w1373 (Nat.le_of_ble_eq_true rfl) rfl rfl ?_
  refine v_if_le (q1 := 8) (q2 := 7) dX12_fail_4 (by decide) rfl (fun c1 => ?_) (fun c1 => ?_)
  · replace H := ip c1 H
    refine v_aload_n (q := 9) 0 dX12_fail_8 rfl rfl rfl ?_
    refine v_iload_n (q := 10) 1 dX12_fail_9 rfl rfl rfl ?_
    replace H := bs H; obtain ⟨m2, m2e, H⟩ := H
    refine ur_pI (q := 13) (k := 17) rs m2e dX12_fail_10 w1373 (Nat.le_of_ble_eq_true rfl) rfl rfl rfl ?_
    refine v_aload_n (q := 14) 0 dX12_fail_13 rfl rfl rfl ?_
    refine v_aload_n (q := 15) 0 dX12_fail_14 rfl rfl rfl ?_
    refine ur_gI (q := 18) (x := 0) (k := 14) rs dX12_fail_15 w1370 (Nat.le_of_ble_eq_true rfl) rfl rfl ?_
    replace H := bs H; obtain ⟨m3, m3e, H⟩ := H
    refine ur_pI (q := 21) (k := 18) rs m3e dX12_fail_18 w1374 (Nat.le_of_ble_eq_true rfl) rfl rfl rfl ?_
    cases H
    exact v_return rfl dX12_fail_21
  · replace H := ine c1 H
    cases H
    exact v_return rfl dX12_fail_7
def mX12_fault : MI := (yX12_fault, cX12_fault, 2, some .int)
theorem oX12_fault : mOK mX12_fault 1 := ⟨by decide +kernel, by decide +kernel, by decide +kernel, by decide, w1624, w0150⟩
def gjX12_fault_24 (y0 : Int32) (m : Mem) : Option (Int32) :=
some y0
set_option maxRecDepth 20000 in
set_option maxHeartbeats 4000000 in
theorem sgjX12_fault_24 {Γ : Gm} {d : Nat} (hd : 1 ≤ d) {T : Nat} {h : Hp} (rs : RS T h) {y0 : Int32} {m : Mem} {r : Int32} (H : gjX12_fault_24 y0 m = some r) : V Γ d mX12_fault 24 [] [.int y0] (hm T h m) (some (.int r), (hm T h m)) := by
  unfold gjX12_fault_24 at H
  cases H
  exact v_ireturn rfl dX12_fault_24
def gX12_fault (m : Mem) (v1 : Int32) : Option (Int32) :=
if v1 = 0 then (
gjX12_fault_24 (m 0 19) m) else (
if v1 = (1 : Int32) then (
gjX12_fault_24 (m 0 20) m) else (
gjX12_fault_24 (-1 : Int32) m))
set_option maxRecDepth 20000 in
set_option maxHeartbeats 4000000 in
theorem sgX12_fault {Γ : Gm} {d : Nat} (hd : 1 ≤ d) {T : Nat} {h : Hp} (rs : RS T h) {m : Mem} {v1 : Int32} {r : Int32} (H : gX12_fault m v1 = some r) : V Γ d mX12_fault 0 [(0, .ref T), (1, .int v1)] [] (hm T h m) (some (.int r), (hm T h m)) := by
  unfold gX12_fault at H
  refine v_iload_n (q := 1) 1 dX12_fault_0 rfl rfl rfl ?_
  refine v_if_ne (q1 := 11) (q2 := 4) dX12_fault_1 (by decide) rfl (fun c1 => ?_) (fun c1 => ?_)
  · replace H := ine c1 H
    refine v_iload_n (q := 12) 1 dX12_fault_11 rfl rfl rfl ?_
    refine v_iconst (v := 1) (q := 13) dX12_fault_12 (by decide) rfl ?_
    refine v_icmp_ne (q1 := 23) (q2 := 16) dX12_fault_13 (by decide) rfl (fun c2 => ?_) (fun c2 => ?_)
    · replace H := ine c2 H
      refine v_iconst (v := -1) (q := 24) dX12_fault_23 (by decide) rfl ?_
      exact V.sub [] rfl (sgjX12_fault_24 hd rs H)
    · replace H := ip c2 H
      refine v_aload_n (q := 17) 0 dX12_fault_16 rfl rfl rfl ?_
      refine ur_gI (q := 20) (x := 0) (k := 20) rs dX12_fault_17 w1376 (Nat.le_of_ble_eq_true rfl) rfl rfl ?_
      refine v_goto (q := 24) dX12_fault_20 (by decide) ?_
      exact V.sub [] rfl (sgjX12_fault_24 hd rs H)
  · replace H := ip c1 H
    refine v_aload_n (q := 5) 0 dX12_fault_4 rfl rfl rfl ?_
    refine ur_gI (q := 8) (x := 0) (k := 19) rs dX12_fault_5 w1375 (Nat.le_of_ble_eq_true rfl) rfl rfl ?_
    refine v_goto (q := 24) dX12_fault_8 (by decide) ?_
    exact V.sub [] rfl (sgjX12_fault_24 hd rs H)
def mX12_feed : MI := (yX12_feed, cX12_feed, 8, some .int)
theorem oX12_feed : mOK mX12_feed 5 := ⟨by decide +kernel, by decide +kernel, by decide +kernel, by decide, w1534, w0150⟩
def gjX12_feed_71 (u1 : Int32) (u2 : Int32) (u3 : Int32) (u4 : Int32) (u5 : Int32) (v6 : Int32) (y0 : Int32) (m : Mem) : Option ((Int32 × Mem) ⊕ (Mem)) :=
(wrB m 10 900 ((m 0 11) + v6) ((y0 >>> (((24 : Int32) - ((8 : Int32) * (v6 &&& (3 : Int32)))) &&& 31)).toInt8.toInt32)).bind fun m7 =>
(some (v6 + (1 : Int32))).bind fun x8 =>
some (.inl (x8, m7))
set_option maxRecDepth 20000 in
set_option maxHeartbeats 4000000 in
theorem sgjX12_feed_71 {Γ : Gm} {d : Nat} (hd : 1 ≤ d) {T : Nat} {h : Hp} (rs : RS T h) {u1 : Int32} {u2 : Int32} {u3 : Int32} {u4 : Int32} {u5 : Int32} {v6 : Int32} {y0 : Int32} {m : Mem} {r : (Int32 × Mem) ⊕ (Mem)} {t : Option Value × Hp} (H : gjX12_feed_71 u1 u2 u3 u4 u5 v6 y0 m = some r) (kI : ∀ s, r = .inl s → (fun s18 => V Γ d mX12_feed 18 [(0, .ref T), (1, .int u1), (2, .int u2), (3, .int u3), (4, .int u4), (5, .int u5), (6, .int s18.1)] [] (hm T h s18.2) t) s) (kE : ∀ e, r = .inr e → (fun e => V Γ d mX12_feed 105 [(0, .ref T)] [] (hm T h e) t) e) : V Γ d mX12_feed 71 [(0, .ref T), (1, .int u1), (2, .int u2), (3, .int u3), (4, .int u4), (5, .int u5), (6, .int v6)] [.int y0] (hm T h m) t := by
  unfold gjX12_feed_71 at H
  refine v_istore (L' := [(7, .int y0), (0, .ref T), (1, .int u1), (2, .int u2), (3, .int u3), (4, .int u4), (5, .int u5), (6, .int v6)]) (q := 73) dX12_feed_71 (by decide) rfl rfl ?_
  refine v_aload_n (q := 74) 1 dX12_feed_73 rfl rfl rfl ?_
  refine ur_arr (q := 77) rs rt10 dX12_feed_74 w1366 (Nat.le_of_ble_eq_true rfl) rfl rfl ?_
  refine v_aload_n (q := 78) 1 dX12_feed_77 rfl rfl rfl ?_
  refine ur_gI (q := 81) (x := 0) (k := 11) rs dX12_feed_78 w1367 (Nat.le_of_ble_eq_true rfl) rfl rfl ?_
  refine v_iload (q := 83) 7 dX12_feed_81 rfl rfl ?_
  refine v_iadd (q := 84) dX12_feed_83 rfl ?_
  refine v_iload (q := 86) 0 dX12_feed_84 rfl rfl ?_
  refine v_bipush (v := 24) (q := 88) dX12_feed_86 (by decide) rfl ?_
  refine v_bipush (v := 8) (q := 90) dX12_feed_88 (by decide) rfl ?_
  refine v_iload (q := 92) 7 dX12_feed_90 rfl rfl ?_
  refine v_iconst (v := 3) (q := 93) dX12_feed_92 (by decide) rfl ?_
  refine v_iand (q := 94) dX12_feed_93 rfl ?_
  refine v_imul (q := 95) dX12_feed_94 rfl ?_
  refine v_isub (q := 96) dX12_feed_95 rfl ?_
  refine v_ishr (q := 97) dX12_feed_96 rfl ?_
  refine v_i2b (q := 98) dX12_feed_97 rfl ?_
  replace H := bs H; obtain ⟨m7, m7e, H⟩ := H
  refine ur_wrB (q := 99) rs rt10 m7e dX12_feed_98 rfl ?_
  replace H := bs H; obtain ⟨x8, x8e, H⟩ := H
  refine v_iinc (v := x8) (L' := [(6, .int x8), (7, .int y0), (0, .ref T), (1, .int u1), (2, .int u2), (3, .int u3), (4, .int u4), (5, .int u5)]) (q := 102) 7 dX12_feed_99 rfl (Option.some.inj x8e) (by decide) rfl rfl ?_
  refine v_goto (q := 18) dX12_feed_102 (by decide) ?_
  exact V.sub [2, 3, 4, 5, 6, 7, 0] rfl (kI (x8, m7) (Option.some.inj H).symm)
def gbX12_feed_18 (u1 : Int32) (u2 : Int32) (u3 : Int32) (u4 : Int32) (u5 : Int32) (s18 : Int32 × Mem) : Option ((Int32 × Mem) ⊕ (Mem)) :=
if (20 : Int32) ≤ s18.1 then (
some (.inr s18.2)) else (
if (4 : Int32) ≤ s18.1 then (
if (8 : Int32) ≤ s18.1 then (
if (12 : Int32) ≤ s18.1 then (
if (16 : Int32) ≤ s18.1 then (
gjX12_feed_71 u1 u2 u3 u4 u5 s18.1 u5 s18.2) else (
gjX12_feed_71 u1 u2 u3 u4 u5 s18.1 u4 s18.2)) else (
gjX12_feed_71 u1 u2 u3 u4 u5 s18.1 u3 s18.2)) else (
gjX12_feed_71 u1 u2 u3 u4 u5 s18.1 u2 s18.2)) else (
gjX12_feed_71 u1 u2 u3 u4 u5 s18.1 u1 s18.2))
set_option maxRecDepth 20000 in
set_option maxHeartbeats 4000000 in
theorem sgbX12_feed_18 {Γ : Gm} {d : Nat} (hd : 1 ≤ d) {T : Nat} {h : Hp} (rs : RS T h) {u1 : Int32} {u2 : Int32} {u3 : Int32} {u4 : Int32} {u5 : Int32} {s18 : Int32 × Mem} {r : (Int32 × Mem) ⊕ (Mem)} {t : Option Value × Hp} (H : gbX12_feed_18 u1 u2 u3 u4 u5 s18 = some r) (kI : ∀ s, r = .inl s → (fun s18 => V Γ d mX12_feed 18 [(0, .ref T), (1, .int u1), (2, .int u2), (3, .int u3), (4, .int u4), (5, .int u5), (6, .int s18.1)] [] (hm T h s18.2) t) s) (kE : ∀ e, r = .inr e → (fun e => V Γ d mX12_feed 105 [(0, .ref T)] [] (hm T h e) t) e) : V Γ d mX12_feed 18 [(0, .ref T), (1, .int u1), (2, .int u2), (3, .int u3), (4, .int u4), (5, .int u5), (6, .int s18.1)] [] (hm T h s18.2) t := by
  unfold gbX12_feed_18 at H
  refine v_iload (q := 20) 6 dX12_feed_18 rfl rfl ?_
  refine v_bipush (v := 20) (q := 22) dX12_feed_20 (by decide) rfl ?_
  refine v_icmp_ge (q1 := 105) (q2 := 25) dX12_feed_22 (by decide) rfl (fun c2 => ?_) (fun c2 => ?_)
  · replace H := ip c2 H
    exact V.sub [0] rfl (kE s18.2 (Option.some.inj H).symm)
  · replace H := ine c2 H
    refine v_iload (q := 27) 6 dX12_feed_25 rfl rfl ?_
    refine v_iconst (v := 4) (q := 28) dX12_feed_27 (by decide) rfl ?_
    refine v_icmp_ge (q1 := 35) (q2 := 31) dX12_feed_28 (by decide) rfl (fun c3 => ?_) (fun c3 => ?_)
    · replace H := ip c3 H
      refine v_iload (q := 37) 6 dX12_feed_35 rfl rfl ?_
      refine v_bipush (v := 8) (q := 39) dX12_feed_37 (by decide) rfl ?_
      refine v_icmp_ge (q1 := 46) (q2 := 42) dX12_feed_39 (by decide) rfl (fun c4 => ?_) (fun c4 => ?_)
      · replace H := ip c4 H
        refine v_iload (q := 48) 6 dX12_feed_46 rfl rfl ?_
        refine v_bipush (v := 12) (q := 50) dX12_feed_48 (by decide) rfl ?_
        refine v_icmp_ge (q1 := 57) (q2 := 53) dX12_feed_50 (by decide) rfl (fun c5 => ?_) (fun c5 => ?_)
        · replace H := ip c5 H
          refine v_iload (q := 59) 6 dX12_feed_57 rfl rfl ?_
          refine v_bipush (v := 16) (q := 61) dX12_feed_59 (by decide) rfl ?_
          refine v_icmp_ge (q1 := 69) (q2 := 64) dX12_feed_61 (by decide) rfl (fun c6 => ?_) (fun c6 => ?_)
          · replace H := ip c6 H
            refine v_iload (q := 71) 5 dX12_feed_69 rfl rfl ?_
            exact V.sub [0, 1, 2, 3, 4, 5, 6] rfl (sgjX12_feed_71 hd rs H kI kE)
          · replace H := ine c6 H
            refine v_iload (q := 66) 4 dX12_feed_64 rfl rfl ?_
            refine v_goto (q := 71) dX12_feed_66 (by decide) ?_
            exact V.sub [0, 1, 2, 3, 4, 5, 6] rfl (sgjX12_feed_71 hd rs H kI kE)
        · replace H := ine c5 H
          refine v_iload_n (q := 54) 3 dX12_feed_53 rfl rfl rfl ?_
          refine v_goto (q := 71) dX12_feed_54 (by decide) ?_
          exact V.sub [0, 1, 2, 3, 4, 5, 6] rfl (sgjX12_feed_71 hd rs H kI kE)
      · replace H := ine c4 H
        refine v_iload_n (q := 43) 2 dX12_feed_42 rfl rfl rfl ?_
        refine v_goto (q := 71) dX12_feed_43 (by decide) ?_
        exact V.sub [0, 1, 2, 3, 4, 5, 6] rfl (sgjX12_feed_71 hd rs H kI kE)
    · replace H := ine c3 H
      refine v_iload_n (q := 32) 1 dX12_feed_31 rfl rfl rfl ?_
      refine v_goto (q := 71) dX12_feed_32 (by decide) ?_
      exact V.sub [0, 1, 2, 3, 4, 5, 6] rfl (sgjX12_feed_71 hd rs H kI kE)
def gX12_feed (m : Mem) (v1 : Int32) (v2 : Int32) (v3 : Int32) (v4 : Int32) (v5 : Int32) : Option (Int32 × Mem) :=
if ((m 0 11) + (20 : Int32)) ≤ (900 : Int32) then (
(lp (gbX12_feed_18 v1 v2 v3 v4 v5) FU ((0 : Int32), m)).bind fun e9 =>
(some (up e9 0 11 ((e9 0 11) + (20 : Int32)))).bind fun m10 =>
some (m10 0 11, m10)) else (
some (((-1 : Int32), m)))
set_option maxRecDepth 20000 in
set_option maxHeartbeats 4000000 in
theorem sgX12_feed {Γ : Gm} {d : Nat} (hd : 1 ≤ d) {T : Nat} {h : Hp} (rs : RS T h) {m : Mem} {v1 : Int32} {v2 : Int32} {v3 : Int32} {v4 : Int32} {v5 : Int32} {r : Int32 × Mem} (H : gX12_feed m v1 v2 v3 v4 v5 = some r) : V Γ d mX12_feed 0 [(0, .ref T), (1, .int v1), (2, .int v2), (3, .int v3), (4, .int v4), (5, .int v5)] [] (hm T h m) (some (.int r.1), (hm T h r.2)) := by
  unfold gX12_feed at H
  refine v_aload_n (q := 1) 0 dX12_feed_0 rfl rfl rfl ?_
  refine ur_gI (q := 4) (x := 0) (k := 11) rs dX12_feed_1 w1367 (Nat.le_of_ble_eq_true rfl) rfl rfl ?_
  refine v_bipush (v := 20) (q := 6) dX12_feed_4 (by decide) rfl ?_
  refine v_iadd (q := 7) dX12_feed_6 rfl ?_
  refine v_sipush (v := 900) (q := 10) dX12_feed_7 (by decide) rfl ?_
  refine v_icmp_le (q1 := 15) (q2 := 13) dX12_feed_10 (by decide) rfl (fun c1 => ?_) (fun c1 => ?_)
  · replace H := ip c1 H
    refine v_iconst (v := 0) (q := 16) dX12_feed_15 (by decide) rfl ?_
    refine v_istore (L' := [(6, .int (0 : Int32)), (0, .ref T), (1, .int v1), (2, .int v2), (3, .int v3), (4, .int v4), (5, .int v5)]) (q := 18) dX12_feed_16 (by decide) rfl rfl ?_
    replace H := bs H; obtain ⟨e9, e9L, H⟩ := H
    refine V.sub [1, 2, 3, 4, 5, 6, 0] rfl ?_
    refine lp_V (P := (fun s18 => V Γ d mX12_feed 18 [(0, .ref T), (1, .int v1), (2, .int v2), (3, .int v3), (4, .int v4), (5, .int v5), (6, .int s18.1)] [] (hm T h s18.2) (some (.int r.1), (hm T h r.2)))) (E := (fun e => V Γ d mX12_feed 105 [(0, .ref T)] [] (hm T h e) (some (.int r.1), (hm T h r.2)))) (fun s r hb kI kE => sgbX12_feed_18 hd rs (s18 := s) (r := r) hb kI kE) FU ((0 : Int32), m) e9 e9L ?_
    refine v_aload_n (q := 106) 0 dX12_feed_105 rfl rfl rfl ?_
    refine v_dup (q := 107) dX12_feed_106 rfl rfl ?_
    refine ur_gI (q := 110) (x := 0) (k := 11) rs dX12_feed_107 w1367 (Nat.le_of_ble_eq_true rfl) rfl rfl ?_
    refine v_bipush (v := 20) (q := 112) dX12_feed_110 (by decide) rfl ?_
    refine v_iadd (q := 113) dX12_feed_112 rfl ?_
    replace H := bs H; obtain ⟨m10, m10e, H⟩ := H
    refine ur_pI (q := 116) (k := 11) rs m10e dX12_feed_113 w1367 (Nat.le_of_ble_eq_true rfl) rfl rfl rfl ?_
    refine v_aload_n (q := 117) 0 dX12_feed_116 rfl rfl rfl ?_
    refine ur_gI (q := 120) (x := 0) (k := 11) rs dX12_feed_117 w1367 (Nat.le_of_ble_eq_true rfl) rfl rfl ?_
    cases H
    exact v_ireturn rfl dX12_feed_120
  · replace H := ine c1 H
    refine v_iconst (v := -1) (q := 14) dX12_feed_13 (by decide) rfl ?_
    cases H
    exact v_ireturn rfl dX12_feed_14
def mX12_keepAct : MI := (yX12_keepAct, cX12_keepAct, 2, none)
theorem oX12_keepAct : mOK mX12_keepAct 0 := ⟨by decide +kernel, by decide +kernel, by decide +kernel, by decide, w1636, w0150⟩
def gbX12_keepAct_52  (s52 : Int32 × Mem) : Option ((Int32 × Mem) ⊕ (Mem)) :=
if (9685 : Int32) ≤ s52.1 then (
some (.inr s52.2)) else (
(rd s52.2 1 9685 s52.1).bind fun x3 =>
(wr s52.2 36 125905 (((9685 : Int32) * (s52.2 0 56)) + s52.1) x3).bind fun m4 =>
(some (s52.1 + (1 : Int32))).bind fun x5 =>
some (.inl (x5, m4)))
set_option maxRecDepth 20000 in
set_option maxHeartbeats 4000000 in
theorem sgbX12_keepAct_52 {Γ : Gm} {d : Nat} (hd : 1 ≤ d) {T : Nat} {h : Hp} (rs : RS T h)  {s52 : Int32 × Mem} {r : (Int32 × Mem) ⊕ (Mem)} {t : Option Value × Hp} (H : gbX12_keepAct_52  s52 = some r) (kI : ∀ s, r = .inl s → (fun s52 => V Γ d mX12_keepAct 52 [(0, .ref T), (1, .int s52.1)] [] (hm T h s52.2) t) s) (kE : ∀ e, r = .inr e → (fun e => V Γ d mX12_keepAct 86 [(0, .ref T)] [] (hm T h e) t) e) : V Γ d mX12_keepAct 52 [(0, .ref T), (1, .int s52.1)] [] (hm T h s52.2) t := by
  unfold gbX12_keepAct_52 at H
  refine v_iload_n (q := 53) 1 dX12_keepAct_52 rfl rfl rfl ?_
  refine v_sipush (v := 9685) (q := 56) dX12_keepAct_53 (by decide) rfl ?_
  refine v_icmp_ge (q1 := 86) (q2 := 59) dX12_keepAct_56 (by decide) rfl (fun c2 => ?_) (fun c2 => ?_)
  · replace H := ip c2 H
    exact V.sub [0] rfl (kE s52.2 (Option.some.inj H).symm)
  · replace H := ine c2 H
    refine v_aload_n (q := 60) 0 dX12_keepAct_59 rfl rfl rfl ?_
    refine ur_arr (q := 63) rs rt53 dX12_keepAct_60 w1409 (Nat.le_of_ble_eq_true rfl) rfl rfl ?_
    refine v_sipush (v := 9685) (q := 66) dX12_keepAct_63 (by decide) rfl ?_
    refine v_aload_n (q := 67) 0 dX12_keepAct_66 rfl rfl rfl ?_
    refine ur_gI (q := 70) (x := 0) (k := 56) rs dX12_keepAct_67 w1412 (Nat.le_of_ble_eq_true rfl) rfl rfl ?_
    refine v_imul (q := 71) dX12_keepAct_70 rfl ?_
    refine v_iload_n (q := 72) 1 dX12_keepAct_71 rfl rfl rfl ?_
    refine v_iadd (q := 73) dX12_keepAct_72 rfl ?_
    refine v_aload_n (q := 74) 0 dX12_keepAct_73 rfl rfl rfl ?_
    refine ur_arr (q := 77) rs rt0 dX12_keepAct_74 w1356 (Nat.le_of_ble_eq_true rfl) rfl rfl ?_
    refine v_iload_n (q := 78) 1 dX12_keepAct_77 rfl rfl rfl ?_
    replace H := bs H; obtain ⟨x3, x3e, H⟩ := H
    refine ur_rd (q := 79) rs rt0 x3e dX12_keepAct_78 rfl ?_
    replace H := bs H; obtain ⟨m4, m4e, H⟩ := H
    refine ur_wr (q := 80) rs rt53 m4e dX12_keepAct_79 rfl ?_
    replace H := bs H; obtain ⟨x5, x5e, H⟩ := H
    refine v_iinc (v := x5) (L' := [(1, .int x5), (0, .ref T)]) (q := 83) 1 dX12_keepAct_80 rfl (Option.some.inj x5e) (by decide) rfl rfl ?_
    refine v_goto (q := 52) dX12_keepAct_83 (by decide) ?_
    exact V.sub [1, 0] rfl (kI (x5, m4) (Option.some.inj H).symm)
def gjX12_keepAct_50 (m : Mem) : Option (Mem) :=
(lp (gbX12_keepAct_52) FU ((0 : Int32), m)).bind fun e6 =>
(some (up e6 0 56 ((e6 0 56) + (1 : Int32)))).bind fun m7 =>
(some (up m7 0 57 (0 : Int32))).bind fun m8 =>
some m8
set_option maxRecDepth 20000 in
set_option maxHeartbeats 4000000 in
theorem sgjX12_keepAct_50 {Γ : Gm} {d : Nat} (hd : 1 ≤ d) {T : Nat} {h : Hp} (rs : RS T h) {m : Mem} {r : Mem} (H : gjX12_keepAct_50 m = some r) : V Γ d mX12_keepAct 50 [(0, .ref T)] [] (hm T h m) (none, (hm T h r)) := by
  unfold gjX12_keepAct_50 at H
  refine v_iconst (v := 0) (q := 51) dX12_keepAct_50 (by decide) rfl ?_
  refine v_istore_n (L' := [(1, .int (0 : Int32)), (0, .ref T)]) (q := 52) dX12_keepAct_51 rfl (by decide) rfl rfl ?_
  replace H := bs H; obtain ⟨e6, e6L, H⟩ := H
  refine V.sub [1, 0] rfl ?_
  refine lp_V (P := (fun s52 => V Γ d mX12_keepAct 52 [(0, .ref T), (1, .int s52.1)] [] (hm T h s52.2) (none, (hm T h r)))) (E := (fun e => V Γ d mX12_keepAct 86 [(0, .ref T)] [] (hm T h e) (none, (hm T h r)))) (fun s r hb kI kE => sgbX12_keepAct_52 hd rs (s52 := s) (r := r) hb kI kE) FU ((0 : Int32), m) e6 e6L ?_
  refine v_aload_n (q := 87) 0 dX12_keepAct_86 rfl rfl rfl ?_
  refine v_dup (q := 88) dX12_keepAct_87 rfl rfl ?_
  refine ur_gI (q := 91) (x := 0) (k := 56) rs dX12_keepAct_88 w1412 (Nat.le_of_ble_eq_true rfl) rfl rfl ?_
  refine v_iconst (v := 1) (q := 92) dX12_keepAct_91 (by decide) rfl ?_
  refine v_iadd (q := 93) dX12_keepAct_92 rfl ?_
  replace H := bs H; obtain ⟨m7, m7e, H⟩ := H
  refine ur_pI (q := 96) (k := 56) rs m7e dX12_keepAct_93 w1412 (Nat.le_of_ble_eq_true rfl) rfl rfl rfl ?_
  refine v_aload_n (q := 97) 0 dX12_keepAct_96 rfl rfl rfl ?_
  refine v_iconst (v := 0) (q := 98) dX12_keepAct_97 (by decide) rfl ?_
  replace H := bs H; obtain ⟨m8, m8e, H⟩ := H
  refine ur_pI (q := 101) (k := 57) rs m8e dX12_keepAct_98 w1413 (Nat.le_of_ble_eq_true rfl) rfl rfl rfl ?_
  cases H
  exact v_return rfl dX12_keepAct_101
def gbX12_keepAct_11  (s11 : Int32 × Mem) : Option ((Int32 × Mem) ⊕ (Mem)) :=
if (116220 : Int32) ≤ s11.1 then (
some (.inr s11.2)) else (
(rd s11.2 36 125905 (s11.1 + (9685 : Int32))).bind fun x10 =>
(wr s11.2 36 125905 s11.1 x10).bind fun m11 =>
(some (s11.1 + (1 : Int32))).bind fun x12 =>
some (.inl (x12, m11)))
set_option maxRecDepth 20000 in
set_option maxHeartbeats 4000000 in
theorem sgbX12_keepAct_11 {Γ : Gm} {d : Nat} (hd : 1 ≤ d) {T : Nat} {h : Hp} (rs : RS T h)  {s11 : Int32 × Mem} {r : (Int32 × Mem) ⊕ (Mem)} {t : Option Value × Hp} (H : gbX12_keepAct_11  s11 = some r) (kI : ∀ s, r = .inl s → (fun s11 => V Γ d mX12_keepAct 11 [(0, .ref T), (1, .int s11.1)] [] (hm T h s11.2) t) s) (kE : ∀ e, r = .inr e → (fun e => V Γ d mX12_keepAct 40 [(0, .ref T)] [] (hm T h e) t) e) : V Γ d mX12_keepAct 11 [(0, .ref T), (1, .int s11.1)] [] (hm T h s11.2) t := by
  unfold gbX12_keepAct_11 at H
  refine v_iload_n (q := 12) 1 dX12_keepAct_11 rfl rfl rfl ?_
  refine v_ldcw (v := 116220) (q := 15) dX12_keepAct_12 w1637 rfl ?_
  refine v_icmp_ge (q1 := 40) (q2 := 18) dX12_keepAct_15 (by decide) rfl (fun c9 => ?_) (fun c9 => ?_)
  · replace H := ip c9 H
    exact V.sub [0] rfl (kE s11.2 (Option.some.inj H).symm)
  · replace H := ine c9 H
    refine v_aload_n (q := 19) 0 dX12_keepAct_18 rfl rfl rfl ?_
    refine ur_arr (q := 22) rs rt53 dX12_keepAct_19 w1409 (Nat.le_of_ble_eq_true rfl) rfl rfl ?_
    refine v_iload_n (q := 23) 1 dX12_keepAct_22 rfl rfl rfl ?_
    refine v_aload_n (q := 24) 0 dX12_keepAct_23 rfl rfl rfl ?_
    refine ur_arr (q := 27) rs rt53 dX12_keepAct_24 w1409 (Nat.le_of_ble_eq_true rfl) rfl rfl ?_
    refine v_iload_n (q := 28) 1 dX12_keepAct_27 rfl rfl rfl ?_
    refine v_sipush (v := 9685) (q := 31) dX12_keepAct_28 (by decide) rfl ?_
    refine v_iadd (q := 32) dX12_keepAct_31 rfl ?_
    replace H := bs H; obtain ⟨x10, x10e, H⟩ := H
    refine ur_rd (q := 33) rs rt53 x10e dX12_keepAct_32 rfl ?_
    replace H := bs H; obtain ⟨m11, m11e, H⟩ := H
    refine ur_wr (q := 34) rs rt53 m11e dX12_keepAct_33 rfl ?_
    replace H := bs H; obtain ⟨x12, x12e, H⟩ := H
    refine v_iinc (v := x12) (L' := [(1, .int x12), (0, .ref T)]) (q := 37) 1 dX12_keepAct_34 rfl (Option.some.inj x12e) (by decide) rfl rfl ?_
    refine v_goto (q := 11) dX12_keepAct_37 (by decide) ?_
    exact V.sub [1, 0] rfl (kI (x12, m11) (Option.some.inj H).symm)
def gX12_keepAct (m : Mem)  : Option (Mem) :=
if (m 0 56) = (12 : Int32) then (
(lp (gbX12_keepAct_11) FU ((0 : Int32), m)).bind fun e13 =>
(some (up e13 0 56 ((e13 0 56) - (1 : Int32)))).bind fun m14 =>
gjX12_keepAct_50 m14) else (
gjX12_keepAct_50 m)
set_option maxRecDepth 20000 in
set_option maxHeartbeats 4000000 in
theorem sgX12_keepAct {Γ : Gm} {d : Nat} (hd : 1 ≤ d) {T : Nat} {h : Hp} (rs : RS T h) {m : Mem}  {r : Mem} (H : gX12_keepAct m  = some r) : V Γ d mX12_keepAct 0 [(0, .ref T)] [] (hm T h m) (none, (hm T h r)) := by
  unfold gX12_keepAct at H
  refine v_aload_n (q := 1) 0 dX12_keepAct_0 rfl rfl rfl ?_
  refine ur_gI (q := 4) (x := 0) (k := 56) rs dX12_keepAct_1 w1412 (Nat.le_of_ble_eq_true rfl) rfl rfl ?_
  refine v_bipush (v := 12) (q := 6) dX12_keepAct_4 (by decide) rfl ?_
  refine v_icmp_ne (q1 := 50) (q2 := 9) dX12_keepAct_6 (by decide) rfl (fun c1 => ?_) (fun c1 => ?_)
  · replace H := ine c1 H
    exact V.sub [0] rfl (sgjX12_keepAct_50 hd rs H)
  · replace H := ip c1 H
    refine v_iconst (v := 0) (q := 10) dX12_keepAct_9 (by decide) rfl ?_
    refine v_istore_n (L' := [(1, .int (0 : Int32)), (0, .ref T)]) (q := 11) dX12_keepAct_10 rfl (by decide) rfl rfl ?_
    replace H := bs H; obtain ⟨e13, e13L, H⟩ := H
    refine V.sub [1, 0] rfl ?_
    refine lp_V (P := (fun s11 => V Γ d mX12_keepAct 11 [(0, .ref T), (1, .int s11.1)] [] (hm T h s11.2) (none, (hm T h r)))) (E := (fun e => V Γ d mX12_keepAct 40 [(0, .ref T)] [] (hm T h e) (none, (hm T h r)))) (fun s r hb kI kE => sgbX12_keepAct_11 hd rs (s11 := s) (r := r) hb kI kE) FU ((0 : Int32), m) e13 e13L ?_
    refine v_aload_n (q := 41) 0 dX12_keepAct_40 rfl rfl rfl ?_
    refine v_dup (q := 42) dX12_keepAct_41 rfl rfl ?_
    refine ur_gI (q := 45) (x := 0) (k := 56) rs dX12_keepAct_42 w1412 (Nat.le_of_ble_eq_true rfl) rfl rfl ?_
    refine v_iconst (v := 1) (q := 46) dX12_keepAct_45 (by decide) rfl ?_
    refine v_isub (q := 47) dX12_keepAct_46 rfl ?_
    replace H := bs H; obtain ⟨m14, m14e, H⟩ := H
    refine ur_pI (q := 50) (k := 56) rs m14e dX12_keepAct_47 w1412 (Nat.le_of_ble_eq_true rfl) rfl rfl rfl ?_
    exact V.sub [0] rfl (sgjX12_keepAct_50 hd rs H)
def mX12_forget : MI := (yX12_forget, cX12_forget, 2, some .int)
theorem oX12_forget : mOK mX12_forget 0 := ⟨by decide +kernel, by decide +kernel, by decide +kernel, by decide, w1741, w0150⟩
def gX12_forget (m : Mem)  : Option (Int32 × Mem) :=
(gX12_keepAct m).bind fun x1 =>
(rd x1 1 9685 (272 : Int32)).bind fun x2 =>
(gX12_clearAll x1).bind fun x3 =>
some (x2, x3)
set_option maxRecDepth 20000 in
set_option maxHeartbeats 4000000 in
theorem sgX12_forget {Γ : Gm} {d : Nat} (hd : 2 ≤ d) {T : Nat} {h : Hp} (rs : RS T h) {m : Mem}  {r : Int32 × Mem} (H : gX12_forget m  = some r) : V Γ d mX12_forget 0 [(0, .ref T)] [] (hm T h m) (some (.int r.1), (hm T h r.2)) := by
  unfold gX12_forget at H
  refine v_aload_n (q := 1) 0 dX12_forget_0 rfl rfl rfl ?_
  replace H := bs H; obtain ⟨x1, x1e, H⟩ := H
  refine u_callV0 (M' := mX12_keepAct) (d' := 1) (rc := (RX12, TX12, 58)) (As := []) (st := []) (q := 4) oX12_keepAct dX12_forget_1 w1633 w1635 w0072 rfl rfl (RS.rc rs).1 (RS.rc rs).2 rfl (Nat.le_of_ble_eq_true rfl) (Nat.le_of_ble_eq_true rfl) (Nat.lt_of_lt_of_le (by decide) hd) rfl (sgX12_keepAct (Nat.le_refl _) rs x1e) rfl ?_
  refine v_aload_n (q := 5) 0 dX12_forget_4 rfl rfl rfl ?_
  refine ur_arr (q := 8) rs rt0 dX12_forget_5 w1356 (Nat.le_of_ble_eq_true rfl) rfl rfl ?_
  refine v_sipush (v := 272) (q := 11) dX12_forget_8 (by decide) rfl ?_
  replace H := bs H; obtain ⟨x2, x2e, H⟩ := H
  refine ur_rd (q := 12) rs rt0 x2e dX12_forget_11 rfl ?_
  refine v_istore_n (L' := [(1, .int x2), (0, .ref T)]) (q := 13) dX12_forget_12 rfl (by decide) rfl rfl ?_
  refine v_aload_n (q := 14) 1 dX12_forget_13 rfl rfl rfl ?_
  replace H := bs H; obtain ⟨x3, x3e, H⟩ := H
  refine u_callV0 (M' := mX12_clearAll) (d' := 1) (rc := (RX12, TX12, 58)) (As := []) (st := []) (q := 17) oX12_clearAll dX12_forget_14 w1352 w1354 w0052 rfl rfl (RS.rc rs).1 (RS.rc rs).2 rfl (Nat.le_of_ble_eq_true rfl) (Nat.le_of_ble_eq_true rfl) (Nat.lt_of_lt_of_le (by decide) hd) rfl (sgX12_clearAll (Nat.le_refl _) rs x3e) rfl ?_
  refine v_iload_n (q := 18) 0 dX12_forget_17 rfl rfl rfl ?_
  cases H
  exact v_ireturn rfl dX12_forget_18
def mX12_image : MI := (yX12_image, cX12_image, 3, some .int)
theorem oX12_image : mOK mX12_image 1 := ⟨by decide +kernel, by decide +kernel, by decide +kernel, by decide, w2023, w0150⟩
def gbX12_image_13 (u1 : Int32) (s13 : Int32 × Mem) : Option ((Int32 × Mem) ⊕ (Mem)) :=
if (9685 : Int32) ≤ s13.1 then (
some (.inr s13.2)) else (
(rd s13.2 1 9685 s13.1).bind fun x4 =>
(wr s13.2 37 19370 (((9685 : Int32) * u1) + s13.1) x4).bind fun m5 =>
(some (s13.1 + (1 : Int32))).bind fun x6 =>
some (.inl (x6, m5)))
set_option maxRecDepth 20000 in
set_option maxHeartbeats 4000000 in
theorem sgbX12_image_13 {Γ : Gm} {d : Nat} (hd : 2 ≤ d) {T : Nat} {h : Hp} (rs : RS T h) {u1 : Int32} {s13 : Int32 × Mem} {r : (Int32 × Mem) ⊕ (Mem)} {t : Option Value × Hp} (H : gbX12_image_13 u1 s13 = some r) (kI : ∀ s, r = .inl s → (fun s13 => V Γ d mX12_image 13 [(0, .ref T), (1, .int u1), (2, .int s13.1)] [] (hm T h s13.2) t) s) (kE : ∀ e, r = .inr e → (fun e => V Γ d mX12_image 44 [(0, .ref T), (1, .int u1)] [] (hm T h e) t) e) : V Γ d mX12_image 13 [(0, .ref T), (1, .int u1), (2, .int s13.1)] [] (hm T h s13.2) t := by
  unfold gbX12_image_13 at H
  refine v_iload_n (q := 14) 2 dX12_image_13 rfl rfl rfl ?_
  refine v_sipush (v := 9685) (q := 17) dX12_image_14 (by decide) rfl ?_
  refine v_icmp_ge (q1 := 44) (q2 := 20) dX12_image_17 (by decide) rfl (fun c3 => ?_) (fun c3 => ?_)
  · replace H := ip c3 H
    exact V.sub [0, 1] rfl (kE s13.2 (Option.some.inj H).symm)
  · replace H := ine c3 H
    refine v_aload_n (q := 21) 0 dX12_image_20 rfl rfl rfl ?_
    refine ur_arr (q := 24) rs rt54 dX12_image_21 w1410 (Nat.le_of_ble_eq_true rfl) rfl rfl ?_
    refine v_sipush (v := 9685) (q := 27) dX12_image_24 (by decide) rfl ?_
    refine v_iload_n (q := 28) 1 dX12_image_27 rfl rfl rfl ?_
    refine v_imul (q := 29) dX12_image_28 rfl ?_
    refine v_iload_n (q := 30) 2 dX12_image_29 rfl rfl rfl ?_
    refine v_iadd (q := 31) dX12_image_30 rfl ?_
    refine v_aload_n (q := 32) 0 dX12_image_31 rfl rfl rfl ?_
    refine ur_arr (q := 35) rs rt0 dX12_image_32 w1356 (Nat.le_of_ble_eq_true rfl) rfl rfl ?_
    refine v_iload_n (q := 36) 2 dX12_image_35 rfl rfl rfl ?_
    replace H := bs H; obtain ⟨x4, x4e, H⟩ := H
    refine ur_rd (q := 37) rs rt0 x4e dX12_image_36 rfl ?_
    replace H := bs H; obtain ⟨m5, m5e, H⟩ := H
    refine ur_wr (q := 38) rs rt54 m5e dX12_image_37 rfl ?_
    replace H := bs H; obtain ⟨x6, x6e, H⟩ := H
    refine v_iinc (v := x6) (L' := [(2, .int x6), (0, .ref T), (1, .int u1)]) (q := 41) 2 dX12_image_38 rfl (Option.some.inj x6e) (by decide) rfl rfl ?_
    refine v_goto (q := 13) dX12_image_41 (by decide) ?_
    exact V.sub [1, 2, 0] rfl (kI (x6, m5) (Option.some.inj H).symm)
def gX12_image (m : Mem) (v1 : Int32) : Option (Int32 × Mem) :=
(gX12_isIn v1 (0 : Int32) (1 : Int32)).bind fun x1 =>
if x1 = 0 then (
some (((-1 : Int32), m))) else (
(lp (gbX12_image_13 v1) FU ((0 : Int32), m)).bind fun e7 =>
(wrZ e7 38 2 v1 (1 : Int32)).bind fun m8 =>
(rd m8 1 9685 (272 : Int32)).bind fun x9 =>
some (x9, m8))
set_option maxRecDepth 20000 in
set_option maxHeartbeats 4000000 in
theorem sgX12_image {Γ : Gm} {d : Nat} (hd : 2 ≤ d) {T : Nat} {h : Hp} (rs : RS T h) {m : Mem} {v1 : Int32} {r : Int32 × Mem} (H : gX12_image m v1 = some r) : V Γ d mX12_image 0 [(0, .ref T), (1, .int v1)] [] (hm T h m) (some (.int r.1), (hm T h r.2)) := by
  unfold gX12_image at H
  refine v_iload_n (q := 1) 1 dX12_image_0 rfl rfl rfl ?_
  refine v_iconst (v := 0) (q := 2) dX12_image_1 (by decide) rfl ?_
  refine v_iconst (v := 1) (q := 3) dX12_image_2 (by decide) rfl ?_
  replace H := bs H; obtain ⟨x1, x1e, H⟩ := H
  refine u_callS1 (M' := mX12_isIn) (d' := 1) (As := [.int v1, .int (0 : Int32), .int (1 : Int32)]) (st := []) (q := 6) oX12_isIn dX12_image_3 w1618 w1619 rfl (Nat.le_of_ble_eq_true rfl) (Nat.le_of_ble_eq_true rfl) (Nat.lt_of_lt_of_le (by decide) hd) rfl (sgX12_isIn (Nat.le_refl _) x1e) rfl ?_
  refine v_if_ne (q1 := 11) (q2 := 9) dX12_image_6 (by decide) rfl (fun c2 => ?_) (fun c2 => ?_)
  · replace H := ine c2 H
    refine v_iconst (v := 0) (q := 12) dX12_image_11 (by decide) rfl ?_
    refine v_istore_n (L' := [(2, .int (0 : Int32)), (0, .ref T), (1, .int v1)]) (q := 13) dX12_image_12 rfl (by decide) rfl rfl ?_
    replace H := bs H; obtain ⟨e7, e7L, H⟩ := H
    refine V.sub [1, 2, 0] rfl ?_
    refine lp_V (P := (fun s13 => V Γ d mX12_image 13 [(0, .ref T), (1, .int v1), (2, .int s13.1)] [] (hm T h s13.2) (some (.int r.1), (hm T h r.2)))) (E := (fun e => V Γ d mX12_image 44 [(0, .ref T), (1, .int v1)] [] (hm T h e) (some (.int r.1), (hm T h r.2)))) (fun s r hb kI kE => sgbX12_image_13 hd rs (s13 := s) (r := r) hb kI kE) FU ((0 : Int32), m) e7 e7L ?_
    refine v_aload_n (q := 45) 0 dX12_image_44 rfl rfl rfl ?_
    refine ur_arr (q := 48) rs rt55 dX12_image_45 w1411 (Nat.le_of_ble_eq_true rfl) rfl rfl ?_
    refine v_iload_n (q := 49) 1 dX12_image_48 rfl rfl rfl ?_
    refine v_iconst (v := 1) (q := 50) dX12_image_49 (by decide) rfl ?_
    replace H := bs H; obtain ⟨m8, m8e, H⟩ := H
    refine ur_wrZ (q := 51) rs rt55 m8e dX12_image_50 rfl ?_
    refine v_aload_n (q := 52) 0 dX12_image_51 rfl rfl rfl ?_
    refine ur_arr (q := 55) rs rt0 dX12_image_52 w1356 (Nat.le_of_ble_eq_true rfl) rfl rfl ?_
    refine v_sipush (v := 272) (q := 58) dX12_image_55 (by decide) rfl ?_
    replace H := bs H; obtain ⟨x9, x9e, H⟩ := H
    refine ur_rd (q := 59) rs rt0 x9e dX12_image_58 rfl ?_
    cases H
    exact v_ireturn rfl dX12_image_59
  · replace H := ip c2 H
    refine v_iconst (v := -1) (q := 10) dX12_image_9 (by decide) rfl ?_
    cases H
    exact v_ireturn rfl dX12_image_10
def mX12_startAnew : MI := (yX12_startAnew, cX12_startAnew, 2, none)
theorem oX12_startAnew : mOK mX12_startAnew 0 := ⟨by decide +kernel, by decide +kernel, by decide +kernel, by decide, w1351, w0150⟩
def gbX12_startAnew_6  (s6 : Int32 × Mem) : Option ((Int32 × Mem) ⊕ (Mem)) :=
if (72 : Int32) ≤ s6.1 then (
some (.inr s6.2)) else (
(rd s6.2 8 144 (((72 : Int32) * (s6.2 0 9)) + s6.1)).bind fun x3 =>
(wr s6.2 1 9685 ((1541 : Int32) + s6.1) x3).bind fun m4 =>
(rd m4 9 144 (((72 : Int32) * (m4 0 9)) + s6.1)).bind fun x5 =>
(wr m4 1 9685 ((1613 : Int32) + s6.1) x5).bind fun m6 =>
(some (s6.1 + (1 : Int32))).bind fun x7 =>
some (.inl (x7, m6)))
set_option maxRecDepth 20000 in
set_option maxHeartbeats 4000000 in
theorem sgbX12_startAnew_6 {Γ : Gm} {d : Nat} (hd : 2 ≤ d) {T : Nat} {h : Hp} (rs : RS T h)  {s6 : Int32 × Mem} {r : (Int32 × Mem) ⊕ (Mem)} {t : Option Value × Hp} (H : gbX12_startAnew_6  s6 = some r) (kI : ∀ s, r = .inl s → (fun s6 => V Γ d mX12_startAnew 6 [(0, .ref T), (1, .int s6.1)] [] (hm T h s6.2) t) s) (kE : ∀ e, r = .inr e → (fun e => V Γ d mX12_startAnew 66 [(0, .ref T)] [] (hm T h e) t) e) : V Γ d mX12_startAnew 6 [(0, .ref T), (1, .int s6.1)] [] (hm T h s6.2) t := by
  unfold gbX12_startAnew_6 at H
  refine v_iload_n (q := 7) 1 dX12_startAnew_6 rfl rfl rfl ?_
  refine v_bipush (v := 72) (q := 9) dX12_startAnew_7 (by decide) rfl ?_
  refine v_icmp_ge (q1 := 66) (q2 := 12) dX12_startAnew_9 (by decide) rfl (fun c2 => ?_) (fun c2 => ?_)
  · replace H := ip c2 H
    exact V.sub [0] rfl (kE s6.2 (Option.some.inj H).symm)
  · replace H := ine c2 H
    refine v_aload_n (q := 13) 0 dX12_startAnew_12 rfl rfl rfl ?_
    refine ur_arr (q := 16) rs rt0 dX12_startAnew_13 w1356 (Nat.le_of_ble_eq_true rfl) rfl rfl ?_
    refine v_sipush (v := 1541) (q := 19) dX12_startAnew_16 (by decide) rfl ?_
    refine v_iload_n (q := 20) 1 dX12_startAnew_19 rfl rfl rfl ?_
    refine v_iadd (q := 21) dX12_startAnew_20 rfl ?_
    refine v_aload_n (q := 22) 0 dX12_startAnew_21 rfl rfl rfl ?_
    refine ur_arr (q := 25) rs rt7 dX12_startAnew_22 w1363 (Nat.le_of_ble_eq_true rfl) rfl rfl ?_
    refine v_bipush (v := 72) (q := 27) dX12_startAnew_25 (by decide) rfl ?_
    refine v_aload_n (q := 28) 0 dX12_startAnew_27 rfl rfl rfl ?_
    refine ur_gI (q := 31) (x := 0) (k := 9) rs dX12_startAnew_28 w1365 (Nat.le_of_ble_eq_true rfl) rfl rfl ?_
    refine v_imul (q := 32) dX12_startAnew_31 rfl ?_
    refine v_iload_n (q := 33) 1 dX12_startAnew_32 rfl rfl rfl ?_
    refine v_iadd (q := 34) dX12_startAnew_33 rfl ?_
    replace H := bs H; obtain ⟨x3, x3e, H⟩ := H
    refine ur_rd (q := 35) rs rt7 x3e dX12_startAnew_34 rfl ?_
    replace H := bs H; obtain ⟨m4, m4e, H⟩ := H
    refine ur_wr (q := 36) rs rt0 m4e dX12_startAnew_35 rfl ?_
    refine v_aload_n (q := 37) 0 dX12_startAnew_36 rfl rfl rfl ?_
    refine ur_arr (q := 40) rs rt0 dX12_startAnew_37 w1356 (Nat.le_of_ble_eq_true rfl) rfl rfl ?_
    refine v_sipush (v := 1613) (q := 43) dX12_startAnew_40 (by decide) rfl ?_
    refine v_iload_n (q := 44) 1 dX12_startAnew_43 rfl rfl rfl ?_
    refine v_iadd (q := 45) dX12_startAnew_44 rfl ?_
    refine v_aload_n (q := 46) 0 dX12_startAnew_45 rfl rfl rfl ?_
    refine ur_arr (q := 49) rs rt8 dX12_startAnew_46 w1364 (Nat.le_of_ble_eq_true rfl) rfl rfl ?_
    refine v_bipush (v := 72) (q := 51) dX12_startAnew_49 (by decide) rfl ?_
    refine v_aload_n (q := 52) 0 dX12_startAnew_51 rfl rfl rfl ?_
    refine ur_gI (q := 55) (x := 0) (k := 9) rs dX12_startAnew_52 w1365 (Nat.le_of_ble_eq_true rfl) rfl rfl ?_
    refine v_imul (q := 56) dX12_startAnew_55 rfl ?_
    refine v_iload_n (q := 57) 1 dX12_startAnew_56 rfl rfl rfl ?_
    refine v_iadd (q := 58) dX12_startAnew_57 rfl ?_
    replace H := bs H; obtain ⟨x5, x5e, H⟩ := H
    refine ur_rd (q := 59) rs rt8 x5e dX12_startAnew_58 rfl ?_
    replace H := bs H; obtain ⟨m6, m6e, H⟩ := H
    refine ur_wr (q := 60) rs rt0 m6e dX12_startAnew_59 rfl ?_
    replace H := bs H; obtain ⟨x7, x7e, H⟩ := H
    refine v_iinc (v := x7) (L' := [(1, .int x7), (0, .ref T)]) (q := 63) 1 dX12_startAnew_60 rfl (Option.some.inj x7e) (by decide) rfl rfl ?_
    refine v_goto (q := 6) dX12_startAnew_63 (by decide) ?_
    exact V.sub [1, 0] rfl (kI (x7, m6) (Option.some.inj H).symm)
def gbX12_startAnew_78  (s78 : Int32 × Mem) : Option ((Int32 × Mem) ⊕ (Mem)) :=
if (2 : Int32) ≤ s78.1 then (
some (.inr s78.2)) else (
(wrZ s78.2 38 2 s78.1 (0 : Int32)).bind fun m12 =>
(some (s78.1 + (1 : Int32))).bind fun x13 =>
some (.inl (x13, m12)))
set_option maxRecDepth 20000 in
set_option maxHeartbeats 4000000 in
theorem sgbX12_startAnew_78 {Γ : Gm} {d : Nat} (hd : 2 ≤ d) {T : Nat} {h : Hp} (rs : RS T h)  {s78 : Int32 × Mem} {r : (Int32 × Mem) ⊕ (Mem)} {t : Option Value × Hp} (H : gbX12_startAnew_78  s78 = some r) (kI : ∀ s, r = .inl s → (fun s78 => V Γ d mX12_startAnew 78 [(0, .ref T), (1, .int s78.1)] [] (hm T h s78.2) t) s) (kE : ∀ e, r = .inr e → (fun e => V Γ d mX12_startAnew 96 [] [] (hm T h e) t) e) : V Γ d mX12_startAnew 78 [(0, .ref T), (1, .int s78.1)] [] (hm T h s78.2) t := by
  unfold gbX12_startAnew_78 at H
  refine v_iload_n (q := 79) 1 dX12_startAnew_78 rfl rfl rfl ?_
  refine v_iconst (v := 2) (q := 80) dX12_startAnew_79 (by decide) rfl ?_
  refine v_icmp_ge (q1 := 96) (q2 := 83) dX12_startAnew_80 (by decide) rfl (fun c11 => ?_) (fun c11 => ?_)
  · replace H := ip c11 H
    exact V.sub [] rfl (kE s78.2 (Option.some.inj H).symm)
  · replace H := ine c11 H
    refine v_aload_n (q := 84) 0 dX12_startAnew_83 rfl rfl rfl ?_
    refine ur_arr (q := 87) rs rt55 dX12_startAnew_84 w1411 (Nat.le_of_ble_eq_true rfl) rfl rfl ?_
    refine v_iload_n (q := 88) 1 dX12_startAnew_87 rfl rfl rfl ?_
    refine v_iconst (v := 0) (q := 89) dX12_startAnew_88 (by decide) rfl ?_
    replace H := bs H; obtain ⟨m12, m12e, H⟩ := H
    refine ur_wrZ (q := 90) rs rt55 m12e dX12_startAnew_89 rfl ?_
    replace H := bs H; obtain ⟨x13, x13e, H⟩ := H
    refine v_iinc (v := x13) (L' := [(1, .int x13), (0, .ref T)]) (q := 93) 1 dX12_startAnew_90 rfl (Option.some.inj x13e) (by decide) rfl rfl ?_
    refine v_goto (q := 78) dX12_startAnew_93 (by decide) ?_
    exact V.sub [1, 0] rfl (kI (x13, m12) (Option.some.inj H).symm)
def gX12_startAnew (m : Mem)  : Option (Mem) :=
(gX12_clearAll m).bind fun x1 =>
(lp (gbX12_startAnew_6) FU ((0 : Int32), x1)).bind fun e8 =>
(some (up e8 0 56 (0 : Int32))).bind fun m9 =>
(some (up m9 0 57 (0 : Int32))).bind fun m10 =>
(lp (gbX12_startAnew_78) FU ((0 : Int32), m10)).bind fun e14 =>
some e14
set_option maxRecDepth 20000 in
set_option maxHeartbeats 4000000 in
theorem sgX12_startAnew {Γ : Gm} {d : Nat} (hd : 2 ≤ d) {T : Nat} {h : Hp} (rs : RS T h) {m : Mem}  {r : Mem} (H : gX12_startAnew m  = some r) : V Γ d mX12_startAnew 0 [(0, .ref T)] [] (hm T h m) (none, (hm T h r)) := by
  unfold gX12_startAnew at H
  refine v_aload_n (q := 1) 0 dX12_startAnew_0 rfl rfl rfl ?_
  replace H := bs H; obtain ⟨x1, x1e, H⟩ := H
  refine u_callV0 (M' := mX12_clearAll) (d' := 1) (rc := (RX12, TX12, 58)) (As := []) (st := []) (q := 4) oX12_clearAll dX12_startAnew_1 w1352 w1354 w0052 rfl rfl (RS.rc rs).1 (RS.rc rs).2 rfl (Nat.le_of_ble_eq_true rfl) (Nat.le_of_ble_eq_true rfl) (Nat.lt_of_lt_of_le (by decide) hd) rfl (sgX12_clearAll (Nat.le_refl _) rs x1e) rfl ?_
  refine v_iconst (v := 0) (q := 5) dX12_startAnew_4 (by decide) rfl ?_
  refine v_istore_n (L' := [(1, .int (0 : Int32)), (0, .ref T)]) (q := 6) dX12_startAnew_5 rfl (by decide) rfl rfl ?_
  replace H := bs H; obtain ⟨e8, e8L, H⟩ := H
  refine V.sub [1, 0] rfl ?_
  refine lp_V (P := (fun s6 => V Γ d mX12_startAnew 6 [(0, .ref T), (1, .int s6.1)] [] (hm T h s6.2) (none, (hm T h r)))) (E := (fun e => V Γ d mX12_startAnew 66 [(0, .ref T)] [] (hm T h e) (none, (hm T h r)))) (fun s r hb kI kE => sgbX12_startAnew_6 hd rs (s6 := s) (r := r) hb kI kE) FU ((0 : Int32), x1) e8 e8L ?_
  refine v_aload_n (q := 67) 0 dX12_startAnew_66 rfl rfl rfl ?_
  refine v_iconst (v := 0) (q := 68) dX12_startAnew_67 (by decide) rfl ?_
  replace H := bs H; obtain ⟨m9, m9e, H⟩ := H
  refine ur_pI (q := 71) (k := 56) rs m9e dX12_startAnew_68 w1412 (Nat.le_of_ble_eq_true rfl) rfl rfl rfl ?_
  refine v_aload_n (q := 72) 0 dX12_startAnew_71 rfl rfl rfl ?_
  refine v_iconst (v := 0) (q := 73) dX12_startAnew_72 (by decide) rfl ?_
  replace H := bs H; obtain ⟨m10, m10e, H⟩ := H
  refine ur_pI (q := 76) (k := 57) rs m10e dX12_startAnew_73 w1413 (Nat.le_of_ble_eq_true rfl) rfl rfl rfl ?_
  refine v_iconst (v := 0) (q := 77) dX12_startAnew_76 (by decide) rfl ?_
  refine v_istore_n (L' := [(1, .int (0 : Int32)), (0, .ref T)]) (q := 78) dX12_startAnew_77 rfl (by decide) rfl rfl ?_
  replace H := bs H; obtain ⟨e14, e14L, H⟩ := H
  refine V.sub [1, 0] rfl ?_
  refine lp_V (P := (fun s78 => V Γ d mX12_startAnew 78 [(0, .ref T), (1, .int s78.1)] [] (hm T h s78.2) (none, (hm T h r)))) (E := (fun e => V Γ d mX12_startAnew 96 [] [] (hm T h e) (none, (hm T h r)))) (fun s r hb kI kE => sgbX12_startAnew_78 hd rs (s78 := s) (r := r) hb kI kE) FU ((0 : Int32), m10) e14 e14L ?_
  cases H
  exact v_return rfl dX12_startAnew_96
def mX12_isBlank : MI := (yX12_isBlank, cX12_isBlank, 2, some .boolean)
theorem oX12_isBlank : mOK mX12_isBlank 1 := ⟨by decide +kernel, by decide +kernel, by decide +kernel, by decide, w1554, w0150⟩
def gjX12_isBlank_35 (y0 : Int32) (m : Mem) : Option (Int32) :=
(bz y0).bind fun x2 =>
some x2
set_option maxRecDepth 20000 in
set_option maxHeartbeats 4000000 in
theorem sgjX12_isBlank_35 {Γ : Gm} {d : Nat} (hd : 1 ≤ d) {T : Nat} {h : Hp} (rs : RS T h) {y0 : Int32} {m : Mem} {r : Int32} (H : gjX12_isBlank_35 y0 m = some r) : V Γ d mX12_isBlank 35 [] [.int y0] (hm T h m) (some (.int r), (hm T h m)) := by
  unfold gjX12_isBlank_35 at H
  replace H := bs H; obtain ⟨x2, x2e, H⟩ := H
  obtain ⟨x2q, x2z⟩ := bz_sp x2e
  refine v_topi x2q.symm ?_
  cases H
  exact v_zreturn rfl (by rw [x2q]; exact x2z) dX12_isBlank_35
def gjX12_isBlank_34 (m : Mem) : Option (Int32) :=
gjX12_isBlank_35 (0 : Int32) m
set_option maxRecDepth 20000 in
set_option maxHeartbeats 4000000 in
theorem sgjX12_isBlank_34 {Γ : Gm} {d : Nat} (hd : 1 ≤ d) {T : Nat} {h : Hp} (rs : RS T h) {m : Mem} {r : Int32} (H : gjX12_isBlank_34 m = some r) : V Γ d mX12_isBlank 34 [] [] (hm T h m) (some (.int r), (hm T h m)) := by
  unfold gjX12_isBlank_34 at H
  refine v_iconst (v := 0) (q := 35) dX12_isBlank_34 (by decide) rfl ?_
  exact V.sub [] rfl (sgjX12_isBlank_35 hd rs H)
def gjX12_isBlank_30 (m : Mem) : Option (Int32) :=
gjX12_isBlank_35 (1 : Int32) m
set_option maxRecDepth 20000 in
set_option maxHeartbeats 4000000 in
theorem sgjX12_isBlank_30 {Γ : Gm} {d : Nat} (hd : 1 ≤ d) {T : Nat} {h : Hp} (rs : RS T h) {m : Mem} {r : Int32} (H : gjX12_isBlank_30 m = some r) : V Γ d mX12_isBlank 30 [] [] (hm T h m) (some (.int r), (hm T h m)) := by
  unfold gjX12_isBlank_30 at H
  refine v_iconst (v := 1) (q := 31) dX12_isBlank_30 (by decide) rfl ?_
  refine v_goto (q := 35) dX12_isBlank_31 (by decide) ?_
  exact V.sub [] rfl (sgjX12_isBlank_35 hd rs H)
def gX12_isBlank (m : Mem) (v1 : Int32) : Option (Int32) :=
if (m 0 12) ≤ v1 then (
gjX12_isBlank_34 m) else (
(rd m 10 900 v1).bind fun x3 =>
if x3 = (32 : Int32) then (
gjX12_isBlank_30 m) else (
(rd m 10 900 v1).bind fun x5 =>
if x5 = (10 : Int32) then (
gjX12_isBlank_30 m) else (
gjX12_isBlank_34 m)))
set_option maxRecDepth 20000 in
set_option maxHeartbeats 4000000 in
theorem sgX12_isBlank {Γ : Gm} {d : Nat} (hd : 1 ≤ d) {T : Nat} {h : Hp} (rs : RS T h) {m : Mem} {v1 : Int32} {r : Int32} (H : gX12_isBlank m v1 = some r) : V Γ d mX12_isBlank 0 [(0, .ref T), (1, .int v1)] [] (hm T h m) (some (.int r), (hm T h m)) := by
  unfold gX12_isBlank at H
  refine v_iload_n (q := 1) 1 dX12_isBlank_0 rfl rfl rfl ?_
  refine v_aload_n (q := 2) 0 dX12_isBlank_1 rfl rfl rfl ?_
  refine ur_gI (q := 5) (x := 0) (k := 12) rs dX12_isBlank_2 w1368 (Nat.le_of_ble_eq_true rfl) rfl rfl ?_
  refine v_icmp_ge (q1 := 34) (q2 := 8) dX12_isBlank_5 (by decide) rfl (fun c1 => ?_) (fun c1 => ?_)
  · replace H := ip c1 H
    exact V.sub [] rfl (sgjX12_isBlank_34 hd rs H)
  · replace H := ine c1 H
    refine v_aload_n (q := 9) 0 dX12_isBlank_8 rfl rfl rfl ?_
    refine ur_arr (q := 12) rs rt10 dX12_isBlank_9 w1366 (Nat.le_of_ble_eq_true rfl) rfl rfl ?_
    refine v_iload_n (q := 13) 1 dX12_isBlank_12 rfl rfl rfl ?_
    replace H := bs H; obtain ⟨x3, x3e, H⟩ := H
    refine ur_rdB (q := 14) rs rt10 x3e dX12_isBlank_13 rfl ?_
    refine v_bipush (v := 32) (q := 16) dX12_isBlank_14 (by decide) rfl ?_
    refine v_icmp_eq (q1 := 30) (q2 := 19) dX12_isBlank_16 (by decide) rfl (fun c4 => ?_) (fun c4 => ?_)
    · replace H := ip c4 H
      exact V.sub [] rfl (sgjX12_isBlank_30 hd rs H)
    · replace H := ine c4 H
      refine v_aload_n (q := 20) 0 dX12_isBlank_19 rfl rfl rfl ?_
      refine ur_arr (q := 23) rs rt10 dX12_isBlank_20 w1366 (Nat.le_of_ble_eq_true rfl) rfl rfl ?_
      refine v_iload_n (q := 24) 1 dX12_isBlank_23 rfl rfl rfl ?_
      replace H := bs H; obtain ⟨x5, x5e, H⟩ := H
      refine ur_rdB (q := 25) rs rt10 x5e dX12_isBlank_24 rfl ?_
      refine v_bipush (v := 10) (q := 27) dX12_isBlank_25 (by decide) rfl ?_
      refine v_icmp_ne (q1 := 34) (q2 := 30) dX12_isBlank_27 (by decide) rfl (fun c6 => ?_) (fun c6 => ?_)
      · replace H := ine c6 H
        exact V.sub [] rfl (sgjX12_isBlank_34 hd rs H)
      · replace H := ip c6 H
        exact V.sub [] rfl (sgjX12_isBlank_30 hd rs H)
def mX12_isLetter : MI := (yX12_isLetter, cX12_isLetter, 1, some .boolean)
theorem oX12_isLetter : mOK mX12_isLetter 1 := ⟨by decide +kernel, by decide +kernel, by decide +kernel, by decide, w1561, w0150⟩
def gjX12_isLetter_17 (y0 : Int32) : Option (Int32) :=
(bz y0).bind fun x2 =>
some x2
set_option maxRecDepth 20000 in
set_option maxHeartbeats 4000000 in
theorem sgjX12_isLetter_17 {Γ : Gm} {d : Nat} (hd : 1 ≤ d) {h : Hp} {y0 : Int32} {r : Int32} (H : gjX12_isLetter_17 y0 = some r) : V Γ d mX12_isLetter 17 [] [.int y0] h (some (.int r), h) := by
  unfold gjX12_isLetter_17 at H
  replace H := bs H; obtain ⟨x2, x2e, H⟩ := H
  obtain ⟨x2q, x2z⟩ := bz_sp x2e
  refine v_topi x2q.symm ?_
  cases H
  exact v_zreturn rfl (by rw [x2q]; exact x2z) dX12_isLetter_17
def gjX12_isLetter_16  : Option (Int32) :=
gjX12_isLetter_17 (0 : Int32)
set_option maxRecDepth 20000 in
set_option maxHeartbeats 4000000 in
theorem sgjX12_isLetter_16 {Γ : Gm} {d : Nat} (hd : 1 ≤ d) {h : Hp}  {r : Int32} (H : gjX12_isLetter_16  = some r) : V Γ d mX12_isLetter 16 [] [] h (some (.int r), h) := by
  unfold gjX12_isLetter_16 at H
  refine v_iconst (v := 0) (q := 17) dX12_isLetter_16 (by decide) rfl ?_
  exact V.sub [] rfl (sgjX12_isLetter_17 hd H)
def gX12_isLetter (v0 : Int32) : Option (Int32) :=
if v0 < (97 : Int32) then (
gjX12_isLetter_16 ) else (
if (122 : Int32) < v0 then (
gjX12_isLetter_16 ) else (
gjX12_isLetter_17 (1 : Int32)))
set_option maxRecDepth 20000 in
set_option maxHeartbeats 4000000 in
theorem sgX12_isLetter {Γ : Gm} {d : Nat} (hd : 1 ≤ d) {h : Hp} {v0 : Int32} {r : Int32} (H : gX12_isLetter v0 = some r) : V Γ d mX12_isLetter 0 [(0, .int v0)] [] h (some (.int r), h) := by
  unfold gX12_isLetter at H
  refine v_iload_n (q := 1) 0 dX12_isLetter_0 rfl rfl rfl ?_
  refine v_bipush (v := 97) (q := 3) dX12_isLetter_1 (by decide) rfl ?_
  refine v_icmp_lt (q1 := 16) (q2 := 6) dX12_isLetter_3 (by decide) rfl (fun c1 => ?_) (fun c1 => ?_)
  · replace H := ip c1 H
    exact V.sub [] rfl (sgjX12_isLetter_16 hd H)
  · replace H := ine c1 H
    refine v_iload_n (q := 7) 0 dX12_isLetter_6 rfl rfl rfl ?_
    refine v_bipush (v := 122) (q := 9) dX12_isLetter_7 (by decide) rfl ?_
    refine v_icmp_gt (q1 := 16) (q2 := 12) dX12_isLetter_9 (by decide) rfl (fun c3 => ?_) (fun c3 => ?_)
    · replace H := ip c3 H
      exact V.sub [] rfl (sgjX12_isLetter_16 hd H)
    · replace H := ine c3 H
      refine v_iconst (v := 1) (q := 13) dX12_isLetter_12 (by decide) rfl ?_
      refine v_goto (q := 17) dX12_isLetter_13 (by decide) ?_
      exact V.sub [] rfl (sgjX12_isLetter_17 hd H)
def mX12_isName : MI := (yX12_isName, cX12_isName, 1, some .boolean)
theorem oX12_isName : mOK mX12_isName 0 := ⟨by decide +kernel, by decide +kernel, by decide +kernel, by decide, w1589, w0150⟩
def gjX12_isName_28 (y0 : Int32) (m : Mem) : Option (Int32) :=
(bz y0).bind fun x2 =>
some x2
set_option maxRecDepth 20000 in
set_option maxHeartbeats 4000000 in
theorem sgjX12_isName_28 {Γ : Gm} {d : Nat} (hd : 1 ≤ d) {T : Nat} {h : Hp} (rs : RS T h) {y0 : Int32} {m : Mem} {r : Int32} (H : gjX12_isName_28 y0 m = some r) : V Γ d mX12_isName 28 [] [.int y0] (hm T h m) (some (.int r), (hm T h m)) := by
  unfold gjX12_isName_28 at H
  replace H := bs H; obtain ⟨x2, x2e, H⟩ := H
  obtain ⟨x2q, x2z⟩ := bz_sp x2e
  refine v_topi x2q.symm ?_
  cases H
  exact v_zreturn rfl (by rw [x2q]; exact x2z) dX12_isName_28
def gjX12_isName_27 (m : Mem) : Option (Int32) :=
gjX12_isName_28 (0 : Int32) m
set_option maxRecDepth 20000 in
set_option maxHeartbeats 4000000 in
theorem sgjX12_isName_27 {Γ : Gm} {d : Nat} (hd : 1 ≤ d) {T : Nat} {h : Hp} (rs : RS T h) {m : Mem} {r : Int32} (H : gjX12_isName_27 m = some r) : V Γ d mX12_isName 27 [] [] (hm T h m) (some (.int r), (hm T h m)) := by
  unfold gjX12_isName_27 at H
  refine v_iconst (v := 0) (q := 28) dX12_isName_27 (by decide) rfl ?_
  exact V.sub [] rfl (sgjX12_isName_28 hd rs H)
def gX12_isName (m : Mem)  : Option (Int32) :=
if (m 0 17) = 0 then (
if (m 0 15) = (2 : Int32) then (
if (m 0 16) = (-1 : Int32) then (
gjX12_isName_28 (1 : Int32) m) else (
gjX12_isName_27 m)) else (
gjX12_isName_27 m)) else (
gjX12_isName_27 m)
set_option maxRecDepth 20000 in
set_option maxHeartbeats 4000000 in
theorem sgX12_isName {Γ : Gm} {d : Nat} (hd : 1 ≤ d) {T : Nat} {h : Hp} (rs : RS T h) {m : Mem}  {r : Int32} (H : gX12_isName m  = some r) : V Γ d mX12_isName 0 [(0, .ref T)] [] (hm T h m) (some (.int r), (hm T h m)) := by
  unfold gX12_isName at H
  refine v_aload_n (q := 1) 0 dX12_isName_0 rfl rfl rfl ?_
  refine ur_gI (q := 4) (x := 0) (k := 17) rs dX12_isName_1 w1373 (Nat.le_of_ble_eq_true rfl) rfl rfl ?_
  refine v_if_ne (q1 := 27) (q2 := 7) dX12_isName_4 (by decide) rfl (fun c1 => ?_) (fun c1 => ?_)
  · replace H := ine c1 H
    exact V.sub [] rfl (sgjX12_isName_27 hd rs H)
  · replace H := ip c1 H
    refine v_aload_n (q := 8) 0 dX12_isName_7 rfl rfl rfl ?_
    refine ur_gI (q := 11) (x := 0) (k := 15) rs dX12_isName_8 w1371 (Nat.le_of_ble_eq_true rfl) rfl rfl ?_
    refine v_iconst (v := 2) (q := 12) dX12_isName_11 (by decide) rfl ?_
    refine v_icmp_ne (q1 := 27) (q2 := 15) dX12_isName_12 (by decide) rfl (fun c3 => ?_) (fun c3 => ?_)
    · replace H := ine c3 H
      exact V.sub [] rfl (sgjX12_isName_27 hd rs H)
    · replace H := ip c3 H
      refine v_aload_n (q := 16) 0 dX12_isName_15 rfl rfl rfl ?_
      refine ur_gI (q := 19) (x := 0) (k := 16) rs dX12_isName_16 w1372 (Nat.le_of_ble_eq_true rfl) rfl rfl ?_
      refine v_iconst (v := -1) (q := 20) dX12_isName_19 (by decide) rfl ?_
      refine v_icmp_ne (q1 := 27) (q2 := 23) dX12_isName_20 (by decide) rfl (fun c4 => ?_) (fun c4 => ?_)
      · replace H := ine c4 H
        exact V.sub [] rfl (sgjX12_isName_27 hd rs H)
      · replace H := ip c4 H
        refine v_iconst (v := 1) (q := 24) dX12_isName_23 (by decide) rfl ?_
        refine v_goto (q := 28) dX12_isName_24 (by decide) ?_
        exact V.sub [] rfl (sgjX12_isName_28 hd rs H)
def mX12_isNamed : MI := (yX12_isNamed, cX12_isNamed, 3, some .boolean)
theorem oX12_isNamed : mOK mX12_isNamed 1 := ⟨by decide +kernel, by decide +kernel, by decide +kernel, by decide, w1597, w0150⟩
def gbX12_isNamed_22 (u1 : Int32) (m : Mem) (s22 : Int32) : Option ((Int32) ⊕ ((Unit) ⊕ (Unit))) :=
(rd m 13 24 u1).bind fun x3 =>
if x3 ≤ s22 then (
some (.inr (.inl ()))) else (
(rd m 12 24 u1).bind fun x5 =>
(rd m 10 900 (x5 + s22)).bind fun x6 =>
(rd m 10 900 ((m 0 14) + s22)).bind fun x7 =>
if x6 = x7 then (
(some (s22 + (1 : Int32))).bind fun x9 =>
some (.inl x9)) else (
some (.inr (.inr ()))))
set_option maxRecDepth 20000 in
set_option maxHeartbeats 4000000 in
theorem sgbX12_isNamed_22 {Γ : Gm} {d : Nat} (hd : 1 ≤ d) {T : Nat} {h : Hp} (rs : RS T h) {u1 : Int32} {m : Mem} {s22 : Int32} {r : (Int32) ⊕ ((Unit) ⊕ (Unit))} {t : Option Value × Hp} (H : gbX12_isNamed_22 u1 m s22 = some r) (kI : ∀ s, r = .inl s → (fun s22 => V Γ d mX12_isNamed 22 [(0, .ref T), (1, .int u1), (2, .int s22)] [] (hm T h m) t) s) (kE : ∀ e, r = .inr e → (fun e => (match e with | .inl a0 => V Γ d mX12_isNamed 67 [] [] (hm T h m) t | .inr b0 => V Γ d mX12_isNamed 59 [] [] (hm T h m) t)) e) : V Γ d mX12_isNamed 22 [(0, .ref T), (1, .int u1), (2, .int s22)] [] (hm T h m) t := by
  unfold gbX12_isNamed_22 at H
  refine v_iload_n (q := 23) 2 dX12_isNamed_22 rfl rfl rfl ?_
  refine v_aload_n (q := 24) 0 dX12_isNamed_23 rfl rfl rfl ?_
  refine ur_arr (q := 27) rs rt23 dX12_isNamed_24 w1379 (Nat.le_of_ble_eq_true rfl) rfl rfl ?_
  refine v_iload_n (q := 28) 1 dX12_isNamed_27 rfl rfl rfl ?_
  replace H := bs H; obtain ⟨x3, x3e, H⟩ := H
  refine ur_rd (q := 29) rs rt23 x3e dX12_isNamed_28 rfl ?_
  refine v_icmp_ge (q1 := 67) (q2 := 32) dX12_isNamed_29 (by decide) rfl (fun c4 => ?_) (fun c4 => ?_)
  · replace H := ip c4 H
    exact V.sub [] rfl (kE (.inl ()) (Option.some.inj H).symm)
  · replace H := ine c4 H
    refine v_aload_n (q := 33) 0 dX12_isNamed_32 rfl rfl rfl ?_
    refine ur_arr (q := 36) rs rt10 dX12_isNamed_33 w1366 (Nat.le_of_ble_eq_true rfl) rfl rfl ?_
    refine v_aload_n (q := 37) 0 dX12_isNamed_36 rfl rfl rfl ?_
    refine ur_arr (q := 40) rs rt22 dX12_isNamed_37 w1378 (Nat.le_of_ble_eq_true rfl) rfl rfl ?_
    refine v_iload_n (q := 41) 1 dX12_isNamed_40 rfl rfl rfl ?_
    replace H := bs H; obtain ⟨x5, x5e, H⟩ := H
    refine ur_rd (q := 42) rs rt22 x5e dX12_isNamed_41 rfl ?_
    refine v_iload_n (q := 43) 2 dX12_isNamed_42 rfl rfl rfl ?_
    refine v_iadd (q := 44) dX12_isNamed_43 rfl ?_
    replace H := bs H; obtain ⟨x6, x6e, H⟩ := H
    refine ur_rdB (q := 45) rs rt10 x6e dX12_isNamed_44 rfl ?_
    refine v_aload_n (q := 46) 0 dX12_isNamed_45 rfl rfl rfl ?_
    refine ur_arr (q := 49) rs rt10 dX12_isNamed_46 w1366 (Nat.le_of_ble_eq_true rfl) rfl rfl ?_
    refine v_aload_n (q := 50) 0 dX12_isNamed_49 rfl rfl rfl ?_
    refine ur_gI (q := 53) (x := 0) (k := 14) rs dX12_isNamed_50 w1370 (Nat.le_of_ble_eq_true rfl) rfl rfl ?_
    refine v_iload_n (q := 54) 2 dX12_isNamed_53 rfl rfl rfl ?_
    refine v_iadd (q := 55) dX12_isNamed_54 rfl ?_
    replace H := bs H; obtain ⟨x7, x7e, H⟩ := H
    refine ur_rdB (q := 56) rs rt10 x7e dX12_isNamed_55 rfl ?_
    refine v_icmp_eq (q1 := 61) (q2 := 59) dX12_isNamed_56 (by decide) rfl (fun c8 => ?_) (fun c8 => ?_)
    · replace H := ip c8 H
      replace H := bs H; obtain ⟨x9, x9e, H⟩ := H
      refine v_iinc (v := x9) (L' := [(2, .int x9), (0, .ref T), (1, .int u1)]) (q := 64) 2 dX12_isNamed_61 rfl (Option.some.inj x9e) (by decide) rfl rfl ?_
      refine v_goto (q := 22) dX12_isNamed_64 (by decide) ?_
      exact V.sub [1, 2, 0] rfl (kI x9 (Option.some.inj H).symm)
    · replace H := ine c8 H
      exact V.sub [] rfl (kE (.inr ()) (Option.some.inj H).symm)
def gX12_isNamed (m : Mem) (v1 : Int32) : Option (Int32) :=
(rd m 13 24 v1).bind fun x1 =>
if x1 = ((m 0 13) - (m 0 14)) then (
(lp (gbX12_isNamed_22 v1 m) FU (0 : Int32)).bind fun e10 =>
(match e10 with
| .inl e11 => (
some (1 : Int32))
| .inr e12 => (
some (0 : Int32)))) else (
some (0 : Int32))
set_option maxRecDepth 20000 in
set_option maxHeartbeats 4000000 in
theorem sgX12_isNamed {Γ : Gm} {d : Nat} (hd : 1 ≤ d) {T : Nat} {h : Hp} (rs : RS T h) {m : Mem} {v1 : Int32} {r : Int32} (H : gX12_isNamed m v1 = some r) : V Γ d mX12_isNamed 0 [(0, .ref T), (1, .int v1)] [] (hm T h m) (some (.int r), (hm T h m)) := by
  unfold gX12_isNamed at H
  refine v_aload_n (q := 1) 0 dX12_isNamed_0 rfl rfl rfl ?_
  refine ur_arr (q := 4) rs rt23 dX12_isNamed_1 w1379 (Nat.le_of_ble_eq_true rfl) rfl rfl ?_
  refine v_iload_n (q := 5) 1 dX12_isNamed_4 rfl rfl rfl ?_
  replace H := bs H; obtain ⟨x1, x1e, H⟩ := H
  refine ur_rd (q := 6) rs rt23 x1e dX12_isNamed_5 rfl ?_
  refine v_aload_n (q := 7) 0 dX12_isNamed_6 rfl rfl rfl ?_
  refine ur_gI (q := 10) (x := 0) (k := 13) rs dX12_isNamed_7 w1369 (Nat.le_of_ble_eq_true rfl) rfl rfl ?_
  refine v_aload_n (q := 11) 0 dX12_isNamed_10 rfl rfl rfl ?_
  refine ur_gI (q := 14) (x := 0) (k := 14) rs dX12_isNamed_11 w1370 (Nat.le_of_ble_eq_true rfl) rfl rfl ?_
  refine v_isub (q := 15) dX12_isNamed_14 rfl ?_
  refine v_icmp_eq (q1 := 20) (q2 := 18) dX12_isNamed_15 (by decide) rfl (fun c2 => ?_) (fun c2 => ?_)
  · replace H := ip c2 H
    refine v_iconst (v := 0) (q := 21) dX12_isNamed_20 (by decide) rfl ?_
    refine v_istore_n (L' := [(2, .int (0 : Int32)), (0, .ref T), (1, .int v1)]) (q := 22) dX12_isNamed_21 rfl (by decide) rfl rfl ?_
    replace H := bs H; obtain ⟨e10, e10L, H⟩ := H
    refine V.sub [1, 2, 0] rfl ?_
    refine lp_V (P := (fun s22 => V Γ d mX12_isNamed 22 [(0, .ref T), (1, .int v1), (2, .int s22)] [] (hm T h m) (some (.int r), (hm T h m)))) (E := (fun e => (match e with | .inl a0 => V Γ d mX12_isNamed 67 [] [] (hm T h m) (some (.int r), (hm T h m)) | .inr b0 => V Γ d mX12_isNamed 59 [] [] (hm T h m) (some (.int r), (hm T h m))))) (fun s r hb kI kE => sgbX12_isNamed_22 hd rs (s22 := s) (r := r) hb kI kE) FU (0 : Int32) e10 e10L ?_
    rcases e10 with e11 | e12
    · skip
      refine v_iconst (v := 1) (q := 68) dX12_isNamed_67 (by decide) rfl ?_
      cases H
      exact v_zreturn rfl (by decide) dX12_isNamed_68
    · skip
      refine v_iconst (v := 0) (q := 60) dX12_isNamed_59 (by decide) rfl ?_
      cases H
      exact v_zreturn rfl (by decide) dX12_isNamed_60
  · replace H := ine c2 H
    refine v_iconst (v := 0) (q := 19) dX12_isNamed_18 (by decide) rfl ?_
    cases H
    exact v_zreturn rfl (by decide) dX12_isNamed_19

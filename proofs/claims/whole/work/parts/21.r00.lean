def mX12_edges : MI := (yX12_edges, cX12_edges, 3, some .int)
theorem oX12_edges : mOK mX12_edges 0 := ⟨by decide +kernel, by decide +kernel, by decide +kernel, by decide, w1816, w0150⟩
def gjX12_edges_28 (v2 : Int32) (y0 : Int32) (y1 : Int32) (m : Mem) : Option ((Int32 × Int32) ⊕ (Int32)) :=
(some (y1 + y0)).bind fun x4 =>
(some (v2 + (1 : Int32))).bind fun x5 =>
some (.inl (x4, x5))
set_option maxRecDepth 20000 in
set_option maxHeartbeats 4000000 in
theorem sgjX12_edges_28 {Γ : Gm} {d : Nat} (hd : 1 ≤ d) {T : Nat} {h : Hp} (rs : RS T h) {v2 : Int32} {y0 : Int32} {y1 : Int32} {m : Mem} {r : (Int32 × Int32) ⊕ (Int32)} {t : Option Value × Hp} (H : gjX12_edges_28 v2 y0 y1 m = some r) (kI : ∀ s, r = .inl s → (fun s4 => V Γ d mX12_edges 4 [(0, .ref T), (1, .int s4.1), (2, .int s4.2)] [] (hm T h m) t) s) (kE : ∀ e, r = .inr e → (fun e => V Γ d mX12_edges 36 [(1, .int e)] [] (hm T h m) t) e) : V Γ d mX12_edges 28 [(0, .ref T), (2, .int v2)] [.int y0, .int y1] (hm T h m) t := by
  unfold gjX12_edges_28 at H
  refine v_iadd (q := 29) dX12_edges_28 rfl ?_
  replace H := bs H; obtain ⟨x4, x4e, H⟩ := H
  refine v_topi (Option.some.inj x4e) ?_
  refine v_istore_n (L' := [(1, .int x4), (0, .ref T), (2, .int v2)]) (q := 30) dX12_edges_29 rfl (by decide) rfl rfl ?_
  replace H := bs H; obtain ⟨x5, x5e, H⟩ := H
  refine v_iinc (v := x5) (L' := [(2, .int x5), (1, .int x4), (0, .ref T)]) (q := 33) 2 dX12_edges_30 rfl (Option.some.inj x5e) (by decide) rfl rfl ?_
  refine v_goto (q := 4) dX12_edges_33 (by decide) ?_
  exact V.sub [2, 1, 0] rfl (kI (x4, x5) (Option.some.inj H).symm)
def gbX12_edges_4  (m : Mem) (s4 : Int32 × Int32) : Option ((Int32 × Int32) ⊕ (Int32)) :=
if (256 : Int32) ≤ s4.2 then (
some (.inr s4.1)) else (
(rd m 1 9685 ((0 : Int32) + s4.2)).bind fun x2 =>
if x2 ≤ 0 then (
gjX12_edges_28 s4.2 (0 : Int32) s4.1 m) else (
gjX12_edges_28 s4.2 (1 : Int32) s4.1 m))
set_option maxRecDepth 20000 in
set_option maxHeartbeats 4000000 in
theorem sgbX12_edges_4 {Γ : Gm} {d : Nat} (hd : 1 ≤ d) {T : Nat} {h : Hp} (rs : RS T h)  {m : Mem} {s4 : Int32 × Int32} {r : (Int32 × Int32) ⊕ (Int32)} {t : Option Value × Hp} (H : gbX12_edges_4  m s4 = some r) (kI : ∀ s, r = .inl s → (fun s4 => V Γ d mX12_edges 4 [(0, .ref T), (1, .int s4.1), (2, .int s4.2)] [] (hm T h m) t) s) (kE : ∀ e, r = .inr e → (fun e => V Γ d mX12_edges 36 [(1, .int e)] [] (hm T h m) t) e) : V Γ d mX12_edges 4 [(0, .ref T), (1, .int s4.1), (2, .int s4.2)] [] (hm T h m) t := by
  unfold gbX12_edges_4 at H
  refine v_iload_n (q := 5) 2 dX12_edges_4 rfl rfl rfl ?_
  refine v_sipush (v := 256) (q := 8) dX12_edges_5 (by decide) rfl ?_
  refine v_icmp_ge (q1 := 36) (q2 := 11) dX12_edges_8 (by decide) rfl (fun c1 => ?_) (fun c1 => ?_)
  · replace H := ip c1 H
    exact V.sub [1] rfl (kE s4.1 (Option.some.inj H).symm)
  · replace H := ine c1 H
    refine v_iload_n (q := 12) 1 dX12_edges_11 rfl rfl rfl ?_
    refine v_aload_n (q := 13) 0 dX12_edges_12 rfl rfl rfl ?_
    refine ur_arr (q := 16) rs rt0 dX12_edges_13 w1356 (Nat.le_of_ble_eq_true rfl) rfl rfl ?_
    refine v_iconst (v := 0) (q := 17) dX12_edges_16 (by decide) rfl ?_
    refine v_iload_n (q := 18) 2 dX12_edges_17 rfl rfl rfl ?_
    refine v_iadd (q := 19) dX12_edges_18 rfl ?_
    replace H := bs H; obtain ⟨x2, x2e, H⟩ := H
    refine ur_rd (q := 20) rs rt0 x2e dX12_edges_19 rfl ?_
    refine v_if_le (q1 := 27) (q2 := 23) dX12_edges_20 (by decide) rfl (fun c3 => ?_) (fun c3 => ?_)
    · replace H := ip c3 H
      refine v_iconst (v := 0) (q := 28) dX12_edges_27 (by decide) rfl ?_
      exact V.sub [0, 2] rfl (sgjX12_edges_28 hd rs H kI kE)
    · replace H := ine c3 H
      refine v_iconst (v := 1) (q := 24) dX12_edges_23 (by decide) rfl ?_
      refine v_goto (q := 28) dX12_edges_24 (by decide) ?_
      exact V.sub [0, 2] rfl (sgjX12_edges_28 hd rs H kI kE)
def gX12_edges (m : Mem)  : Option (Int32) :=
(lp (gbX12_edges_4 m) FU ((0 : Int32), (0 : Int32))).bind fun e6 =>
some e6
set_option maxRecDepth 20000 in
set_option maxHeartbeats 4000000 in
theorem sgX12_edges {Γ : Gm} {d : Nat} (hd : 1 ≤ d) {T : Nat} {h : Hp} (rs : RS T h) {m : Mem}  {r : Int32} (H : gX12_edges m  = some r) : V Γ d mX12_edges 0 [(0, .ref T)] [] (hm T h m) (some (.int r), (hm T h m)) := by
  unfold gX12_edges at H
  refine v_iconst (v := 0) (q := 1) dX12_edges_0 (by decide) rfl ?_
  refine v_istore_n (L' := [(1, .int (0 : Int32)), (0, .ref T)]) (q := 2) dX12_edges_1 rfl (by decide) rfl rfl ?_
  refine v_iconst (v := 0) (q := 3) dX12_edges_2 (by decide) rfl ?_
  refine v_istore_n (L' := [(2, .int (0 : Int32)), (1, .int (0 : Int32)), (0, .ref T)]) (q := 4) dX12_edges_3 rfl (by decide) rfl rfl ?_
  replace H := bs H; obtain ⟨e6, e6L, H⟩ := H
  refine V.sub [2, 1, 0] rfl ?_
  refine lp_V (P := (fun s4 => V Γ d mX12_edges 4 [(0, .ref T), (1, .int s4.1), (2, .int s4.2)] [] (hm T h m) (some (.int r), (hm T h m)))) (E := (fun e => V Γ d mX12_edges 36 [(1, .int e)] [] (hm T h m) (some (.int r), (hm T h m)))) (fun s r hb kI kE => sgbX12_edges_4 hd rs (s4 := s) (r := r) hb kI kE) FU ((0 : Int32), (0 : Int32)) e6 e6L ?_
  refine v_iload_n (q := 37) 0 dX12_edges_36 rfl rfl rfl ?_
  cases H
  exact v_ireturn rfl dX12_edges_37
def mX12_runsAll : MI := (yX12_runsAll, cX12_runsAll, 3, some .int)
theorem oX12_runsAll : mOK mX12_runsAll 0 := ⟨by decide +kernel, by decide +kernel, by decide +kernel, by decide, w2035, w0150⟩
def gbX12_runsAll_4  (m : Mem) (s4 : Int32 × Int32) : Option ((Int32 × Int32) ⊕ (Int32)) :=
if (6 : Int32) ≤ s4.2 then (
some (.inr s4.1)) else (
(rd m 1 9685 ((1533 : Int32) + s4.2)).bind fun x2 =>
(some (s4.1 + x2)).bind fun x3 =>
(some (s4.2 + (1 : Int32))).bind fun x4 =>
some (.inl (x3, x4)))
set_option maxRecDepth 20000 in
set_option maxHeartbeats 4000000 in
theorem sgbX12_runsAll_4 {Γ : Gm} {d : Nat} (hd : 1 ≤ d) {T : Nat} {h : Hp} (rs : RS T h)  {m : Mem} {s4 : Int32 × Int32} {r : (Int32 × Int32) ⊕ (Int32)} {t : Option Value × Hp} (H : gbX12_runsAll_4  m s4 = some r) (kI : ∀ s, r = .inl s → (fun s4 => V Γ d mX12_runsAll 4 [(0, .ref T), (1, .int s4.1), (2, .int s4.2)] [] (hm T h m) t) s) (kE : ∀ e, r = .inr e → (fun e => V Γ d mX12_runsAll 29 [(1, .int e)] [] (hm T h m) t) e) : V Γ d mX12_runsAll 4 [(0, .ref T), (1, .int s4.1), (2, .int s4.2)] [] (hm T h m) t := by
  unfold gbX12_runsAll_4 at H
  refine v_iload_n (q := 5) 2 dX12_runsAll_4 rfl rfl rfl ?_
  refine v_bipush (v := 6) (q := 7) dX12_runsAll_5 (by decide) rfl ?_
  refine v_icmp_ge (q1 := 29) (q2 := 10) dX12_runsAll_7 (by decide) rfl (fun c1 => ?_) (fun c1 => ?_)
  · replace H := ip c1 H
    exact V.sub [1] rfl (kE s4.1 (Option.some.inj H).symm)
  · replace H := ine c1 H
    refine v_iload_n (q := 11) 1 dX12_runsAll_10 rfl rfl rfl ?_
    refine v_aload_n (q := 12) 0 dX12_runsAll_11 rfl rfl rfl ?_
    refine ur_arr (q := 15) rs rt0 dX12_runsAll_12 w1356 (Nat.le_of_ble_eq_true rfl) rfl rfl ?_
    refine v_sipush (v := 1533) (q := 18) dX12_runsAll_15 (by decide) rfl ?_
    refine v_iload_n (q := 19) 2 dX12_runsAll_18 rfl rfl rfl ?_
    refine v_iadd (q := 20) dX12_runsAll_19 rfl ?_
    replace H := bs H; obtain ⟨x2, x2e, H⟩ := H
    refine ur_rd (q := 21) rs rt0 x2e dX12_runsAll_20 rfl ?_
    refine v_iadd (q := 22) dX12_runsAll_21 rfl ?_
    replace H := bs H; obtain ⟨x3, x3e, H⟩ := H
    refine v_topi (Option.some.inj x3e) ?_
    refine v_istore_n (L' := [(1, .int x3), (0, .ref T), (2, .int s4.2)]) (q := 23) dX12_runsAll_22 rfl (by decide) rfl rfl ?_
    replace H := bs H; obtain ⟨x4, x4e, H⟩ := H
    refine v_iinc (v := x4) (L' := [(2, .int x4), (1, .int x3), (0, .ref T)]) (q := 26) 2 dX12_runsAll_23 rfl (Option.some.inj x4e) (by decide) rfl rfl ?_
    refine v_goto (q := 4) dX12_runsAll_26 (by decide) ?_
    exact V.sub [2, 1, 0] rfl (kI (x3, x4) (Option.some.inj H).symm)
def gX12_runsAll (m : Mem)  : Option (Int32) :=
(lp (gbX12_runsAll_4 m) FU ((0 : Int32), (0 : Int32))).bind fun e5 =>
some e5
set_option maxRecDepth 20000 in
set_option maxHeartbeats 4000000 in
theorem sgX12_runsAll {Γ : Gm} {d : Nat} (hd : 1 ≤ d) {T : Nat} {h : Hp} (rs : RS T h) {m : Mem}  {r : Int32} (H : gX12_runsAll m  = some r) : V Γ d mX12_runsAll 0 [(0, .ref T)] [] (hm T h m) (some (.int r), (hm T h m)) := by
  unfold gX12_runsAll at H
  refine v_iconst (v := 0) (q := 1) dX12_runsAll_0 (by decide) rfl ?_
  refine v_istore_n (L' := [(1, .int (0 : Int32)), (0, .ref T)]) (q := 2) dX12_runsAll_1 rfl (by decide) rfl rfl ?_
  refine v_iconst (v := 0) (q := 3) dX12_runsAll_2 (by decide) rfl ?_
  refine v_istore_n (L' := [(2, .int (0 : Int32)), (1, .int (0 : Int32)), (0, .ref T)]) (q := 4) dX12_runsAll_3 rfl (by decide) rfl rfl ?_
  replace H := bs H; obtain ⟨e5, e5L, H⟩ := H
  refine V.sub [2, 1, 0] rfl ?_
  refine lp_V (P := (fun s4 => V Γ d mX12_runsAll 4 [(0, .ref T), (1, .int s4.1), (2, .int s4.2)] [] (hm T h m) (some (.int r), (hm T h m)))) (E := (fun e => V Γ d mX12_runsAll 29 [(1, .int e)] [] (hm T h m) (some (.int r), (hm T h m)))) (fun s r hb kI kE => sgbX12_runsAll_4 hd rs (s4 := s) (r := r) hb kI kE) FU ((0 : Int32), (0 : Int32)) e5 e5L ?_
  refine v_iload_n (q := 30) 0 dX12_runsAll_29 rfl rfl rfl ?_
  cases H
  exact v_ireturn rfl dX12_runsAll_30
def mX12_about : MI := (yX12_about, cX12_about, 2, some .int)
theorem oX12_about : mOK mX12_about 1 := ⟨by decide +kernel, by decide +kernel, by decide +kernel, by decide, w2031, w0150⟩
def gX12_about (m : Mem) (v1 : Int32) : Option (Int32) :=
if v1 = (0 : Int32) then (
(rd m 2 2 (m 0 9)).bind fun x2 =>
some x2) else (
if v1 = (1 : Int32) then (
(rd m 3 2 (m 0 9)).bind fun x4 =>
some x4) else (
if v1 = (2 : Int32) then (
(rd m 4 2 (m 0 9)).bind fun x6 =>
some x6) else (
if v1 = (3 : Int32) then (
(gX12_edges m).bind fun x8 =>
some x8) else (
if v1 = (4 : Int32) then (
(rd m 1 9685 (272 : Int32)).bind fun x10 =>
some x10) else (
if v1 = (5 : Int32) then (
(rd m 1 9685 (1539 : Int32)).bind fun x12 =>
some x12) else (
if v1 = (6 : Int32) then (
(rd m 1 9685 (1540 : Int32)).bind fun x14 =>
some x14) else (
if v1 = (7 : Int32) then (
(gX12_runsAll m).bind fun x16 =>
some x16) else (
if v1 = (8 : Int32) then (
some (m 0 56)) else (
if v1 = (9 : Int32) then (
some (m 0 57)) else (
if v1 = (10 : Int32) then (
some (m 0 11)) else (
some (-1 : Int32))))))))))))
set_option maxRecDepth 20000 in
set_option maxHeartbeats 4000000 in
theorem sgX12_about {Γ : Gm} {d : Nat} (hd : 2 ≤ d) {T : Nat} {h : Hp} (rs : RS T h) {m : Mem} {v1 : Int32} {r : Int32} (H : gX12_about m v1 = some r) : V Γ d mX12_about 0 [(0, .ref T), (1, .int v1)] [] (hm T h m) (some (.int r), (hm T h m)) := by
  unfold gX12_about at H
  refine v_iload_n (q := 1) 1 dX12_about_0 rfl rfl rfl ?_
  by_cases c1 : v1 = (0 : Int32)
  · replace H := ip c1 H
    rw [c1]
    refine v_tabIn (off := 59) (q := 60) dX12_about_1 (by decide) (by decide) (by decide) (by decide) ?_
    refine v_aload_n (q := 61) 0 dX12_about_60 rfl rfl rfl ?_
    refine ur_arr (q := 64) rs rt1 dX12_about_61 w1357 (Nat.le_of_ble_eq_true rfl) rfl rfl ?_
    refine v_aload_n (q := 65) 0 dX12_about_64 rfl rfl rfl ?_
    refine ur_gI (q := 68) (x := 0) (k := 9) rs dX12_about_65 w1365 (Nat.le_of_ble_eq_true rfl) rfl rfl ?_
    replace H := bs H; obtain ⟨x2, x2e, H⟩ := H
    refine ur_rd (q := 69) rs rt1 x2e dX12_about_68 rfl ?_
    cases H
    exact v_ireturn rfl dX12_about_69
  · replace H := ine c1 H
    by_cases c3 : v1 = (1 : Int32)
    · replace H := ip c3 H
      rw [c3]
      refine v_tabIn (off := 69) (q := 70) dX12_about_1 (by decide) (by decide) (by decide) (by decide) ?_
      refine v_aload_n (q := 71) 0 dX12_about_70 rfl rfl rfl ?_
      refine ur_arr (q := 74) rs rt2 dX12_about_71 w1358 (Nat.le_of_ble_eq_true rfl) rfl rfl ?_
      refine v_aload_n (q := 75) 0 dX12_about_74 rfl rfl rfl ?_
      refine ur_gI (q := 78) (x := 0) (k := 9) rs dX12_about_75 w1365 (Nat.le_of_ble_eq_true rfl) rfl rfl ?_
      replace H := bs H; obtain ⟨x4, x4e, H⟩ := H
      refine ur_rd (q := 79) rs rt2 x4e dX12_about_78 rfl ?_
      cases H
      exact v_ireturn rfl dX12_about_79
    · replace H := ine c3 H
      by_cases c5 : v1 = (2 : Int32)
      · replace H := ip c5 H
        rw [c5]
        refine v_tabIn (off := 79) (q := 80) dX12_about_1 (by decide) (by decide) (by decide) (by decide) ?_
        refine v_aload_n (q := 81) 0 dX12_about_80 rfl rfl rfl ?_
        refine ur_arr (q := 84) rs rt3 dX12_about_81 w1359 (Nat.le_of_ble_eq_true rfl) rfl rfl ?_
        refine v_aload_n (q := 85) 0 dX12_about_84 rfl rfl rfl ?_
        refine ur_gI (q := 88) (x := 0) (k := 9) rs dX12_about_85 w1365 (Nat.le_of_ble_eq_true rfl) rfl rfl ?_
        replace H := bs H; obtain ⟨x6, x6e, H⟩ := H
        refine ur_rd (q := 89) rs rt3 x6e dX12_about_88 rfl ?_
        cases H
        exact v_ireturn rfl dX12_about_89
      · replace H := ine c5 H
        by_cases c7 : v1 = (3 : Int32)
        · replace H := ip c7 H
          rw [c7]
          refine v_tabIn (off := 89) (q := 90) dX12_about_1 (by decide) (by decide) (by decide) (by decide) ?_
          refine v_aload_n (q := 91) 0 dX12_about_90 rfl rfl rfl ?_
          replace H := bs H; obtain ⟨x8, x8e, H⟩ := H
          refine u_callV1 (M' := mX12_edges) (d' := 1) (rc := (RX12, TX12, 58)) (As := []) (st := []) (q := 94) oX12_edges dX12_about_91 w1813 w1815 w0103 rfl rfl (RS.rc rs).1 (RS.rc rs).2 rfl (Nat.le_of_ble_eq_true rfl) (Nat.le_of_ble_eq_true rfl) (Nat.lt_of_lt_of_le (by decide) hd) rfl (sgX12_edges (Nat.le_refl _) rs x8e) rfl ?_
          cases H
          exact v_ireturn rfl dX12_about_94
        · replace H := ine c7 H
          by_cases c9 : v1 = (4 : Int32)
          · replace H := ip c9 H
            rw [c9]
            refine v_tabIn (off := 94) (q := 95) dX12_about_1 (by decide) (by decide) (by decide) (by decide) ?_
            refine v_aload_n (q := 96) 0 dX12_about_95 rfl rfl rfl ?_
            refine ur_arr (q := 99) rs rt0 dX12_about_96 w1356 (Nat.le_of_ble_eq_true rfl) rfl rfl ?_
            refine v_sipush (v := 272) (q := 102) dX12_about_99 (by decide) rfl ?_
            replace H := bs H; obtain ⟨x10, x10e, H⟩ := H
            refine ur_rd (q := 103) rs rt0 x10e dX12_about_102 rfl ?_
            cases H
            exact v_ireturn rfl dX12_about_103
          · replace H := ine c9 H
            by_cases c11 : v1 = (5 : Int32)
            · replace H := ip c11 H
              rw [c11]
              refine v_tabIn (off := 103) (q := 104) dX12_about_1 (by decide) (by decide) (by decide) (by decide) ?_
              refine v_aload_n (q := 105) 0 dX12_about_104 rfl rfl rfl ?_
              refine ur_arr (q := 108) rs rt0 dX12_about_105 w1356 (Nat.le_of_ble_eq_true rfl) rfl rfl ?_
              refine v_sipush (v := 1539) (q := 111) dX12_about_108 (by decide) rfl ?_
              replace H := bs H; obtain ⟨x12, x12e, H⟩ := H
              refine ur_rd (q := 112) rs rt0 x12e dX12_about_111 rfl ?_
              cases H
              exact v_ireturn rfl dX12_about_112
            · replace H := ine c11 H
              by_cases c13 : v1 = (6 : Int32)
              · replace H := ip c13 H
                rw [c13]
                refine v_tabIn (off := 112) (q := 113) dX12_about_1 (by decide) (by decide) (by decide) (by decide) ?_
                refine v_aload_n (q := 114) 0 dX12_about_113 rfl rfl rfl ?_
                refine ur_arr (q := 117) rs rt0 dX12_about_114 w1356 (Nat.le_of_ble_eq_true rfl) rfl rfl ?_
                refine v_sipush (v := 1540) (q := 120) dX12_about_117 (by decide) rfl ?_
                replace H := bs H; obtain ⟨x14, x14e, H⟩ := H
                refine ur_rd (q := 121) rs rt0 x14e dX12_about_120 rfl ?_
                cases H
                exact v_ireturn rfl dX12_about_121
              · replace H := ine c13 H
                by_cases c15 : v1 = (7 : Int32)
                · replace H := ip c15 H
                  rw [c15]
                  refine v_tabIn (off := 121) (q := 122) dX12_about_1 (by decide) (by decide) (by decide) (by decide) ?_
                  refine v_aload_n (q := 123) 0 dX12_about_122 rfl rfl rfl ?_
                  replace H := bs H; obtain ⟨x16, x16e, H⟩ := H
                  refine u_callV1 (M' := mX12_runsAll) (d' := 1) (rc := (RX12, TX12, 58)) (As := []) (st := []) (q := 126) oX12_runsAll dX12_about_123 w2032 w2034 w0137 rfl rfl (RS.rc rs).1 (RS.rc rs).2 rfl (Nat.le_of_ble_eq_true rfl) (Nat.le_of_ble_eq_true rfl) (Nat.lt_of_lt_of_le (by decide) hd) rfl (sgX12_runsAll (Nat.le_refl _) rs x16e) rfl ?_
                  cases H
                  exact v_ireturn rfl dX12_about_126
                · replace H := ine c15 H
                  by_cases c17 : v1 = (8 : Int32)
                  · replace H := ip c17 H
                    rw [c17]
                    refine v_tabIn (off := 126) (q := 127) dX12_about_1 (by decide) (by decide) (by decide) (by decide) ?_
                    refine v_aload_n (q := 128) 0 dX12_about_127 rfl rfl rfl ?_
                    refine ur_gI (q := 131) (x := 0) (k := 56) rs dX12_about_128 w1412 (Nat.le_of_ble_eq_true rfl) rfl rfl ?_
                    cases H
                    exact v_ireturn rfl dX12_about_131
                  · replace H := ine c17 H
                    by_cases c18 : v1 = (9 : Int32)
                    · replace H := ip c18 H
                      rw [c18]
                      refine v_tabIn (off := 131) (q := 132) dX12_about_1 (by decide) (by decide) (by decide) (by decide) ?_
                      refine v_aload_n (q := 133) 0 dX12_about_132 rfl rfl rfl ?_
                      refine ur_gI (q := 136) (x := 0) (k := 57) rs dX12_about_133 w1413 (Nat.le_of_ble_eq_true rfl) rfl rfl ?_
                      cases H
                      exact v_ireturn rfl dX12_about_136
                    · replace H := ine c18 H
                      by_cases c19 : v1 = (10 : Int32)
                      · replace H := ip c19 H
                        rw [c19]
                        refine v_tabIn (off := 136) (q := 137) dX12_about_1 (by decide) (by decide) (by decide) (by decide) ?_
                        refine v_aload_n (q := 138) 0 dX12_about_137 rfl rfl rfl ?_
                        refine ur_gI (q := 141) (x := 0) (k := 11) rs dX12_about_138 w1367 (Nat.le_of_ble_eq_true rfl) rfl rfl ?_
                        cases H
                        exact v_ireturn rfl dX12_about_141
                      · replace H := ine c19 H
                        have c1t := lv_neT (a := 0) c1 (by decide)
                        have c3t := lv_neT (a := 1) c3 (by decide)
                        have c5t := lv_neT (a := 2) c5 (by decide)
                        have c7t := lv_neT (a := 3) c7 (by decide)
                        have c9t := lv_neT (a := 4) c9 (by decide)
                        have c11t := lv_neT (a := 5) c11 (by decide)
                        have c13t := lv_neT (a := 6) c13 (by decide)
                        have c15t := lv_neT (a := 7) c15 (by decide)
                        have c17t := lv_neT (a := 8) c17 (by decide)
                        have c18t := lv_neT (a := 9) c18 (by decide)
                        have c19t := lv_neT (a := 10) c19 (by decide)
                        refine v_tabOut (q := 142) dX12_about_1 (by omega) (by decide) ?_
                        refine v_iconst (v := -1) (q := 143) dX12_about_142 (by decide) rfl ?_
                        cases H
                        exact v_ireturn rfl dX12_about_143
def mX12_isIn : MI := (yX12_isIn, cX12_isIn, 3, some .boolean)
theorem oX12_isIn : mOK mX12_isIn 3 := ⟨by decide +kernel, by decide +kernel, by decide +kernel, by decide, w1620, w0150⟩
def gjX12_isIn_15 (y0 : Int32) : Option (Int32) :=
(bz y0).bind fun x2 =>
some x2
set_option maxRecDepth 20000 in
set_option maxHeartbeats 4000000 in
theorem sgjX12_isIn_15 {Γ : Gm} {d : Nat} (hd : 1 ≤ d) {h : Hp} {y0 : Int32} {r : Int32} (H : gjX12_isIn_15 y0 = some r) : V Γ d mX12_isIn 15 [] [.int y0] h (some (.int r), h) := by
  unfold gjX12_isIn_15 at H
  replace H := bs H; obtain ⟨x2, x2e, H⟩ := H
  obtain ⟨x2q, x2z⟩ := bz_sp x2e
  refine v_topi x2q.symm ?_
  cases H
  exact v_zreturn rfl (by rw [x2q]; exact x2z) dX12_isIn_15
def gjX12_isIn_14  : Option (Int32) :=
gjX12_isIn_15 (0 : Int32)
set_option maxRecDepth 20000 in
set_option maxHeartbeats 4000000 in
theorem sgjX12_isIn_14 {Γ : Gm} {d : Nat} (hd : 1 ≤ d) {h : Hp}  {r : Int32} (H : gjX12_isIn_14  = some r) : V Γ d mX12_isIn 14 [] [] h (some (.int r), h) := by
  unfold gjX12_isIn_14 at H
  refine v_iconst (v := 0) (q := 15) dX12_isIn_14 (by decide) rfl ?_
  exact V.sub [] rfl (sgjX12_isIn_15 hd H)
def gX12_isIn (v0 : Int32) (v1 : Int32) (v2 : Int32) : Option (Int32) :=
if v0 < v1 then (
gjX12_isIn_14 ) else (
if v2 < v0 then (
gjX12_isIn_14 ) else (
gjX12_isIn_15 (1 : Int32)))
set_option maxRecDepth 20000 in
set_option maxHeartbeats 4000000 in
theorem sgX12_isIn {Γ : Gm} {d : Nat} (hd : 1 ≤ d) {h : Hp} {v0 : Int32} {v1 : Int32} {v2 : Int32} {r : Int32} (H : gX12_isIn v0 v1 v2 = some r) : V Γ d mX12_isIn 0 [(0, .int v0), (1, .int v1), (2, .int v2)] [] h (some (.int r), h) := by
  unfold gX12_isIn at H
  refine v_iload_n (q := 1) 0 dX12_isIn_0 rfl rfl rfl ?_
  refine v_iload_n (q := 2) 1 dX12_isIn_1 rfl rfl rfl ?_
  refine v_icmp_lt (q1 := 14) (q2 := 5) dX12_isIn_2 (by decide) rfl (fun c1 => ?_) (fun c1 => ?_)
  · replace H := ip c1 H
    exact V.sub [] rfl (sgjX12_isIn_14 hd H)
  · replace H := ine c1 H
    refine v_iload_n (q := 6) 0 dX12_isIn_5 rfl rfl rfl ?_
    refine v_iload_n (q := 7) 2 dX12_isIn_6 rfl rfl rfl ?_
    refine v_icmp_gt (q1 := 14) (q2 := 10) dX12_isIn_7 (by decide) rfl (fun c3 => ?_) (fun c3 => ?_)
    · replace H := ip c3 H
      exact V.sub [] rfl (sgjX12_isIn_14 hd H)
    · replace H := ine c3 H
      refine v_iconst (v := 1) (q := 11) dX12_isIn_10 (by decide) rfl ?_
      refine v_goto (q := 15) dX12_isIn_11 (by decide) ?_
      exact V.sub [] rfl (sgjX12_isIn_15 hd H)
def mX12_putAside : MI := (yX12_putAside, cX12_putAside, 2, none)
theorem oX12_putAside : mOK mX12_putAside 0 := ⟨by decide +kernel, by decide +kernel, by decide +kernel, by decide, w1812, w0150⟩
def gbX12_putAside_2  (s2 : Int32 × Mem) : Option ((Int32 × Mem) ⊕ (Mem)) :=
if (9685 : Int32) ≤ s2.1 then (
some (.inr s2.2)) else (
(rd s2.2 1 9685 s2.1).bind fun x2 =>
(wr s2.2 20 9685 s2.1 x2).bind fun m3 =>
(some (s2.1 + (1 : Int32))).bind fun x4 =>
some (.inl (x4, m3)))
set_option maxRecDepth 20000 in
set_option maxHeartbeats 4000000 in
theorem sgbX12_putAside_2 {Γ : Gm} {d : Nat} (hd : 1 ≤ d) {T : Nat} {h : Hp} (rs : RS T h)  {s2 : Int32 × Mem} {r : (Int32 × Mem) ⊕ (Mem)} {t : Option Value × Hp} (H : gbX12_putAside_2  s2 = some r) (kI : ∀ s, r = .inl s → (fun s2 => V Γ d mX12_putAside 2 [(0, .ref T), (1, .int s2.1)] [] (hm T h s2.2) t) s) (kE : ∀ e, r = .inr e → (fun e => V Γ d mX12_putAside 27 [] [] (hm T h e) t) e) : V Γ d mX12_putAside 2 [(0, .ref T), (1, .int s2.1)] [] (hm T h s2.2) t := by
  unfold gbX12_putAside_2 at H
  refine v_iload_n (q := 3) 1 dX12_putAside_2 rfl rfl rfl ?_
  refine v_sipush (v := 9685) (q := 6) dX12_putAside_3 (by decide) rfl ?_
  refine v_icmp_ge (q1 := 27) (q2 := 9) dX12_putAside_6 (by decide) rfl (fun c1 => ?_) (fun c1 => ?_)
  · replace H := ip c1 H
    exact V.sub [] rfl (kE s2.2 (Option.some.inj H).symm)
  · replace H := ine c1 H
    refine v_aload_n (q := 10) 0 dX12_putAside_9 rfl rfl rfl ?_
    refine ur_arr (q := 13) rs rt32 dX12_putAside_10 w1388 (Nat.le_of_ble_eq_true rfl) rfl rfl ?_
    refine v_iload_n (q := 14) 1 dX12_putAside_13 rfl rfl rfl ?_
    refine v_aload_n (q := 15) 0 dX12_putAside_14 rfl rfl rfl ?_
    refine ur_arr (q := 18) rs rt0 dX12_putAside_15 w1356 (Nat.le_of_ble_eq_true rfl) rfl rfl ?_
    refine v_iload_n (q := 19) 1 dX12_putAside_18 rfl rfl rfl ?_
    replace H := bs H; obtain ⟨x2, x2e, H⟩ := H
    refine ur_rd (q := 20) rs rt0 x2e dX12_putAside_19 rfl ?_
    replace H := bs H; obtain ⟨m3, m3e, H⟩ := H
    refine ur_wr (q := 21) rs rt32 m3e dX12_putAside_20 rfl ?_
    replace H := bs H; obtain ⟨x4, x4e, H⟩ := H
    refine v_iinc (v := x4) (L' := [(1, .int x4), (0, .ref T)]) (q := 24) 1 dX12_putAside_21 rfl (Option.some.inj x4e) (by decide) rfl rfl ?_
    refine v_goto (q := 2) dX12_putAside_24 (by decide) ?_
    exact V.sub [1, 0] rfl (kI (x4, m3) (Option.some.inj H).symm)
def gX12_putAside (m : Mem)  : Option (Mem) :=
(lp (gbX12_putAside_2) FU ((0 : Int32), m)).bind fun e5 =>
some e5
set_option maxRecDepth 20000 in
set_option maxHeartbeats 4000000 in
theorem sgX12_putAside {Γ : Gm} {d : Nat} (hd : 1 ≤ d) {T : Nat} {h : Hp} (rs : RS T h) {m : Mem}  {r : Mem} (H : gX12_putAside m  = some r) : V Γ d mX12_putAside 0 [(0, .ref T)] [] (hm T h m) (none, (hm T h r)) := by
  unfold gX12_putAside at H
  refine v_iconst (v := 0) (q := 1) dX12_putAside_0 (by decide) rfl ?_
  refine v_istore_n (L' := [(1, .int (0 : Int32)), (0, .ref T)]) (q := 2) dX12_putAside_1 rfl (by decide) rfl rfl ?_
  replace H := bs H; obtain ⟨e5, e5L, H⟩ := H
  refine V.sub [1, 0] rfl ?_
  refine lp_V (P := (fun s2 => V Γ d mX12_putAside 2 [(0, .ref T), (1, .int s2.1)] [] (hm T h s2.2) (none, (hm T h r)))) (E := (fun e => V Γ d mX12_putAside 27 [] [] (hm T h e) (none, (hm T h r)))) (fun s r hb kI kE => sgbX12_putAside_2 hd rs (s2 := s) (r := r) hb kI kE) FU ((0 : Int32), m) e5 e5L ?_
  cases H
  exact v_return rfl dX12_putAside_27
def mX12_clearAll : MI := (yX12_clearAll, cX12_clearAll, 2, none)
theorem oX12_clearAll : mOK mX12_clearAll 0 := ⟨by decide +kernel, by decide +kernel, by decide +kernel, by decide, w1355, w0150⟩
def gbX12_clearAll_2  (s2 : Int32 × Mem) : Option ((Int32 × Mem) ⊕ (Mem)) :=
if (1541 : Int32) ≤ s2.1 then (
some (.inr s2.2)) else (
(wr s2.2 1 9685 s2.1 (0 : Int32)).bind fun m2 =>
(some (s2.1 + (1 : Int32))).bind fun x3 =>
some (.inl (x3, m2)))
set_option maxRecDepth 20000 in
set_option maxHeartbeats 4000000 in
theorem sgbX12_clearAll_2 {Γ : Gm} {d : Nat} (hd : 1 ≤ d) {T : Nat} {h : Hp} (rs : RS T h)  {s2 : Int32 × Mem} {r : (Int32 × Mem) ⊕ (Mem)} {t : Option Value × Hp} (H : gbX12_clearAll_2  s2 = some r) (kI : ∀ s, r = .inl s → (fun s2 => V Γ d mX12_clearAll 2 [(0, .ref T), (1, .int s2.1)] [] (hm T h s2.2) t) s) (kE : ∀ e, r = .inr e → (fun e => V Γ d mX12_clearAll 22 [] [] (hm T h e) t) e) : V Γ d mX12_clearAll 2 [(0, .ref T), (1, .int s2.1)] [] (hm T h s2.2) t := by
  unfold gbX12_clearAll_2 at H
  refine v_iload_n (q := 3) 1 dX12_clearAll_2 rfl rfl rfl ?_
  refine v_sipush (v := 1541) (q := 6) dX12_clearAll_3 (by decide) rfl ?_
  refine v_icmp_ge (q1 := 22) (q2 := 9) dX12_clearAll_6 (by decide) rfl (fun c1 => ?_) (fun c1 => ?_)
  · replace H := ip c1 H
    exact V.sub [] rfl (kE s2.2 (Option.some.inj H).symm)
  · replace H := ine c1 H
    refine v_aload_n (q := 10) 0 dX12_clearAll_9 rfl rfl rfl ?_
    refine ur_arr (q := 13) rs rt0 dX12_clearAll_10 w1356 (Nat.le_of_ble_eq_true rfl) rfl rfl ?_
    refine v_iload_n (q := 14) 1 dX12_clearAll_13 rfl rfl rfl ?_
    refine v_iconst (v := 0) (q := 15) dX12_clearAll_14 (by decide) rfl ?_
    replace H := bs H; obtain ⟨m2, m2e, H⟩ := H
    refine ur_wr (q := 16) rs rt0 m2e dX12_clearAll_15 rfl ?_
    replace H := bs H; obtain ⟨x3, x3e, H⟩ := H
    refine v_iinc (v := x3) (L' := [(1, .int x3), (0, .ref T)]) (q := 19) 1 dX12_clearAll_16 rfl (Option.some.inj x3e) (by decide) rfl rfl ?_
    refine v_goto (q := 2) dX12_clearAll_19 (by decide) ?_
    exact V.sub [1, 0] rfl (kI (x3, m2) (Option.some.inj H).symm)
def gX12_clearAll (m : Mem)  : Option (Mem) :=
(lp (gbX12_clearAll_2) FU ((0 : Int32), m)).bind fun e4 =>
some e4
set_option maxRecDepth 20000 in
set_option maxHeartbeats 4000000 in
theorem sgX12_clearAll {Γ : Gm} {d : Nat} (hd : 1 ≤ d) {T : Nat} {h : Hp} (rs : RS T h) {m : Mem}  {r : Mem} (H : gX12_clearAll m  = some r) : V Γ d mX12_clearAll 0 [(0, .ref T)] [] (hm T h m) (none, (hm T h r)) := by
  unfold gX12_clearAll at H
  refine v_iconst (v := 0) (q := 1) dX12_clearAll_0 (by decide) rfl ?_
  refine v_istore_n (L' := [(1, .int (0 : Int32)), (0, .ref T)]) (q := 2) dX12_clearAll_1 rfl (by decide) rfl rfl ?_
  replace H := bs H; obtain ⟨e4, e4L, H⟩ := H
  refine V.sub [1, 0] rfl ?_
  refine lp_V (P := (fun s2 => V Γ d mX12_clearAll 2 [(0, .ref T), (1, .int s2.1)] [] (hm T h s2.2) (none, (hm T h r)))) (E := (fun e => V Γ d mX12_clearAll 22 [] [] (hm T h e) (none, (hm T h r)))) (fun s r hb kI kE => sgbX12_clearAll_2 hd rs (s2 := s) (r := r) hb kI kE) FU ((0 : Int32), m) e4 e4L ?_
  cases H
  exact v_return rfl dX12_clearAll_22
def mX12_stepsOf : MI := (yX12_stepsOf, cX12_stepsOf, 2, some .int)
theorem oX12_stepsOf : mOK mX12_stepsOf 1 := ⟨by decide +kernel, by decide +kernel, by decide +kernel, by decide, w1645, w0150⟩
def gX12_stepsOf (m : Mem) (v1 : Int32) : Option (Int32) :=
(rd m 7 12 (((6 : Int32) * (m 0 9)) + v1)).bind fun x1 =>
some x1
set_option maxRecDepth 20000 in
set_option maxHeartbeats 4000000 in
theorem sgX12_stepsOf {Γ : Gm} {d : Nat} (hd : 1 ≤ d) {T : Nat} {h : Hp} (rs : RS T h) {m : Mem} {v1 : Int32} {r : Int32} (H : gX12_stepsOf m v1 = some r) : V Γ d mX12_stepsOf 0 [(0, .ref T), (1, .int v1)] [] (hm T h m) (some (.int r), (hm T h m)) := by
  unfold gX12_stepsOf at H
  refine v_aload_n (q := 1) 0 dX12_stepsOf_0 rfl rfl rfl ?_
  refine ur_arr (q := 4) rs rt6 dX12_stepsOf_1 w1362 (Nat.le_of_ble_eq_true rfl) rfl rfl ?_
  refine v_bipush (v := 6) (q := 6) dX12_stepsOf_4 (by decide) rfl ?_
  refine v_aload_n (q := 7) 0 dX12_stepsOf_6 rfl rfl rfl ?_
  refine ur_gI (q := 10) (x := 0) (k := 9) rs dX12_stepsOf_7 w1365 (Nat.le_of_ble_eq_true rfl) rfl rfl ?_
  refine v_imul (q := 11) dX12_stepsOf_10 rfl ?_
  refine v_iload_n (q := 12) 1 dX12_stepsOf_11 rfl rfl rfl ?_
  refine v_iadd (q := 13) dX12_stepsOf_12 rfl ?_
  replace H := bs H; obtain ⟨x1, x1e, H⟩ := H
  refine ur_rd (q := 14) rs rt6 x1e dX12_stepsOf_13 rfl ?_
  cases H
  exact v_ireturn rfl dX12_stepsOf_14
def mX12_opOf : MI := (yX12_opOf, cX12_opOf, 3, some .int)
theorem oX12_opOf : mOK mX12_opOf 2 := ⟨by decide +kernel, by decide +kernel, by decide +kernel, by decide, w1649, w0150⟩
def gX12_opOf (m : Mem) (v1 : Int32) (v2 : Int32) : Option (Int32) :=
(rd m 1 9685 (((1541 : Int32) + ((12 : Int32) * v1)) + v2)).bind fun x1 =>
some x1
set_option maxRecDepth 20000 in
set_option maxHeartbeats 4000000 in
theorem sgX12_opOf {Γ : Gm} {d : Nat} (hd : 1 ≤ d) {T : Nat} {h : Hp} (rs : RS T h) {m : Mem} {v1 : Int32} {v2 : Int32} {r : Int32} (H : gX12_opOf m v1 v2 = some r) : V Γ d mX12_opOf 0 [(0, .ref T), (1, .int v1), (2, .int v2)] [] (hm T h m) (some (.int r), (hm T h m)) := by
  unfold gX12_opOf at H
  refine v_aload_n (q := 1) 0 dX12_opOf_0 rfl rfl rfl ?_
  refine ur_arr (q := 4) rs rt0 dX12_opOf_1 w1356 (Nat.le_of_ble_eq_true rfl) rfl rfl ?_
  refine v_sipush (v := 1541) (q := 7) dX12_opOf_4 (by decide) rfl ?_
  refine v_bipush (v := 12) (q := 9) dX12_opOf_7 (by decide) rfl ?_
  refine v_iload_n (q := 10) 1 dX12_opOf_9 rfl rfl rfl ?_
  refine v_imul (q := 11) dX12_opOf_10 rfl ?_
  refine v_iadd (q := 12) dX12_opOf_11 rfl ?_
  refine v_iload_n (q := 13) 2 dX12_opOf_12 rfl rfl rfl ?_
  refine v_iadd (q := 14) dX12_opOf_13 rfl ?_
  replace H := bs H; obtain ⟨x1, x1e, H⟩ := H
  refine ur_rd (q := 15) rs rt0 x1e dX12_opOf_14 rfl ?_
  cases H
  exact v_ireturn rfl dX12_opOf_15
def mX12_lockOf : MI := (yX12_lockOf, cX12_lockOf, 3, some .int)
theorem oX12_lockOf : mOK mX12_lockOf 2 := ⟨by decide +kernel, by decide +kernel, by decide +kernel, by decide, w1657, w0150⟩
def gX12_lockOf (m : Mem) (v1 : Int32) (v2 : Int32) : Option (Int32) :=
(rd m 1 9685 (((1613 : Int32) + ((12 : Int32) * v1)) + v2)).bind fun x1 =>
some x1
set_option maxRecDepth 20000 in
set_option maxHeartbeats 4000000 in
theorem sgX12_lockOf {Γ : Gm} {d : Nat} (hd : 1 ≤ d) {T : Nat} {h : Hp} (rs : RS T h) {m : Mem} {v1 : Int32} {v2 : Int32} {r : Int32} (H : gX12_lockOf m v1 v2 = some r) : V Γ d mX12_lockOf 0 [(0, .ref T), (1, .int v1), (2, .int v2)] [] (hm T h m) (some (.int r), (hm T h m)) := by
  unfold gX12_lockOf at H
  refine v_aload_n (q := 1) 0 dX12_lockOf_0 rfl rfl rfl ?_
  refine ur_arr (q := 4) rs rt0 dX12_lockOf_1 w1356 (Nat.le_of_ble_eq_true rfl) rfl rfl ?_
  refine v_sipush (v := 1613) (q := 7) dX12_lockOf_4 (by decide) rfl ?_
  refine v_bipush (v := 12) (q := 9) dX12_lockOf_7 (by decide) rfl ?_
  refine v_iload_n (q := 10) 1 dX12_lockOf_9 rfl rfl rfl ?_
  refine v_imul (q := 11) dX12_lockOf_10 rfl ?_
  refine v_iadd (q := 12) dX12_lockOf_11 rfl ?_
  refine v_iload_n (q := 13) 2 dX12_lockOf_12 rfl rfl rfl ?_
  refine v_iadd (q := 14) dX12_lockOf_13 rfl ?_
  replace H := bs H; obtain ⟨x1, x1e, H⟩ := H
  refine ur_rd (q := 15) rs rt0 x1e dX12_lockOf_14 rfl ?_
  cases H
  exact v_ireturn rfl dX12_lockOf_15
def mX12_placeHeld : MI := (yX12_placeHeld, cX12_placeHeld, 3, some .int)
theorem oX12_placeHeld : mOK mX12_placeHeld 1 := ⟨by decide +kernel, by decide +kernel, by decide +kernel, by decide, w1661, w0150⟩
def gbX12_placeHeld_2 (u1 : Int32) (m : Mem) (s2 : Int32) : Option ((Int32) ⊕ ((Unit) ⊕ (Int32))) :=
if (m 0 31) ≤ s2 then (
some (.inr (.inl ()))) else (
(rd m 18 10 s2).bind fun x2 =>
if x2 = u1 then (
some (.inr (.inr s2))) else (
(some (s2 + (1 : Int32))).bind fun x4 =>
some (.inl x4)))
set_option maxRecDepth 20000 in
set_option maxHeartbeats 4000000 in
theorem sgbX12_placeHeld_2 {Γ : Gm} {d : Nat} (hd : 1 ≤ d) {T : Nat} {h : Hp} (rs : RS T h) {u1 : Int32} {m : Mem} {s2 : Int32} {r : (Int32) ⊕ ((Unit) ⊕ (Int32))} {t : Option Value × Hp} (H : gbX12_placeHeld_2 u1 m s2 = some r) (kI : ∀ s, r = .inl s → (fun s2 => V Γ d mX12_placeHeld 2 [(0, .ref T), (1, .int u1), (2, .int s2)] [] (hm T h m) t) s) (kE : ∀ e, r = .inr e → (fun e => (match e with | .inl a0 => V Γ d mX12_placeHeld 28 [] [] (hm T h m) t | .inr b0 => V Γ d mX12_placeHeld 20 [(2, .int b0)] [] (hm T h m) t)) e) : V Γ d mX12_placeHeld 2 [(0, .ref T), (1, .int u1), (2, .int s2)] [] (hm T h m) t := by
  unfold gbX12_placeHeld_2 at H
  refine v_iload_n (q := 3) 2 dX12_placeHeld_2 rfl rfl rfl ?_
  refine v_aload_n (q := 4) 0 dX12_placeHeld_3 rfl rfl rfl ?_
  refine ur_gI (q := 7) (x := 0) (k := 31) rs dX12_placeHeld_4 w1387 (Nat.le_of_ble_eq_true rfl) rfl rfl ?_
  refine v_icmp_ge (q1 := 28) (q2 := 10) dX12_placeHeld_7 (by decide) rfl (fun c1 => ?_) (fun c1 => ?_)
  · replace H := ip c1 H
    exact V.sub [] rfl (kE (.inl ()) (Option.some.inj H).symm)
  · replace H := ine c1 H
    refine v_aload_n (q := 11) 0 dX12_placeHeld_10 rfl rfl rfl ?_
    refine ur_arr (q := 14) rs rt29 dX12_placeHeld_11 w1385 (Nat.le_of_ble_eq_true rfl) rfl rfl ?_
    refine v_iload_n (q := 15) 2 dX12_placeHeld_14 rfl rfl rfl ?_
    replace H := bs H; obtain ⟨x2, x2e, H⟩ := H
    refine ur_rd (q := 16) rs rt29 x2e dX12_placeHeld_15 rfl ?_
    refine v_iload_n (q := 17) 1 dX12_placeHeld_16 rfl rfl rfl ?_
    refine v_icmp_ne (q1 := 22) (q2 := 20) dX12_placeHeld_17 (by decide) rfl (fun c3 => ?_) (fun c3 => ?_)
    · replace H := ine c3 H
      replace H := bs H; obtain ⟨x4, x4e, H⟩ := H
      refine v_iinc (v := x4) (L' := [(2, .int x4), (0, .ref T), (1, .int u1)]) (q := 25) 2 dX12_placeHeld_22 rfl (Option.some.inj x4e) (by decide) rfl rfl ?_
      refine v_goto (q := 2) dX12_placeHeld_25 (by decide) ?_
      exact V.sub [1, 2, 0] rfl (kI x4 (Option.some.inj H).symm)
    · replace H := ip c3 H
      exact V.sub [2] rfl (kE (.inr s2) (Option.some.inj H).symm)
def gX12_placeHeld (m : Mem) (v1 : Int32) : Option (Int32) :=
(lp (gbX12_placeHeld_2 v1 m) FU (0 : Int32)).bind fun e5 =>
(match e5 with
| .inl e6 => (
some (-1 : Int32))
| .inr e7 => (
some e7))
set_option maxRecDepth 20000 in
set_option maxHeartbeats 4000000 in
theorem sgX12_placeHeld {Γ : Gm} {d : Nat} (hd : 1 ≤ d) {T : Nat} {h : Hp} (rs : RS T h) {m : Mem} {v1 : Int32} {r : Int32} (H : gX12_placeHeld m v1 = some r) : V Γ d mX12_placeHeld 0 [(0, .ref T), (1, .int v1)] [] (hm T h m) (some (.int r), (hm T h m)) := by
  unfold gX12_placeHeld at H
  refine v_iconst (v := 0) (q := 1) dX12_placeHeld_0 (by decide) rfl ?_
  refine v_istore_n (L' := [(2, .int (0 : Int32)), (0, .ref T), (1, .int v1)]) (q := 2) dX12_placeHeld_1 rfl (by decide) rfl rfl ?_
  replace H := bs H; obtain ⟨e5, e5L, H⟩ := H
  refine V.sub [1, 2, 0] rfl ?_
  refine lp_V (P := (fun s2 => V Γ d mX12_placeHeld 2 [(0, .ref T), (1, .int v1), (2, .int s2)] [] (hm T h m) (some (.int r), (hm T h m)))) (E := (fun e => (match e with | .inl a0 => V Γ d mX12_placeHeld 28 [] [] (hm T h m) (some (.int r), (hm T h m)) | .inr b0 => V Γ d mX12_placeHeld 20 [(2, .int b0)] [] (hm T h m) (some (.int r), (hm T h m))))) (fun s r hb kI kE => sgbX12_placeHeld_2 hd rs (s2 := s) (r := r) hb kI kE) FU (0 : Int32) e5 e5L ?_
  rcases e5 with e6 | e7
  · skip
    refine v_iconst (v := -1) (q := 29) dX12_placeHeld_28 (by decide) rfl ?_
    cases H
    exact v_ireturn rfl dX12_placeHeld_29
  · skip
    refine v_iload_n (q := 21) 0 dX12_placeHeld_20 rfl rfl rfl ?_
    cases H
    exact v_ireturn rfl dX12_placeHeld_21
def mX12_atReport : MI := (yX12_atReport, cX12_atReport, 2, some .int)
theorem oX12_atReport : mOK mX12_atReport 2 := ⟨by decide +kernel, by decide +kernel, by decide +kernel, by decide, w1672, w0150⟩
def gX12_atReport (v0 : Int32) (v1 : Int32) : Option (Int32) :=
some (((273 : Int32) + ((21 : Int32) * v0)) + v1)
set_option maxRecDepth 20000 in
set_option maxHeartbeats 4000000 in
theorem sgX12_atReport {Γ : Gm} {d : Nat} (hd : 1 ≤ d) {h : Hp} {v0 : Int32} {v1 : Int32} {r : Int32} (H : gX12_atReport v0 v1 = some r) : V Γ d mX12_atReport 0 [(0, .int v0), (1, .int v1)] [] h (some (.int r), h) := by
  unfold gX12_atReport at H
  refine v_sipush (v := 273) (q := 3) dX12_atReport_0 (by decide) rfl ?_
  refine v_bipush (v := 21) (q := 5) dX12_atReport_3 (by decide) rfl ?_
  refine v_iload_n (q := 6) 0 dX12_atReport_5 rfl rfl rfl ?_
  refine v_imul (q := 7) dX12_atReport_6 rfl ?_
  refine v_iadd (q := 8) dX12_atReport_7 rfl ?_
  refine v_iload_n (q := 9) 1 dX12_atReport_8 rfl rfl rfl ?_
  refine v_iadd (q := 10) dX12_atReport_9 rfl ?_
  cases H
  exact v_ireturn rfl dX12_atReport_10
def mX12_report : MI := (yX12_report, cX12_report, 7, none)
theorem oX12_report : mOK mX12_report 4 := ⟨by decide +kernel, by decide +kernel, by decide +kernel, by decide, w1669, w0150⟩
def gbX12_report_76 (u4 : Int32) (u5 : Int32) (s76 : Int32 × Mem) : Option ((Int32 × Mem) ⊕ (Mem)) :=
if u4 ≤ s76.1 then (
some (.inr s76.2)) else (
(gX12_atReport u5 ((4 : Int32) + s76.1)).bind fun x13 =>
(rd s76.2 17 20 s76.1).bind fun x14 =>
(wr s76.2 1 9685 x13 x14).bind fun m15 =>
(some (s76.1 + (1 : Int32))).bind fun x16 =>
some (.inl (x16, m15)))
set_option maxRecDepth 20000 in
set_option maxHeartbeats 4000000 in
theorem sgbX12_report_76 {Γ : Gm} {d : Nat} (hd : 2 ≤ d) {T : Nat} {h : Hp} (rs : RS T h) {u4 : Int32} {u5 : Int32} {s76 : Int32 × Mem} {r : (Int32 × Mem) ⊕ (Mem)} {t : Option Value × Hp} (H : gbX12_report_76 u4 u5 s76 = some r) (kI : ∀ s, r = .inl s → (fun s76 => V Γ d mX12_report 76 [(0, .ref T), (4, .int u4), (5, .int u5), (6, .int s76.1)] [] (hm T h s76.2) t) s) (kE : ∀ e, r = .inr e → (fun e => V Γ d mX12_report 110 [(0, .ref T)] [] (hm T h e) t) e) : V Γ d mX12_report 76 [(0, .ref T), (4, .int u4), (5, .int u5), (6, .int s76.1)] [] (hm T h s76.2) t := by
  unfold gbX12_report_76 at H
  refine v_iload (q := 78) 3 dX12_report_76 rfl rfl ?_
  refine v_iload (q := 80) 1 dX12_report_78 rfl rfl ?_
  refine v_icmp_ge (q1 := 110) (q2 := 83) dX12_report_80 (by decide) rfl (fun c12 => ?_) (fun c12 => ?_)
  · replace H := ip c12 H
    exact V.sub [0] rfl (kE s76.2 (Option.some.inj H).symm)
  · replace H := ine c12 H
    refine v_aload_n (q := 84) 0 dX12_report_83 rfl rfl rfl ?_
    refine ur_arr (q := 87) rs rt0 dX12_report_84 w1356 (Nat.le_of_ble_eq_true rfl) rfl rfl ?_
    refine v_iload (q := 89) 2 dX12_report_87 rfl rfl ?_
    refine v_iconst (v := 4) (q := 90) dX12_report_89 (by decide) rfl ?_
    refine v_iload (q := 92) 3 dX12_report_90 rfl rfl ?_
    refine v_iadd (q := 93) dX12_report_92 rfl ?_
    replace H := bs H; obtain ⟨x13, x13e, H⟩ := H
    refine u_callS1 (M' := mX12_atReport) (d' := 1) (As := [.int u5, .int ((4 : Int32) + s76.1)]) (st := [.ref (T + 1)]) (q := 96) oX12_atReport dX12_report_93 w1670 w1671 rfl (Nat.le_of_ble_eq_true rfl) (Nat.le_of_ble_eq_true rfl) (Nat.lt_of_lt_of_le (by decide) hd) rfl (sgX12_atReport (Nat.le_refl _) x13e) rfl ?_
    refine v_aload_n (q := 97) 0 dX12_report_96 rfl rfl rfl ?_
    refine ur_arr (q := 100) rs rt28 dX12_report_97 w1384 (Nat.le_of_ble_eq_true rfl) rfl rfl ?_
    refine v_iload (q := 102) 3 dX12_report_100 rfl rfl ?_
    replace H := bs H; obtain ⟨x14, x14e, H⟩ := H
    refine ur_rd (q := 103) rs rt28 x14e dX12_report_102 rfl ?_
    replace H := bs H; obtain ⟨m15, m15e, H⟩ := H
    refine ur_wr (q := 104) rs rt0 m15e dX12_report_103 rfl ?_
    replace H := bs H; obtain ⟨x16, x16e, H⟩ := H
    refine v_iinc (v := x16) (L' := [(6, .int x16), (0, .ref T), (4, .int u4), (5, .int u5)]) (q := 107) 3 dX12_report_104 rfl (Option.some.inj x16e) (by decide) rfl rfl ?_
    refine v_goto (q := 76) dX12_report_107 (by decide) ?_
    exact V.sub [1, 2, 3, 0] rfl (kI (x16, m15) (Option.some.inj H).symm)
def gX12_report (m : Mem) (v1 : Int32) (v2 : Int32) (v3 : Int32) (v4 : Int32) : Option (Mem) :=
(rd m 1 9685 (272 : Int32)).bind fun x1 =>
if x1 = (60 : Int32) then (
some m) else (
(rd m 1 9685 (272 : Int32)).bind fun x3 =>
(gX12_atReport x3 (0 : Int32)).bind fun x4 =>
(wr m 1 9685 x4 v1).bind fun m5 =>
(gX12_atReport x3 (1 : Int32)).bind fun x6 =>
(wr m5 1 9685 x6 v2).bind fun m7 =>
(gX12_atReport x3 (2 : Int32)).bind fun x8 =>
(wr m7 1 9685 x8 v3).bind fun m9 =>
(gX12_atReport x3 (3 : Int32)).bind fun x10 =>
(wr m9 1 9685 x10 v4).bind fun m11 =>
(lp (gbX12_report_76 v4 x3) FU ((0 : Int32), m11)).bind fun e17 =>
(rd e17 1 9685 (272 : Int32)).bind fun x18 =>
(wr e17 1 9685 (272 : Int32) (x18 + (1 : Int32))).bind fun m19 =>
some m19)
set_option maxRecDepth 20000 in
set_option maxHeartbeats 4000000 in
theorem sgX12_report {Γ : Gm} {d : Nat} (hd : 2 ≤ d) {T : Nat} {h : Hp} (rs : RS T h) {m : Mem} {v1 : Int32} {v2 : Int32} {v3 : Int32} {v4 : Int32} {r : Mem} (H : gX12_report m v1 v2 v3 v4 = some r) : V Γ d mX12_report 0 [(0, .ref T), (1, .int v1), (2, .int v2), (3, .int v3), (4, .int v4)] [] (hm T h m) (none, (hm T h r)) := by
  unfold gX12_report at H
  refine v_aload_n (q := 1) 0 dX12_report_0 rfl rfl rfl ?_
  refine ur_arr (q := 4) rs rt0 dX12_report_1 w1356 (Nat.le_of_ble_eq_true rfl) rfl rfl ?_
  refine v_sipush (v := 272) (q := 7) dX12_report_4 (by decide) rfl ?_
  replace H := bs H; obtain ⟨x1, x1e, H⟩ := H
  refine ur_rd (q := 8) rs rt0 x1e dX12_report_7 rfl ?_
  refine v_bipush (v := 60) (q := 10) dX12_report_8 (by decide) rfl ?_
  refine v_icmp_ne (q1 := 14) (q2 := 13) dX12_report_10 (by decide) rfl (fun c2 => ?_) (fun c2 => ?_)
  · replace H := ine c2 H
    refine v_aload_n (q := 15) 0 dX12_report_14 rfl rfl rfl ?_
    refine ur_arr (q := 18) rs rt0 dX12_report_15 w1356 (Nat.le_of_ble_eq_true rfl) rfl rfl ?_
    refine v_sipush (v := 272) (q := 21) dX12_report_18 (by decide) rfl ?_
    replace H := bs H; obtain ⟨x3, x3e, H⟩ := H
    refine ur_rd (q := 22) rs rt0 x3e dX12_report_21 rfl ?_
    refine v_istore (L' := [(5, .int x3), (0, .ref T), (1, .int v1), (2, .int v2), (3, .int v3), (4, .int v4)]) (q := 24) dX12_report_22 (by decide) rfl rfl ?_
    refine v_aload_n (q := 25) 1 dX12_report_24 rfl rfl rfl ?_
    refine ur_arr (q := 28) rs rt0 dX12_report_25 w1356 (Nat.le_of_ble_eq_true rfl) rfl rfl ?_
    refine v_iload (q := 30) 0 dX12_report_28 rfl rfl ?_
    refine v_iconst (v := 0) (q := 31) dX12_report_30 (by decide) rfl ?_
    replace H := bs H; obtain ⟨x4, x4e, H⟩ := H
    refine u_callS1 (M' := mX12_atReport) (d' := 1) (As := [.int x3, .int (0 : Int32)]) (st := [.ref (T + 1)]) (q := 34) oX12_atReport dX12_report_31 w1670 w1671 rfl (Nat.le_of_ble_eq_true rfl) (Nat.le_of_ble_eq_true rfl) (Nat.lt_of_lt_of_le (by decide) hd) rfl (sgX12_atReport (Nat.le_refl _) x4e) rfl ?_
    refine v_iload_n (q := 35) 2 dX12_report_34 rfl rfl rfl ?_
    replace H := bs H; obtain ⟨m5, m5e, H⟩ := H
    refine ur_wr (q := 36) rs rt0 m5e dX12_report_35 rfl ?_
    refine v_aload_n (q := 37) 1 dX12_report_36 rfl rfl rfl ?_
    refine ur_arr (q := 40) rs rt0 dX12_report_37 w1356 (Nat.le_of_ble_eq_true rfl) rfl rfl ?_
    refine v_iload (q := 42) 0 dX12_report_40 rfl rfl ?_
    refine v_iconst (v := 1) (q := 43) dX12_report_42 (by decide) rfl ?_
    replace H := bs H; obtain ⟨x6, x6e, H⟩ := H
    refine u_callS1 (M' := mX12_atReport) (d' := 1) (As := [.int x3, .int (1 : Int32)]) (st := [.ref (T + 1)]) (q := 46) oX12_atReport dX12_report_43 w1670 w1671 rfl (Nat.le_of_ble_eq_true rfl) (Nat.le_of_ble_eq_true rfl) (Nat.lt_of_lt_of_le (by decide) hd) rfl (sgX12_atReport (Nat.le_refl _) x6e) rfl ?_
    refine v_iload_n (q := 47) 3 dX12_report_46 rfl rfl rfl ?_
    replace H := bs H; obtain ⟨m7, m7e, H⟩ := H
    refine ur_wr (q := 48) rs rt0 m7e dX12_report_47 rfl ?_
    refine v_aload_n (q := 49) 1 dX12_report_48 rfl rfl rfl ?_
    refine ur_arr (q := 52) rs rt0 dX12_report_49 w1356 (Nat.le_of_ble_eq_true rfl) rfl rfl ?_
    refine v_iload (q := 54) 0 dX12_report_52 rfl rfl ?_
    refine v_iconst (v := 2) (q := 55) dX12_report_54 (by decide) rfl ?_
    replace H := bs H; obtain ⟨x8, x8e, H⟩ := H
    refine u_callS1 (M' := mX12_atReport) (d' := 1) (As := [.int x3, .int (2 : Int32)]) (st := [.ref (T + 1)]) (q := 58) oX12_atReport dX12_report_55 w1670 w1671 rfl (Nat.le_of_ble_eq_true rfl) (Nat.le_of_ble_eq_true rfl) (Nat.lt_of_lt_of_le (by decide) hd) rfl (sgX12_atReport (Nat.le_refl _) x8e) rfl ?_
    refine v_iload_n (q := 59) 4 dX12_report_58 rfl rfl rfl ?_
    replace H := bs H; obtain ⟨m9, m9e, H⟩ := H
    refine ur_wr (q := 60) rs rt0 m9e dX12_report_59 rfl ?_
    refine v_aload_n (q := 61) 1 dX12_report_60 rfl rfl rfl ?_
    refine ur_arr (q := 64) rs rt0 dX12_report_61 w1356 (Nat.le_of_ble_eq_true rfl) rfl rfl ?_
    refine v_iload (q := 66) 0 dX12_report_64 rfl rfl ?_
    refine v_iconst (v := 3) (q := 67) dX12_report_66 (by decide) rfl ?_
    replace H := bs H; obtain ⟨x10, x10e, H⟩ := H
    refine u_callS1 (M' := mX12_atReport) (d' := 1) (As := [.int x3, .int (3 : Int32)]) (st := [.ref (T + 1)]) (q := 70) oX12_atReport dX12_report_67 w1670 w1671 rfl (Nat.le_of_ble_eq_true rfl) (Nat.le_of_ble_eq_true rfl) (Nat.lt_of_lt_of_le (by decide) hd) rfl (sgX12_atReport (Nat.le_refl _) x10e) rfl ?_
    refine v_iload (q := 72) 5 dX12_report_70 rfl rfl ?_
    replace H := bs H; obtain ⟨m11, m11e, H⟩ := H
    refine ur_wr (q := 73) rs rt0 m11e dX12_report_72 rfl ?_
    refine v_iconst (v := 0) (q := 74) dX12_report_73 (by decide) rfl ?_
    refine v_istore (L' := [(6, .int (0 : Int32)), (5, .int x3), (0, .ref T), (1, .int v1), (2, .int v2), (3, .int v3), (4, .int v4)]) (q := 76) dX12_report_74 (by decide) rfl rfl ?_
    replace H := bs H; obtain ⟨e17, e17L, H⟩ := H
    refine V.sub [2, 6, 1, 0] rfl ?_
    refine lp_V (P := (fun s76 => V Γ d mX12_report 76 [(0, .ref T), (4, .int v4), (5, .int x3), (6, .int s76.1)] [] (hm T h s76.2) (none, (hm T h r)))) (E := (fun e => V Γ d mX12_report 110 [(0, .ref T)] [] (hm T h e) (none, (hm T h r)))) (fun s r hb kI kE => sgbX12_report_76 hd rs (s76 := s) (r := r) hb kI kE) FU ((0 : Int32), m11) e17 e17L ?_
    refine v_aload_n (q := 111) 0 dX12_report_110 rfl rfl rfl ?_
    refine ur_arr (q := 114) rs rt0 dX12_report_111 w1356 (Nat.le_of_ble_eq_true rfl) rfl rfl ?_
    refine v_sipush (v := 272) (q := 117) dX12_report_114 (by decide) rfl ?_
    refine v_dup2 (q := 118) dX12_report_117 rfl rfl rfl ?_
    replace H := bs H; obtain ⟨x18, x18e, H⟩ := H
    refine ur_rd (q := 119) rs rt0 x18e dX12_report_118 rfl ?_
    refine v_iconst (v := 1) (q := 120) dX12_report_119 (by decide) rfl ?_
    refine v_iadd (q := 121) dX12_report_120 rfl ?_
    replace H := bs H; obtain ⟨m19, m19e, H⟩ := H
    refine ur_wr (q := 122) rs rt0 m19e dX12_report_121 rfl ?_
    cases H
    exact v_return rfl dX12_report_122
  · replace H := ip c2 H
    cases H
    exact v_return rfl dX12_report_13
def mX12_reportOne : MI := (yX12_reportOne, cX12_reportOne, 5, none)
theorem oX12_reportOne : mOK mX12_reportOne 4 := ⟨by decide +kernel, by decide +kernel, by decide +kernel, by decide, w1665, w0150⟩
def gX12_reportOne (m : Mem) (v1 : Int32) (v2 : Int32) (v3 : Int32) (v4 : Int32) : Option (Mem) :=
(wr m 17 20 (0 : Int32) v4).bind fun m1 =>
(gX12_report m1 v1 v2 v3 (1 : Int32)).bind fun x2 =>
some x2
set_option maxRecDepth 20000 in
set_option maxHeartbeats 4000000 in
theorem sgX12_reportOne {Γ : Gm} {d : Nat} (hd : 3 ≤ d) {T : Nat} {h : Hp} (rs : RS T h) {m : Mem} {v1 : Int32} {v2 : Int32} {v3 : Int32} {v4 : Int32} {r : Mem} (H : gX12_reportOne m v1 v2 v3 v4 = some r) : V Γ d mX12_reportOne 0 [(0, .ref T), (1, .int v1), (2, .int v2), (3, .int v3), (4, .int v4)] [] (hm T h m) (none, (hm T h r)) := by
  unfold gX12_reportOne at H
  refine v_aload_n (q := 1) 0 dX12_reportOne_0 rfl rfl rfl ?_
  refine ur_arr (q := 4) rs rt28 dX12_reportOne_1 w1384 (Nat.le_of_ble_eq_true rfl) rfl rfl ?_
  refine v_iconst (v := 0) (q := 5) dX12_reportOne_4 (by decide) rfl ?_
  refine v_iload (q := 7) 4 dX12_reportOne_5 rfl rfl ?_
  replace H := bs H; obtain ⟨m1, m1e, H⟩ := H
  refine ur_wr (q := 8) rs rt28 m1e dX12_reportOne_7 rfl ?_
  refine v_aload_n (q := 9) 0 dX12_reportOne_8 rfl rfl rfl ?_
  refine v_iload_n (q := 10) 1 dX12_reportOne_9 rfl rfl rfl ?_
  refine v_iload_n (q := 11) 2 dX12_reportOne_10 rfl rfl rfl ?_
  refine v_iload_n (q := 12) 3 dX12_reportOne_11 rfl rfl rfl ?_
  refine v_iconst (v := 1) (q := 13) dX12_reportOne_12 (by decide) rfl ?_
  replace H := bs H; obtain ⟨x2, x2e, H⟩ := H
  refine u_callV0 (M' := mX12_report) (d' := 2) (rc := (RX12, TX12, 58)) (As := [.int v1, .int v2, .int v3, .int (1 : Int32)]) (st := []) (q := 16) oX12_report dX12_reportOne_13 w1666 w1668 w0080 rfl rfl (RS.rc rs).1 (RS.rc rs).2 rfl (Nat.le_of_ble_eq_true rfl) (Nat.le_of_ble_eq_true rfl) (Nat.lt_of_lt_of_le (by decide) hd) rfl (sgX12_report (Nat.le_refl _) rs x2e) rfl ?_
  cases H
  exact v_return rfl dX12_reportOne_16
def mX12_kind : MI := (yX12_kind, cX12_kind, 2, some .int)
theorem oX12_kind : mOK mX12_kind 1 := ⟨by decide +kernel, by decide +kernel, by decide +kernel, by decide, w1676, w0150⟩
def gX12_kind (m : Mem) (v1 : Int32) : Option (Int32) :=
(rd m 5 20 (((10 : Int32) * (m 0 9)) + v1)).bind fun x1 =>
some x1
set_option maxRecDepth 20000 in
set_option maxHeartbeats 4000000 in
theorem sgX12_kind {Γ : Gm} {d : Nat} (hd : 1 ≤ d) {T : Nat} {h : Hp} (rs : RS T h) {m : Mem} {v1 : Int32} {r : Int32} (H : gX12_kind m v1 = some r) : V Γ d mX12_kind 0 [(0, .ref T), (1, .int v1)] [] (hm T h m) (some (.int r), (hm T h m)) := by
  unfold gX12_kind at H
  refine v_aload_n (q := 1) 0 dX12_kind_0 rfl rfl rfl ?_
  refine ur_arr (q := 4) rs rt4 dX12_kind_1 w1360 (Nat.le_of_ble_eq_true rfl) rfl rfl ?_
  refine v_bipush (v := 10) (q := 6) dX12_kind_4 (by decide) rfl ?_
  refine v_aload_n (q := 7) 0 dX12_kind_6 rfl rfl rfl ?_
  refine ur_gI (q := 10) (x := 0) (k := 9) rs dX12_kind_7 w1365 (Nat.le_of_ble_eq_true rfl) rfl rfl ?_
  refine v_imul (q := 11) dX12_kind_10 rfl ?_
  refine v_iload_n (q := 12) 1 dX12_kind_11 rfl rfl rfl ?_
  refine v_iadd (q := 13) dX12_kind_12 rfl ?_
  replace H := bs H; obtain ⟨x1, x1e, H⟩ := H
  refine ur_rd (q := 14) rs rt4 x1e dX12_kind_13 rfl ?_
  cases H
  exact v_ireturn rfl dX12_kind_14
def mX12_keepChain : MI := (yX12_keepChain, cX12_keepChain, 6, none)
theorem oX12_keepChain : mOK mX12_keepChain 1 := ⟨by decide +kernel, by decide +kernel, by decide +kernel, by decide, w1680, w0150⟩
def gjX12_keepChain_73 (u1 : Int32) (v2 : Int32) (v3 : Int32) (v4 : Int32) (m : Mem) : Option ((Int32 × Int32 × Int32) ⊕ (Int32 × Int32)) :=
(some (v4 + (1 : Int32))).bind fun x5 =>
some (.inl (v2, v3, x5))
set_option maxRecDepth 20000 in
set_option maxHeartbeats 4000000 in
theorem sgjX12_keepChain_73 {Γ : Gm} {d : Nat} (hd : 1 ≤ d) {T : Nat} {h : Hp} (rs : RS T h) {u1 : Int32} {v2 : Int32} {v3 : Int32} {v4 : Int32} {m : Mem} {r : (Int32 × Int32 × Int32) ⊕ (Int32 × Int32)} {t : Option Value × Hp} (H : gjX12_keepChain_73 u1 v2 v3 v4 m = some r) (kI : ∀ s, r = .inl s → (fun s7 => V Γ d mX12_keepChain 7 [(0, .ref T), (1, .int u1), (2, .int s7.1), (3, .int s7.2.1), (4, .int s7.2.2)] [] (hm T h m) t) s) (kE : ∀ e, r = .inr e → (fun e => V Γ d mX12_keepChain 79 [(0, .ref T), (2, .int e.1), (3, .int e.2)] [] (hm T h m) t) e) : V Γ d mX12_keepChain 73 [(0, .ref T), (1, .int u1), (2, .int v2), (3, .int v3), (4, .int v4)] [] (hm T h m) t := by
  unfold gjX12_keepChain_73 at H
  replace H := bs H; obtain ⟨x5, x5e, H⟩ := H
  refine v_iinc (v := x5) (L' := [(4, .int x5), (0, .ref T), (1, .int u1), (2, .int v2), (3, .int v3)]) (q := 76) 4 dX12_keepChain_73 rfl (Option.some.inj x5e) (by decide) rfl rfl ?_
  refine v_goto (q := 7) dX12_keepChain_76 (by decide) ?_
  exact V.sub [1, 2, 3, 4, 0] rfl (kI (v2, v3, x5) (Option.some.inj H).symm)
def gjX12_keepChain_36 (u1 : Int32) (v2 : Int32) (v3 : Int32) (v4 : Int32) (y0 : Int32) (m : Mem) : Option ((Int32 × Int32 × Int32) ⊕ (Int32 × Int32)) :=
if (5 : Int32) ≤ v4 then (
(some (v3 ||| ((y0 + (1 : Int32)) <<< (((5 : Int32) * (v4 - (5 : Int32))) &&& 31)))).bind fun x4 =>
gjX12_keepChain_73 u1 v2 x4 v4 m) else (
(some (v2 ||| ((y0 + (1 : Int32)) <<< (((5 : Int32) * v4) &&& 31)))).bind fun x6 =>
gjX12_keepChain_73 u1 x6 v3 v4 m)
set_option maxRecDepth 20000 in
set_option maxHeartbeats 4000000 in
theorem sgjX12_keepChain_36 {Γ : Gm} {d : Nat} (hd : 1 ≤ d) {T : Nat} {h : Hp} (rs : RS T h) {u1 : Int32} {v2 : Int32} {v3 : Int32} {v4 : Int32} {y0 : Int32} {m : Mem} {r : (Int32 × Int32 × Int32) ⊕ (Int32 × Int32)} {t : Option Value × Hp} (H : gjX12_keepChain_36 u1 v2 v3 v4 y0 m = some r) (kI : ∀ s, r = .inl s → (fun s7 => V Γ d mX12_keepChain 7 [(0, .ref T), (1, .int u1), (2, .int s7.1), (3, .int s7.2.1), (4, .int s7.2.2)] [] (hm T h m) t) s) (kE : ∀ e, r = .inr e → (fun e => V Γ d mX12_keepChain 79 [(0, .ref T), (2, .int e.1), (3, .int e.2)] [] (hm T h m) t) e) : V Γ d mX12_keepChain 36 [(0, .ref T), (1, .int u1), (2, .int v2), (3, .int v3), (4, .int v4)] [.int y0] (hm T h m) t := by
  unfold gjX12_keepChain_36 at H
  refine v_istore (L' := [(5, .int y0), (0, .ref T), (1, .int u1), (2, .int v2), (3, .int v3), (4, .int v4)]) (q := 38) dX12_keepChain_36 (by decide) rfl rfl ?_
  refine v_iload (q := 40) 5 dX12_keepChain_38 rfl rfl ?_
  refine v_iconst (v := 5) (q := 41) dX12_keepChain_40 (by decide) rfl ?_
  refine v_icmp_ge (q1 := 59) (q2 := 44) dX12_keepChain_41 (by decide) rfl (fun c3 => ?_) (fun c3 => ?_)
  · replace H := ip c3 H
    refine v_iload_n (q := 60) 4 dX12_keepChain_59 rfl rfl rfl ?_
    refine v_iload (q := 62) 0 dX12_keepChain_60 rfl rfl ?_
    refine v_iconst (v := 1) (q := 63) dX12_keepChain_62 (by decide) rfl ?_
    refine v_iadd (q := 64) dX12_keepChain_63 rfl ?_
    refine v_iconst (v := 5) (q := 65) dX12_keepChain_64 (by decide) rfl ?_
    refine v_iload (q := 67) 5 dX12_keepChain_65 rfl rfl ?_
    refine v_iconst (v := 5) (q := 68) dX12_keepChain_67 (by decide) rfl ?_
    refine v_isub (q := 69) dX12_keepChain_68 rfl ?_
    refine v_imul (q := 70) dX12_keepChain_69 rfl ?_
    refine v_ishl (q := 71) dX12_keepChain_70 rfl ?_
    refine v_ior (q := 72) dX12_keepChain_71 rfl ?_
    replace H := bs H; obtain ⟨x4, x4e, H⟩ := H
    refine v_topi (Option.some.inj x4e) ?_
    refine v_istore_n (L' := [(3, .int x4), (5, .int y0), (0, .ref T), (1, .int u1), (2, .int v2), (4, .int v4)]) (q := 73) dX12_keepChain_72 rfl (by decide) rfl rfl ?_
    exact V.sub [2, 3, 4, 0, 5] rfl (sgjX12_keepChain_73 hd rs H kI kE)
  · replace H := ine c3 H
    refine v_iload_n (q := 45) 3 dX12_keepChain_44 rfl rfl rfl ?_
    refine v_iload (q := 47) 0 dX12_keepChain_45 rfl rfl ?_
    refine v_iconst (v := 1) (q := 48) dX12_keepChain_47 (by decide) rfl ?_
    refine v_iadd (q := 49) dX12_keepChain_48 rfl ?_
    refine v_iconst (v := 5) (q := 50) dX12_keepChain_49 (by decide) rfl ?_
    refine v_iload (q := 52) 5 dX12_keepChain_50 rfl rfl ?_
    refine v_imul (q := 53) dX12_keepChain_52 rfl ?_
    refine v_ishl (q := 54) dX12_keepChain_53 rfl ?_
    refine v_ior (q := 55) dX12_keepChain_54 rfl ?_
    replace H := bs H; obtain ⟨x6, x6e, H⟩ := H
    refine v_topi (Option.some.inj x6e) ?_
    refine v_istore_n (L' := [(2, .int x6), (5, .int y0), (0, .ref T), (1, .int u1), (3, .int v3), (4, .int v4)]) (q := 56) dX12_keepChain_55 rfl (by decide) rfl rfl ?_
    refine v_goto (q := 73) dX12_keepChain_56 (by decide) ?_
    exact V.sub [2, 3, 0, 4, 5] rfl (sgjX12_keepChain_73 hd rs H kI kE)
def gbX12_keepChain_7 (u1 : Int32) (m : Mem) (s7 : Int32 × Int32 × Int32) : Option ((Int32 × Int32 × Int32) ⊕ (Int32 × Int32)) :=
if (m 0 31) < s7.2.2 then (
some (.inr (s7.1, s7.2.1))) else (
if (m 0 31) ≤ s7.2.2 then (
gjX12_keepChain_36 u1 s7.1 s7.2.1 s7.2.2 u1 m) else (
(rd m 19 10 s7.2.2).bind fun x7 =>
gjX12_keepChain_36 u1 s7.1 s7.2.1 s7.2.2 x7 m))
set_option maxRecDepth 20000 in
set_option maxHeartbeats 4000000 in
theorem sgbX12_keepChain_7 {Γ : Gm} {d : Nat} (hd : 1 ≤ d) {T : Nat} {h : Hp} (rs : RS T h) {u1 : Int32} {m : Mem} {s7 : Int32 × Int32 × Int32} {r : (Int32 × Int32 × Int32) ⊕ (Int32 × Int32)} {t : Option Value × Hp} (H : gbX12_keepChain_7 u1 m s7 = some r) (kI : ∀ s, r = .inl s → (fun s7 => V Γ d mX12_keepChain 7 [(0, .ref T), (1, .int u1), (2, .int s7.1), (3, .int s7.2.1), (4, .int s7.2.2)] [] (hm T h m) t) s) (kE : ∀ e, r = .inr e → (fun e => V Γ d mX12_keepChain 79 [(0, .ref T), (2, .int e.1), (3, .int e.2)] [] (hm T h m) t) e) : V Γ d mX12_keepChain 7 [(0, .ref T), (1, .int u1), (2, .int s7.1), (3, .int s7.2.1), (4, .int s7.2.2)] [] (hm T h m) t := by
  unfold gbX12_keepChain_7 at H
  refine v_iload (q := 9) 4 dX12_keepChain_7 rfl rfl ?_
  refine v_aload_n (q := 10) 0 dX12_keepChain_9 rfl rfl rfl ?_
  refine ur_gI (q := 13) (x := 0) (k := 31) rs dX12_keepChain_10 w1387 (Nat.le_of_ble_eq_true rfl) rfl rfl ?_
  refine v_icmp_gt (q1 := 79) (q2 := 16) dX12_keepChain_13 (by decide) rfl (fun c1 => ?_) (fun c1 => ?_)
  · replace H := ip c1 H
    exact V.sub [0, 2, 3] rfl (kE (s7.1, s7.2.1) (Option.some.inj H).symm)
  · replace H := ine c1 H
    refine v_iload (q := 18) 4 dX12_keepChain_16 rfl rfl ?_
    refine v_aload_n (q := 19) 0 dX12_keepChain_18 rfl rfl rfl ?_
    refine ur_gI (q := 22) (x := 0) (k := 31) rs dX12_keepChain_19 w1387 (Nat.le_of_ble_eq_true rfl) rfl rfl ?_
    refine v_icmp_ge (q1 := 35) (q2 := 25) dX12_keepChain_22 (by decide) rfl (fun c2 => ?_) (fun c2 => ?_)
    · replace H := ip c2 H
      refine v_iload_n (q := 36) 1 dX12_keepChain_35 rfl rfl rfl ?_
      exact V.sub [0, 1, 2, 3, 4] rfl (sgjX12_keepChain_36 hd rs H kI kE)
    · replace H := ine c2 H
      refine v_aload_n (q := 26) 0 dX12_keepChain_25 rfl rfl rfl ?_
      refine ur_arr (q := 29) rs rt30 dX12_keepChain_26 w1386 (Nat.le_of_ble_eq_true rfl) rfl rfl ?_
      refine v_iload (q := 31) 4 dX12_keepChain_29 rfl rfl ?_
      replace H := bs H; obtain ⟨x7, x7e, H⟩ := H
      refine ur_rd (q := 32) rs rt30 x7e dX12_keepChain_31 rfl ?_
      refine v_goto (q := 36) dX12_keepChain_32 (by decide) ?_
      exact V.sub [0, 1, 2, 3, 4] rfl (sgjX12_keepChain_36 hd rs H kI kE)
def gjX12_keepChain_147 (u2 : Int32) (u3 : Int32) (v4 : Int32) (m : Mem) : Option ((Int32) ⊕ ((Unit) ⊕ (Unit))) :=
(some (v4 + (1 : Int32))).bind fun x13 =>
some (.inl x13)
set_option maxRecDepth 20000 in
set_option maxHeartbeats 4000000 in
theorem sgjX12_keepChain_147 {Γ : Gm} {d : Nat} (hd : 1 ≤ d) {T : Nat} {h : Hp} (rs : RS T h) {u2 : Int32} {u3 : Int32} {v4 : Int32} {m : Mem} {r : (Int32) ⊕ ((Unit) ⊕ (Unit))} {t : Option Value × Hp} (H : gjX12_keepChain_147 u2 u3 v4 m = some r) (kI : ∀ s, r = .inl s → (fun s82 => V Γ d mX12_keepChain 82 [(0, .ref T), (2, .int u2), (3, .int u3), (4, .int s82)] [] (hm T h m) t) s) (kE : ∀ e, r = .inr e → (fun e => (match e with | .inl a0 => V Γ d mX12_keepChain 153 [(0, .ref T), (2, .int u2), (3, .int u3)] [] (hm T h m) t | .inr b0 => V Γ d mX12_keepChain 134 [(0, .ref T)] [] (hm T h m) t)) e) : V Γ d mX12_keepChain 147 [(0, .ref T), (2, .int u2), (3, .int u3), (4, .int v4)] [] (hm T h m) t := by
  unfold gjX12_keepChain_147 at H
  replace H := bs H; obtain ⟨x13, x13e, H⟩ := H
  refine v_iinc (v := x13) (L' := [(4, .int x13), (0, .ref T), (2, .int u2), (3, .int u3)]) (q := 150) 3 dX12_keepChain_147 rfl (Option.some.inj x13e) (by decide) rfl rfl ?_
  refine v_goto (q := 82) dX12_keepChain_150 (by decide) ?_
  exact V.sub [1, 2, 3, 0] rfl (kI x13 (Option.some.inj H).symm)
def gbX12_keepChain_82 (u2 : Int32) (u3 : Int32) (m : Mem) (s82 : Int32) : Option ((Int32) ⊕ ((Unit) ⊕ (Unit))) :=
(rd m 1 9685 (1539 : Int32)).bind fun x9 =>
if x9 ≤ s82 then (
some (.inr (.inl ()))) else (
(rd m 1 9685 ((1685 : Int32) + ((2 : Int32) * s82))).bind fun x11 =>
if x11 = u2 then (
(rd m 1 9685 (((1685 : Int32) + ((2 : Int32) * s82)) + (1 : Int32))).bind fun x14 =>
if x14 = u3 then (
some (.inr (.inr ()))) else (
gjX12_keepChain_147 u2 u3 s82 m)) else (
gjX12_keepChain_147 u2 u3 s82 m))
set_option maxRecDepth 20000 in
set_option maxHeartbeats 4000000 in
theorem sgbX12_keepChain_82 {Γ : Gm} {d : Nat} (hd : 1 ≤ d) {T : Nat} {h : Hp} (rs : RS T h) {u2 : Int32} {u3 : Int32} {m : Mem} {s82 : Int32} {r : (Int32) ⊕ ((Unit) ⊕ (Unit))} {t : Option Value × Hp} (H : gbX12_keepChain_82 u2 u3 m s82 = some r) (kI : ∀ s, r = .inl s → (fun s82 => V Γ d mX12_keepChain 82 [(0, .ref T), (2, .int u2), (3, .int u3), (4, .int s82)] [] (hm T h m) t) s) (kE : ∀ e, r = .inr e → (fun e => (match e with | .inl a0 => V Γ d mX12_keepChain 153 [(0, .ref T), (2, .int u2), (3, .int u3)] [] (hm T h m) t | .inr b0 => V Γ d mX12_keepChain 134 [(0, .ref T)] [] (hm T h m) t)) e) : V Γ d mX12_keepChain 82 [(0, .ref T), (2, .int u2), (3, .int u3), (4, .int s82)] [] (hm T h m) t := by
  unfold gbX12_keepChain_82 at H
  refine v_iload (q := 84) 3 dX12_keepChain_82 rfl rfl ?_
  refine v_aload_n (q := 85) 0 dX12_keepChain_84 rfl rfl rfl ?_
  refine ur_arr (q := 88) rs rt0 dX12_keepChain_85 w1356 (Nat.le_of_ble_eq_true rfl) rfl rfl ?_
  refine v_sipush (v := 1539) (q := 91) dX12_keepChain_88 (by decide) rfl ?_
  replace H := bs H; obtain ⟨x9, x9e, H⟩ := H
  refine ur_rd (q := 92) rs rt0 x9e dX12_keepChain_91 rfl ?_
  refine v_icmp_ge (q1 := 153) (q2 := 95) dX12_keepChain_92 (by decide) rfl (fun c10 => ?_) (fun c10 => ?_)
  · replace H := ip c10 H
    exact V.sub [0, 1, 2] rfl (kE (.inl ()) (Option.some.inj H).symm)
  · replace H := ine c10 H
    refine v_aload_n (q := 96) 0 dX12_keepChain_95 rfl rfl rfl ?_
    refine ur_arr (q := 99) rs rt0 dX12_keepChain_96 w1356 (Nat.le_of_ble_eq_true rfl) rfl rfl ?_
    refine v_sipush (v := 1685) (q := 102) dX12_keepChain_99 (by decide) rfl ?_
    refine v_iconst (v := 2) (q := 103) dX12_keepChain_102 (by decide) rfl ?_
    refine v_iload (q := 105) 3 dX12_keepChain_103 rfl rfl ?_
    refine v_imul (q := 106) dX12_keepChain_105 rfl ?_
    refine v_iadd (q := 107) dX12_keepChain_106 rfl ?_
    replace H := bs H; obtain ⟨x11, x11e, H⟩ := H
    refine ur_rd (q := 108) rs rt0 x11e dX12_keepChain_107 rfl ?_
    refine v_iload_n (q := 109) 1 dX12_keepChain_108 rfl rfl rfl ?_
    refine v_icmp_ne (q1 := 147) (q2 := 112) dX12_keepChain_109 (by decide) rfl (fun c12 => ?_) (fun c12 => ?_)
    · replace H := ine c12 H
      exact V.sub [0, 1, 2, 3] rfl (sgjX12_keepChain_147 hd rs H kI kE)
    · replace H := ip c12 H
      refine v_aload_n (q := 113) 0 dX12_keepChain_112 rfl rfl rfl ?_
      refine ur_arr (q := 116) rs rt0 dX12_keepChain_113 w1356 (Nat.le_of_ble_eq_true rfl) rfl rfl ?_
      refine v_sipush (v := 1685) (q := 119) dX12_keepChain_116 (by decide) rfl ?_
      refine v_iconst (v := 2) (q := 120) dX12_keepChain_119 (by decide) rfl ?_
      refine v_iload (q := 122) 3 dX12_keepChain_120 rfl rfl ?_
      refine v_imul (q := 123) dX12_keepChain_122 rfl ?_
      refine v_iadd (q := 124) dX12_keepChain_123 rfl ?_
      refine v_iconst (v := 1) (q := 125) dX12_keepChain_124 (by decide) rfl ?_
      refine v_iadd (q := 126) dX12_keepChain_125 rfl ?_
      replace H := bs H; obtain ⟨x14, x14e, H⟩ := H
      refine ur_rd (q := 127) rs rt0 x14e dX12_keepChain_126 rfl ?_
      refine v_iload_n (q := 128) 2 dX12_keepChain_127 rfl rfl rfl ?_
      refine v_icmp_eq (q1 := 134) (q2 := 131) dX12_keepChain_128 (by decide) rfl (fun c15 => ?_) (fun c15 => ?_)
      · replace H := ip c15 H
        exact V.sub [0] rfl (kE (.inr ()) (Option.some.inj H).symm)
      · replace H := ine c15 H
        refine v_goto (q := 147) dX12_keepChain_131 (by decide) ?_
        exact V.sub [0, 1, 2, 3] rfl (sgjX12_keepChain_147 hd rs H kI kE)
def gX12_keepChain (m : Mem) (v1 : Int32) : Option (Mem) :=
(lp (gbX12_keepChain_7 v1 m) FU ((0 : Int32), (0 : Int32), (0 : Int32))).bind fun e8 =>
(lp (gbX12_keepChain_82 e8.1 e8.2 m) FU (0 : Int32)).bind fun e16 =>
(match e16 with
| .inl e17 => (
(rd m 1 9685 (1539 : Int32)).bind fun x19 =>
(wr m 1 9685 ((1685 : Int32) + ((2 : Int32) * x19)) e8.1).bind fun m20 =>
(rd m20 1 9685 (1539 : Int32)).bind fun x21 =>
(wr m20 1 9685 (((1685 : Int32) + ((2 : Int32) * x21)) + (1 : Int32)) e8.2).bind fun m22 =>
(rd m22 1 9685 (1539 : Int32)).bind fun x23 =>
(wr m22 1 9685 (1539 : Int32) (x23 + (1 : Int32))).bind fun m24 =>
some m24)
| .inr e18 => (
(rd m 1 9685 (1540 : Int32)).bind fun x25 =>
(wr m 1 9685 (1540 : Int32) (x25 + (1 : Int32))).bind fun m26 =>
some m26))
set_option maxRecDepth 20000 in
set_option maxHeartbeats 4000000 in
theorem sgX12_keepChain {Γ : Gm} {d : Nat} (hd : 1 ≤ d) {T : Nat} {h : Hp} (rs : RS T h) {m : Mem} {v1 : Int32} {r : Mem} (H : gX12_keepChain m v1 = some r) : V Γ d mX12_keepChain 0 [(0, .ref T), (1, .int v1)] [] (hm T h m) (none, (hm T h r)) := by
  unfold gX12_keepChain at H
  refine v_iconst (v := 0) (q := 1) dX12_keepChain_0 (by decide) rfl ?_
  refine v_istore_n (L' := [(2, .int (0 : Int32)), (0, .ref T), (1, .int v1)]) (q := 2) dX12_keepChain_1 rfl (by decide) rfl rfl ?_
  refine v_iconst (v := 0) (q := 3) dX12_keepChain_2 (by decide) rfl ?_
  refine v_istore_n (L' := [(3, .int (0 : Int32)), (2, .int (0 : Int32)), (0, .ref T), (1, .int v1)]) (q := 4) dX12_keepChain_3 rfl (by decide) rfl rfl ?_
  refine v_iconst (v := 0) (q := 5) dX12_keepChain_4 (by decide) rfl ?_
  refine v_istore (L' := [(4, .int (0 : Int32)), (3, .int (0 : Int32)), (2, .int (0 : Int32)), (0, .ref T), (1, .int v1)]) (q := 7) dX12_keepChain_5 (by decide) rfl rfl ?_
  replace H := bs H; obtain ⟨e8, e8L, H⟩ := H
  refine V.sub [3, 4, 2, 1, 0] rfl ?_
  refine lp_V (P := (fun s7 => V Γ d mX12_keepChain 7 [(0, .ref T), (1, .int v1), (2, .int s7.1), (3, .int s7.2.1), (4, .int s7.2.2)] [] (hm T h m) (none, (hm T h r)))) (E := (fun e => V Γ d mX12_keepChain 79 [(0, .ref T), (2, .int e.1), (3, .int e.2)] [] (hm T h m) (none, (hm T h r)))) (fun s r hb kI kE => sgbX12_keepChain_7 hd rs (s7 := s) (r := r) hb kI kE) FU ((0 : Int32), (0 : Int32), (0 : Int32)) e8 e8L ?_
  refine v_iconst (v := 0) (q := 80) dX12_keepChain_79 (by decide) rfl ?_
  refine v_istore (L' := [(4, .int (0 : Int32)), (0, .ref T), (2, .int e8.1), (3, .int e8.2)]) (q := 82) dX12_keepChain_80 (by decide) rfl rfl ?_
  replace H := bs H; obtain ⟨e16, e16L, H⟩ := H
  refine V.sub [1, 2, 3, 0] rfl ?_
  refine lp_V (P := (fun s82 => V Γ d mX12_keepChain 82 [(0, .ref T), (2, .int e8.1), (3, .int e8.2), (4, .int s82)] [] (hm T h m) (none, (hm T h r)))) (E := (fun e => (match e with | .inl a0 => V Γ d mX12_keepChain 153 [(0, .ref T), (2, .int e8.1), (3, .int e8.2)] [] (hm T h m) (none, (hm T h r)) | .inr b0 => V Γ d mX12_keepChain 134 [(0, .ref T)] [] (hm T h m) (none, (hm T h r))))) (fun s r hb kI kE => sgbX12_keepChain_82 hd rs (s82 := s) (r := r) hb kI kE) FU (0 : Int32) e16 e16L ?_
  rcases e16 with e17 | e18
  · skip
    refine v_aload_n (q := 154) 0 dX12_keepChain_153 rfl rfl rfl ?_
    refine ur_arr (q := 157) rs rt0 dX12_keepChain_154 w1356 (Nat.le_of_ble_eq_true rfl) rfl rfl ?_
    refine v_sipush (v := 1685) (q := 160) dX12_keepChain_157 (by decide) rfl ?_
    refine v_iconst (v := 2) (q := 161) dX12_keepChain_160 (by decide) rfl ?_
    refine v_aload_n (q := 162) 0 dX12_keepChain_161 rfl rfl rfl ?_
    refine ur_arr (q := 165) rs rt0 dX12_keepChain_162 w1356 (Nat.le_of_ble_eq_true rfl) rfl rfl ?_
    refine v_sipush (v := 1539) (q := 168) dX12_keepChain_165 (by decide) rfl ?_
    replace H := bs H; obtain ⟨x19, x19e, H⟩ := H
    refine ur_rd (q := 169) rs rt0 x19e dX12_keepChain_168 rfl ?_
    refine v_imul (q := 170) dX12_keepChain_169 rfl ?_
    refine v_iadd (q := 171) dX12_keepChain_170 rfl ?_
    refine v_iload_n (q := 172) 1 dX12_keepChain_171 rfl rfl rfl ?_
    replace H := bs H; obtain ⟨m20, m20e, H⟩ := H
    refine ur_wr (q := 173) rs rt0 m20e dX12_keepChain_172 rfl ?_
    refine v_aload_n (q := 174) 0 dX12_keepChain_173 rfl rfl rfl ?_
    refine ur_arr (q := 177) rs rt0 dX12_keepChain_174 w1356 (Nat.le_of_ble_eq_true rfl) rfl rfl ?_
    refine v_sipush (v := 1685) (q := 180) dX12_keepChain_177 (by decide) rfl ?_
    refine v_iconst (v := 2) (q := 181) dX12_keepChain_180 (by decide) rfl ?_
    refine v_aload_n (q := 182) 0 dX12_keepChain_181 rfl rfl rfl ?_
    refine ur_arr (q := 185) rs rt0 dX12_keepChain_182 w1356 (Nat.le_of_ble_eq_true rfl) rfl rfl ?_
    refine v_sipush (v := 1539) (q := 188) dX12_keepChain_185 (by decide) rfl ?_
    replace H := bs H; obtain ⟨x21, x21e, H⟩ := H
    refine ur_rd (q := 189) rs rt0 x21e dX12_keepChain_188 rfl ?_
    refine v_imul (q := 190) dX12_keepChain_189 rfl ?_
    refine v_iadd (q := 191) dX12_keepChain_190 rfl ?_
    refine v_iconst (v := 1) (q := 192) dX12_keepChain_191 (by decide) rfl ?_
    refine v_iadd (q := 193) dX12_keepChain_192 rfl ?_
    refine v_iload_n (q := 194) 2 dX12_keepChain_193 rfl rfl rfl ?_
    replace H := bs H; obtain ⟨m22, m22e, H⟩ := H
    refine ur_wr (q := 195) rs rt0 m22e dX12_keepChain_194 rfl ?_
    refine v_aload_n (q := 196) 0 dX12_keepChain_195 rfl rfl rfl ?_
    refine ur_arr (q := 199) rs rt0 dX12_keepChain_196 w1356 (Nat.le_of_ble_eq_true rfl) rfl rfl ?_
    refine v_sipush (v := 1539) (q := 202) dX12_keepChain_199 (by decide) rfl ?_
    refine v_dup2 (q := 203) dX12_keepChain_202 rfl rfl rfl ?_
    replace H := bs H; obtain ⟨x23, x23e, H⟩ := H
    refine ur_rd (q := 204) rs rt0 x23e dX12_keepChain_203 rfl ?_
    refine v_iconst (v := 1) (q := 205) dX12_keepChain_204 (by decide) rfl ?_
    refine v_iadd (q := 206) dX12_keepChain_205 rfl ?_
    replace H := bs H; obtain ⟨m24, m24e, H⟩ := H
    refine ur_wr (q := 207) rs rt0 m24e dX12_keepChain_206 rfl ?_
    cases H
    exact v_return rfl dX12_keepChain_207
  · skip
    refine v_aload_n (q := 135) 0 dX12_keepChain_134 rfl rfl rfl ?_
    refine ur_arr (q := 138) rs rt0 dX12_keepChain_135 w1356 (Nat.le_of_ble_eq_true rfl) rfl rfl ?_
    refine v_sipush (v := 1540) (q := 141) dX12_keepChain_138 (by decide) rfl ?_
    refine v_dup2 (q := 142) dX12_keepChain_141 rfl rfl rfl ?_
    replace H := bs H; obtain ⟨x25, x25e, H⟩ := H
    refine ur_rd (q := 143) rs rt0 x25e dX12_keepChain_142 rfl ?_
    refine v_iconst (v := 1) (q := 144) dX12_keepChain_143 (by decide) rfl ?_
    refine v_iadd (q := 145) dX12_keepChain_144 rfl ?_
    replace H := bs H; obtain ⟨m26, m26e, H⟩ := H
    refine ur_wr (q := 146) rs rt0 m26e dX12_keepChain_145 rfl ?_
    cases H
    exact v_return rfl dX12_keepChain_146
def mX12_firstOf : MI := (yX12_firstOf, cX12_firstOf, 2, some .int)
theorem oX12_firstOf : mOK mX12_firstOf 1 := ⟨by decide +kernel, by decide +kernel, by decide +kernel, by decide, w1696, w0150⟩
def gX12_firstOf (m : Mem) (v1 : Int32) : Option (Int32) :=
(gX12_atReport v1 (4 : Int32)).bind fun x1 =>
(rd m 1 9685 x1).bind fun x2 =>
some x2
set_option maxRecDepth 20000 in
set_option maxHeartbeats 4000000 in
theorem sgX12_firstOf {Γ : Gm} {d : Nat} (hd : 2 ≤ d) {T : Nat} {h : Hp} (rs : RS T h) {m : Mem} {v1 : Int32} {r : Int32} (H : gX12_firstOf m v1 = some r) : V Γ d mX12_firstOf 0 [(0, .ref T), (1, .int v1)] [] (hm T h m) (some (.int r), (hm T h m)) := by
  unfold gX12_firstOf at H
  refine v_aload_n (q := 1) 0 dX12_firstOf_0 rfl rfl rfl ?_
  refine ur_arr (q := 4) rs rt0 dX12_firstOf_1 w1356 (Nat.le_of_ble_eq_true rfl) rfl rfl ?_
  refine v_iload_n (q := 5) 1 dX12_firstOf_4 rfl rfl rfl ?_
  refine v_iconst (v := 4) (q := 6) dX12_firstOf_5 (by decide) rfl ?_
  replace H := bs H; obtain ⟨x1, x1e, H⟩ := H
  refine u_callS1 (M' := mX12_atReport) (d' := 1) (As := [.int v1, .int (4 : Int32)]) (st := [.ref (T + 1)]) (q := 9) oX12_atReport dX12_firstOf_6 w1670 w1671 rfl (Nat.le_of_ble_eq_true rfl) (Nat.le_of_ble_eq_true rfl) (Nat.lt_of_lt_of_le (by decide) hd) rfl (sgX12_atReport (Nat.le_refl _) x1e) rfl ?_
  replace H := bs H; obtain ⟨x2, x2e, H⟩ := H
  refine ur_rd (q := 10) rs rt0 x2e dX12_firstOf_9 rfl ?_
  cases H
  exact v_ireturn rfl dX12_firstOf_10
def mX12_lastOf : MI := (yX12_lastOf, cX12_lastOf, 2, some .int)
theorem oX12_lastOf : mOK mX12_lastOf 1 := ⟨by decide +kernel, by decide +kernel, by decide +kernel, by decide, w1700, w0150⟩
def gX12_lastOf (m : Mem) (v1 : Int32) : Option (Int32) :=
(gX12_atReport v1 (3 : Int32)).bind fun x1 =>
(rd m 1 9685 x1).bind fun x2 =>
(gX12_atReport v1 (((4 : Int32) + x2) - (1 : Int32))).bind fun x3 =>
(rd m 1 9685 x3).bind fun x4 =>
some x4
set_option maxRecDepth 20000 in
set_option maxHeartbeats 4000000 in
theorem sgX12_lastOf {Γ : Gm} {d : Nat} (hd : 2 ≤ d) {T : Nat} {h : Hp} (rs : RS T h) {m : Mem} {v1 : Int32} {r : Int32} (H : gX12_lastOf m v1 = some r) : V Γ d mX12_lastOf 0 [(0, .ref T), (1, .int v1)] [] (hm T h m) (some (.int r), (hm T h m)) := by
  unfold gX12_lastOf at H
  refine v_aload_n (q := 1) 0 dX12_lastOf_0 rfl rfl rfl ?_
  refine ur_arr (q := 4) rs rt0 dX12_lastOf_1 w1356 (Nat.le_of_ble_eq_true rfl) rfl rfl ?_
  refine v_iload_n (q := 5) 1 dX12_lastOf_4 rfl rfl rfl ?_
  refine v_iconst (v := 4) (q := 6) dX12_lastOf_5 (by decide) rfl ?_
  refine v_aload_n (q := 7) 0 dX12_lastOf_6 rfl rfl rfl ?_
  refine ur_arr (q := 10) rs rt0 dX12_lastOf_7 w1356 (Nat.le_of_ble_eq_true rfl) rfl rfl ?_
  refine v_iload_n (q := 11) 1 dX12_lastOf_10 rfl rfl rfl ?_
  refine v_iconst (v := 3) (q := 12) dX12_lastOf_11 (by decide) rfl ?_
  replace H := bs H; obtain ⟨x1, x1e, H⟩ := H
  refine u_callS1 (M' := mX12_atReport) (d' := 1) (As := [.int v1, .int (3 : Int32)]) (st := [.ref (T + 1), .int (4 : Int32), .int v1, .ref (T + 1)]) (q := 15) oX12_atReport dX12_lastOf_12 w1670 w1671 rfl (Nat.le_of_ble_eq_true rfl) (Nat.le_of_ble_eq_true rfl) (Nat.lt_of_lt_of_le (by decide) hd) rfl (sgX12_atReport (Nat.le_refl _) x1e) rfl ?_
  replace H := bs H; obtain ⟨x2, x2e, H⟩ := H
  refine ur_rd (q := 16) rs rt0 x2e dX12_lastOf_15 rfl ?_
  refine v_iadd (q := 17) dX12_lastOf_16 rfl ?_
  refine v_iconst (v := 1) (q := 18) dX12_lastOf_17 (by decide) rfl ?_
  refine v_isub (q := 19) dX12_lastOf_18 rfl ?_
  replace H := bs H; obtain ⟨x3, x3e, H⟩ := H
  refine u_callS1 (M' := mX12_atReport) (d' := 1) (As := [.int v1, .int (((4 : Int32) + x2) - (1 : Int32))]) (st := [.ref (T + 1)]) (q := 22) oX12_atReport dX12_lastOf_19 w1670 w1671 rfl (Nat.le_of_ble_eq_true rfl) (Nat.le_of_ble_eq_true rfl) (Nat.lt_of_lt_of_le (by decide) hd) rfl (sgX12_atReport (Nat.le_refl _) x3e) rfl ?_
  replace H := bs H; obtain ⟨x4, x4e, H⟩ := H
  refine ur_rd (q := 23) rs rt0 x4e dX12_lastOf_22 rfl ?_
  cases H
  exact v_ireturn rfl dX12_lastOf_23
def mX12_isReported : MI := (yX12_isReported, cX12_isReported, 5, some .boolean)
theorem oX12_isReported : mOK mX12_isReported 3 := ⟨by decide +kernel, by decide +kernel, by decide +kernel, by decide, w1692, w0150⟩
def gjX12_isReported_53 (u1 : Int32) (u2 : Int32) (u3 : Int32) (v4 : Int32) (m : Mem) : Option ((Int32) ⊕ ((Unit) ⊕ (Unit))) :=
(some (v4 + (1 : Int32))).bind fun x6 =>
some (.inl x6)
set_option maxRecDepth 20000 in
set_option maxHeartbeats 4000000 in
theorem sgjX12_isReported_53 {Γ : Gm} {d : Nat} (hd : 3 ≤ d) {T : Nat} {h : Hp} (rs : RS T h) {u1 : Int32} {u2 : Int32} {u3 : Int32} {v4 : Int32} {m : Mem} {r : (Int32) ⊕ ((Unit) ⊕ (Unit))} {t : Option Value × Hp} (H : gjX12_isReported_53 u1 u2 u3 v4 m = some r) (kI : ∀ s, r = .inl s → (fun s3 => V Γ d mX12_isReported 3 [(0, .ref T), (1, .int u1), (2, .int u2), (3, .int u3), (4, .int s3)] [] (hm T h m) t) s) (kE : ∀ e, r = .inr e → (fun e => (match e with | .inl a0 => V Γ d mX12_isReported 59 [] [] (hm T h m) t | .inr b0 => V Γ d mX12_isReported 51 [] [] (hm T h m) t)) e) : V Γ d mX12_isReported 53 [(0, .ref T), (1, .int u1), (2, .int u2), (3, .int u3), (4, .int v4)] [] (hm T h m) t := by
  unfold gjX12_isReported_53 at H
  replace H := bs H; obtain ⟨x6, x6e, H⟩ := H
  refine v_iinc (v := x6) (L' := [(4, .int x6), (0, .ref T), (1, .int u1), (2, .int u2), (3, .int u3)]) (q := 56) 4 dX12_isReported_53 rfl (Option.some.inj x6e) (by decide) rfl rfl ?_
  refine v_goto (q := 3) dX12_isReported_56 (by decide) ?_
  exact V.sub [1, 2, 3, 4, 0] rfl (kI x6 (Option.some.inj H).symm)
def gbX12_isReported_3 (u1 : Int32) (u2 : Int32) (u3 : Int32) (m : Mem) (s3 : Int32) : Option ((Int32) ⊕ ((Unit) ⊕ (Unit))) :=
(rd m 1 9685 (272 : Int32)).bind fun x1 =>
if x1 ≤ s3 then (
some (.inr (.inl ()))) else (
(gX12_atReport s3 (0 : Int32)).bind fun x3 =>
(rd m 1 9685 x3).bind fun x4 =>
if x4 = u1 then (
(gX12_firstOf m s3).bind fun x7 =>
if x7 = u2 then (
(gX12_lastOf m s3).bind fun x9 =>
if x9 = u3 then (
some (.inr (.inr ()))) else (
gjX12_isReported_53 u1 u2 u3 s3 m)) else (
gjX12_isReported_53 u1 u2 u3 s3 m)) else (
gjX12_isReported_53 u1 u2 u3 s3 m))
set_option maxRecDepth 20000 in
set_option maxHeartbeats 4000000 in
theorem sgbX12_isReported_3 {Γ : Gm} {d : Nat} (hd : 3 ≤ d) {T : Nat} {h : Hp} (rs : RS T h) {u1 : Int32} {u2 : Int32} {u3 : Int32} {m : Mem} {s3 : Int32} {r : (Int32) ⊕ ((Unit) ⊕ (Unit))} {t : Option Value × Hp} (H : gbX12_isReported_3 u1 u2 u3 m s3 = some r) (kI : ∀ s, r = .inl s → (fun s3 => V Γ d mX12_isReported 3 [(0, .ref T), (1, .int u1), (2, .int u2), (3, .int u3), (4, .int s3)] [] (hm T h m) t) s) (kE : ∀ e, r = .inr e → (fun e => (match e with | .inl a0 => V Γ d mX12_isReported 59 [] [] (hm T h m) t | .inr b0 => V Γ d mX12_isReported 51 [] [] (hm T h m) t)) e) : V Γ d mX12_isReported 3 [(0, .ref T), (1, .int u1), (2, .int u2), (3, .int u3), (4, .int s3)] [] (hm T h m) t := by
  unfold gbX12_isReported_3 at H
  refine v_iload (q := 5) 4 dX12_isReported_3 rfl rfl ?_
  refine v_aload_n (q := 6) 0 dX12_isReported_5 rfl rfl rfl ?_
  refine ur_arr (q := 9) rs rt0 dX12_isReported_6 w1356 (Nat.le_of_ble_eq_true rfl) rfl rfl ?_
  refine v_sipush (v := 272) (q := 12) dX12_isReported_9 (by decide) rfl ?_
  replace H := bs H; obtain ⟨x1, x1e, H⟩ := H
  refine ur_rd (q := 13) rs rt0 x1e dX12_isReported_12 rfl ?_
  refine v_icmp_ge (q1 := 59) (q2 := 16) dX12_isReported_13 (by decide) rfl (fun c2 => ?_) (fun c2 => ?_)
  · replace H := ip c2 H
    exact V.sub [] rfl (kE (.inl ()) (Option.some.inj H).symm)
  · replace H := ine c2 H
    refine v_aload_n (q := 17) 0 dX12_isReported_16 rfl rfl rfl ?_
    refine ur_arr (q := 20) rs rt0 dX12_isReported_17 w1356 (Nat.le_of_ble_eq_true rfl) rfl rfl ?_
    refine v_iload (q := 22) 4 dX12_isReported_20 rfl rfl ?_
    refine v_iconst (v := 0) (q := 23) dX12_isReported_22 (by decide) rfl ?_
    replace H := bs H; obtain ⟨x3, x3e, H⟩ := H
    refine u_callS1 (M' := mX12_atReport) (d' := 1) (As := [.int s3, .int (0 : Int32)]) (st := [.ref (T + 1)]) (q := 26) oX12_atReport dX12_isReported_23 w1670 w1671 rfl (Nat.le_of_ble_eq_true rfl) (Nat.le_of_ble_eq_true rfl) (Nat.lt_of_lt_of_le (by decide) hd) rfl (sgX12_atReport (Nat.le_refl _) x3e) rfl ?_
    replace H := bs H; obtain ⟨x4, x4e, H⟩ := H
    refine ur_rd (q := 27) rs rt0 x4e dX12_isReported_26 rfl ?_
    refine v_iload_n (q := 28) 1 dX12_isReported_27 rfl rfl rfl ?_
    refine v_icmp_ne (q1 := 53) (q2 := 31) dX12_isReported_28 (by decide) rfl (fun c5 => ?_) (fun c5 => ?_)
    · replace H := ine c5 H
      exact V.sub [0, 1, 2, 3, 4] rfl (sgjX12_isReported_53 hd rs H kI kE)
    · replace H := ip c5 H
      refine v_aload_n (q := 32) 0 dX12_isReported_31 rfl rfl rfl ?_
      refine v_iload (q := 34) 4 dX12_isReported_32 rfl rfl ?_
      replace H := bs H; obtain ⟨x7, x7e, H⟩ := H
      refine u_callV1 (M' := mX12_firstOf) (d' := 2) (rc := (RX12, TX12, 58)) (As := [.int s3]) (st := []) (q := 37) oX12_firstOf dX12_isReported_34 w1693 w1695 w0086 rfl rfl (RS.rc rs).1 (RS.rc rs).2 rfl (Nat.le_of_ble_eq_true rfl) (Nat.le_of_ble_eq_true rfl) (Nat.lt_of_lt_of_le (by decide) hd) rfl (sgX12_firstOf (Nat.le_refl _) rs x7e) rfl ?_
      refine v_iload_n (q := 38) 2 dX12_isReported_37 rfl rfl rfl ?_
      refine v_icmp_ne (q1 := 53) (q2 := 41) dX12_isReported_38 (by decide) rfl (fun c8 => ?_) (fun c8 => ?_)
      · replace H := ine c8 H
        exact V.sub [0, 1, 2, 3, 4] rfl (sgjX12_isReported_53 hd rs H kI kE)
      · replace H := ip c8 H
        refine v_aload_n (q := 42) 0 dX12_isReported_41 rfl rfl rfl ?_
        refine v_iload (q := 44) 4 dX12_isReported_42 rfl rfl ?_
        replace H := bs H; obtain ⟨x9, x9e, H⟩ := H
        refine u_callV1 (M' := mX12_lastOf) (d' := 2) (rc := (RX12, TX12, 58)) (As := [.int s3]) (st := []) (q := 47) oX12_lastOf dX12_isReported_44 w1697 w1699 w0087 rfl rfl (RS.rc rs).1 (RS.rc rs).2 rfl (Nat.le_of_ble_eq_true rfl) (Nat.le_of_ble_eq_true rfl) (Nat.lt_of_lt_of_le (by decide) hd) rfl (sgX12_lastOf (Nat.le_refl _) rs x9e) rfl ?_
        refine v_iload_n (q := 48) 3 dX12_isReported_47 rfl rfl rfl ?_
        refine v_icmp_ne (q1 := 53) (q2 := 51) dX12_isReported_48 (by decide) rfl (fun c10 => ?_) (fun c10 => ?_)
        · replace H := ine c10 H
          exact V.sub [0, 1, 2, 3, 4] rfl (sgjX12_isReported_53 hd rs H kI kE)
        · replace H := ip c10 H
          exact V.sub [] rfl (kE (.inr ()) (Option.some.inj H).symm)
def gX12_isReported (m : Mem) (v1 : Int32) (v2 : Int32) (v3 : Int32) : Option (Int32) :=
(lp (gbX12_isReported_3 v1 v2 v3 m) FU (0 : Int32)).bind fun e11 =>
(match e11 with
| .inl e12 => (
some (0 : Int32))
| .inr e13 => (
some (1 : Int32)))
set_option maxRecDepth 20000 in
set_option maxHeartbeats 4000000 in
theorem sgX12_isReported {Γ : Gm} {d : Nat} (hd : 3 ≤ d) {T : Nat} {h : Hp} (rs : RS T h) {m : Mem} {v1 : Int32} {v2 : Int32} {v3 : Int32} {r : Int32} (H : gX12_isReported m v1 v2 v3 = some r) : V Γ d mX12_isReported 0 [(0, .ref T), (1, .int v1), (2, .int v2), (3, .int v3)] [] (hm T h m) (some (.int r), (hm T h m)) := by
  unfold gX12_isReported at H
  refine v_iconst (v := 0) (q := 1) dX12_isReported_0 (by decide) rfl ?_
  refine v_istore (L' := [(4, .int (0 : Int32)), (0, .ref T), (1, .int v1), (2, .int v2), (3, .int v3)]) (q := 3) dX12_isReported_1 (by decide) rfl rfl ?_
  replace H := bs H; obtain ⟨e11, e11L, H⟩ := H
  refine V.sub [1, 2, 3, 4, 0] rfl ?_
  refine lp_V (P := (fun s3 => V Γ d mX12_isReported 3 [(0, .ref T), (1, .int v1), (2, .int v2), (3, .int v3), (4, .int s3)] [] (hm T h m) (some (.int r), (hm T h m)))) (E := (fun e => (match e with | .inl a0 => V Γ d mX12_isReported 59 [] [] (hm T h m) (some (.int r), (hm T h m)) | .inr b0 => V Γ d mX12_isReported 51 [] [] (hm T h m) (some (.int r), (hm T h m))))) (fun s r hb kI kE => sgbX12_isReported_3 hd rs (s3 := s) (r := r) hb kI kE) FU (0 : Int32) e11 e11L ?_
  rcases e11 with e12 | e13
  · skip
    refine v_iconst (v := 0) (q := 60) dX12_isReported_59 (by decide) rfl ?_
    cases H
    exact v_zreturn rfl (by decide) dX12_isReported_60
  · skip
    refine v_iconst (v := 1) (q := 52) dX12_isReported_51 (by decide) rfl ?_
    cases H
    exact v_zreturn rfl (by decide) dX12_isReported_52
def mX12_reportOnce : MI := (yX12_reportOnce, cX12_reportOnce, 5, none)
theorem oX12_reportOnce : mOK mX12_reportOnce 4 := ⟨by decide +kernel, by decide +kernel, by decide +kernel, by decide, w1688, w0150⟩
def gjX12_reportOnce_21 (m : Mem) : Option (Mem) :=
some m
set_option maxRecDepth 20000 in
set_option maxHeartbeats 4000000 in
theorem sgjX12_reportOnce_21 {Γ : Gm} {d : Nat} (hd : 4 ≤ d) {T : Nat} {h : Hp} (rs : RS T h) {m : Mem} {r : Mem} (H : gjX12_reportOnce_21 m = some r) : V Γ d mX12_reportOnce 21 [] [] (hm T h m) (none, (hm T h r)) := by
  unfold gjX12_reportOnce_21 at H
  cases H
  exact v_return rfl dX12_reportOnce_21
def gX12_reportOnce (m : Mem) (v1 : Int32) (v2 : Int32) (v3 : Int32) (v4 : Int32) : Option (Mem) :=
(gX12_isReported m v1 v4 v4).bind fun x1 =>
if x1 = 0 then (
(gX12_reportOne m v1 v2 v3 v4).bind fun x3 =>
gjX12_reportOnce_21 x3) else (
gjX12_reportOnce_21 m)
set_option maxRecDepth 20000 in
set_option maxHeartbeats 4000000 in
theorem sgX12_reportOnce {Γ : Gm} {d : Nat} (hd : 4 ≤ d) {T : Nat} {h : Hp} (rs : RS T h) {m : Mem} {v1 : Int32} {v2 : Int32} {v3 : Int32} {v4 : Int32} {r : Mem} (H : gX12_reportOnce m v1 v2 v3 v4 = some r) : V Γ d mX12_reportOnce 0 [(0, .ref T), (1, .int v1), (2, .int v2), (3, .int v3), (4, .int v4)] [] (hm T h m) (none, (hm T h r)) := by
  unfold gX12_reportOnce at H
  refine v_aload_n (q := 1) 0 dX12_reportOnce_0 rfl rfl rfl ?_
  refine v_iload_n (q := 2) 1 dX12_reportOnce_1 rfl rfl rfl ?_
  refine v_iload (q := 4) 4 dX12_reportOnce_2 rfl rfl ?_
  refine v_iload (q := 6) 4 dX12_reportOnce_4 rfl rfl ?_
  replace H := bs H; obtain ⟨x1, x1e, H⟩ := H
  refine u_callV1 (M' := mX12_isReported) (d' := 3) (rc := (RX12, TX12, 58)) (As := [.int v1, .int v4, .int v4]) (st := []) (q := 9) oX12_isReported dX12_reportOnce_6 w1689 w1691 w0085 rfl rfl (RS.rc rs).1 (RS.rc rs).2 rfl (Nat.le_of_ble_eq_true rfl) (Nat.le_of_ble_eq_true rfl) (Nat.lt_of_lt_of_le (by decide) hd) rfl (sgX12_isReported (Nat.le_refl _) rs x1e) rfl ?_
  refine v_if_ne (q1 := 21) (q2 := 12) dX12_reportOnce_9 (by decide) rfl (fun c2 => ?_) (fun c2 => ?_)
  · replace H := ine c2 H
    exact V.sub [] rfl (sgjX12_reportOnce_21 hd rs H)
  · replace H := ip c2 H
    refine v_aload_n (q := 13) 0 dX12_reportOnce_12 rfl rfl rfl ?_
    refine v_iload_n (q := 14) 1 dX12_reportOnce_13 rfl rfl rfl ?_
    refine v_iload_n (q := 15) 2 dX12_reportOnce_14 rfl rfl rfl ?_
    refine v_iload_n (q := 16) 3 dX12_reportOnce_15 rfl rfl rfl ?_
    refine v_iload (q := 18) 4 dX12_reportOnce_16 rfl rfl ?_
    replace H := bs H; obtain ⟨x3, x3e, H⟩ := H
    refine u_callV0 (M' := mX12_reportOne) (d' := 3) (rc := (RX12, TX12, 58)) (As := [.int v1, .int v2, .int v3, .int v4]) (st := []) (q := 21) oX12_reportOne dX12_reportOnce_18 w1662 w1664 w0079 rfl rfl (RS.rc rs).1 (RS.rc rs).2 rfl (Nat.le_of_ble_eq_true rfl) (Nat.le_of_ble_eq_true rfl) (Nat.lt_of_lt_of_le (by decide) hd) rfl (sgX12_reportOne (Nat.le_refl _) rs x3e) rfl ?_
    exact V.sub [] rfl (sgjX12_reportOnce_21 hd rs H)
def mX12_isEdge : MI := (yX12_isEdge, cX12_isEdge, 3, some .boolean)
theorem oX12_isEdge : mOK mX12_isEdge 2 := ⟨by decide +kernel, by decide +kernel, by decide +kernel, by decide, w1704, w0150⟩
def gjX12_isEdge_21 (y0 : Int32) (m : Mem) : Option (Int32) :=
(bz y0).bind fun x3 =>
some x3
set_option maxRecDepth 20000 in
set_option maxHeartbeats 4000000 in
theorem sgjX12_isEdge_21 {Γ : Gm} {d : Nat} (hd : 1 ≤ d) {T : Nat} {h : Hp} (rs : RS T h) {y0 : Int32} {m : Mem} {r : Int32} (H : gjX12_isEdge_21 y0 m = some r) : V Γ d mX12_isEdge 21 [] [.int y0] (hm T h m) (some (.int r), (hm T h m)) := by
  unfold gjX12_isEdge_21 at H
  replace H := bs H; obtain ⟨x3, x3e, H⟩ := H
  obtain ⟨x3q, x3z⟩ := bz_sp x3e
  refine v_topi x3q.symm ?_
  cases H
  exact v_zreturn rfl (by rw [x3q]; exact x3z) dX12_isEdge_21
def gX12_isEdge (m : Mem) (v1 : Int32) (v2 : Int32) : Option (Int32) :=
(rd m 1 9685 (((0 : Int32) + ((16 : Int32) * v1)) + v2)).bind fun x1 =>
if x1 ≤ 0 then (
gjX12_isEdge_21 (0 : Int32) m) else (
gjX12_isEdge_21 (1 : Int32) m)
set_option maxRecDepth 20000 in
set_option maxHeartbeats 4000000 in
theorem sgX12_isEdge {Γ : Gm} {d : Nat} (hd : 1 ≤ d) {T : Nat} {h : Hp} (rs : RS T h) {m : Mem} {v1 : Int32} {v2 : Int32} {r : Int32} (H : gX12_isEdge m v1 v2 = some r) : V Γ d mX12_isEdge 0 [(0, .ref T), (1, .int v1), (2, .int v2)] [] (hm T h m) (some (.int r), (hm T h m)) := by
  unfold gX12_isEdge at H
  refine v_aload_n (q := 1) 0 dX12_isEdge_0 rfl rfl rfl ?_
  refine ur_arr (q := 4) rs rt0 dX12_isEdge_1 w1356 (Nat.le_of_ble_eq_true rfl) rfl rfl ?_
  refine v_iconst (v := 0) (q := 5) dX12_isEdge_4 (by decide) rfl ?_
  refine v_bipush (v := 16) (q := 7) dX12_isEdge_5 (by decide) rfl ?_
  refine v_iload_n (q := 8) 1 dX12_isEdge_7 rfl rfl rfl ?_
  refine v_imul (q := 9) dX12_isEdge_8 rfl ?_
  refine v_iadd (q := 10) dX12_isEdge_9 rfl ?_
  refine v_iload_n (q := 11) 2 dX12_isEdge_10 rfl rfl rfl ?_
  refine v_iadd (q := 12) dX12_isEdge_11 rfl ?_
  replace H := bs H; obtain ⟨x1, x1e, H⟩ := H
  refine ur_rd (q := 13) rs rt0 x1e dX12_isEdge_12 rfl ?_
  refine v_if_le (q1 := 20) (q2 := 16) dX12_isEdge_13 (by decide) rfl (fun c2 => ?_) (fun c2 => ?_)
  · replace H := ip c2 H
    refine v_iconst (v := 0) (q := 21) dX12_isEdge_20 (by decide) rfl ?_
    exact V.sub [] rfl (sgjX12_isEdge_21 hd rs H)
  · replace H := ine c2 H
    refine v_iconst (v := 1) (q := 17) dX12_isEdge_16 (by decide) rfl ?_
    refine v_goto (q := 21) dX12_isEdge_17 (by decide) ?_
    exact V.sub [] rfl (sgjX12_isEdge_21 hd rs H)
def mX12_layWay : MI := (yX12_layWay, cX12_layWay, 8, some .int)
theorem oX12_layWay : mOK mX12_layWay 2 := ⟨by decide +kernel, by decide +kernel, by decide +kernel, by decide, w1712, w0150⟩
def gjX12_layWay_25 (u1 : Int32) (u2 : Int32) (v3 : Int32) (y0 : Int32) (y1 : Int32) (m : Mem) : Option ((Int32 × Mem) ⊕ (Mem)) :=
(wr m 16 16 y1 y0).bind fun m3 =>
(some (v3 + (1 : Int32))).bind fun x4 =>
some (.inl (x4, m3))
set_option maxRecDepth 20000 in
set_option maxHeartbeats 4000000 in
theorem sgjX12_layWay_25 {Γ : Gm} {d : Nat} (hd : 2 ≤ d) {T : Nat} {h : Hp} (rs : RS T h) {u1 : Int32} {u2 : Int32} {v3 : Int32} {y0 : Int32} {y1 : Int32} {m : Mem} {r : (Int32 × Mem) ⊕ (Mem)} {t : Option Value × Hp} (H : gjX12_layWay_25 u1 u2 v3 y0 y1 m = some r) (kI : ∀ s, r = .inl s → (fun s2 => V Γ d mX12_layWay 2 [(0, .ref T), (1, .int u1), (2, .int u2), (3, .int s2.1)] [] (hm T h s2.2) t) s) (kE : ∀ e, r = .inr e → (fun e => V Γ d mX12_layWay 32 [(0, .ref T), (1, .int u1)] [] (hm T h e) t) e) : V Γ d mX12_layWay 25 [(0, .ref T), (1, .int u1), (2, .int u2), (3, .int v3)] [.int y0, .int y1, .ref (T + 16)] (hm T h m) t := by
  unfold gjX12_layWay_25 at H
  replace H := bs H; obtain ⟨m3, m3e, H⟩ := H
  refine ur_wr (q := 26) rs rt27 m3e dX12_layWay_25 rfl ?_
  replace H := bs H; obtain ⟨x4, x4e, H⟩ := H
  refine v_iinc (v := x4) (L' := [(3, .int x4), (0, .ref T), (1, .int u1), (2, .int u2)]) (q := 29) 3 dX12_layWay_26 rfl (Option.some.inj x4e) (by decide) rfl rfl ?_
  refine v_goto (q := 2) dX12_layWay_29 (by decide) ?_
  exact V.sub [1, 2, 3, 0] rfl (kI (x4, m3) (Option.some.inj H).symm)
def gbX12_layWay_2 (u1 : Int32) (u2 : Int32) (s2 : Int32 × Mem) : Option ((Int32 × Mem) ⊕ (Mem)) :=
if (16 : Int32) ≤ s2.1 then (
some (.inr s2.2)) else (
if s2.1 = u2 then (
gjX12_layWay_25 u1 u2 s2.1 (0 : Int32) s2.1 s2.2) else (
gjX12_layWay_25 u1 u2 s2.1 (268435456 : Int32) s2.1 s2.2))
set_option maxRecDepth 20000 in
set_option maxHeartbeats 4000000 in
theorem sgbX12_layWay_2 {Γ : Gm} {d : Nat} (hd : 2 ≤ d) {T : Nat} {h : Hp} (rs : RS T h) {u1 : Int32} {u2 : Int32} {s2 : Int32 × Mem} {r : (Int32 × Mem) ⊕ (Mem)} {t : Option Value × Hp} (H : gbX12_layWay_2 u1 u2 s2 = some r) (kI : ∀ s, r = .inl s → (fun s2 => V Γ d mX12_layWay 2 [(0, .ref T), (1, .int u1), (2, .int u2), (3, .int s2.1)] [] (hm T h s2.2) t) s) (kE : ∀ e, r = .inr e → (fun e => V Γ d mX12_layWay 32 [(0, .ref T), (1, .int u1)] [] (hm T h e) t) e) : V Γ d mX12_layWay 2 [(0, .ref T), (1, .int u1), (2, .int u2), (3, .int s2.1)] [] (hm T h s2.2) t := by
  unfold gbX12_layWay_2 at H
  refine v_iload_n (q := 3) 3 dX12_layWay_2 rfl rfl rfl ?_
  refine v_bipush (v := 16) (q := 5) dX12_layWay_3 (by decide) rfl ?_
  refine v_icmp_ge (q1 := 32) (q2 := 8) dX12_layWay_5 (by decide) rfl (fun c1 => ?_) (fun c1 => ?_)
  · replace H := ip c1 H
    exact V.sub [0, 1] rfl (kE s2.2 (Option.some.inj H).symm)
  · replace H := ine c1 H
    refine v_aload_n (q := 9) 0 dX12_layWay_8 rfl rfl rfl ?_
    refine ur_arr (q := 12) rs rt27 dX12_layWay_9 w1383 (Nat.le_of_ble_eq_true rfl) rfl rfl ?_
    refine v_iload_n (q := 13) 3 dX12_layWay_12 rfl rfl rfl ?_
    refine v_iload_n (q := 14) 3 dX12_layWay_13 rfl rfl rfl ?_
    refine v_iload_n (q := 15) 2 dX12_layWay_14 rfl rfl rfl ?_
    refine v_icmp_ne (q1 := 22) (q2 := 18) dX12_layWay_15 (by decide) rfl (fun c2 => ?_) (fun c2 => ?_)
    · replace H := ine c2 H
      refine v_ldcw (v := 268435456) (q := 25) dX12_layWay_22 w1713 rfl ?_
      exact V.sub [0, 1, 2, 3] rfl (sgjX12_layWay_25 hd rs H kI kE)
    · replace H := ip c2 H
      refine v_iconst (v := 0) (q := 19) dX12_layWay_18 (by decide) rfl ?_
      refine v_goto (q := 25) dX12_layWay_19 (by decide) ?_
      exact V.sub [0, 1, 2, 3] rfl (sgjX12_layWay_25 hd rs H kI kE)
def gjX12_layWay_111 (u1 : Int32) (v3 : Int32) (u4 : Int32) (v5 : Int32) (m : Mem) : Option ((Int32 × Int32 × Mem) ⊕ (Int32 × Mem)) :=
(some (v5 + (1 : Int32))).bind fun x11 =>
some (.inl (v3, x11, m))
set_option maxRecDepth 20000 in
set_option maxHeartbeats 4000000 in
theorem sgjX12_layWay_111 {Γ : Gm} {d : Nat} (hd : 2 ≤ d) {T : Nat} {h : Hp} (rs : RS T h) {u1 : Int32} {v3 : Int32} {u4 : Int32} {v5 : Int32} {m : Mem} {r : (Int32 × Int32 × Mem) ⊕ (Int32 × Mem)} {t : Option Value × Hp} (H : gjX12_layWay_111 u1 v3 u4 v5 m = some r) (kI : ∀ s, r = .inl s → (fun s53 => V Γ d mX12_layWay 53 [(0, .ref T), (1, .int u1), (3, .int s53.1), (4, .int u4), (5, .int s53.2.1)] [] (hm T h s53.2.2) t) s) (kE : ∀ e, r = .inr e → (fun e => V Γ d mX12_layWay 117 [(0, .ref T), (1, .int u1), (3, .int e.1), (4, .int u4)] [] (hm T h e.2) t) e) : V Γ d mX12_layWay 111 [(0, .ref T), (1, .int u1), (3, .int v3), (4, .int u4), (5, .int v5)] [] (hm T h m) t := by
  unfold gjX12_layWay_111 at H
  replace H := bs H; obtain ⟨x11, x11e, H⟩ := H
  refine v_iinc (v := x11) (L' := [(5, .int x11), (0, .ref T), (1, .int u1), (3, .int v3), (4, .int u4)]) (q := 114) 4 dX12_layWay_111 rfl (Option.some.inj x11e) (by decide) rfl rfl ?_
  refine v_goto (q := 53) dX12_layWay_114 (by decide) ?_
  exact V.sub [1, 2, 3, 4, 0] rfl (kI (v3, x11, m) (Option.some.inj H).symm)
def gbX12_layWay_53 (u1 : Int32) (u4 : Int32) (s53 : Int32 × Int32 × Mem) : Option ((Int32 × Int32 × Mem) ⊕ (Int32 × Mem)) :=
if (16 : Int32) ≤ s53.2.1 then (
some (.inr (s53.1, s53.2.2))) else (
(gX12_isEdge s53.2.2 u4 s53.2.1).bind fun x9 =>
if x9 = 0 then (
gjX12_layWay_111 u1 s53.1 u4 s53.2.1 s53.2.2) else (
(rd s53.2.2 16 16 s53.2.1).bind fun x12 =>
(rd s53.2.2 16 16 u4).bind fun x13 =>
if (x12 + (1 : Int32)) < x13 then (
(rd s53.2.2 16 16 s53.2.1).bind fun x15 =>
(wr s53.2.2 16 16 u4 (x15 + (1 : Int32))).bind fun m16 =>
gjX12_layWay_111 u1 (1 : Int32) u4 s53.2.1 m16) else (
gjX12_layWay_111 u1 s53.1 u4 s53.2.1 s53.2.2)))
set_option maxRecDepth 20000 in
set_option maxHeartbeats 4000000 in
theorem sgbX12_layWay_53 {Γ : Gm} {d : Nat} (hd : 2 ≤ d) {T : Nat} {h : Hp} (rs : RS T h) {u1 : Int32} {u4 : Int32} {s53 : Int32 × Int32 × Mem} {r : (Int32 × Int32 × Mem) ⊕ (Int32 × Mem)} {t : Option Value × Hp} (H : gbX12_layWay_53 u1 u4 s53 = some r) (kI : ∀ s, r = .inl s → (fun s53 => V Γ d mX12_layWay 53 [(0, .ref T), (1, .int u1), (3, .int s53.1), (4, .int u4), (5, .int s53.2.1)] [] (hm T h s53.2.2) t) s) (kE : ∀ e, r = .inr e → (fun e => V Γ d mX12_layWay 117 [(0, .ref T), (1, .int u1), (3, .int e.1), (4, .int u4)] [] (hm T h e.2) t) e) : V Γ d mX12_layWay 53 [(0, .ref T), (1, .int u1), (3, .int s53.1), (4, .int u4), (5, .int s53.2.1)] [] (hm T h s53.2.2) t := by
  unfold gbX12_layWay_53 at H
  refine v_iload (q := 55) 4 dX12_layWay_53 rfl rfl ?_
  refine v_bipush (v := 16) (q := 57) dX12_layWay_55 (by decide) rfl ?_
  refine v_icmp_ge (q1 := 117) (q2 := 60) dX12_layWay_57 (by decide) rfl (fun c8 => ?_) (fun c8 => ?_)
  · replace H := ip c8 H
    exact V.sub [0, 1, 2, 3] rfl (kE (s53.1, s53.2.2) (Option.some.inj H).symm)
  · replace H := ine c8 H
    refine v_aload_n (q := 61) 0 dX12_layWay_60 rfl rfl rfl ?_
    refine v_iload (q := 63) 3 dX12_layWay_61 rfl rfl ?_
    refine v_iload (q := 65) 4 dX12_layWay_63 rfl rfl ?_
    replace H := bs H; obtain ⟨x9, x9e, H⟩ := H
    refine u_callV1 (M' := mX12_isEdge) (d' := 1) (rc := (RX12, TX12, 58)) (As := [.int u4, .int s53.2.1]) (st := []) (q := 68) oX12_isEdge dX12_layWay_65 w1701 w1703 w0088 rfl rfl (RS.rc rs).1 (RS.rc rs).2 rfl (Nat.le_of_ble_eq_true rfl) (Nat.le_of_ble_eq_true rfl) (Nat.lt_of_lt_of_le (by decide) hd) rfl (sgX12_isEdge (Nat.le_refl _) rs x9e) rfl ?_
    refine v_if_eq (q1 := 111) (q2 := 71) dX12_layWay_68 (by decide) rfl (fun c10 => ?_) (fun c10 => ?_)
    · replace H := ip c10 H
      exact V.sub [0, 1, 2, 3, 4] rfl (sgjX12_layWay_111 hd rs H kI kE)
    · replace H := ine c10 H
      refine v_aload_n (q := 72) 0 dX12_layWay_71 rfl rfl rfl ?_
      refine ur_arr (q := 75) rs rt27 dX12_layWay_72 w1383 (Nat.le_of_ble_eq_true rfl) rfl rfl ?_
      refine v_iload (q := 77) 4 dX12_layWay_75 rfl rfl ?_
      replace H := bs H; obtain ⟨x12, x12e, H⟩ := H
      refine ur_rd (q := 78) rs rt27 x12e dX12_layWay_77 rfl ?_
      refine v_iconst (v := 1) (q := 79) dX12_layWay_78 (by decide) rfl ?_
      refine v_iadd (q := 80) dX12_layWay_79 rfl ?_
      refine v_aload_n (q := 81) 0 dX12_layWay_80 rfl rfl rfl ?_
      refine ur_arr (q := 84) rs rt27 dX12_layWay_81 w1383 (Nat.le_of_ble_eq_true rfl) rfl rfl ?_
      refine v_iload (q := 86) 3 dX12_layWay_84 rfl rfl ?_
      replace H := bs H; obtain ⟨x13, x13e, H⟩ := H
      refine ur_rd (q := 87) rs rt27 x13e dX12_layWay_86 rfl ?_
      refine v_icmp_lt (q1 := 93) (q2 := 90) dX12_layWay_87 (by decide) rfl (fun c14 => ?_) (fun c14 => ?_)
      · replace H := ip c14 H
        refine v_aload_n (q := 94) 0 dX12_layWay_93 rfl rfl rfl ?_
        refine ur_arr (q := 97) rs rt27 dX12_layWay_94 w1383 (Nat.le_of_ble_eq_true rfl) rfl rfl ?_
        refine v_iload (q := 99) 3 dX12_layWay_97 rfl rfl ?_
        refine v_aload_n (q := 100) 0 dX12_layWay_99 rfl rfl rfl ?_
        refine ur_arr (q := 103) rs rt27 dX12_layWay_100 w1383 (Nat.le_of_ble_eq_true rfl) rfl rfl ?_
        refine v_iload (q := 105) 4 dX12_layWay_103 rfl rfl ?_
        replace H := bs H; obtain ⟨x15, x15e, H⟩ := H
        refine ur_rd (q := 106) rs rt27 x15e dX12_layWay_105 rfl ?_
        refine v_iconst (v := 1) (q := 107) dX12_layWay_106 (by decide) rfl ?_
        refine v_iadd (q := 108) dX12_layWay_107 rfl ?_
        replace H := bs H; obtain ⟨m16, m16e, H⟩ := H
        refine ur_wr (q := 109) rs rt27 m16e dX12_layWay_108 rfl ?_
        refine v_iconst (v := 1) (q := 110) dX12_layWay_109 (by decide) rfl ?_
        refine v_istore_n (L' := [(3, .int (1 : Int32)), (0, .ref T), (1, .int u1), (4, .int u4), (5, .int s53.2.1)]) (q := 111) dX12_layWay_110 rfl (by decide) rfl rfl ?_
        exact V.sub [1, 2, 0, 3, 4] rfl (sgjX12_layWay_111 hd rs H kI kE)
      · replace H := ine c14 H
        refine v_goto (q := 111) dX12_layWay_90 (by decide) ?_
        exact V.sub [0, 1, 2, 3, 4] rfl (sgjX12_layWay_111 hd rs H kI kE)
def gbX12_layWay_43 (u1 : Int32) (s43 : Int32 × Int32 × Mem) : Option ((Int32 × Int32 × Mem) ⊕ (Int32 × Mem)) :=
if (16 : Int32) ≤ s43.2.1 then (
some (.inr (s43.1, s43.2.2))) else (
(lp (gbX12_layWay_53 u1 s43.2.1) FU (s43.1, (0 : Int32), s43.2.2)).bind fun e17 =>
(some (s43.2.1 + (1 : Int32))).bind fun x18 =>
some (.inl (e17.1, x18, e17.2)))
set_option maxRecDepth 20000 in
set_option maxHeartbeats 4000000 in
theorem sgbX12_layWay_43 {Γ : Gm} {d : Nat} (hd : 2 ≤ d) {T : Nat} {h : Hp} (rs : RS T h) {u1 : Int32} {s43 : Int32 × Int32 × Mem} {r : (Int32 × Int32 × Mem) ⊕ (Int32 × Mem)} {t : Option Value × Hp} (H : gbX12_layWay_43 u1 s43 = some r) (kI : ∀ s, r = .inl s → (fun s43 => V Γ d mX12_layWay 43 [(0, .ref T), (1, .int u1), (3, .int s43.1), (4, .int s43.2.1)] [] (hm T h s43.2.2) t) s) (kE : ∀ e, r = .inr e → (fun e => V Γ d mX12_layWay 123 [(0, .ref T), (1, .int u1), (3, .int e.1)] [] (hm T h e.2) t) e) : V Γ d mX12_layWay 43 [(0, .ref T), (1, .int u1), (3, .int s43.1), (4, .int s43.2.1)] [] (hm T h s43.2.2) t := by
  unfold gbX12_layWay_43 at H
  refine v_iload (q := 45) 3 dX12_layWay_43 rfl rfl ?_
  refine v_bipush (v := 16) (q := 47) dX12_layWay_45 (by decide) rfl ?_
  refine v_icmp_ge (q1 := 123) (q2 := 50) dX12_layWay_47 (by decide) rfl (fun c7 => ?_) (fun c7 => ?_)
  · replace H := ip c7 H
    exact V.sub [0, 1, 2] rfl (kE (s43.1, s43.2.2) (Option.some.inj H).symm)
  · replace H := ine c7 H
    refine v_iconst (v := 0) (q := 51) dX12_layWay_50 (by decide) rfl ?_
    refine v_istore (L' := [(5, .int (0 : Int32)), (0, .ref T), (1, .int u1), (3, .int s43.1), (4, .int s43.2.1)]) (q := 53) dX12_layWay_51 (by decide) rfl rfl ?_
    replace H := bs H; obtain ⟨e17, e17L, H⟩ := H
    refine V.sub [1, 2, 3, 4, 0] rfl ?_
    refine lp_V (P := (fun s53 => V Γ d mX12_layWay 53 [(0, .ref T), (1, .int u1), (3, .int s53.1), (4, .int s43.2.1), (5, .int s53.2.1)] [] (hm T h s53.2.2) t)) (E := (fun e => V Γ d mX12_layWay 117 [(0, .ref T), (1, .int u1), (3, .int e.1), (4, .int s43.2.1)] [] (hm T h e.2) t)) (fun s r hb kI kE => sgbX12_layWay_53 hd rs (s53 := s) (r := r) hb kI kE) FU (s43.1, (0 : Int32), s43.2.2) e17 e17L ?_
    replace H := bs H; obtain ⟨x18, x18e, H⟩ := H
    refine v_iinc (v := x18) (L' := [(4, .int x18), (0, .ref T), (1, .int u1), (3, .int e17.1)]) (q := 120) 3 dX12_layWay_117 rfl (Option.some.inj x18e) (by decide) rfl rfl ?_
    refine v_goto (q := 43) dX12_layWay_120 (by decide) ?_
    exact V.sub [1, 2, 3, 0] rfl (kI (e17.1, x18, e17.2) (Option.some.inj H).symm)
def gbX12_layWay_34 (u1 : Int32) (s34 : Int32 × Mem) : Option ((Int32 × Mem) ⊕ (Mem)) :=
if s34.1 = 0 then (
some (.inr s34.2)) else (
(lp (gbX12_layWay_43 u1) FU ((0 : Int32), (0 : Int32), s34.2)).bind fun e19 =>
some (.inl (e19.1, e19.2)))
set_option maxRecDepth 20000 in
set_option maxHeartbeats 4000000 in
theorem sgbX12_layWay_34 {Γ : Gm} {d : Nat} (hd : 2 ≤ d) {T : Nat} {h : Hp} (rs : RS T h) {u1 : Int32} {s34 : Int32 × Mem} {r : (Int32 × Mem) ⊕ (Mem)} {t : Option Value × Hp} (H : gbX12_layWay_34 u1 s34 = some r) (kI : ∀ s, r = .inl s → (fun s34 => V Γ d mX12_layWay 34 [(0, .ref T), (1, .int u1), (3, .int s34.1)] [] (hm T h s34.2) t) s) (kE : ∀ e, r = .inr e → (fun e => V Γ d mX12_layWay 126 [(0, .ref T), (1, .int u1)] [] (hm T h e) t) e) : V Γ d mX12_layWay 34 [(0, .ref T), (1, .int u1), (3, .int s34.1)] [] (hm T h s34.2) t := by
  unfold gbX12_layWay_34 at H
  refine v_iload_n (q := 35) 2 dX12_layWay_34 rfl rfl rfl ?_
  refine v_if_eq (q1 := 126) (q2 := 38) dX12_layWay_35 (by decide) rfl (fun c6 => ?_) (fun c6 => ?_)
  · replace H := ip c6 H
    exact V.sub [0, 1] rfl (kE s34.2 (Option.some.inj H).symm)
  · replace H := ine c6 H
    refine v_iconst (v := 0) (q := 39) dX12_layWay_38 (by decide) rfl ?_
    refine v_istore_n (L' := [(3, .int (0 : Int32)), (0, .ref T), (1, .int u1)]) (q := 40) dX12_layWay_39 rfl (by decide) rfl rfl ?_
    refine v_iconst (v := 0) (q := 41) dX12_layWay_40 (by decide) rfl ?_
    refine v_istore (L' := [(4, .int (0 : Int32)), (3, .int (0 : Int32)), (0, .ref T), (1, .int u1)]) (q := 43) dX12_layWay_41 (by decide) rfl rfl ?_
    replace H := bs H; obtain ⟨e19, e19L, H⟩ := H
    refine V.sub [2, 3, 1, 0] rfl ?_
    refine lp_V (P := (fun s43 => V Γ d mX12_layWay 43 [(0, .ref T), (1, .int u1), (3, .int s43.1), (4, .int s43.2.1)] [] (hm T h s43.2.2) t)) (E := (fun e => V Γ d mX12_layWay 123 [(0, .ref T), (1, .int u1), (3, .int e.1)] [] (hm T h e.2) t)) (fun s r hb kI kE => sgbX12_layWay_43 hd rs (s43 := s) (r := r) hb kI kE) FU ((0 : Int32), (0 : Int32), s34.2) e19 e19L ?_
    refine v_goto (q := 34) dX12_layWay_123 (by decide) ?_
    exact V.sub [0, 1, 2] rfl (kI (e19.1, e19.2) (Option.some.inj H).symm)
def gjX12_layWay_175 (u1 : Int32) (v5 : Int32) (y0 : Int32) (m : Mem) : Option ((Int32 × Int32) ⊕ (Int32)) :=
(some (v5 + (1 : Int32))).bind fun x24 =>
some (.inl (y0, x24))
set_option maxRecDepth 20000 in
set_option maxHeartbeats 4000000 in
theorem sgjX12_layWay_175 {Γ : Gm} {d : Nat} (hd : 2 ≤ d) {T : Nat} {h : Hp} (rs : RS T h) {u1 : Int32} {v5 : Int32} {y0 : Int32} {m : Mem} {r : (Int32 × Int32) ⊕ (Int32)} {t : Option Value × Hp} (H : gjX12_layWay_175 u1 v5 y0 m = some r) (kI : ∀ s, r = .inl s → (fun s134 => V Γ d mX12_layWay 134 [(0, .ref T), (1, .int u1), (4, .int s134.1), (5, .int s134.2)] [] (hm T h m) t) s) (kE : ∀ e, r = .inr e → (fun e => V Γ d mX12_layWay 183 [(0, .ref T), (1, .int u1), (4, .int e)] [] (hm T h m) t) e) : V Γ d mX12_layWay 175 [(0, .ref T), (1, .int u1), (5, .int v5)] [.int y0] (hm T h m) t := by
  unfold gjX12_layWay_175 at H
  refine v_istore (L' := [(4, .int y0), (0, .ref T), (1, .int u1), (5, .int v5)]) (q := 177) dX12_layWay_175 (by decide) rfl rfl ?_
  replace H := bs H; obtain ⟨x24, x24e, H⟩ := H
  refine v_iinc (v := x24) (L' := [(5, .int x24), (4, .int y0), (0, .ref T), (1, .int u1)]) (q := 180) 3 dX12_layWay_177 rfl (Option.some.inj x24e) (by decide) rfl rfl ?_
  refine v_goto (q := 134) dX12_layWay_180 (by decide) ?_
  exact V.sub [2, 3, 1, 0] rfl (kI (y0, x24) (Option.some.inj H).symm)
def gjX12_layWay_173 (u1 : Int32) (v4 : Int32) (v5 : Int32) (m : Mem) : Option ((Int32 × Int32) ⊕ (Int32)) :=
gjX12_layWay_175 u1 v5 v4 m
set_option maxRecDepth 20000 in
set_option maxHeartbeats 4000000 in
theorem sgjX12_layWay_173 {Γ : Gm} {d : Nat} (hd : 2 ≤ d) {T : Nat} {h : Hp} (rs : RS T h) {u1 : Int32} {v4 : Int32} {v5 : Int32} {m : Mem} {r : (Int32 × Int32) ⊕ (Int32)} {t : Option Value × Hp} (H : gjX12_layWay_173 u1 v4 v5 m = some r) (kI : ∀ s, r = .inl s → (fun s134 => V Γ d mX12_layWay 134 [(0, .ref T), (1, .int u1), (4, .int s134.1), (5, .int s134.2)] [] (hm T h m) t) s) (kE : ∀ e, r = .inr e → (fun e => V Γ d mX12_layWay 183 [(0, .ref T), (1, .int u1), (4, .int e)] [] (hm T h m) t) e) : V Γ d mX12_layWay 173 [(0, .ref T), (1, .int u1), (4, .int v4), (5, .int v5)] [] (hm T h m) t := by
  unfold gjX12_layWay_173 at H
  refine v_iload (q := 175) 2 dX12_layWay_173 rfl rfl ?_
  exact V.sub [0, 1, 3] rfl (sgjX12_layWay_175 hd rs H kI kE)
def gbX12_layWay_134 (u1 : Int32) (m : Mem) (s134 : Int32 × Int32) : Option ((Int32 × Int32) ⊕ (Int32)) :=
if (16 : Int32) ≤ s134.2 then (
some (.inr s134.1)) else (
(gX12_isEdge m u1 s134.2).bind fun x22 =>
if x22 = 0 then (
gjX12_layWay_173 u1 s134.1 s134.2 m) else (
(rd m 16 16 s134.2).bind fun x25 =>
if s134.1 ≤ x25 then (
gjX12_layWay_173 u1 s134.1 s134.2 m) else (
(rd m 16 16 s134.2).bind fun x27 =>
gjX12_layWay_175 u1 s134.2 x27 m)))
set_option maxRecDepth 20000 in
set_option maxHeartbeats 4000000 in
theorem sgbX12_layWay_134 {Γ : Gm} {d : Nat} (hd : 2 ≤ d) {T : Nat} {h : Hp} (rs : RS T h) {u1 : Int32} {m : Mem} {s134 : Int32 × Int32} {r : (Int32 × Int32) ⊕ (Int32)} {t : Option Value × Hp} (H : gbX12_layWay_134 u1 m s134 = some r) (kI : ∀ s, r = .inl s → (fun s134 => V Γ d mX12_layWay 134 [(0, .ref T), (1, .int u1), (4, .int s134.1), (5, .int s134.2)] [] (hm T h m) t) s) (kE : ∀ e, r = .inr e → (fun e => V Γ d mX12_layWay 183 [(0, .ref T), (1, .int u1), (4, .int e)] [] (hm T h m) t) e) : V Γ d mX12_layWay 134 [(0, .ref T), (1, .int u1), (4, .int s134.1), (5, .int s134.2)] [] (hm T h m) t := by
  unfold gbX12_layWay_134 at H
  refine v_iload (q := 136) 3 dX12_layWay_134 rfl rfl ?_
  refine v_bipush (v := 16) (q := 138) dX12_layWay_136 (by decide) rfl ?_
  refine v_icmp_ge (q1 := 183) (q2 := 141) dX12_layWay_138 (by decide) rfl (fun c21 => ?_) (fun c21 => ?_)
  · replace H := ip c21 H
    exact V.sub [0, 1, 2] rfl (kE s134.1 (Option.some.inj H).symm)
  · replace H := ine c21 H
    refine v_aload_n (q := 142) 0 dX12_layWay_141 rfl rfl rfl ?_
    refine v_iload_n (q := 143) 1 dX12_layWay_142 rfl rfl rfl ?_
    refine v_iload (q := 145) 3 dX12_layWay_143 rfl rfl ?_
    replace H := bs H; obtain ⟨x22, x22e, H⟩ := H
    refine u_callV1 (M' := mX12_isEdge) (d' := 1) (rc := (RX12, TX12, 58)) (As := [.int u1, .int s134.2]) (st := []) (q := 148) oX12_isEdge dX12_layWay_145 w1701 w1703 w0088 rfl rfl (RS.rc rs).1 (RS.rc rs).2 rfl (Nat.le_of_ble_eq_true rfl) (Nat.le_of_ble_eq_true rfl) (Nat.lt_of_lt_of_le (by decide) hd) rfl (sgX12_isEdge (Nat.le_refl _) rs x22e) rfl ?_
    refine v_if_eq (q1 := 173) (q2 := 151) dX12_layWay_148 (by decide) rfl (fun c23 => ?_) (fun c23 => ?_)
    · replace H := ip c23 H
      exact V.sub [0, 1, 2, 3] rfl (sgjX12_layWay_173 hd rs H kI kE)
    · replace H := ine c23 H
      refine v_aload_n (q := 152) 0 dX12_layWay_151 rfl rfl rfl ?_
      refine ur_arr (q := 155) rs rt27 dX12_layWay_152 w1383 (Nat.le_of_ble_eq_true rfl) rfl rfl ?_
      refine v_iload (q := 157) 3 dX12_layWay_155 rfl rfl ?_
      replace H := bs H; obtain ⟨x25, x25e, H⟩ := H
      refine ur_rd (q := 158) rs rt27 x25e dX12_layWay_157 rfl ?_
      refine v_iload (q := 160) 2 dX12_layWay_158 rfl rfl ?_
      refine v_icmp_ge (q1 := 173) (q2 := 163) dX12_layWay_160 (by decide) rfl (fun c26 => ?_) (fun c26 => ?_)
      · replace H := ip c26 H
        exact V.sub [0, 1, 2, 3] rfl (sgjX12_layWay_173 hd rs H kI kE)
      · replace H := ine c26 H
        refine v_aload_n (q := 164) 0 dX12_layWay_163 rfl rfl rfl ?_
        refine ur_arr (q := 167) rs rt27 dX12_layWay_164 w1383 (Nat.le_of_ble_eq_true rfl) rfl rfl ?_
        refine v_iload (q := 169) 3 dX12_layWay_167 rfl rfl ?_
        replace H := bs H; obtain ⟨x27, x27e, H⟩ := H
        refine ur_rd (q := 170) rs rt27 x27e dX12_layWay_169 rfl ?_
        refine v_goto (q := 175) dX12_layWay_170 (by decide) ?_
        exact V.sub [0, 1, 3] rfl (sgjX12_layWay_175 hd rs H kI kE)
def gjX12_layWay_245 (u5 : Int32) (u6 : Int32) (v7 : Int32) (m : Mem) : Option ((Int32) ⊕ (Int32)) :=
(some (v7 + (1 : Int32))).bind fun x35 =>
some (.inl x35)
set_option maxRecDepth 20000 in
set_option maxHeartbeats 4000000 in
theorem sgjX12_layWay_245 {Γ : Gm} {d : Nat} (hd : 2 ≤ d) {T : Nat} {h : Hp} (rs : RS T h) {u5 : Int32} {u6 : Int32} {v7 : Int32} {m : Mem} {r : (Int32) ⊕ (Int32)} {t : Option Value × Hp} (H : gjX12_layWay_245 u5 u6 v7 m = some r) (kI : ∀ s, r = .inl s → (fun s215 => V Γ d mX12_layWay 215 [(0, .ref T), (5, .int u5), (6, .int u6), (7, .int s215)] [] (hm T h m) t) s) (kE : ∀ e, r = .inr e → (fun e => V Γ d mX12_layWay 251 [(0, .ref T), (5, .int u5), (6, .int u6), (7, .int e)] [] (hm T h m) t) e) : V Γ d mX12_layWay 245 [(0, .ref T), (5, .int u5), (6, .int u6), (7, .int v7)] [] (hm T h m) t := by
  unfold gjX12_layWay_245 at H
  replace H := bs H; obtain ⟨x35, x35e, H⟩ := H
  refine v_iinc (v := x35) (L' := [(7, .int x35), (0, .ref T), (5, .int u5), (6, .int u6)]) (q := 248) 3 dX12_layWay_245 rfl (Option.some.inj x35e) (by decide) rfl rfl ?_
  refine v_goto (q := 215) dX12_layWay_248 (by decide) ?_
  exact V.sub [1, 2, 3, 0] rfl (kI x35 (Option.some.inj H).symm)
def gbX12_layWay_215 (u5 : Int32) (u6 : Int32) (m : Mem) (s215 : Int32) : Option ((Int32) ⊕ (Int32)) :=
(rd m 17 20 (u5 - (1 : Int32))).bind fun x32 =>
(gX12_isEdge m x32 s215).bind fun x33 =>
if x33 = 0 then (
gjX12_layWay_245 u5 u6 s215 m) else (
(rd m 16 16 s215).bind fun x36 =>
if x36 = u6 then (
some (.inr s215)) else (
gjX12_layWay_245 u5 u6 s215 m))
set_option maxRecDepth 20000 in
set_option maxHeartbeats 4000000 in
theorem sgbX12_layWay_215 {Γ : Gm} {d : Nat} (hd : 2 ≤ d) {T : Nat} {h : Hp} (rs : RS T h) {u5 : Int32} {u6 : Int32} {m : Mem} {s215 : Int32} {r : (Int32) ⊕ (Int32)} {t : Option Value × Hp} (H : gbX12_layWay_215 u5 u6 m s215 = some r) (kI : ∀ s, r = .inl s → (fun s215 => V Γ d mX12_layWay 215 [(0, .ref T), (5, .int u5), (6, .int u6), (7, .int s215)] [] (hm T h m) t) s) (kE : ∀ e, r = .inr e → (fun e => V Γ d mX12_layWay 251 [(0, .ref T), (5, .int u5), (6, .int u6), (7, .int e)] [] (hm T h m) t) e) : V Γ d mX12_layWay 215 [(0, .ref T), (5, .int u5), (6, .int u6), (7, .int s215)] [] (hm T h m) t := by
  unfold gbX12_layWay_215 at H
  refine v_aload_n (q := 216) 0 dX12_layWay_215 rfl rfl rfl ?_
  refine v_aload_n (q := 217) 0 dX12_layWay_216 rfl rfl rfl ?_
  refine ur_arr (q := 220) rs rt28 dX12_layWay_217 w1384 (Nat.le_of_ble_eq_true rfl) rfl rfl ?_
  refine v_iload (q := 222) 1 dX12_layWay_220 rfl rfl ?_
  refine v_iconst (v := 1) (q := 223) dX12_layWay_222 (by decide) rfl ?_
  refine v_isub (q := 224) dX12_layWay_223 rfl ?_
  replace H := bs H; obtain ⟨x32, x32e, H⟩ := H
  refine ur_rd (q := 225) rs rt28 x32e dX12_layWay_224 rfl ?_
  refine v_iload (q := 227) 3 dX12_layWay_225 rfl rfl ?_
  replace H := bs H; obtain ⟨x33, x33e, H⟩ := H
  refine u_callV1 (M' := mX12_isEdge) (d' := 1) (rc := (RX12, TX12, 58)) (As := [.int x32, .int s215]) (st := []) (q := 230) oX12_isEdge dX12_layWay_227 w1701 w1703 w0088 rfl rfl (RS.rc rs).1 (RS.rc rs).2 rfl (Nat.le_of_ble_eq_true rfl) (Nat.le_of_ble_eq_true rfl) (Nat.lt_of_lt_of_le (by decide) hd) rfl (sgX12_isEdge (Nat.le_refl _) rs x33e) rfl ?_
  refine v_if_eq (q1 := 245) (q2 := 233) dX12_layWay_230 (by decide) rfl (fun c34 => ?_) (fun c34 => ?_)
  · replace H := ip c34 H
    exact V.sub [0, 1, 2, 3] rfl (sgjX12_layWay_245 hd rs H kI kE)
  · replace H := ine c34 H
    refine v_aload_n (q := 234) 0 dX12_layWay_233 rfl rfl rfl ?_
    refine ur_arr (q := 237) rs rt27 dX12_layWay_234 w1383 (Nat.le_of_ble_eq_true rfl) rfl rfl ?_
    refine v_iload (q := 239) 3 dX12_layWay_237 rfl rfl ?_
    replace H := bs H; obtain ⟨x36, x36e, H⟩ := H
    refine ur_rd (q := 240) rs rt27 x36e dX12_layWay_239 rfl ?_
    refine v_iload (q := 242) 2 dX12_layWay_240 rfl rfl ?_
    refine v_icmp_eq (q1 := 251) (q2 := 245) dX12_layWay_242 (by decide) rfl (fun c37 => ?_) (fun c37 => ?_)
    · replace H := ip c37 H
      exact V.sub [0, 1, 2, 3] rfl (kE s215 (Option.some.inj H).symm)
    · replace H := ine c37 H
      exact V.sub [0, 1, 2, 3] rfl (sgjX12_layWay_245 hd rs H kI kE)
def gbX12_layWay_207  (s207 : Int32 × Int32 × Mem) : Option ((Int32 × Int32 × Mem) ⊕ (Int32 × Mem)) :=
if s207.2.1 < 0 then (
some (.inr (s207.1, s207.2.2))) else (
(lp (gbX12_layWay_215 s207.1 s207.2.1 s207.2.2) FU (0 : Int32)).bind fun e38 =>
(wr s207.2.2 17 20 s207.1 e38).bind fun m39 =>
(some (s207.1 + (1 : Int32))).bind fun x40 =>
(some (s207.2.1 + (-1 : Int32))).bind fun x41 =>
some (.inl (x40, x41, m39)))
set_option maxRecDepth 20000 in
set_option maxHeartbeats 4000000 in
theorem sgbX12_layWay_207 {Γ : Gm} {d : Nat} (hd : 2 ≤ d) {T : Nat} {h : Hp} (rs : RS T h)  {s207 : Int32 × Int32 × Mem} {r : (Int32 × Int32 × Mem) ⊕ (Int32 × Mem)} {t : Option Value × Hp} (H : gbX12_layWay_207  s207 = some r) (kI : ∀ s, r = .inl s → (fun s207 => V Γ d mX12_layWay 207 [(0, .ref T), (5, .int s207.1), (6, .int s207.2.1)] [] (hm T h s207.2.2) t) s) (kE : ∀ e, r = .inr e → (fun e => V Γ d mX12_layWay 269 [(5, .int e.1)] [] (hm T h e.2) t) e) : V Γ d mX12_layWay 207 [(0, .ref T), (5, .int s207.1), (6, .int s207.2.1)] [] (hm T h s207.2.2) t := by
  unfold gbX12_layWay_207 at H
  refine v_iload (q := 209) 2 dX12_layWay_207 rfl rfl ?_
  refine v_if_lt (q1 := 269) (q2 := 212) dX12_layWay_209 (by decide) rfl (fun c31 => ?_) (fun c31 => ?_)
  · replace H := ip c31 H
    exact V.sub [1] rfl (kE (s207.1, s207.2.2) (Option.some.inj H).symm)
  · replace H := ine c31 H
    refine v_iconst (v := 0) (q := 213) dX12_layWay_212 (by decide) rfl ?_
    refine v_istore (L' := [(7, .int (0 : Int32)), (0, .ref T), (5, .int s207.1), (6, .int s207.2.1)]) (q := 215) dX12_layWay_213 (by decide) rfl rfl ?_
    replace H := bs H; obtain ⟨e38, e38L, H⟩ := H
    refine V.sub [1, 2, 3, 0] rfl ?_
    refine lp_V (P := (fun s215 => V Γ d mX12_layWay 215 [(0, .ref T), (5, .int s207.1), (6, .int s207.2.1), (7, .int s215)] [] (hm T h s207.2.2) t)) (E := (fun e => V Γ d mX12_layWay 251 [(0, .ref T), (5, .int s207.1), (6, .int s207.2.1), (7, .int e)] [] (hm T h s207.2.2) t)) (fun s r hb kI kE => sgbX12_layWay_215 hd rs (s215 := s) (r := r) hb kI kE) FU (0 : Int32) e38 e38L ?_
    refine v_aload_n (q := 252) 0 dX12_layWay_251 rfl rfl rfl ?_
    refine ur_arr (q := 255) rs rt28 dX12_layWay_252 w1384 (Nat.le_of_ble_eq_true rfl) rfl rfl ?_
    refine v_iload (q := 257) 1 dX12_layWay_255 rfl rfl ?_
    refine v_iload (q := 259) 3 dX12_layWay_257 rfl rfl ?_
    replace H := bs H; obtain ⟨m39, m39e, H⟩ := H
    refine ur_wr (q := 260) rs rt28 m39e dX12_layWay_259 rfl ?_
    replace H := bs H; obtain ⟨x40, x40e, H⟩ := H
    refine v_iinc (v := x40) (L' := [(5, .int x40), (0, .ref T), (6, .int s207.2.1), (7, .int e38)]) (q := 263) 1 dX12_layWay_260 rfl (Option.some.inj x40e) (by decide) rfl rfl ?_
    replace H := bs H; obtain ⟨x41, x41e, H⟩ := H
    refine v_iinc (v := x41) (L' := [(6, .int x41), (5, .int x40), (0, .ref T), (7, .int e38)]) (q := 266) 2 dX12_layWay_263 rfl (Option.some.inj x41e) (by decide) rfl rfl ?_
    refine v_goto (q := 207) dX12_layWay_266 (by decide) ?_
    exact V.sub [2, 1, 0] rfl (kI (x40, x41, m39) (Option.some.inj H).symm)
def gX12_layWay (m : Mem) (v1 : Int32) (v2 : Int32) : Option (Int32 × Mem) :=
(lp (gbX12_layWay_2 v1 v2) FU ((0 : Int32), m)).bind fun e5 =>
(lp (gbX12_layWay_34 v1) FU ((1 : Int32), e5)).bind fun e20 =>
(lp (gbX12_layWay_134 v1 e20) FU ((268435456 : Int32), (0 : Int32))).bind fun e28 =>
if e28 = (268435456 : Int32) then (
some (((0 : Int32), e20))) else (
(wr e20 17 20 (0 : Int32) v1).bind fun m30 =>
(lp (gbX12_layWay_207) FU ((1 : Int32), e28, m30)).bind fun e42 =>
some (e42.1, e42.2))
set_option maxRecDepth 20000 in
set_option maxHeartbeats 4000000 in
theorem sgX12_layWay {Γ : Gm} {d : Nat} (hd : 2 ≤ d) {T : Nat} {h : Hp} (rs : RS T h) {m : Mem} {v1 : Int32} {v2 : Int32} {r : Int32 × Mem} (H : gX12_layWay m v1 v2 = some r) : V Γ d mX12_layWay 0 [(0, .ref T), (1, .int v1), (2, .int v2)] [] (hm T h m) (some (.int r.1), (hm T h r.2)) := by
  unfold gX12_layWay at H
  refine v_iconst (v := 0) (q := 1) dX12_layWay_0 (by decide) rfl ?_
  refine v_istore_n (L' := [(3, .int (0 : Int32)), (0, .ref T), (1, .int v1), (2, .int v2)]) (q := 2) dX12_layWay_1 rfl (by decide) rfl rfl ?_
  replace H := bs H; obtain ⟨e5, e5L, H⟩ := H
  refine V.sub [1, 2, 3, 0] rfl ?_
  refine lp_V (P := (fun s2 => V Γ d mX12_layWay 2 [(0, .ref T), (1, .int v1), (2, .int v2), (3, .int s2.1)] [] (hm T h s2.2) (some (.int r.1), (hm T h r.2)))) (E := (fun e => V Γ d mX12_layWay 32 [(0, .ref T), (1, .int v1)] [] (hm T h e) (some (.int r.1), (hm T h r.2)))) (fun s r hb kI kE => sgbX12_layWay_2 hd rs (s2 := s) (r := r) hb kI kE) FU ((0 : Int32), m) e5 e5L ?_
  refine v_iconst (v := 1) (q := 33) dX12_layWay_32 (by decide) rfl ?_
  refine v_istore_n (L' := [(3, .int (1 : Int32)), (0, .ref T), (1, .int v1)]) (q := 34) dX12_layWay_33 rfl (by decide) rfl rfl ?_
  replace H := bs H; obtain ⟨e20, e20L, H⟩ := H
  refine V.sub [1, 2, 0] rfl ?_
  refine lp_V (P := (fun s34 => V Γ d mX12_layWay 34 [(0, .ref T), (1, .int v1), (3, .int s34.1)] [] (hm T h s34.2) (some (.int r.1), (hm T h r.2)))) (E := (fun e => V Γ d mX12_layWay 126 [(0, .ref T), (1, .int v1)] [] (hm T h e) (some (.int r.1), (hm T h r.2)))) (fun s r hb kI kE => sgbX12_layWay_34 hd rs (s34 := s) (r := r) hb kI kE) FU ((1 : Int32), e5) e20 e20L ?_
  refine v_ldcw (v := 268435456) (q := 129) dX12_layWay_126 w1713 rfl ?_
  refine v_istore (L' := [(4, .int (268435456 : Int32)), (0, .ref T), (1, .int v1)]) (q := 131) dX12_layWay_129 (by decide) rfl rfl ?_
  refine v_iconst (v := 0) (q := 132) dX12_layWay_131 (by decide) rfl ?_
  refine v_istore (L' := [(5, .int (0 : Int32)), (4, .int (268435456 : Int32)), (0, .ref T), (1, .int v1)]) (q := 134) dX12_layWay_132 (by decide) rfl rfl ?_
  replace H := bs H; obtain ⟨e28, e28L, H⟩ := H
  refine V.sub [2, 3, 1, 0] rfl ?_
  refine lp_V (P := (fun s134 => V Γ d mX12_layWay 134 [(0, .ref T), (1, .int v1), (4, .int s134.1), (5, .int s134.2)] [] (hm T h e20) (some (.int r.1), (hm T h r.2)))) (E := (fun e => V Γ d mX12_layWay 183 [(0, .ref T), (1, .int v1), (4, .int e)] [] (hm T h e20) (some (.int r.1), (hm T h r.2)))) (fun s r hb kI kE => sgbX12_layWay_134 hd rs (s134 := s) (r := r) hb kI kE) FU ((268435456 : Int32), (0 : Int32)) e28 e28L ?_
  refine v_iload (q := 185) 2 dX12_layWay_183 rfl rfl ?_
  refine v_ldcw (v := 268435456) (q := 188) dX12_layWay_185 w1713 rfl ?_
  refine v_icmp_ne (q1 := 193) (q2 := 191) dX12_layWay_188 (by decide) rfl (fun c29 => ?_) (fun c29 => ?_)
  · replace H := ine c29 H
    refine v_aload_n (q := 194) 0 dX12_layWay_193 rfl rfl rfl ?_
    refine ur_arr (q := 197) rs rt28 dX12_layWay_194 w1384 (Nat.le_of_ble_eq_true rfl) rfl rfl ?_
    refine v_iconst (v := 0) (q := 198) dX12_layWay_197 (by decide) rfl ?_
    refine v_iload_n (q := 199) 1 dX12_layWay_198 rfl rfl rfl ?_
    replace H := bs H; obtain ⟨m30, m30e, H⟩ := H
    refine ur_wr (q := 200) rs rt28 m30e dX12_layWay_199 rfl ?_
    refine v_iconst (v := 1) (q := 201) dX12_layWay_200 (by decide) rfl ?_
    refine v_istore (L' := [(5, .int (1 : Int32)), (0, .ref T), (1, .int v1), (4, .int e28)]) (q := 203) dX12_layWay_201 (by decide) rfl rfl ?_
    refine v_iload (q := 205) 3 dX12_layWay_203 rfl rfl ?_
    refine v_istore (L' := [(6, .int e28), (5, .int (1 : Int32)), (0, .ref T), (1, .int v1), (4, .int e28)]) (q := 207) dX12_layWay_205 (by decide) rfl rfl ?_
    replace H := bs H; obtain ⟨e42, e42L, H⟩ := H
    refine V.sub [2, 1, 0] rfl ?_
    refine lp_V (P := (fun s207 => V Γ d mX12_layWay 207 [(0, .ref T), (5, .int s207.1), (6, .int s207.2.1)] [] (hm T h s207.2.2) (some (.int r.1), (hm T h r.2)))) (E := (fun e => V Γ d mX12_layWay 269 [(5, .int e.1)] [] (hm T h e.2) (some (.int r.1), (hm T h r.2)))) (fun s r hb kI kE => sgbX12_layWay_207 hd rs (s207 := s) (r := r) hb kI kE) FU ((1 : Int32), e28, m30) e42 e42L ?_
    refine v_iload (q := 271) 0 dX12_layWay_269 rfl rfl ?_
    cases H
    exact v_ireturn rfl dX12_layWay_271
  · replace H := ip c29 H
    refine v_iconst (v := 0) (q := 192) dX12_layWay_191 (by decide) rfl ?_
    cases H
    exact v_ireturn rfl dX12_layWay_192
def mX12_learnEdge : MI := (yX12_learnEdge, cX12_learnEdge, 7, none)
theorem oX12_learnEdge : mOK mX12_learnEdge 4 := ⟨by decide +kernel, by decide +kernel, by decide +kernel, by decide, w1708, w0150⟩
def gbX12_learnEdge_41 (u1 : Int32) (u2 : Int32) (u3 : Int32) (u5 : Int32) (s41 : Int32 × Mem) : Option ((Int32 × Mem) ⊕ (Mem)) :=
if s41.1 ≤ 0 then (
some (.inr s41.2)) else (
(rd s41.2 17 20 (s41.1 - (1 : Int32))).bind fun x5 =>
(wr s41.2 17 20 s41.1 x5).bind fun m6 =>
(some (s41.1 + (-1 : Int32))).bind fun x7 =>
some (.inl (x7, m6)))
set_option maxRecDepth 20000 in
set_option maxHeartbeats 4000000 in
theorem sgbX12_learnEdge_41 {Γ : Gm} {d : Nat} (hd : 3 ≤ d) {T : Nat} {h : Hp} (rs : RS T h) {u1 : Int32} {u2 : Int32} {u3 : Int32} {u5 : Int32} {s41 : Int32 × Mem} {r : (Int32 × Mem) ⊕ (Mem)} {t : Option Value × Hp} (H : gbX12_learnEdge_41 u1 u2 u3 u5 s41 = some r) (kI : ∀ s, r = .inl s → (fun s41 => V Γ d mX12_learnEdge 41 [(0, .ref T), (1, .int u1), (2, .int u2), (3, .int u3), (5, .int u5), (6, .int s41.1)] [] (hm T h s41.2) t) s) (kE : ∀ e, r = .inr e → (fun e => V Γ d mX12_learnEdge 68 [(0, .ref T), (1, .int u1), (2, .int u2), (3, .int u3), (5, .int u5)] [] (hm T h e) t) e) : V Γ d mX12_learnEdge 41 [(0, .ref T), (1, .int u1), (2, .int u2), (3, .int u3), (5, .int u5), (6, .int s41.1)] [] (hm T h s41.2) t := by
  unfold gbX12_learnEdge_41 at H
  refine v_iload (q := 43) 5 dX12_learnEdge_41 rfl rfl ?_
  refine v_if_le (q1 := 68) (q2 := 46) dX12_learnEdge_43 (by decide) rfl (fun c4 => ?_) (fun c4 => ?_)
  · replace H := ip c4 H
    exact V.sub [0, 1, 2, 3, 4] rfl (kE s41.2 (Option.some.inj H).symm)
  · replace H := ine c4 H
    refine v_aload_n (q := 47) 0 dX12_learnEdge_46 rfl rfl rfl ?_
    refine ur_arr (q := 50) rs rt28 dX12_learnEdge_47 w1384 (Nat.le_of_ble_eq_true rfl) rfl rfl ?_
    refine v_iload (q := 52) 5 dX12_learnEdge_50 rfl rfl ?_
    refine v_aload_n (q := 53) 0 dX12_learnEdge_52 rfl rfl rfl ?_
    refine ur_arr (q := 56) rs rt28 dX12_learnEdge_53 w1384 (Nat.le_of_ble_eq_true rfl) rfl rfl ?_
    refine v_iload (q := 58) 5 dX12_learnEdge_56 rfl rfl ?_
    refine v_iconst (v := 1) (q := 59) dX12_learnEdge_58 (by decide) rfl ?_
    refine v_isub (q := 60) dX12_learnEdge_59 rfl ?_
    replace H := bs H; obtain ⟨x5, x5e, H⟩ := H
    refine ur_rd (q := 61) rs rt28 x5e dX12_learnEdge_60 rfl ?_
    replace H := bs H; obtain ⟨m6, m6e, H⟩ := H
    refine ur_wr (q := 62) rs rt28 m6e dX12_learnEdge_61 rfl ?_
    replace H := bs H; obtain ⟨x7, x7e, H⟩ := H
    refine v_iinc (v := x7) (L' := [(6, .int x7), (0, .ref T), (1, .int u1), (2, .int u2), (3, .int u3), (5, .int u5)]) (q := 65) 5 dX12_learnEdge_62 rfl (Option.some.inj x7e) (by decide) rfl rfl ?_
    refine v_goto (q := 41) dX12_learnEdge_65 (by decide) ?_
    exact V.sub [1, 2, 3, 4, 5, 0] rfl (kI (x7, m6) (Option.some.inj H).symm)
def gX12_learnEdge (m : Mem) (v1 : Int32) (v2 : Int32) (v3 : Int32) (v4 : Int32) : Option (Mem) :=
(wr m 1 9685 (((0 : Int32) + ((16 : Int32) * v3)) + v4) (((1 : Int32) + ((16 : Int32) * v1)) + v2)).bind fun m1 =>
(gX12_layWay m1 v4 v3).bind fun x2 =>
if x2.1 = 0 then (
some x2.2) else (
(lp (gbX12_learnEdge_41 v1 v2 v3 x2.1) FU (x2.1, x2.2)).bind fun e8 =>
(wr e8 17 20 (0 : Int32) v3).bind fun m9 =>
(gX12_report m9 (3 : Int32) v1 v2 (x2.1 + (1 : Int32))).bind fun x10 =>
some x10)
set_option maxRecDepth 20000 in
set_option maxHeartbeats 4000000 in
theorem sgX12_learnEdge {Γ : Gm} {d : Nat} (hd : 3 ≤ d) {T : Nat} {h : Hp} (rs : RS T h) {m : Mem} {v1 : Int32} {v2 : Int32} {v3 : Int32} {v4 : Int32} {r : Mem} (H : gX12_learnEdge m v1 v2 v3 v4 = some r) : V Γ d mX12_learnEdge 0 [(0, .ref T), (1, .int v1), (2, .int v2), (3, .int v3), (4, .int v4)] [] (hm T h m) (none, (hm T h r)) := by
  unfold gX12_learnEdge at H
  refine v_aload_n (q := 1) 0 dX12_learnEdge_0 rfl rfl rfl ?_
  refine ur_arr (q := 4) rs rt0 dX12_learnEdge_1 w1356 (Nat.le_of_ble_eq_true rfl) rfl rfl ?_
  refine v_iconst (v := 0) (q := 5) dX12_learnEdge_4 (by decide) rfl ?_
  refine v_bipush (v := 16) (q := 7) dX12_learnEdge_5 (by decide) rfl ?_
  refine v_iload_n (q := 8) 3 dX12_learnEdge_7 rfl rfl rfl ?_
  refine v_imul (q := 9) dX12_learnEdge_8 rfl ?_
  refine v_iadd (q := 10) dX12_learnEdge_9 rfl ?_
  refine v_iload (q := 12) 4 dX12_learnEdge_10 rfl rfl ?_
  refine v_iadd (q := 13) dX12_learnEdge_12 rfl ?_
  refine v_iconst (v := 1) (q := 14) dX12_learnEdge_13 (by decide) rfl ?_
  refine v_bipush (v := 16) (q := 16) dX12_learnEdge_14 (by decide) rfl ?_
  refine v_iload_n (q := 17) 1 dX12_learnEdge_16 rfl rfl rfl ?_
  refine v_imul (q := 18) dX12_learnEdge_17 rfl ?_
  refine v_iadd (q := 19) dX12_learnEdge_18 rfl ?_
  refine v_iload_n (q := 20) 2 dX12_learnEdge_19 rfl rfl rfl ?_
  refine v_iadd (q := 21) dX12_learnEdge_20 rfl ?_
  replace H := bs H; obtain ⟨m1, m1e, H⟩ := H
  refine ur_wr (q := 22) rs rt0 m1e dX12_learnEdge_21 rfl ?_
  refine v_aload_n (q := 23) 0 dX12_learnEdge_22 rfl rfl rfl ?_
  refine v_iload (q := 25) 4 dX12_learnEdge_23 rfl rfl ?_
  refine v_iload_n (q := 26) 3 dX12_learnEdge_25 rfl rfl rfl ?_
  replace H := bs H; obtain ⟨x2, x2e, H⟩ := H
  refine u_callV1 (M' := mX12_layWay) (d' := 2) (rc := (RX12, TX12, 58)) (As := [.int v4, .int v3]) (st := []) (q := 29) oX12_layWay dX12_learnEdge_26 w1709 w1711 w0090 rfl rfl (RS.rc rs).1 (RS.rc rs).2 rfl (Nat.le_of_ble_eq_true rfl) (Nat.le_of_ble_eq_true rfl) (Nat.lt_of_lt_of_le (by decide) hd) rfl (sgX12_layWay (Nat.le_refl _) rs x2e) rfl ?_
  refine v_istore (L' := [(5, .int x2.1), (0, .ref T), (1, .int v1), (2, .int v2), (3, .int v3), (4, .int v4)]) (q := 31) dX12_learnEdge_29 (by decide) rfl rfl ?_
  refine v_iload (q := 33) 0 dX12_learnEdge_31 rfl rfl ?_
  refine v_if_ne (q1 := 37) (q2 := 36) dX12_learnEdge_33 (by decide) rfl (fun c3 => ?_) (fun c3 => ?_)
  · replace H := ine c3 H
    refine v_iload (q := 39) 0 dX12_learnEdge_37 rfl rfl ?_
    refine v_istore (L' := [(6, .int x2.1), (5, .int x2.1), (0, .ref T), (1, .int v1), (2, .int v2), (3, .int v3), (4, .int v4)]) (q := 41) dX12_learnEdge_39 (by decide) rfl rfl ?_
    replace H := bs H; obtain ⟨e8, e8L, H⟩ := H
    refine V.sub [2, 3, 4, 5, 1, 0] rfl ?_
    refine lp_V (P := (fun s41 => V Γ d mX12_learnEdge 41 [(0, .ref T), (1, .int v1), (2, .int v2), (3, .int v3), (5, .int x2.1), (6, .int s41.1)] [] (hm T h s41.2) (none, (hm T h r)))) (E := (fun e => V Γ d mX12_learnEdge 68 [(0, .ref T), (1, .int v1), (2, .int v2), (3, .int v3), (5, .int x2.1)] [] (hm T h e) (none, (hm T h r)))) (fun s r hb kI kE => sgbX12_learnEdge_41 hd rs (s41 := s) (r := r) hb kI kE) FU (x2.1, x2.2) e8 e8L ?_
    refine v_aload_n (q := 69) 0 dX12_learnEdge_68 rfl rfl rfl ?_
    refine ur_arr (q := 72) rs rt28 dX12_learnEdge_69 w1384 (Nat.le_of_ble_eq_true rfl) rfl rfl ?_
    refine v_iconst (v := 0) (q := 73) dX12_learnEdge_72 (by decide) rfl ?_
    refine v_iload_n (q := 74) 3 dX12_learnEdge_73 rfl rfl rfl ?_
    replace H := bs H; obtain ⟨m9, m9e, H⟩ := H
    refine ur_wr (q := 75) rs rt28 m9e dX12_learnEdge_74 rfl ?_
    refine v_aload_n (q := 76) 0 dX12_learnEdge_75 rfl rfl rfl ?_
    refine v_iconst (v := 3) (q := 77) dX12_learnEdge_76 (by decide) rfl ?_
    refine v_iload_n (q := 78) 1 dX12_learnEdge_77 rfl rfl rfl ?_
    refine v_iload_n (q := 79) 2 dX12_learnEdge_78 rfl rfl rfl ?_
    refine v_iload (q := 81) 4 dX12_learnEdge_79 rfl rfl ?_
    refine v_iconst (v := 1) (q := 82) dX12_learnEdge_81 (by decide) rfl ?_
    refine v_iadd (q := 83) dX12_learnEdge_82 rfl ?_
    replace H := bs H; obtain ⟨x10, x10e, H⟩ := H
    refine u_callV0 (M' := mX12_report) (d' := 2) (rc := (RX12, TX12, 58)) (As := [.int (3 : Int32), .int v1, .int v2, .int (x2.1 + (1 : Int32))]) (st := []) (q := 86) oX12_report dX12_learnEdge_83 w1666 w1668 w0080 rfl rfl (RS.rc rs).1 (RS.rc rs).2 rfl (Nat.le_of_ble_eq_true rfl) (Nat.le_of_ble_eq_true rfl) (Nat.lt_of_lt_of_le (by decide) hd) rfl (sgX12_report (Nat.le_refl _) rs x10e) rfl ?_
    cases H
    exact v_return rfl dX12_learnEdge_86
  · replace H := ip c3 H
    cases H
    exact v_return rfl dX12_learnEdge_36
def mX12_learn : MI := (yX12_learn, cX12_learn, 6, none)
theorem oX12_learn : mOK mX12_learn 3 := ⟨by decide +kernel, by decide +kernel, by decide +kernel, by decide, w1684, w0150⟩
def gjX12_learn_57 (u1 : Int32) (u2 : Int32) (u3 : Int32) (v4 : Int32) (m : Mem) : Option ((Int32 × Mem) ⊕ (Mem)) :=
(some (v4 + (1 : Int32))).bind fun x6 =>
some (.inl (x6, m))
set_option maxRecDepth 20000 in
set_option maxHeartbeats 4000000 in
theorem sgjX12_learn_57 {Γ : Gm} {d : Nat} (hd : 5 ≤ d) {T : Nat} {h : Hp} (rs : RS T h) {u1 : Int32} {u2 : Int32} {u3 : Int32} {v4 : Int32} {m : Mem} {r : (Int32 × Mem) ⊕ (Mem)} {t : Option Value × Hp} (H : gjX12_learn_57 u1 u2 u3 v4 m = some r) (kI : ∀ s, r = .inl s → (fun s3 => V Γ d mX12_learn 3 [(0, .ref T), (1, .int u1), (2, .int u2), (3, .int u3), (4, .int s3.1)] [] (hm T h s3.2) t) s) (kE : ∀ e, r = .inr e → (fun e => V Γ d mX12_learn 63 [] [] (hm T h e) t) e) : V Γ d mX12_learn 57 [(0, .ref T), (1, .int u1), (2, .int u2), (3, .int u3), (4, .int v4)] [] (hm T h m) t := by
  unfold gjX12_learn_57 at H
  replace H := bs H; obtain ⟨x6, x6e, H⟩ := H
  refine v_iinc (v := x6) (L' := [(4, .int x6), (0, .ref T), (1, .int u1), (2, .int u2), (3, .int u3)]) (q := 60) 4 dX12_learn_57 rfl (Option.some.inj x6e) (by decide) rfl rfl ?_
  refine v_goto (q := 3) dX12_learn_60 (by decide) ?_
  exact V.sub [1, 2, 3, 4, 0] rfl (kI (x6, m) (Option.some.inj H).symm)
def gbX12_learn_3 (u1 : Int32) (u2 : Int32) (u3 : Int32) (s3 : Int32 × Mem) : Option ((Int32 × Mem) ⊕ (Mem)) :=
if (s3.2 0 31) ≤ s3.1 then (
some (.inr s3.2)) else (
(rd s3.2 19 10 s3.1).bind fun x2 =>
if x2 = u3 then (
(gX12_reportOnce s3.2 (2 : Int32) u1 u2 u3).bind fun x8 =>
gjX12_learn_57 u1 u2 u3 s3.1 x8) else (
(gX12_isEdge s3.2 x2 u3).bind fun x4 =>
if x4 = 0 then (
(gX12_learnEdge s3.2 u1 u2 x2 u3).bind fun x7 =>
gjX12_learn_57 u1 u2 u3 s3.1 x7) else (
gjX12_learn_57 u1 u2 u3 s3.1 s3.2)))
set_option maxRecDepth 20000 in
set_option maxHeartbeats 4000000 in
theorem sgbX12_learn_3 {Γ : Gm} {d : Nat} (hd : 5 ≤ d) {T : Nat} {h : Hp} (rs : RS T h) {u1 : Int32} {u2 : Int32} {u3 : Int32} {s3 : Int32 × Mem} {r : (Int32 × Mem) ⊕ (Mem)} {t : Option Value × Hp} (H : gbX12_learn_3 u1 u2 u3 s3 = some r) (kI : ∀ s, r = .inl s → (fun s3 => V Γ d mX12_learn 3 [(0, .ref T), (1, .int u1), (2, .int u2), (3, .int u3), (4, .int s3.1)] [] (hm T h s3.2) t) s) (kE : ∀ e, r = .inr e → (fun e => V Γ d mX12_learn 63 [] [] (hm T h e) t) e) : V Γ d mX12_learn 3 [(0, .ref T), (1, .int u1), (2, .int u2), (3, .int u3), (4, .int s3.1)] [] (hm T h s3.2) t := by
  unfold gbX12_learn_3 at H
  refine v_iload (q := 5) 4 dX12_learn_3 rfl rfl ?_
  refine v_aload_n (q := 6) 0 dX12_learn_5 rfl rfl rfl ?_
  refine ur_gI (q := 9) (x := 0) (k := 31) rs dX12_learn_6 w1387 (Nat.le_of_ble_eq_true rfl) rfl rfl ?_
  refine v_icmp_ge (q1 := 63) (q2 := 12) dX12_learn_9 (by decide) rfl (fun c1 => ?_) (fun c1 => ?_)
  · replace H := ip c1 H
    exact V.sub [] rfl (kE s3.2 (Option.some.inj H).symm)
  · replace H := ine c1 H
    refine v_aload_n (q := 13) 0 dX12_learn_12 rfl rfl rfl ?_
    refine ur_arr (q := 16) rs rt30 dX12_learn_13 w1386 (Nat.le_of_ble_eq_true rfl) rfl rfl ?_
    refine v_iload (q := 18) 4 dX12_learn_16 rfl rfl ?_
    replace H := bs H; obtain ⟨x2, x2e, H⟩ := H
    refine ur_rd (q := 19) rs rt30 x2e dX12_learn_18 rfl ?_
    refine v_istore (L' := [(5, .int x2), (0, .ref T), (1, .int u1), (2, .int u2), (3, .int u3), (4, .int s3.1)]) (q := 21) dX12_learn_19 (by decide) rfl rfl ?_
    refine v_iload (q := 23) 0 dX12_learn_21 rfl rfl ?_
    refine v_iload_n (q := 24) 4 dX12_learn_23 rfl rfl rfl ?_
    refine v_icmp_ne (q1 := 38) (q2 := 27) dX12_learn_24 (by decide) rfl (fun c3 => ?_) (fun c3 => ?_)
    · replace H := ine c3 H
      refine v_aload_n (q := 39) 1 dX12_learn_38 rfl rfl rfl ?_
      refine v_iload (q := 41) 0 dX12_learn_39 rfl rfl ?_
      refine v_iload_n (q := 42) 4 dX12_learn_41 rfl rfl rfl ?_
      replace H := bs H; obtain ⟨x4, x4e, H⟩ := H
      refine u_callV1 (M' := mX12_isEdge) (d' := 1) (rc := (RX12, TX12, 58)) (As := [.int x2, .int u3]) (st := []) (q := 45) oX12_isEdge dX12_learn_42 w1701 w1703 w0088 rfl rfl (RS.rc rs).1 (RS.rc rs).2 rfl (Nat.le_of_ble_eq_true rfl) (Nat.le_of_ble_eq_true rfl) (Nat.lt_of_lt_of_le (by decide) hd) rfl (sgX12_isEdge (Nat.le_refl _) rs x4e) rfl ?_
      refine v_if_ne (q1 := 57) (q2 := 48) dX12_learn_45 (by decide) rfl (fun c5 => ?_) (fun c5 => ?_)
      · replace H := ine c5 H
        exact V.sub [1, 2, 3, 4, 5] rfl (sgjX12_learn_57 hd rs H kI kE)
      · replace H := ip c5 H
        refine v_aload_n (q := 49) 1 dX12_learn_48 rfl rfl rfl ?_
        refine v_iload_n (q := 50) 2 dX12_learn_49 rfl rfl rfl ?_
        refine v_iload_n (q := 51) 3 dX12_learn_50 rfl rfl rfl ?_
        refine v_iload (q := 53) 0 dX12_learn_51 rfl rfl ?_
        refine v_iload_n (q := 54) 4 dX12_learn_53 rfl rfl rfl ?_
        replace H := bs H; obtain ⟨x7, x7e, H⟩ := H
        refine u_callV0 (M' := mX12_learnEdge) (d' := 3) (rc := (RX12, TX12, 58)) (As := [.int u1, .int u2, .int x2, .int u3]) (st := []) (q := 57) oX12_learnEdge dX12_learn_54 w1705 w1707 w0089 rfl rfl (RS.rc rs).1 (RS.rc rs).2 rfl (Nat.le_of_ble_eq_true rfl) (Nat.le_of_ble_eq_true rfl) (Nat.lt_of_lt_of_le (by decide) hd) rfl (sgX12_learnEdge (Nat.le_refl _) rs x7e) rfl ?_
        exact V.sub [1, 2, 3, 4, 5] rfl (sgjX12_learn_57 hd rs H kI kE)
    · replace H := ip c3 H
      refine v_aload_n (q := 28) 1 dX12_learn_27 rfl rfl rfl ?_
      refine v_iconst (v := 2) (q := 29) dX12_learn_28 (by decide) rfl ?_
      refine v_iload_n (q := 30) 2 dX12_learn_29 rfl rfl rfl ?_
      refine v_iload_n (q := 31) 3 dX12_learn_30 rfl rfl rfl ?_
      refine v_iload_n (q := 32) 4 dX12_learn_31 rfl rfl rfl ?_
      replace H := bs H; obtain ⟨x8, x8e, H⟩ := H
      refine u_callV0 (M' := mX12_reportOnce) (d' := 4) (rc := (RX12, TX12, 58)) (As := [.int (2 : Int32), .int u1, .int u2, .int u3]) (st := []) (q := 35) oX12_reportOnce dX12_learn_32 w1685 w1687 w0084 rfl rfl (RS.rc rs).1 (RS.rc rs).2 rfl (Nat.le_of_ble_eq_true rfl) (Nat.le_of_ble_eq_true rfl) (Nat.lt_of_lt_of_le (by decide) hd) rfl (sgX12_reportOnce (Nat.le_refl _) rs x8e) rfl ?_
      refine v_goto (q := 57) dX12_learn_35 (by decide) ?_
      exact V.sub [1, 2, 3, 4, 5] rfl (sgjX12_learn_57 hd rs H kI kE)
def gX12_learn (m : Mem) (v1 : Int32) (v2 : Int32) (v3 : Int32) : Option (Mem) :=
(lp (gbX12_learn_3 v1 v2 v3) FU ((0 : Int32), m)).bind fun e9 =>
some e9
set_option maxRecDepth 20000 in
set_option maxHeartbeats 4000000 in
theorem sgX12_learn {Γ : Gm} {d : Nat} (hd : 5 ≤ d) {T : Nat} {h : Hp} (rs : RS T h) {m : Mem} {v1 : Int32} {v2 : Int32} {v3 : Int32} {r : Mem} (H : gX12_learn m v1 v2 v3 = some r) : V Γ d mX12_learn 0 [(0, .ref T), (1, .int v1), (2, .int v2), (3, .int v3)] [] (hm T h m) (none, (hm T h r)) := by
  unfold gX12_learn at H
  refine v_iconst (v := 0) (q := 1) dX12_learn_0 (by decide) rfl ?_
  refine v_istore (L' := [(4, .int (0 : Int32)), (0, .ref T), (1, .int v1), (2, .int v2), (3, .int v3)]) (q := 3) dX12_learn_1 (by decide) rfl rfl ?_
  replace H := bs H; obtain ⟨e9, e9L, H⟩ := H
  refine V.sub [1, 2, 3, 4, 0] rfl ?_
  refine lp_V (P := (fun s3 => V Γ d mX12_learn 3 [(0, .ref T), (1, .int v1), (2, .int v2), (3, .int v3), (4, .int s3.1)] [] (hm T h s3.2) (none, (hm T h r)))) (E := (fun e => V Γ d mX12_learn 63 [] [] (hm T h e) (none, (hm T h r)))) (fun s r hb kI kE => sgbX12_learn_3 hd rs (s3 := s) (r := r) hb kI kE) FU ((0 : Int32), m) e9 e9L ?_
  cases H
  exact v_return rfl dX12_learn_63

def mX11_order : MI := (yX11_order, cX11_order, 2, some .int)
theorem oX11_order : mOK mX11_order 1 := ⟨by decide +kernel, by decide +kernel, by decide +kernel, by decide, w1030, w0139⟩
def jX11_order_28 (y0 : Int32) (h : Hp) : Option (Int32) :=
some y0
set_option maxRecDepth 20000 in
set_option maxHeartbeats 4000000 in
theorem sjX11_order_28 {Γ : Gm} {d : Nat} (hd : 4 ≤ d) {y0 : Int32} {h : Hp} {r : Int32} (H : jX11_order_28 y0 h = some r) : V Γ d mX11_order 28 [] [.int y0] h (some (.int r), h) := by
  unfold jX11_order_28 at H
  cases H
  exact v_ireturn rfl dX11_order_28
def jX11_order_27 (h : Hp) : Option (Int32) :=
jX11_order_28 (-1 : Int32) h
set_option maxRecDepth 20000 in
set_option maxHeartbeats 4000000 in
theorem sjX11_order_27 {Γ : Gm} {d : Nat} (hd : 4 ≤ d) {h : Hp} {r : Int32} (H : jX11_order_27 h = some r) : V Γ d mX11_order 27 [] [] h (some (.int r), h) := by
  unfold jX11_order_27 at H
  refine v_iconst (v := -1) (q := 28) dX11_order_27 (by decide) rfl ?_
  exact V.sub [] rfl (sjX11_order_28 hd H)
def fX11_order (h : Hp) (v0 : Nat) (v1 : Int32) : Option (Int32) :=
if v1 < 0 then (
jX11_order_27 h) else (
if (16 : Int32) ≤ v1 then (
jX11_order_27 h) else (
(gR h 11 v0 5).bind fun x3 =>
(gO h 2 x3).bind fun _ =>
(fX2_present h x3).bind fun x5 =>
(gR h 3 x5 3).bind fun x6 =>
(gO h 1 x6).bind fun _ =>
(fX1_inOrder h x6 v1).bind fun x8 =>
jX11_order_28 x8 h))
set_option maxRecDepth 20000 in
set_option maxHeartbeats 4000000 in
theorem sX11_order {Γ : Gm} {d : Nat} (hd : 4 ≤ d) {h : Hp} {v0 : Nat} {v1 : Int32} {r : Int32} (H : fX11_order h v0 v1 = some r) : V Γ d mX11_order 0 [(0, .ref v0), (1, .int v1)] [] h (some (.int r), h) := by
  unfold fX11_order at H
  refine v_iload_n (q := 1) 1 dX11_order_0 rfl rfl rfl ?_
  refine v_if_lt (q1 := 27) (q2 := 4) dX11_order_1 (by decide) rfl (fun c1 => ?_) (fun c1 => ?_)
  · replace H := ip c1 H
    exact V.sub [] rfl (sjX11_order_27 hd H)
  · replace H := ine c1 H
    refine v_iload_n (q := 5) 1 dX11_order_4 rfl rfl rfl ?_
    refine v_bipush (v := 16) (q := 7) dX11_order_5 (by decide) rfl ?_
    refine v_icmp_ge (q1 := 27) (q2 := 10) dX11_order_7 (by decide) rfl (fun c2 => ?_) (fun c2 => ?_)
    · replace H := ip c2 H
      exact V.sub [] rfl (sjX11_order_27 hd H)
    · replace H := ine c2 H
      refine v_aload_n (q := 11) 0 dX11_order_10 rfl rfl rfl ?_
      replace H := bs H; obtain ⟨x3, x3e, H⟩ := H
      refine u_gR (q := 14) (r := (RX11, TX11, 14)) x3e dX11_order_11 w0526 rfl (by decide) rfl rfl ?_
      replace H := bs H; obtain ⟨_, o4, H⟩ := H
      replace H := bs H; obtain ⟨x5, x5e, H⟩ := H
      refine u_callV1 (M' := mX2_present) (d' := 1) (rc := (RX2, TX2, 3)) (As := []) (st := []) (q := 17) oX2_present dX11_order_14 w0701 w0702 w0703 rfl rfl (gO_sp o4).1 (gO_sp o4).2 rfl (Nat.le_of_ble_eq_true rfl) (Nat.le_of_ble_eq_true rfl) (Nat.lt_of_lt_of_le (by decide) hd) rfl (sX2_present (Nat.le_refl _) x5e) rfl ?_
      replace H := bs H; obtain ⟨x6, x6e, H⟩ := H
      refine u_gR (q := 20) (r := (RX3, TX3, 8)) x6e dX11_order_17 w0350 rfl (by decide) rfl rfl ?_
      refine v_iload_n (q := 21) 1 dX11_order_20 rfl rfl rfl ?_
      replace H := bs H; obtain ⟨_, o7, H⟩ := H
      replace H := bs H; obtain ⟨x8, x8e, H⟩ := H
      refine u_callV1 (M' := mX1_inOrder) (d' := 3) (rc := (RX1, TX1, 4)) (As := [.int v1]) (st := []) (q := 24) oX1_inOrder dX11_order_21 w1031 w1032 w1033 rfl rfl (gO_sp o7).1 (gO_sp o7).2 rfl (Nat.le_of_ble_eq_true rfl) (Nat.le_of_ble_eq_true rfl) (Nat.lt_of_lt_of_le (by decide) hd) rfl (sX1_inOrder (Nat.le_refl _) x8e) rfl ?_
      refine v_goto (q := 28) dX11_order_24 (by decide) ?_
      exact V.sub [] rfl (sjX11_order_28 hd H)
def mX11_packStep : MI := (yX11_packStep, cX11_packStep, 2, some .int)
theorem oX11_packStep : mOK mX11_packStep 2 := ⟨by decide +kernel, by decide +kernel, by decide +kernel, by decide, w0696, w0139⟩
def fX11_packStep (h : Hp) (v0 : Int32) (v1 : Int32) : Option (Int32) :=
some ((v0 <<< ((4 : Int32) &&& 31)) ||| v1)
set_option maxRecDepth 20000 in
set_option maxHeartbeats 4000000 in
theorem sX11_packStep {Γ : Gm} {d : Nat} (hd : 1 ≤ d) {h : Hp} {v0 : Int32} {v1 : Int32} {r : Int32} (H : fX11_packStep h v0 v1 = some r) : V Γ d mX11_packStep 0 [(0, .int v0), (1, .int v1)] [] h (some (.int r), h) := by
  unfold fX11_packStep at H
  refine v_iload_n (q := 1) 0 dX11_packStep_0 rfl rfl rfl ?_
  refine v_iconst (v := 4) (q := 2) dX11_packStep_1 (by decide) rfl ?_
  refine v_ishl (q := 3) dX11_packStep_2 rfl ?_
  refine v_iload_n (q := 4) 1 dX11_packStep_3 rfl rfl rfl ?_
  refine v_ior (q := 5) dX11_packStep_4 rfl ?_
  cases H
  exact v_ireturn rfl dX11_packStep_5
def mX11_program : MI := (yX11_program, cX11_program, 3, some .int)
theorem oX11_program : mOK mX11_program 2 := ⟨by decide +kernel, by decide +kernel, by decide +kernel, by decide, w0950, w0139⟩
def fX11_program (h : Hp) (v0 : Nat) (v1 : Int32) (v2 : Int32) : Option (Int32) :=
(gR h 11 v0 3).bind fun x1 =>
(gO h 5 x1).bind fun _ =>
(fX5_hasProgram h x1 v1).bind fun x3 =>
if x3 = 0 then (
some (-1 : Int32)) else (
if v2 = (0 : Int32) then (
(gR h 11 v0 3).bind fun x6 =>
(gR h 5 x6 4).bind fun x7 =>
(lI h .int x7 v1).bind fun x8 =>
some x8) else (
if v2 = (1 : Int32) then (
(gR h 11 v0 3).bind fun x10 =>
(gR h 5 x10 5).bind fun x11 =>
(lI h .int x11 v1).bind fun x12 =>
some x12) else (
if v2 = (2 : Int32) then (
(gR h 11 v0 5).bind fun x14 =>
(gO h 2 x14).bind fun _ =>
(fX2_present h x14).bind fun x16 =>
(gR h 3 x16 1).bind fun x17 =>
(lI h .int x17 v1).bind fun x18 =>
some x18) else (
some (-1 : Int32)))))
set_option maxRecDepth 20000 in
set_option maxHeartbeats 4000000 in
theorem sX11_program {Γ : Gm} {d : Nat} (hd : 2 ≤ d) {h : Hp} {v0 : Nat} {v1 : Int32} {v2 : Int32} {r : Int32} (H : fX11_program h v0 v1 v2 = some r) : V Γ d mX11_program 0 [(0, .ref v0), (1, .int v1), (2, .int v2)] [] h (some (.int r), h) := by
  unfold fX11_program at H
  refine v_aload_n (q := 1) 0 dX11_program_0 rfl rfl rfl ?_
  replace H := bs H; obtain ⟨x1, x1e, H⟩ := H
  refine u_gR (q := 4) (r := (RX11, TX11, 14)) x1e dX11_program_1 w0524 rfl (by decide) rfl rfl ?_
  refine v_iload_n (q := 5) 1 dX11_program_4 rfl rfl rfl ?_
  replace H := bs H; obtain ⟨_, o2, H⟩ := H
  replace H := bs H; obtain ⟨x3, x3e, H⟩ := H
  refine u_callV1 (M' := mX5_hasProgram) (d' := 1) (rc := (RX5, TX5, 7)) (As := [.int v1]) (st := []) (q := 8) oX5_hasProgram dX11_program_5 w0739 w0740 w0741 rfl rfl (gO_sp o2).1 (gO_sp o2).2 rfl (Nat.le_of_ble_eq_true rfl) (Nat.le_of_ble_eq_true rfl) (Nat.lt_of_lt_of_le (by decide) hd) rfl (sX5_hasProgram (Nat.le_refl _) x3e) rfl ?_
  refine v_if_ne (q1 := 13) (q2 := 11) dX11_program_8 (by decide) rfl (fun c4 => ?_) (fun c4 => ?_)
  · replace H := ine c4 H
    refine v_iload_n (q := 14) 2 dX11_program_13 rfl rfl rfl ?_
    by_cases c5 : v2 = (0 : Int32)
    · replace H := ip c5 H
      rw [c5]
      refine v_tabIn (off := 26) (q := 40) dX11_program_14 (by decide) (by decide) (by decide) (by decide) ?_
      refine v_aload_n (q := 41) 0 dX11_program_40 rfl rfl rfl ?_
      replace H := bs H; obtain ⟨x6, x6e, H⟩ := H
      refine u_gR (q := 44) (r := (RX11, TX11, 14)) x6e dX11_program_41 w0524 rfl (by decide) rfl rfl ?_
      replace H := bs H; obtain ⟨x7, x7e, H⟩ := H
      refine u_gR (q := 47) (r := (RX5, TX5, 7)) x7e dX11_program_44 w0243 rfl (by decide) rfl rfl ?_
      refine v_iload_n (q := 48) 1 dX11_program_47 rfl rfl rfl ?_
      replace H := bs H; obtain ⟨x8, x8e, H⟩ := H
      refine u_lI (q := 49) x8e dX11_program_48 rfl ?_
      cases H
      exact v_ireturn rfl dX11_program_49
    · replace H := ine c5 H
      by_cases c9 : v2 = (1 : Int32)
      · replace H := ip c9 H
        rw [c9]
        refine v_tabIn (off := 36) (q := 50) dX11_program_14 (by decide) (by decide) (by decide) (by decide) ?_
        refine v_aload_n (q := 51) 0 dX11_program_50 rfl rfl rfl ?_
        replace H := bs H; obtain ⟨x10, x10e, H⟩ := H
        refine u_gR (q := 54) (r := (RX11, TX11, 14)) x10e dX11_program_51 w0524 rfl (by decide) rfl rfl ?_
        replace H := bs H; obtain ⟨x11, x11e, H⟩ := H
        refine u_gR (q := 57) (r := (RX5, TX5, 7)) x11e dX11_program_54 w0248 rfl (by decide) rfl rfl ?_
        refine v_iload_n (q := 58) 1 dX11_program_57 rfl rfl rfl ?_
        replace H := bs H; obtain ⟨x12, x12e, H⟩ := H
        refine u_lI (q := 59) x12e dX11_program_58 rfl ?_
        cases H
        exact v_ireturn rfl dX11_program_59
      · replace H := ine c9 H
        by_cases c13 : v2 = (2 : Int32)
        · replace H := ip c13 H
          rw [c13]
          refine v_tabIn (off := 46) (q := 60) dX11_program_14 (by decide) (by decide) (by decide) (by decide) ?_
          refine v_aload_n (q := 61) 0 dX11_program_60 rfl rfl rfl ?_
          replace H := bs H; obtain ⟨x14, x14e, H⟩ := H
          refine u_gR (q := 64) (r := (RX11, TX11, 14)) x14e dX11_program_61 w0526 rfl (by decide) rfl rfl ?_
          replace H := bs H; obtain ⟨_, o15, H⟩ := H
          replace H := bs H; obtain ⟨x16, x16e, H⟩ := H
          refine u_callV1 (M' := mX2_present) (d' := 1) (rc := (RX2, TX2, 3)) (As := []) (st := []) (q := 67) oX2_present dX11_program_64 w0701 w0702 w0703 rfl rfl (gO_sp o15).1 (gO_sp o15).2 rfl (Nat.le_of_ble_eq_true rfl) (Nat.le_of_ble_eq_true rfl) (Nat.lt_of_lt_of_le (by decide) hd) rfl (sX2_present (Nat.le_refl _) x16e) rfl ?_
          replace H := bs H; obtain ⟨x17, x17e, H⟩ := H
          refine u_gR (q := 70) (r := (RX3, TX3, 8)) x17e dX11_program_67 w0344 rfl (by decide) rfl rfl ?_
          refine v_iload_n (q := 71) 1 dX11_program_70 rfl rfl rfl ?_
          replace H := bs H; obtain ⟨x18, x18e, H⟩ := H
          refine u_lI (q := 72) x18e dX11_program_71 rfl ?_
          cases H
          exact v_ireturn rfl dX11_program_72
        · replace H := ine c13 H
          have c5t := lv_neT (a := 0) c5 (by decide)
          have c9t := lv_neT (a := 1) c9 (by decide)
          have c13t := lv_neT (a := 2) c13 (by decide)
          refine v_tabOut (q := 73) dX11_program_14 (by omega) (by decide) ?_
          refine v_iconst (v := -1) (q := 74) dX11_program_73 (by decide) rfl ?_
          cases H
          exact v_ireturn rfl dX11_program_74
  · replace H := ip c4 H
    refine v_iconst (v := -1) (q := 12) dX11_program_11 (by decide) rfl ?_
    cases H
    exact v_ireturn rfl dX11_program_12
def mX11_proves : MI := (yX11_proves, cX11_proves, 5, some .int)
theorem oX11_proves : mOK mX11_proves 1 := ⟨by decide +kernel, by decide +kernel, by decide +kernel, by decide, w1287, w0139⟩
def jX11_proves_33 (h : Hp) : Option (Int32 × Hp) :=
some (((-1 : Int32), h))
set_option maxRecDepth 20000 in
set_option maxHeartbeats 4000000 in
theorem sjX11_proves_33 {Γ : Gm} {d : Nat} (hd : 8 ≤ d) {h : Hp} {r : Int32 × Hp} (H : jX11_proves_33 h = some r) : V Γ d mX11_proves 33 [] [] h (some (.int r.1), r.2) := by
  unfold jX11_proves_33 at H
  refine v_iconst (v := -1) (q := 34) dX11_proves_33 (by decide) rfl ?_
  cases H
  exact v_ireturn rfl dX11_proves_34
def jX11_proves_120 (u0 : Nat) (u3 : Int32) (v4 : Int32) (h : Hp) : Option ((Int32 × Hp) ⊕ ((Hp) ⊕ (Hp))) :=
(some (v4 + (1 : Int32))).bind fun x22 =>
some (.inl (x22, h))
set_option maxRecDepth 20000 in
set_option maxHeartbeats 4000000 in
theorem sjX11_proves_120 {Γ : Gm} {d : Nat} (hd : 8 ≤ d) {u0 : Nat} {u3 : Int32} {v4 : Int32} {h : Hp} {r : (Int32 × Hp) ⊕ ((Hp) ⊕ (Hp))} {t : Option Value × Hp} (H : jX11_proves_120 u0 u3 v4 h = some r) (kI : ∀ s, r = .inl s → (fun s46 => V Γ d mX11_proves 46 [(0, .ref u0), (3, .int u3), (4, .int s46.1)] [] s46.2 t) s) (kE : ∀ e, r = .inr e → (fun e => (match e with | .inl a0 => V Γ d mX11_proves 126 [] [] a0 t | .inr b0 => V Γ d mX11_proves 118 [] [] b0 t)) e) : V Γ d mX11_proves 120 [(0, .ref u0), (3, .int u3), (4, .int v4)] [] h t := by
  unfold jX11_proves_120 at H
  replace H := bs H; obtain ⟨x22, x22e, H⟩ := H
  refine v_iinc (v := x22) (L' := [(4, .int x22), (0, .ref u0), (3, .int u3)]) (q := 123) 2 dX11_proves_120 rfl (Option.some.inj x22e) (by decide) rfl rfl ?_
  refine v_goto (q := 46) dX11_proves_123 (by decide) ?_
  exact V.sub [1, 2, 0] rfl (kI (x22, h) (Option.some.inj H).symm)
def bX11_proves_46 (u0 : Nat) (u3 : Int32) (s46 : Int32 × Hp) : Option ((Int32 × Hp) ⊕ ((Hp) ⊕ (Hp))) :=
(gR s46.2 11 u0 3).bind fun x14 =>
(gO s46.2 5 x14).bind fun _ =>
(fX5_everyone s46.2 x14).bind fun x16 =>
if x16 < s46.1 then (
some (.inr (.inl s46.2))) else (
(gR s46.2 11 u0 3).bind fun x18 =>
(gO s46.2 5 x18).bind fun _ =>
(fX5_isSet s46.2 x18 s46.1).bind fun x20 =>
if x20 = 0 then (
jX11_proves_120 u0 u3 s46.1 s46.2) else (
(gR s46.2 11 u0 13).bind fun x23 =>
(gR s46.2 11 u0 3).bind fun x24 =>
(gR s46.2 11 u0 5).bind fun x25 =>
(gO s46.2 2 x25).bind fun _ =>
(fX2_present s46.2 x25).bind fun x27 =>
(gR s46.2 3 x27 0).bind fun x28 =>
(gO s46.2 0 x23).bind fun _ =>
(fX0_outcomeOf s46.2 x23 x24 x28 s46.1).bind fun x30 =>
if x30.1 = (1 : Int32) then (
(gR x30.2 11 u0 3).bind fun x32 =>
(gR x30.2 11 u0 13).bind fun x33 =>
(gR x30.2 0 x33 3).bind fun x34 =>
(lI x30.2 .int x34 s46.1).bind fun x35 =>
(gO x30.2 5 x32).bind fun _ =>
(fX5_locksOfKinds x30.2 x32 x35 u3).bind fun x37 =>
if x37 = 0 then (
some (.inr (.inr x30.2))) else (
jX11_proves_120 u0 u3 s46.1 x30.2)) else (
jX11_proves_120 u0 u3 s46.1 x30.2)))
set_option maxRecDepth 20000 in
set_option maxHeartbeats 4000000 in
theorem sbX11_proves_46 {Γ : Gm} {d : Nat} (hd : 8 ≤ d) {u0 : Nat} {u3 : Int32} {s46 : Int32 × Hp} {r : (Int32 × Hp) ⊕ ((Hp) ⊕ (Hp))} {t : Option Value × Hp} (H : bX11_proves_46 u0 u3 s46 = some r) (kI : ∀ s, r = .inl s → (fun s46 => V Γ d mX11_proves 46 [(0, .ref u0), (3, .int u3), (4, .int s46.1)] [] s46.2 t) s) (kE : ∀ e, r = .inr e → (fun e => (match e with | .inl a0 => V Γ d mX11_proves 126 [] [] a0 t | .inr b0 => V Γ d mX11_proves 118 [] [] b0 t)) e) : V Γ d mX11_proves 46 [(0, .ref u0), (3, .int u3), (4, .int s46.1)] [] s46.2 t := by
  unfold bX11_proves_46 at H
  refine v_iload (q := 48) 2 dX11_proves_46 rfl rfl ?_
  refine v_aload_n (q := 49) 0 dX11_proves_48 rfl rfl rfl ?_
  replace H := bs H; obtain ⟨x14, x14e, H⟩ := H
  refine u_gR (q := 52) (r := (RX11, TX11, 14)) x14e dX11_proves_49 w0524 rfl (by decide) rfl rfl ?_
  replace H := bs H; obtain ⟨_, o15, H⟩ := H
  replace H := bs H; obtain ⟨x16, x16e, H⟩ := H
  refine u_callV1 (M' := mX5_everyone) (d' := 1) (rc := (RX5, TX5, 7)) (As := []) (st := [.int s46.1]) (q := 55) oX5_everyone dX11_proves_52 w1254 w1064 w1065 rfl rfl (gO_sp o15).1 (gO_sp o15).2 rfl (Nat.le_of_ble_eq_true rfl) (Nat.le_of_ble_eq_true rfl) (Nat.lt_of_lt_of_le (by decide) hd) rfl (sX5_everyone (Nat.le_refl _) x16e) rfl ?_
  refine v_icmp_gt (q1 := 126) (q2 := 58) dX11_proves_55 (by decide) rfl (fun c17 => ?_) (fun c17 => ?_)
  · replace H := ip c17 H
    exact V.sub [] rfl (kE (.inl s46.2) (Option.some.inj H).symm)
  · replace H := ine c17 H
    refine v_aload_n (q := 59) 0 dX11_proves_58 rfl rfl rfl ?_
    replace H := bs H; obtain ⟨x18, x18e, H⟩ := H
    refine u_gR (q := 62) (r := (RX11, TX11, 14)) x18e dX11_proves_59 w0524 rfl (by decide) rfl rfl ?_
    refine v_iload (q := 64) 2 dX11_proves_62 rfl rfl ?_
    replace H := bs H; obtain ⟨_, o19, H⟩ := H
    replace H := bs H; obtain ⟨x20, x20e, H⟩ := H
    refine u_callV1 (M' := mX5_isSet) (d' := 2) (rc := (RX5, TX5, 7)) (As := [.int s46.1]) (st := []) (q := 67) oX5_isSet dX11_proves_64 w1059 w1060 w1061 rfl rfl (gO_sp o19).1 (gO_sp o19).2 rfl (Nat.le_of_ble_eq_true rfl) (Nat.le_of_ble_eq_true rfl) (Nat.lt_of_lt_of_le (by decide) hd) rfl (sX5_isSet (Nat.le_refl _) x20e) rfl ?_
    refine v_if_eq (q1 := 120) (q2 := 70) dX11_proves_67 (by decide) rfl (fun c21 => ?_) (fun c21 => ?_)
    · replace H := ip c21 H
      exact V.sub [0, 1, 2] rfl (sjX11_proves_120 hd H kI kE)
    · replace H := ine c21 H
      refine v_aload_n (q := 71) 0 dX11_proves_70 rfl rfl rfl ?_
      replace H := bs H; obtain ⟨x23, x23e, H⟩ := H
      refine u_gR (q := 74) (r := (RX11, TX11, 14)) x23e dX11_proves_71 w0534 rfl (by decide) rfl rfl ?_
      refine v_aload_n (q := 75) 0 dX11_proves_74 rfl rfl rfl ?_
      replace H := bs H; obtain ⟨x24, x24e, H⟩ := H
      refine u_gR (q := 78) (r := (RX11, TX11, 14)) x24e dX11_proves_75 w0524 rfl (by decide) rfl rfl ?_
      refine v_aload_n (q := 79) 0 dX11_proves_78 rfl rfl rfl ?_
      replace H := bs H; obtain ⟨x25, x25e, H⟩ := H
      refine u_gR (q := 82) (r := (RX11, TX11, 14)) x25e dX11_proves_79 w0526 rfl (by decide) rfl rfl ?_
      replace H := bs H; obtain ⟨_, o26, H⟩ := H
      replace H := bs H; obtain ⟨x27, x27e, H⟩ := H
      refine u_callV1 (M' := mX2_present) (d' := 1) (rc := (RX2, TX2, 3)) (As := []) (st := [.ref x24, .ref x23]) (q := 85) oX2_present dX11_proves_82 w0701 w0702 w0703 rfl rfl (gO_sp o26).1 (gO_sp o26).2 rfl (Nat.le_of_ble_eq_true rfl) (Nat.le_of_ble_eq_true rfl) (Nat.lt_of_lt_of_le (by decide) hd) rfl (sX2_present (Nat.le_refl _) x27e) rfl ?_
      replace H := bs H; obtain ⟨x28, x28e, H⟩ := H
      refine u_gR (q := 88) (r := (RX3, TX3, 8)) x28e dX11_proves_85 w0341 rfl (by decide) rfl rfl ?_
      refine v_iload (q := 90) 2 dX11_proves_88 rfl rfl ?_
      replace H := bs H; obtain ⟨_, o29, H⟩ := H
      replace H := bs H; obtain ⟨x30, x30e, H⟩ := H
      refine u_callV1 (M' := mX0_outcomeOf) (d' := 7) (rc := (RX0, TX0, 9)) (As := [.ref x24, .ref x28, .int s46.1]) (st := []) (q := 93) oX0_outcomeOf dX11_proves_90 w1071 w1072 w1073 rfl rfl (gO_sp o29).1 (gO_sp o29).2 rfl (Nat.le_of_ble_eq_true rfl) (Nat.le_of_ble_eq_true rfl) (Nat.lt_of_lt_of_le (by decide) hd) rfl (sX0_outcomeOf (Nat.le_refl _) x30e) rfl ?_
      refine v_iconst (v := 1) (q := 94) dX11_proves_93 (by decide) rfl ?_
      refine v_icmp_ne (q1 := 120) (q2 := 97) dX11_proves_94 (by decide) rfl (fun c31 => ?_) (fun c31 => ?_)
      · replace H := ine c31 H
        exact V.sub [0, 1, 2] rfl (sjX11_proves_120 hd H kI kE)
      · replace H := ip c31 H
        refine v_aload_n (q := 98) 0 dX11_proves_97 rfl rfl rfl ?_
        replace H := bs H; obtain ⟨x32, x32e, H⟩ := H
        refine u_gR (q := 101) (r := (RX11, TX11, 14)) x32e dX11_proves_98 w0524 rfl (by decide) rfl rfl ?_
        refine v_aload_n (q := 102) 0 dX11_proves_101 rfl rfl rfl ?_
        replace H := bs H; obtain ⟨x33, x33e, H⟩ := H
        refine u_gR (q := 105) (r := (RX11, TX11, 14)) x33e dX11_proves_102 w0534 rfl (by decide) rfl rfl ?_
        replace H := bs H; obtain ⟨x34, x34e, H⟩ := H
        refine u_gR (q := 108) (r := (RX0, TX0, 9)) x34e dX11_proves_105 w0496 rfl (by decide) rfl rfl ?_
        refine v_iload (q := 110) 2 dX11_proves_108 rfl rfl ?_
        replace H := bs H; obtain ⟨x35, x35e, H⟩ := H
        refine u_lI (q := 111) x35e dX11_proves_110 rfl ?_
        refine v_iload_n (q := 112) 1 dX11_proves_111 rfl rfl rfl ?_
        replace H := bs H; obtain ⟨_, o36, H⟩ := H
        replace H := bs H; obtain ⟨x37, x37e, H⟩ := H
        refine u_callV1 (M' := mX5_locksOfKinds) (d' := 2) (rc := (RX5, TX5, 7)) (As := [.int x35, .int u3]) (st := []) (q := 115) oX5_locksOfKinds dX11_proves_112 w1279 w1280 w1281 rfl rfl (gO_sp o36).1 (gO_sp o36).2 rfl (Nat.le_of_ble_eq_true rfl) (Nat.le_of_ble_eq_true rfl) (Nat.lt_of_lt_of_le (by decide) hd) rfl (sX5_locksOfKinds (Nat.le_refl _) x37e) rfl ?_
        refine v_if_ne (q1 := 120) (q2 := 118) dX11_proves_115 (by decide) rfl (fun c38 => ?_) (fun c38 => ?_)
        · replace H := ine c38 H
          exact V.sub [0, 1, 2] rfl (sjX11_proves_120 hd H kI kE)
        · replace H := ip c38 H
          exact V.sub [] rfl (kE (.inr x30.2) (Option.some.inj H).symm)
def fX11_proves (h : Hp) (v0 : Nat) (v1 : Int32) : Option (Int32 × Hp) :=
(gR h 11 v0 5).bind fun x1 =>
(gO h 2 x1).bind fun _ =>
(fX2_present h x1).bind fun x3 =>
(gR h 3 x3 4).bind fun x4 =>
if v1 < 0 then (
jX11_proves_33 h) else (
(gI h 7 x4 0).bind fun x6 =>
if x6 ≤ v1 then (
jX11_proves_33 h) else (
(gR h 7 x4 1).bind fun x8 =>
(lI h .int x8 v1).bind fun x9 =>
if x9 = (3 : Int32) then (
(gO h 7 x4).bind fun _ =>
(fX7_kindsOf h x4 v1).bind fun x12 =>
(some (x12 ^^^ (-1 : Int32))).bind fun x13 =>
(lp (bX11_proves_46 v0 x13) FU ((1 : Int32), h)).bind fun e39 =>
(match e39 with
| .inl e40 => (
some (((0 : Int32), e40)))
| .inr e41 => (
some (((1 : Int32), e41))))) else (
jX11_proves_33 h)))
set_option maxRecDepth 20000 in
set_option maxHeartbeats 4000000 in
theorem sX11_proves {Γ : Gm} {d : Nat} (hd : 8 ≤ d) {h : Hp} {v0 : Nat} {v1 : Int32} {r : Int32 × Hp} (H : fX11_proves h v0 v1 = some r) : V Γ d mX11_proves 0 [(0, .ref v0), (1, .int v1)] [] h (some (.int r.1), r.2) := by
  unfold fX11_proves at H
  refine v_aload_n (q := 1) 0 dX11_proves_0 rfl rfl rfl ?_
  replace H := bs H; obtain ⟨x1, x1e, H⟩ := H
  refine u_gR (q := 4) (r := (RX11, TX11, 14)) x1e dX11_proves_1 w0526 rfl (by decide) rfl rfl ?_
  replace H := bs H; obtain ⟨_, o2, H⟩ := H
  replace H := bs H; obtain ⟨x3, x3e, H⟩ := H
  refine u_callV1 (M' := mX2_present) (d' := 1) (rc := (RX2, TX2, 3)) (As := []) (st := []) (q := 7) oX2_present dX11_proves_4 w0701 w0702 w0703 rfl rfl (gO_sp o2).1 (gO_sp o2).2 rfl (Nat.le_of_ble_eq_true rfl) (Nat.le_of_ble_eq_true rfl) (Nat.lt_of_lt_of_le (by decide) hd) rfl (sX2_present (Nat.le_refl _) x3e) rfl ?_
  replace H := bs H; obtain ⟨x4, x4e, H⟩ := H
  refine u_gR (q := 10) (r := (RX3, TX3, 8)) x4e dX11_proves_7 w0353 rfl (by decide) rfl rfl ?_
  refine v_astore_n (L' := [(2, .ref x4), (0, .ref v0), (1, .int v1)]) (q := 11) dX11_proves_10 rfl (by decide) rfl rfl ?_
  refine v_iload_n (q := 12) 2 dX11_proves_11 rfl rfl rfl ?_
  refine v_if_lt (q1 := 33) (q2 := 15) dX11_proves_12 (by decide) rfl (fun c5 => ?_) (fun c5 => ?_)
  · replace H := ip c5 H
    exact V.sub [] rfl (sjX11_proves_33 hd H)
  · replace H := ine c5 H
    refine v_iload_n (q := 16) 2 dX11_proves_15 rfl rfl rfl ?_
    refine v_aload_n (q := 17) 0 dX11_proves_16 rfl rfl rfl ?_
    replace H := bs H; obtain ⟨x6, x6e, H⟩ := H
    refine u_gI (q := 20) (r := (RX7, TX7, 7)) x6e dX11_proves_17 w0313 rfl (by decide) rfl rfl ?_
    refine v_icmp_ge (q1 := 33) (q2 := 23) dX11_proves_20 (by decide) rfl (fun c7 => ?_) (fun c7 => ?_)
    · replace H := ip c7 H
      exact V.sub [] rfl (sjX11_proves_33 hd H)
    · replace H := ine c7 H
      refine v_aload_n (q := 24) 0 dX11_proves_23 rfl rfl rfl ?_
      replace H := bs H; obtain ⟨x8, x8e, H⟩ := H
      refine u_gR (q := 27) (r := (RX7, TX7, 7)) x8e dX11_proves_24 w0315 rfl (by decide) rfl rfl ?_
      refine v_iload_n (q := 28) 2 dX11_proves_27 rfl rfl rfl ?_
      replace H := bs H; obtain ⟨x9, x9e, H⟩ := H
      refine u_lI (q := 29) x9e dX11_proves_28 rfl ?_
      refine v_iconst (v := 3) (q := 30) dX11_proves_29 (by decide) rfl ?_
      refine v_icmp_eq (q1 := 35) (q2 := 33) dX11_proves_30 (by decide) rfl (fun c10 => ?_) (fun c10 => ?_)
      · replace H := ip c10 H
        refine v_aload_n (q := 36) 0 dX11_proves_35 rfl rfl rfl ?_
        refine v_iload_n (q := 37) 2 dX11_proves_36 rfl rfl rfl ?_
        replace H := bs H; obtain ⟨_, o11, H⟩ := H
        replace H := bs H; obtain ⟨x12, x12e, H⟩ := H
        refine u_callV1 (M' := mX7_kindsOf) (d' := 1) (rc := (RX7, TX7, 7)) (As := [.int v1]) (st := []) (q := 40) oX7_kindsOf dX11_proves_37 w1288 w1276 w1277 rfl rfl (gO_sp o11).1 (gO_sp o11).2 rfl (Nat.le_of_ble_eq_true rfl) (Nat.le_of_ble_eq_true rfl) (Nat.lt_of_lt_of_le (by decide) hd) rfl (sX7_kindsOf (Nat.le_refl _) x12e) rfl ?_
        refine v_iconst (v := -1) (q := 41) dX11_proves_40 (by decide) rfl ?_
        refine v_ixor (q := 42) dX11_proves_41 rfl ?_
        replace H := bs H; obtain ⟨x13, x13e, H⟩ := H
        refine v_topi (Option.some.inj x13e) ?_
        refine v_istore_n (L' := [(3, .int x13), (2, .ref x4), (0, .ref v0), (1, .int v1)]) (q := 43) dX11_proves_42 rfl (by decide) rfl rfl ?_
        refine v_iconst (v := 1) (q := 44) dX11_proves_43 (by decide) rfl ?_
        refine v_istore (L' := [(4, .int (1 : Int32)), (3, .int x13), (2, .ref x4), (0, .ref v0), (1, .int v1)]) (q := 46) dX11_proves_44 (by decide) rfl rfl ?_
        replace H := bs H; obtain ⟨e39, e39L, H⟩ := H
        refine V.sub [3, 1, 0] rfl ?_
        refine lp_V (P := (fun s46 => V Γ d mX11_proves 46 [(0, .ref v0), (3, .int x13), (4, .int s46.1)] [] s46.2 (some (.int r.1), r.2))) (E := (fun e => (match e with | .inl a0 => V Γ d mX11_proves 126 [] [] a0 (some (.int r.1), r.2) | .inr b0 => V Γ d mX11_proves 118 [] [] b0 (some (.int r.1), r.2)))) (fun s r hb kI kE => sbX11_proves_46 hd (s46 := s) (r := r) hb kI kE) FU ((1 : Int32), h) e39 e39L ?_
        rcases e39 with e40 | e41
        · skip
          refine v_iconst (v := 0) (q := 127) dX11_proves_126 (by decide) rfl ?_
          cases H
          exact v_ireturn rfl dX11_proves_127
        · skip
          refine v_iconst (v := 1) (q := 119) dX11_proves_118 (by decide) rfl ?_
          cases H
          exact v_ireturn rfl dX11_proves_119
      · replace H := ine c10 H
        exact V.sub [] rfl (sjX11_proves_33 hd H)
def mX11_reaches : MI := (yX11_reaches, cX11_reaches, 2, some .int)
theorem oX11_reaches : mOK mX11_reaches 1 := ⟨by decide +kernel, by decide +kernel, by decide +kernel, by decide, w0981, w0139⟩
def jX11_reaches_26 (y0 : Int32) (h : Hp) : Option (Int32) :=
some y0
set_option maxRecDepth 20000 in
set_option maxHeartbeats 4000000 in
theorem sjX11_reaches_26 {Γ : Gm} {d : Nat} (hd : 2 ≤ d) {y0 : Int32} {h : Hp} {r : Int32} (H : jX11_reaches_26 y0 h = some r) : V Γ d mX11_reaches 26 [] [.int y0] h (some (.int r), h) := by
  unfold jX11_reaches_26 at H
  cases H
  exact v_ireturn rfl dX11_reaches_26
def fX11_reaches (h : Hp) (v0 : Nat) (v1 : Int32) : Option (Int32) :=
(fX11_isNode h v1).bind fun x1 =>
if x1 = 0 then (
jX11_reaches_26 (0 : Int32) h) else (
(gR h 11 v0 5).bind fun x3 =>
(gO h 2 x3).bind fun _ =>
(fX2_present h x3).bind fun x5 =>
(gR h 3 x5 3).bind fun x6 =>
(gR h 1 x6 2).bind fun x7 =>
(lI h .int x7 v1).bind fun x8 =>
jX11_reaches_26 x8 h)
set_option maxRecDepth 20000 in
set_option maxHeartbeats 4000000 in
theorem sX11_reaches {Γ : Gm} {d : Nat} (hd : 2 ≤ d) {h : Hp} {v0 : Nat} {v1 : Int32} {r : Int32} (H : fX11_reaches h v0 v1 = some r) : V Γ d mX11_reaches 0 [(0, .ref v0), (1, .int v1)] [] h (some (.int r), h) := by
  unfold fX11_reaches at H
  refine v_iload_n (q := 1) 1 dX11_reaches_0 rfl rfl rfl ?_
  replace H := bs H; obtain ⟨x1, x1e, H⟩ := H
  refine u_callS1 (M' := mX11_isNode) (d' := 1) (As := [.int v1]) (st := []) (q := 4) oX11_isNode dX11_reaches_1 w0965 w0966 rfl (Nat.le_of_ble_eq_true rfl) (Nat.le_of_ble_eq_true rfl) (Nat.lt_of_lt_of_le (by decide) hd) rfl (sX11_isNode (Nat.le_refl _) x1e) rfl ?_
  refine v_if_eq (q1 := 25) (q2 := 7) dX11_reaches_4 (by decide) rfl (fun c2 => ?_) (fun c2 => ?_)
  · replace H := ip c2 H
    refine v_iconst (v := 0) (q := 26) dX11_reaches_25 (by decide) rfl ?_
    exact V.sub [] rfl (sjX11_reaches_26 hd H)
  · replace H := ine c2 H
    refine v_aload_n (q := 8) 0 dX11_reaches_7 rfl rfl rfl ?_
    replace H := bs H; obtain ⟨x3, x3e, H⟩ := H
    refine u_gR (q := 11) (r := (RX11, TX11, 14)) x3e dX11_reaches_8 w0526 rfl (by decide) rfl rfl ?_
    replace H := bs H; obtain ⟨_, o4, H⟩ := H
    replace H := bs H; obtain ⟨x5, x5e, H⟩ := H
    refine u_callV1 (M' := mX2_present) (d' := 1) (rc := (RX2, TX2, 3)) (As := []) (st := []) (q := 14) oX2_present dX11_reaches_11 w0701 w0702 w0703 rfl rfl (gO_sp o4).1 (gO_sp o4).2 rfl (Nat.le_of_ble_eq_true rfl) (Nat.le_of_ble_eq_true rfl) (Nat.lt_of_lt_of_le (by decide) hd) rfl (sX2_present (Nat.le_refl _) x5e) rfl ?_
    replace H := bs H; obtain ⟨x6, x6e, H⟩ := H
    refine u_gR (q := 17) (r := (RX3, TX3, 8)) x6e dX11_reaches_14 w0350 rfl (by decide) rfl rfl ?_
    replace H := bs H; obtain ⟨x7, x7e, H⟩ := H
    refine u_gR (q := 20) (r := (RX1, TX1, 4)) x7e dX11_reaches_17 w0293 rfl (by decide) rfl rfl ?_
    refine v_iload_n (q := 21) 1 dX11_reaches_20 rfl rfl rfl ?_
    replace H := bs H; obtain ⟨x8, x8e, H⟩ := H
    refine u_lI (q := 22) x8e dX11_reaches_21 rfl ?_
    refine v_goto (q := 26) dX11_reaches_22 (by decide) ?_
    exact V.sub [] rfl (sjX11_reaches_26 hd H)
def mX2_goOn : MI := (yX2_goOn, cX2_goOn, 1, some .boolean)
theorem oX2_goOn : mOK mX2_goOn 0 := ⟨by decide +kernel, by decide +kernel, by decide +kernel, by decide, w0938, w0142⟩
def fX2_goOn (h : Hp) (v0 : Nat) : Option (Int32 × Hp) :=
(gI h 2 v0 0).bind fun x1 =>
(gI h 2 v0 1).bind fun x2 =>
if x1 = x2 then (
some (((0 : Int32), h))) else (
(gI h 2 v0 0).bind fun x4 =>
(pI h 2 v0 0 (x4 + (1 : Int32))).bind fun h5 =>
some (((1 : Int32), h5)))
set_option maxRecDepth 20000 in
set_option maxHeartbeats 4000000 in
theorem sX2_goOn {Γ : Gm} {d : Nat} (hd : 1 ≤ d) {h : Hp} {v0 : Nat} {r : Int32 × Hp} (H : fX2_goOn h v0 = some r) : V Γ d mX2_goOn 0 [(0, .ref v0)] [] h (some (.int r.1), r.2) := by
  unfold fX2_goOn at H
  refine v_aload_n (q := 1) 0 dX2_goOn_0 rfl rfl rfl ?_
  replace H := bs H; obtain ⟨x1, x1e, H⟩ := H
  refine u_gI (q := 4) (r := (RX2, TX2, 3)) x1e dX2_goOn_1 w0377 rfl (by decide) rfl rfl ?_
  refine v_aload_n (q := 5) 0 dX2_goOn_4 rfl rfl rfl ?_
  replace H := bs H; obtain ⟨x2, x2e, H⟩ := H
  refine u_gI (q := 8) (r := (RX2, TX2, 3)) x2e dX2_goOn_5 w0379 rfl (by decide) rfl rfl ?_
  refine v_icmp_ne (q1 := 13) (q2 := 11) dX2_goOn_8 (by decide) rfl (fun c3 => ?_) (fun c3 => ?_)
  · replace H := ine c3 H
    refine v_aload_n (q := 14) 0 dX2_goOn_13 rfl rfl rfl ?_
    refine v_dup (q := 15) dX2_goOn_14 rfl rfl ?_
    replace H := bs H; obtain ⟨x4, x4e, H⟩ := H
    refine u_gI (q := 18) (r := (RX2, TX2, 3)) x4e dX2_goOn_15 w0377 rfl (by decide) rfl rfl ?_
    refine v_iconst (v := 1) (q := 19) dX2_goOn_18 (by decide) rfl ?_
    refine v_iadd (q := 20) dX2_goOn_19 rfl ?_
    replace H := bs H; obtain ⟨h5, h5e, H⟩ := H
    refine u_pI (q := 23) (r := (RX2, TX2, 3)) h5e dX2_goOn_20 w0377 rfl (by decide) (Or.inl rfl) rfl rfl ?_
    refine v_iconst (v := 1) (q := 24) dX2_goOn_23 (by decide) rfl ?_
    cases H
    exact v_zreturn rfl (by decide) dX2_goOn_24
  · replace H := ip c3 H
    refine v_iconst (v := 0) (q := 12) dX2_goOn_11 (by decide) rfl ?_
    cases H
    exact v_zreturn rfl (by decide) dX2_goOn_12
def mX11_redo : MI := (yX11_redo, cX11_redo, 1, some .boolean)
theorem oX11_redo : mOK mX11_redo 0 := ⟨by decide +kernel, by decide +kernel, by decide +kernel, by decide, w0934, w0139⟩
def fX11_redo (h : Hp) (v0 : Nat) : Option (Int32 × Hp) :=
(gR h 11 v0 5).bind fun x1 =>
(gO h 2 x1).bind fun _ =>
(fX2_goOn h x1).bind fun x3 =>
(bz x3.1).bind fun x4 =>
some (x4, x3.2)
set_option maxRecDepth 20000 in
set_option maxHeartbeats 4000000 in
theorem sX11_redo {Γ : Gm} {d : Nat} (hd : 2 ≤ d) {h : Hp} {v0 : Nat} {r : Int32 × Hp} (H : fX11_redo h v0 = some r) : V Γ d mX11_redo 0 [(0, .ref v0)] [] h (some (.int r.1), r.2) := by
  unfold fX11_redo at H
  refine v_aload_n (q := 1) 0 dX11_redo_0 rfl rfl rfl ?_
  replace H := bs H; obtain ⟨x1, x1e, H⟩ := H
  refine u_gR (q := 4) (r := (RX11, TX11, 14)) x1e dX11_redo_1 w0526 rfl (by decide) rfl rfl ?_
  replace H := bs H; obtain ⟨_, o2, H⟩ := H
  replace H := bs H; obtain ⟨x3, x3e, H⟩ := H
  refine u_callV1 (M' := mX2_goOn) (d' := 1) (rc := (RX2, TX2, 3)) (As := []) (st := []) (q := 7) oX2_goOn dX11_redo_4 w0935 w0936 w0937 rfl rfl (gO_sp o2).1 (gO_sp o2).2 rfl (Nat.le_of_ble_eq_true rfl) (Nat.le_of_ble_eq_true rfl) (Nat.lt_of_lt_of_le (by decide) hd) rfl (sX2_goOn (Nat.le_refl _) x3e) rfl ?_
  replace H := bs H; obtain ⟨x4, x4e, H⟩ := H
  obtain ⟨x4q, x4z⟩ := bz_sp x4e
  refine v_topi x4q.symm ?_
  cases H
  exact v_zreturn rfl (by rw [x4q]; exact x4z) dX11_redo_7
def mX11_report : MI := (yX11_report, cX11_report, 4, some .int)
theorem oX11_report : mOK mX11_report 2 := ⟨by decide +kernel, by decide +kernel, by decide +kernel, by decide, w0985, w0139⟩
def jX11_report_23 (h : Hp) : Option (Int32) :=
some (-1 : Int32)
set_option maxRecDepth 20000 in
set_option maxHeartbeats 4000000 in
theorem sjX11_report_23 {Γ : Gm} {d : Nat} (hd : 2 ≤ d) {h : Hp} {r : Int32} (H : jX11_report_23 h = some r) : V Γ d mX11_report 23 [] [] h (some (.int r), h) := by
  unfold jX11_report_23 at H
  refine v_iconst (v := -1) (q := 24) dX11_report_23 (by decide) rfl ?_
  cases H
  exact v_ireturn rfl dX11_report_24
def fX11_report (h : Hp) (v0 : Nat) (v1 : Int32) (v2 : Int32) : Option (Int32) :=
(gR h 11 v0 5).bind fun x1 =>
(gO h 2 x1).bind fun _ =>
(fX2_present h x1).bind fun x3 =>
(gR h 3 x3 4).bind fun x4 =>
if v1 < 0 then (
jX11_report_23 h) else (
(gI h 7 x4 0).bind fun x6 =>
if v1 < x6 then (
if v2 = (0 : Int32) then (
(gR h 7 x4 1).bind fun x9 =>
(lI h .int x9 v1).bind fun x10 =>
some x10) else (
if v2 = (1 : Int32) then (
(gR h 7 x4 2).bind fun x12 =>
(lI h .int x12 v1).bind fun x13 =>
some x13) else (
if v2 = (2 : Int32) then (
(gR h 7 x4 3).bind fun x15 =>
(lI h .int x15 v1).bind fun x16 =>
some x16) else (
if v2 = (3 : Int32) then (
(gR h 7 x4 4).bind fun x18 =>
(lI h .int x18 v1).bind fun x19 =>
some x19) else (
if v2 = (4 : Int32) then (
(gO h 7 x4).bind fun _ =>
(fX7_nodeAt h x4 v1 (0 : Int32)).bind fun x22 =>
some x22) else (
if v2 = (5 : Int32) then (
(gR h 7 x4 4).bind fun x24 =>
(lI h .int x24 v1).bind fun x25 =>
(gO h 7 x4).bind fun _ =>
(fX7_nodeAt h x4 v1 (x25 - (1 : Int32))).bind fun x27 =>
some x27) else (
some (-1 : Int32)))))))) else (
jX11_report_23 h))
set_option maxRecDepth 20000 in
set_option maxHeartbeats 4000000 in
theorem sX11_report {Γ : Gm} {d : Nat} (hd : 2 ≤ d) {h : Hp} {v0 : Nat} {v1 : Int32} {v2 : Int32} {r : Int32} (H : fX11_report h v0 v1 v2 = some r) : V Γ d mX11_report 0 [(0, .ref v0), (1, .int v1), (2, .int v2)] [] h (some (.int r), h) := by
  unfold fX11_report at H
  refine v_aload_n (q := 1) 0 dX11_report_0 rfl rfl rfl ?_
  replace H := bs H; obtain ⟨x1, x1e, H⟩ := H
  refine u_gR (q := 4) (r := (RX11, TX11, 14)) x1e dX11_report_1 w0526 rfl (by decide) rfl rfl ?_
  replace H := bs H; obtain ⟨_, o2, H⟩ := H
  replace H := bs H; obtain ⟨x3, x3e, H⟩ := H
  refine u_callV1 (M' := mX2_present) (d' := 1) (rc := (RX2, TX2, 3)) (As := []) (st := []) (q := 7) oX2_present dX11_report_4 w0701 w0702 w0703 rfl rfl (gO_sp o2).1 (gO_sp o2).2 rfl (Nat.le_of_ble_eq_true rfl) (Nat.le_of_ble_eq_true rfl) (Nat.lt_of_lt_of_le (by decide) hd) rfl (sX2_present (Nat.le_refl _) x3e) rfl ?_
  replace H := bs H; obtain ⟨x4, x4e, H⟩ := H
  refine u_gR (q := 10) (r := (RX3, TX3, 8)) x4e dX11_report_7 w0353 rfl (by decide) rfl rfl ?_
  refine v_astore_n (L' := [(3, .ref x4), (0, .ref v0), (1, .int v1), (2, .int v2)]) (q := 11) dX11_report_10 rfl (by decide) rfl rfl ?_
  refine v_iload_n (q := 12) 2 dX11_report_11 rfl rfl rfl ?_
  refine v_if_lt (q1 := 23) (q2 := 15) dX11_report_12 (by decide) rfl (fun c5 => ?_) (fun c5 => ?_)
  · replace H := ip c5 H
    exact V.sub [] rfl (sjX11_report_23 hd H)
  · replace H := ine c5 H
    refine v_iload_n (q := 16) 2 dX11_report_15 rfl rfl rfl ?_
    refine v_aload_n (q := 17) 0 dX11_report_16 rfl rfl rfl ?_
    replace H := bs H; obtain ⟨x6, x6e, H⟩ := H
    refine u_gI (q := 20) (r := (RX7, TX7, 7)) x6e dX11_report_17 w0313 rfl (by decide) rfl rfl ?_
    refine v_icmp_lt (q1 := 25) (q2 := 23) dX11_report_20 (by decide) rfl (fun c7 => ?_) (fun c7 => ?_)
    · replace H := ip c7 H
      refine v_iload_n (q := 26) 3 dX11_report_25 rfl rfl rfl ?_
      by_cases c8 : v2 = (0 : Int32)
      · replace H := ip c8 H
        rw [c8]
        refine v_tabIn (off := 38) (q := 64) dX11_report_26 (by decide) (by decide) (by decide) (by decide) ?_
        refine v_aload_n (q := 65) 0 dX11_report_64 rfl rfl rfl ?_
        replace H := bs H; obtain ⟨x9, x9e, H⟩ := H
        refine u_gR (q := 68) (r := (RX7, TX7, 7)) x9e dX11_report_65 w0315 rfl (by decide) rfl rfl ?_
        refine v_iload_n (q := 69) 2 dX11_report_68 rfl rfl rfl ?_
        replace H := bs H; obtain ⟨x10, x10e, H⟩ := H
        refine u_lI (q := 70) x10e dX11_report_69 rfl ?_
        cases H
        exact v_ireturn rfl dX11_report_70
      · replace H := ine c8 H
        by_cases c11 : v2 = (1 : Int32)
        · replace H := ip c11 H
          rw [c11]
          refine v_tabIn (off := 45) (q := 71) dX11_report_26 (by decide) (by decide) (by decide) (by decide) ?_
          refine v_aload_n (q := 72) 0 dX11_report_71 rfl rfl rfl ?_
          replace H := bs H; obtain ⟨x12, x12e, H⟩ := H
          refine u_gR (q := 75) (r := (RX7, TX7, 7)) x12e dX11_report_72 w0317 rfl (by decide) rfl rfl ?_
          refine v_iload_n (q := 76) 2 dX11_report_75 rfl rfl rfl ?_
          replace H := bs H; obtain ⟨x13, x13e, H⟩ := H
          refine u_lI (q := 77) x13e dX11_report_76 rfl ?_
          cases H
          exact v_ireturn rfl dX11_report_77
        · replace H := ine c11 H
          by_cases c14 : v2 = (2 : Int32)
          · replace H := ip c14 H
            rw [c14]
            refine v_tabIn (off := 52) (q := 78) dX11_report_26 (by decide) (by decide) (by decide) (by decide) ?_
            refine v_aload_n (q := 79) 0 dX11_report_78 rfl rfl rfl ?_
            replace H := bs H; obtain ⟨x15, x15e, H⟩ := H
            refine u_gR (q := 82) (r := (RX7, TX7, 7)) x15e dX11_report_79 w0319 rfl (by decide) rfl rfl ?_
            refine v_iload_n (q := 83) 2 dX11_report_82 rfl rfl rfl ?_
            replace H := bs H; obtain ⟨x16, x16e, H⟩ := H
            refine u_lI (q := 84) x16e dX11_report_83 rfl ?_
            cases H
            exact v_ireturn rfl dX11_report_84
          · replace H := ine c14 H
            by_cases c17 : v2 = (3 : Int32)
            · replace H := ip c17 H
              rw [c17]
              refine v_tabIn (off := 59) (q := 85) dX11_report_26 (by decide) (by decide) (by decide) (by decide) ?_
              refine v_aload_n (q := 86) 0 dX11_report_85 rfl rfl rfl ?_
              replace H := bs H; obtain ⟨x18, x18e, H⟩ := H
              refine u_gR (q := 89) (r := (RX7, TX7, 7)) x18e dX11_report_86 w0321 rfl (by decide) rfl rfl ?_
              refine v_iload_n (q := 90) 2 dX11_report_89 rfl rfl rfl ?_
              replace H := bs H; obtain ⟨x19, x19e, H⟩ := H
              refine u_lI (q := 91) x19e dX11_report_90 rfl ?_
              cases H
              exact v_ireturn rfl dX11_report_91
            · replace H := ine c17 H
              by_cases c20 : v2 = (4 : Int32)
              · replace H := ip c20 H
                rw [c20]
                refine v_tabIn (off := 66) (q := 92) dX11_report_26 (by decide) (by decide) (by decide) (by decide) ?_
                refine v_aload_n (q := 93) 0 dX11_report_92 rfl rfl rfl ?_
                refine v_iload_n (q := 94) 2 dX11_report_93 rfl rfl rfl ?_
                refine v_iconst (v := 0) (q := 95) dX11_report_94 (by decide) rfl ?_
                replace H := bs H; obtain ⟨_, o21, H⟩ := H
                replace H := bs H; obtain ⟨x22, x22e, H⟩ := H
                refine u_callV1 (M' := mX7_nodeAt) (d' := 1) (rc := (RX7, TX7, 7)) (As := [.int v1, .int (0 : Int32)]) (st := []) (q := 98) oX7_nodeAt dX11_report_95 w0986 w0987 w0988 rfl rfl (gO_sp o21).1 (gO_sp o21).2 rfl (Nat.le_of_ble_eq_true rfl) (Nat.le_of_ble_eq_true rfl) (Nat.lt_of_lt_of_le (by decide) hd) rfl (sX7_nodeAt (Nat.le_refl _) x22e) rfl ?_
                cases H
                exact v_ireturn rfl dX11_report_98
              · replace H := ine c20 H
                by_cases c23 : v2 = (5 : Int32)
                · replace H := ip c23 H
                  rw [c23]
                  refine v_tabIn (off := 73) (q := 99) dX11_report_26 (by decide) (by decide) (by decide) (by decide) ?_
                  refine v_aload_n (q := 100) 0 dX11_report_99 rfl rfl rfl ?_
                  refine v_iload_n (q := 101) 2 dX11_report_100 rfl rfl rfl ?_
                  refine v_aload_n (q := 102) 0 dX11_report_101 rfl rfl rfl ?_
                  replace H := bs H; obtain ⟨x24, x24e, H⟩ := H
                  refine u_gR (q := 105) (r := (RX7, TX7, 7)) x24e dX11_report_102 w0321 rfl (by decide) rfl rfl ?_
                  refine v_iload_n (q := 106) 2 dX11_report_105 rfl rfl rfl ?_
                  replace H := bs H; obtain ⟨x25, x25e, H⟩ := H
                  refine u_lI (q := 107) x25e dX11_report_106 rfl ?_
                  refine v_iconst (v := 1) (q := 108) dX11_report_107 (by decide) rfl ?_
                  refine v_isub (q := 109) dX11_report_108 rfl ?_
                  replace H := bs H; obtain ⟨_, o26, H⟩ := H
                  replace H := bs H; obtain ⟨x27, x27e, H⟩ := H
                  refine u_callV1 (M' := mX7_nodeAt) (d' := 1) (rc := (RX7, TX7, 7)) (As := [.int v1, .int (x25 - (1 : Int32))]) (st := []) (q := 112) oX7_nodeAt dX11_report_109 w0986 w0987 w0988 rfl rfl (gO_sp o26).1 (gO_sp o26).2 rfl (Nat.le_of_ble_eq_true rfl) (Nat.le_of_ble_eq_true rfl) (Nat.lt_of_lt_of_le (by decide) hd) rfl (sX7_nodeAt (Nat.le_refl _) x27e) rfl ?_
                  cases H
                  exact v_ireturn rfl dX11_report_112
                · replace H := ine c23 H
                  have c8t := lv_neT (a := 0) c8 (by decide)
                  have c11t := lv_neT (a := 1) c11 (by decide)
                  have c14t := lv_neT (a := 2) c14 (by decide)
                  have c17t := lv_neT (a := 3) c17 (by decide)
                  have c20t := lv_neT (a := 4) c20 (by decide)
                  have c23t := lv_neT (a := 5) c23 (by decide)
                  refine v_tabOut (q := 113) dX11_report_26 (by omega) (by decide) ?_
                  refine v_iconst (v := -1) (q := 114) dX11_report_113 (by decide) rfl ?_
                  cases H
                  exact v_ireturn rfl dX11_report_114
    · replace H := ine c7 H
      exact V.sub [] rfl (sjX11_report_23 hd H)
def mX11_runs : MI := (yX11_runs, cX11_runs, 2, some .int)
theorem oX11_runs : mOK mX11_runs 1 := ⟨by decide +kernel, by decide +kernel, by decide +kernel, by decide, w0738, w0139⟩
def fX11_runs (h : Hp) (v0 : Nat) (v1 : Int32) : Option (Int32 × Hp) :=
(gR h 11 v0 3).bind fun x1 =>
(gO h 5 x1).bind fun _ =>
(fX5_hasProgram h x1 v1).bind fun x3 =>
if x3 = 0 then (
some (((-1 : Int32), h))) else (
(gR h 11 v0 9).bind fun x5 =>
(gR h 11 v0 3).bind fun x6 =>
(gR h 11 v0 5).bind fun x7 =>
(gO h 2 x7).bind fun _ =>
(fX2_act h x7).bind fun x9 =>
(gO x9.2 9 x5).bind fun _ =>
(fX9_run x9.2 x5 x6 x9.1 v1).bind fun x11 =>
some (x11.1, x11.2))
set_option maxRecDepth 20000 in
set_option maxHeartbeats 4000000 in
theorem sX11_runs {Γ : Gm} {d : Nat} (hd : 7 ≤ d) {h : Hp} {v0 : Nat} {v1 : Int32} {r : Int32 × Hp} (H : fX11_runs h v0 v1 = some r) : V Γ d mX11_runs 0 [(0, .ref v0), (1, .int v1)] [] h (some (.int r.1), r.2) := by
  unfold fX11_runs at H
  refine v_aload_n (q := 1) 0 dX11_runs_0 rfl rfl rfl ?_
  replace H := bs H; obtain ⟨x1, x1e, H⟩ := H
  refine u_gR (q := 4) (r := (RX11, TX11, 14)) x1e dX11_runs_1 w0524 rfl (by decide) rfl rfl ?_
  refine v_iload_n (q := 5) 1 dX11_runs_4 rfl rfl rfl ?_
  replace H := bs H; obtain ⟨_, o2, H⟩ := H
  replace H := bs H; obtain ⟨x3, x3e, H⟩ := H
  refine u_callV1 (M' := mX5_hasProgram) (d' := 1) (rc := (RX5, TX5, 7)) (As := [.int v1]) (st := []) (q := 8) oX5_hasProgram dX11_runs_5 w0739 w0740 w0741 rfl rfl (gO_sp o2).1 (gO_sp o2).2 rfl (Nat.le_of_ble_eq_true rfl) (Nat.le_of_ble_eq_true rfl) (Nat.lt_of_lt_of_le (by decide) hd) rfl (sX5_hasProgram (Nat.le_refl _) x3e) rfl ?_
  refine v_if_ne (q1 := 13) (q2 := 11) dX11_runs_8 (by decide) rfl (fun c4 => ?_) (fun c4 => ?_)
  · replace H := ine c4 H
    refine v_aload_n (q := 14) 0 dX11_runs_13 rfl rfl rfl ?_
    replace H := bs H; obtain ⟨x5, x5e, H⟩ := H
    refine u_gR (q := 17) (r := (RX11, TX11, 14)) x5e dX11_runs_14 w0530 rfl (by decide) rfl rfl ?_
    refine v_aload_n (q := 18) 0 dX11_runs_17 rfl rfl rfl ?_
    replace H := bs H; obtain ⟨x6, x6e, H⟩ := H
    refine u_gR (q := 21) (r := (RX11, TX11, 14)) x6e dX11_runs_18 w0524 rfl (by decide) rfl rfl ?_
    refine v_aload_n (q := 22) 0 dX11_runs_21 rfl rfl rfl ?_
    replace H := bs H; obtain ⟨x7, x7e, H⟩ := H
    refine u_gR (q := 25) (r := (RX11, TX11, 14)) x7e dX11_runs_22 w0526 rfl (by decide) rfl rfl ?_
    replace H := bs H; obtain ⟨_, o8, H⟩ := H
    replace H := bs H; obtain ⟨x9, x9e, H⟩ := H
    refine u_callV1 (M' := mX2_act) (d' := 3) (rc := (RX2, TX2, 3)) (As := []) (st := [.ref x6, .ref x5]) (q := 28) oX2_act dX11_runs_25 w0743 w0744 w0745 rfl rfl (gO_sp o8).1 (gO_sp o8).2 rfl (Nat.le_of_ble_eq_true rfl) (Nat.le_of_ble_eq_true rfl) (Nat.lt_of_lt_of_le (by decide) hd) rfl (sX2_act (Nat.le_refl _) x9e) rfl ?_
    refine v_iload_n (q := 29) 1 dX11_runs_28 rfl rfl rfl ?_
    replace H := bs H; obtain ⟨_, o10, H⟩ := H
    replace H := bs H; obtain ⟨x11, x11e, H⟩ := H
    refine u_callV1 (M' := mX9_run) (d' := 6) (rc := (RX9, TX9, 10)) (As := [.ref x6, .ref x9.1, .int v1]) (st := []) (q := 32) oX9_run dX11_runs_29 w0765 w0766 w0767 rfl rfl (gO_sp o10).1 (gO_sp o10).2 rfl (Nat.le_of_ble_eq_true rfl) (Nat.le_of_ble_eq_true rfl) (Nat.lt_of_lt_of_le (by decide) hd) rfl (sX9_run (Nat.le_refl _) x11e) rfl ?_
    cases H
    exact v_ireturn rfl dX11_runs_32
  · replace H := ip c4 H
    refine v_iconst (v := -1) (q := 12) dX11_runs_11 (by decide) rfl ?_
    cases H
    exact v_ireturn rfl dX11_runs_12
def mX9_spellOf : MI := (yX9_spellOf, cX9_spellOf, 12, some .int)
theorem oX9_spellOf : mOK mX9_spellOf 5 := ⟨by decide +kernel, by decide +kernel, by decide +kernel, by decide, w1309, w0147⟩
def jX9_spellOf_132 (u0 : Nat) (u2 : Nat) (u4 : Int32) (u5 : Int32) (v6 : Int32) (v7 : Int32) (v8 : Int32) (v9 : Int32) (v10 : Int32) (h : Hp) : Option ((Int32 × Int32 × Int32 × Int32 × Int32 × Hp) ⊕ (Int32 × Int32 × Int32 × Hp)) :=
(some (v10 + (1 : Int32))).bind fun x18 =>
some (.inl (v6, v7, v8, v9, x18, h))
set_option maxRecDepth 20000 in
set_option maxHeartbeats 4000000 in
theorem sjX9_spellOf_132 {Γ : Gm} {d : Nat} (hd : 4 ≤ d) {u0 : Nat} {u2 : Nat} {u4 : Int32} {u5 : Int32} {v6 : Int32} {v7 : Int32} {v8 : Int32} {v9 : Int32} {v10 : Int32} {h : Hp} {r : (Int32 × Int32 × Int32 × Int32 × Int32 × Hp) ⊕ (Int32 × Int32 × Int32 × Hp)} {t : Option Value × Hp} (H : jX9_spellOf_132 u0 u2 u4 u5 v6 v7 v8 v9 v10 h = some r) (kI : ∀ s, r = .inl s → (fun s21 => V Γ d mX9_spellOf 21 [(0, .ref u0), (2, .ref u2), (4, .int u4), (5, .int u5), (6, .int s21.1), (7, .int s21.2.1), (8, .int s21.2.2.1), (9, .int s21.2.2.2.1), (10, .int s21.2.2.2.2.1)] [] s21.2.2.2.2.2 t) s) (kE : ∀ e, r = .inr e → (fun e => V Γ d mX9_spellOf 138 [(5, .int u5), (6, .int e.1), (8, .int e.2.1), (9, .int e.2.2.1)] [] e.2.2.2 t) e) : V Γ d mX9_spellOf 132 [(0, .ref u0), (2, .ref u2), (4, .int u4), (5, .int u5), (6, .int v6), (7, .int v7), (8, .int v8), (9, .int v9), (10, .int v10)] [] h t := by
  unfold jX9_spellOf_132 at H
  replace H := bs H; obtain ⟨x18, x18e, H⟩ := H
  refine v_iinc (v := x18) (L' := [(10, .int x18), (0, .ref u0), (2, .ref u2), (4, .int u4), (5, .int u5), (6, .int v6), (7, .int v7), (8, .int v8), (9, .int v9)]) (q := 135) 8 dX9_spellOf_132 rfl (Option.some.inj x18e) (by decide) rfl rfl ?_
  refine v_goto (q := 21) dX9_spellOf_135 (by decide) ?_
  exact V.sub [1, 2, 3, 4, 5, 6, 7, 8, 0] rfl (kI (v6, v7, v8, v9, x18, h) (Option.some.inj H).symm)
def jX9_spellOf_103 (u0 : Nat) (u2 : Nat) (u4 : Int32) (u5 : Int32) (v6 : Int32) (v7 : Int32) (v8 : Int32) (v9 : Int32) (v10 : Int32) (v11 : Int32) (h : Hp) : Option ((Int32 × Int32 × Int32 × Int32 × Int32 × Hp) ⊕ (Int32 × Int32 × Int32 × Hp)) :=
(gI h 9 u0 7).bind fun x15 =>
(fX11_has h (v11 ||| x15) u4).bind fun x16 =>
if x16 = 0 then (
jX9_spellOf_132 u0 u2 u4 u5 v6 v7 v8 v9 v10 h) else (
(some (if v8 < ((v10 - v7) + (1 : Int32)) then ((v10 - v7) + (1 : Int32)) else v8)).bind fun x19 =>
jX9_spellOf_132 u0 u2 u4 u5 v6 v7 x19 v9 v10 h)
set_option maxRecDepth 20000 in
set_option maxHeartbeats 4000000 in
theorem sjX9_spellOf_103 {Γ : Gm} {d : Nat} (hd : 4 ≤ d) {u0 : Nat} {u2 : Nat} {u4 : Int32} {u5 : Int32} {v6 : Int32} {v7 : Int32} {v8 : Int32} {v9 : Int32} {v10 : Int32} {v11 : Int32} {h : Hp} {r : (Int32 × Int32 × Int32 × Int32 × Int32 × Hp) ⊕ (Int32 × Int32 × Int32 × Hp)} {t : Option Value × Hp} (H : jX9_spellOf_103 u0 u2 u4 u5 v6 v7 v8 v9 v10 v11 h = some r) (kI : ∀ s, r = .inl s → (fun s21 => V Γ d mX9_spellOf 21 [(0, .ref u0), (2, .ref u2), (4, .int u4), (5, .int u5), (6, .int s21.1), (7, .int s21.2.1), (8, .int s21.2.2.1), (9, .int s21.2.2.2.1), (10, .int s21.2.2.2.2.1)] [] s21.2.2.2.2.2 t) s) (kE : ∀ e, r = .inr e → (fun e => V Γ d mX9_spellOf 138 [(5, .int u5), (6, .int e.1), (8, .int e.2.1), (9, .int e.2.2.1)] [] e.2.2.2 t) e) : V Γ d mX9_spellOf 103 [(0, .ref u0), (2, .ref u2), (4, .int u4), (5, .int u5), (6, .int v6), (7, .int v7), (8, .int v8), (9, .int v9), (10, .int v10), (11, .int v11)] [] h t := by
  unfold jX9_spellOf_103 at H
  refine v_iload (q := 105) 9 dX9_spellOf_103 rfl rfl ?_
  refine v_aload_n (q := 106) 0 dX9_spellOf_105 rfl rfl rfl ?_
  replace H := bs H; obtain ⟨x15, x15e, H⟩ := H
  refine u_gI (q := 109) (r := (RX9, TX9, 10)) x15e dX9_spellOf_106 w0430 rfl (by decide) rfl rfl ?_
  refine v_ior (q := 110) dX9_spellOf_109 rfl ?_
  refine v_iload (q := 112) 2 dX9_spellOf_110 rfl rfl ?_
  replace H := bs H; obtain ⟨x16, x16e, H⟩ := H
  refine u_callSN1 (M' := mX11_has) (d' := 1) (As := [.int (v11 ||| x15), .int u4]) (st := []) (q := 115) oX11_has dX9_spellOf_112 w0782 w0783 rfl (Nat.le_of_ble_eq_true rfl) (Nat.le_of_ble_eq_true rfl) (Nat.lt_of_lt_of_le (by decide) hd) rfl (sX11_has (Nat.le_refl _) x16e) rfl ?_
  refine v_if_eq (q1 := 132) (q2 := 118) dX9_spellOf_115 (by decide) rfl (fun c17 => ?_) (fun c17 => ?_)
  · replace H := ip c17 H
    exact V.sub [0, 1, 2, 3, 4, 5, 6, 7, 8] rfl (sjX9_spellOf_132 hd H kI kE)
  · replace H := ine c17 H
    refine v_iload (q := 120) 6 dX9_spellOf_118 rfl rfl ?_
    refine v_iload (q := 122) 8 dX9_spellOf_120 rfl rfl ?_
    refine v_iload (q := 124) 5 dX9_spellOf_122 rfl rfl ?_
    refine v_isub (q := 125) dX9_spellOf_124 rfl ?_
    refine v_iconst (v := 1) (q := 126) dX9_spellOf_125 (by decide) rfl ?_
    refine v_iadd (q := 127) dX9_spellOf_126 rfl ?_
    refine v_mmax (q := 130) dX9_spellOf_127 w1310 w1311 w0151 w1312 (Nat.le_of_ble_eq_true rfl) (Nat.lt_of_lt_of_le (by decide) hd) rfl ?_
    replace H := bs H; obtain ⟨x19, x19e, H⟩ := H
    refine v_topi (Option.some.inj x19e) ?_
    refine v_istore (L' := [(8, .int x19), (0, .ref u0), (2, .ref u2), (4, .int u4), (5, .int u5), (6, .int v6), (7, .int v7), (9, .int v9), (10, .int v10), (11, .int v11)]) (q := 132) dX9_spellOf_130 (by decide) rfl rfl ?_
    exact V.sub [1, 2, 3, 4, 5, 6, 0, 7, 8] rfl (sjX9_spellOf_132 hd H kI kE)
def jX9_spellOf_94 (u0 : Nat) (u2 : Nat) (u4 : Int32) (u5 : Int32) (v6 : Int32) (v8 : Int32) (v10 : Int32) (v11 : Int32) (y0 : Int32) (h : Hp) : Option ((Int32 × Int32 × Int32 × Int32 × Int32 × Hp) ⊕ (Int32 × Int32 × Int32 × Hp)) :=
(some (v6 + (1 : Int32))).bind fun x24 =>
jX9_spellOf_103 u0 u2 u4 u5 x24 v10 v8 y0 v10 v11 h
set_option maxRecDepth 20000 in
set_option maxHeartbeats 4000000 in
theorem sjX9_spellOf_94 {Γ : Gm} {d : Nat} (hd : 4 ≤ d) {u0 : Nat} {u2 : Nat} {u4 : Int32} {u5 : Int32} {v6 : Int32} {v8 : Int32} {v10 : Int32} {v11 : Int32} {y0 : Int32} {h : Hp} {r : (Int32 × Int32 × Int32 × Int32 × Int32 × Hp) ⊕ (Int32 × Int32 × Int32 × Hp)} {t : Option Value × Hp} (H : jX9_spellOf_94 u0 u2 u4 u5 v6 v8 v10 v11 y0 h = some r) (kI : ∀ s, r = .inl s → (fun s21 => V Γ d mX9_spellOf 21 [(0, .ref u0), (2, .ref u2), (4, .int u4), (5, .int u5), (6, .int s21.1), (7, .int s21.2.1), (8, .int s21.2.2.1), (9, .int s21.2.2.2.1), (10, .int s21.2.2.2.2.1)] [] s21.2.2.2.2.2 t) s) (kE : ∀ e, r = .inr e → (fun e => V Γ d mX9_spellOf 138 [(5, .int u5), (6, .int e.1), (8, .int e.2.1), (9, .int e.2.2.1)] [] e.2.2.2 t) e) : V Γ d mX9_spellOf 94 [(0, .ref u0), (2, .ref u2), (4, .int u4), (5, .int u5), (6, .int v6), (8, .int v8), (10, .int v10), (11, .int v11)] [.int y0] h t := by
  unfold jX9_spellOf_94 at H
  refine v_istore (L' := [(9, .int y0), (0, .ref u0), (2, .ref u2), (4, .int u4), (5, .int u5), (6, .int v6), (8, .int v8), (10, .int v10), (11, .int v11)]) (q := 96) dX9_spellOf_94 (by decide) rfl rfl ?_
  replace H := bs H; obtain ⟨x24, x24e, H⟩ := H
  refine v_iinc (v := x24) (L' := [(6, .int x24), (9, .int y0), (0, .ref u0), (2, .ref u2), (4, .int u4), (5, .int u5), (8, .int v8), (10, .int v10), (11, .int v11)]) (q := 99) 5 dX9_spellOf_96 rfl (Option.some.inj x24e) (by decide) rfl rfl ?_
  refine v_iload (q := 101) 7 dX9_spellOf_99 rfl rfl ?_
  refine v_istore (L' := [(7, .int v10), (6, .int x24), (9, .int y0), (0, .ref u0), (2, .ref u2), (4, .int u4), (5, .int u5), (8, .int v8), (10, .int v10), (11, .int v11)]) (q := 103) dX9_spellOf_101 (by decide) rfl rfl ?_
  exact V.sub [3, 4, 5, 6, 1, 0, 7, 2, 8, 9] rfl (sjX9_spellOf_103 hd H kI kE)
def bX9_spellOf_21 (u0 : Nat) (u2 : Nat) (u4 : Int32) (u5 : Int32) (s21 : Int32 × Int32 × Int32 × Int32 × Int32 × Hp) : Option ((Int32 × Int32 × Int32 × Int32 × Int32 × Hp) ⊕ (Int32 × Int32 × Int32 × Hp)) :=
(gR s21.2.2.2.2.2 9 u0 1).bind fun x3 =>
(gR s21.2.2.2.2.2 5 x3 5).bind fun x4 =>
(gI s21.2.2.2.2.2 9 u0 3).bind fun x5 =>
(lI s21.2.2.2.2.2 .int x4 x5).bind fun x6 =>
if x6 ≤ s21.2.2.2.2.1 then (
some (.inr (s21.1, s21.2.2.1, s21.2.2.2.1, s21.2.2.2.2.2))) else (
(gI s21.2.2.2.2.2 9 u0 7).bind fun x8 =>
(gI s21.2.2.2.2.2 9 u0 3).bind fun x9 =>
(lI s21.2.2.2.2.2 .int u2 ((x9 * (12 : Int32)) + s21.2.2.2.2.1)).bind fun x10 =>
(gO s21.2.2.2.2.2 9 u0).bind fun _ =>
(fX9_follow s21.2.2.2.2.2 u0 x10).bind fun x12 =>
(fX11_has x12 x8 u4).bind fun x13 =>
if x13 = 0 then (
(gI x12 9 u0 7).bind fun x20 =>
(fX11_has x12 x20 u4).bind fun x21 =>
if x21 = 0 then (
jX9_spellOf_103 u0 u2 u4 u5 s21.1 s21.2.1 s21.2.2.1 s21.2.2.2.1 s21.2.2.2.2.1 x8 x12) else (
if s21.1 = 0 then (
jX9_spellOf_94 u0 u2 u4 u5 s21.1 s21.2.2.1 s21.2.2.2.2.1 x8 x8 x12) else (
jX9_spellOf_94 u0 u2 u4 u5 s21.1 s21.2.2.1 s21.2.2.2.2.1 x8 s21.2.2.2.1 x12))) else (
jX9_spellOf_103 u0 u2 u4 u5 s21.1 s21.2.1 s21.2.2.1 s21.2.2.2.1 s21.2.2.2.2.1 x8 x12))
set_option maxRecDepth 20000 in
set_option maxHeartbeats 4000000 in
theorem sbX9_spellOf_21 {Γ : Gm} {d : Nat} (hd : 4 ≤ d) {u0 : Nat} {u2 : Nat} {u4 : Int32} {u5 : Int32} {s21 : Int32 × Int32 × Int32 × Int32 × Int32 × Hp} {r : (Int32 × Int32 × Int32 × Int32 × Int32 × Hp) ⊕ (Int32 × Int32 × Int32 × Hp)} {t : Option Value × Hp} (H : bX9_spellOf_21 u0 u2 u4 u5 s21 = some r) (kI : ∀ s, r = .inl s → (fun s21 => V Γ d mX9_spellOf 21 [(0, .ref u0), (2, .ref u2), (4, .int u4), (5, .int u5), (6, .int s21.1), (7, .int s21.2.1), (8, .int s21.2.2.1), (9, .int s21.2.2.2.1), (10, .int s21.2.2.2.2.1)] [] s21.2.2.2.2.2 t) s) (kE : ∀ e, r = .inr e → (fun e => V Γ d mX9_spellOf 138 [(5, .int u5), (6, .int e.1), (8, .int e.2.1), (9, .int e.2.2.1)] [] e.2.2.2 t) e) : V Γ d mX9_spellOf 21 [(0, .ref u0), (2, .ref u2), (4, .int u4), (5, .int u5), (6, .int s21.1), (7, .int s21.2.1), (8, .int s21.2.2.1), (9, .int s21.2.2.2.1), (10, .int s21.2.2.2.2.1)] [] s21.2.2.2.2.2 t := by
  unfold bX9_spellOf_21 at H
  refine v_iload (q := 23) 8 dX9_spellOf_21 rfl rfl ?_
  refine v_aload_n (q := 24) 0 dX9_spellOf_23 rfl rfl rfl ?_
  replace H := bs H; obtain ⟨x3, x3e, H⟩ := H
  refine u_gR (q := 27) (r := (RX9, TX9, 10)) x3e dX9_spellOf_24 w0424 rfl (by decide) rfl rfl ?_
  replace H := bs H; obtain ⟨x4, x4e, H⟩ := H
  refine u_gR (q := 30) (r := (RX5, TX5, 7)) x4e dX9_spellOf_27 w0245 rfl (by decide) rfl rfl ?_
  refine v_aload_n (q := 31) 0 dX9_spellOf_30 rfl rfl rfl ?_
  replace H := bs H; obtain ⟨x5, x5e, H⟩ := H
  refine u_gI (q := 34) (r := (RX9, TX9, 10)) x5e dX9_spellOf_31 w0426 rfl (by decide) rfl rfl ?_
  replace H := bs H; obtain ⟨x6, x6e, H⟩ := H
  refine u_lI (q := 35) x6e dX9_spellOf_34 rfl ?_
  refine v_icmp_ge (q1 := 138) (q2 := 38) dX9_spellOf_35 (by decide) rfl (fun c7 => ?_) (fun c7 => ?_)
  · replace H := ip c7 H
    exact V.sub [3, 4, 6, 7] rfl (kE (s21.1, s21.2.2.1, s21.2.2.2.1, s21.2.2.2.2.2) (Option.some.inj H).symm)
  · replace H := ine c7 H
    refine v_aload_n (q := 39) 0 dX9_spellOf_38 rfl rfl rfl ?_
    replace H := bs H; obtain ⟨x8, x8e, H⟩ := H
    refine u_gI (q := 42) (r := (RX9, TX9, 10)) x8e dX9_spellOf_39 w0430 rfl (by decide) rfl rfl ?_
    refine v_istore (L' := [(11, .int x8), (0, .ref u0), (2, .ref u2), (4, .int u4), (5, .int u5), (6, .int s21.1), (7, .int s21.2.1), (8, .int s21.2.2.1), (9, .int s21.2.2.2.1), (10, .int s21.2.2.2.2.1)]) (q := 44) dX9_spellOf_42 (by decide) rfl rfl ?_
    refine v_aload_n (q := 45) 1 dX9_spellOf_44 rfl rfl rfl ?_
    refine v_aload_n (q := 46) 2 dX9_spellOf_45 rfl rfl rfl ?_
    refine v_aload_n (q := 47) 1 dX9_spellOf_46 rfl rfl rfl ?_
    replace H := bs H; obtain ⟨x9, x9e, H⟩ := H
    refine u_gI (q := 50) (r := (RX9, TX9, 10)) x9e dX9_spellOf_47 w0426 rfl (by decide) rfl rfl ?_
    refine v_bipush (v := 12) (q := 52) dX9_spellOf_50 (by decide) rfl ?_
    refine v_imul (q := 53) dX9_spellOf_52 rfl ?_
    refine v_iload (q := 55) 9 dX9_spellOf_53 rfl rfl ?_
    refine v_iadd (q := 56) dX9_spellOf_55 rfl ?_
    replace H := bs H; obtain ⟨x10, x10e, H⟩ := H
    refine u_lI (q := 57) x10e dX9_spellOf_56 rfl ?_
    replace H := bs H; obtain ⟨_, o11, H⟩ := H
    replace H := bs H; obtain ⟨x12, x12e, H⟩ := H
    refine u_callV0 (M' := mX9_follow) (d' := 3) (rc := (RX9, TX9, 10)) (As := [.int x10]) (st := []) (q := 60) oX9_follow dX9_spellOf_57 w0894 w0896 w0026 rfl rfl (gO_sp o11).1 (gO_sp o11).2 rfl (Nat.le_of_ble_eq_true rfl) (Nat.le_of_ble_eq_true rfl) (Nat.lt_of_lt_of_le (by decide) hd) rfl (sX9_follow (Nat.le_refl _) x12e) rfl ?_
    refine v_iload (q := 62) 0 dX9_spellOf_60 rfl rfl ?_
    refine v_iload (q := 64) 3 dX9_spellOf_62 rfl rfl ?_
    replace H := bs H; obtain ⟨x13, x13e, H⟩ := H
    refine u_callSN1 (M' := mX11_has) (d' := 1) (As := [.int x8, .int u4]) (st := []) (q := 67) oX11_has dX9_spellOf_64 w0782 w0783 rfl (Nat.le_of_ble_eq_true rfl) (Nat.le_of_ble_eq_true rfl) (Nat.lt_of_lt_of_le (by decide) hd) rfl (sX11_has (Nat.le_refl _) x13e) rfl ?_
    refine v_if_ne (q1 := 103) (q2 := 70) dX9_spellOf_67 (by decide) rfl (fun c14 => ?_) (fun c14 => ?_)
    · replace H := ine c14 H
      exact V.sub [1, 2, 3, 4, 5, 6, 7, 8, 9, 0] rfl (sjX9_spellOf_103 hd H kI kE)
    · replace H := ip c14 H
      refine v_aload_n (q := 71) 1 dX9_spellOf_70 rfl rfl rfl ?_
      replace H := bs H; obtain ⟨x20, x20e, H⟩ := H
      refine u_gI (q := 74) (r := (RX9, TX9, 10)) x20e dX9_spellOf_71 w0430 rfl (by decide) rfl rfl ?_
      refine v_iload (q := 76) 3 dX9_spellOf_74 rfl rfl ?_
      replace H := bs H; obtain ⟨x21, x21e, H⟩ := H
      refine u_callSN1 (M' := mX11_has) (d' := 1) (As := [.int x20, .int u4]) (st := []) (q := 79) oX11_has dX9_spellOf_76 w0782 w0783 rfl (Nat.le_of_ble_eq_true rfl) (Nat.le_of_ble_eq_true rfl) (Nat.lt_of_lt_of_le (by decide) hd) rfl (sX11_has (Nat.le_refl _) x21e) rfl ?_
      refine v_if_eq (q1 := 103) (q2 := 82) dX9_spellOf_79 (by decide) rfl (fun c22 => ?_) (fun c22 => ?_)
      · replace H := ip c22 H
        exact V.sub [1, 2, 3, 4, 5, 6, 7, 8, 9, 0] rfl (sjX9_spellOf_103 hd H kI kE)
      · replace H := ine c22 H
        refine v_iload (q := 84) 5 dX9_spellOf_82 rfl rfl ?_
        refine v_if_ne (q1 := 92) (q2 := 87) dX9_spellOf_84 (by decide) rfl (fun c23 => ?_) (fun c23 => ?_)
        · replace H := ine c23 H
          refine v_iload (q := 94) 8 dX9_spellOf_92 rfl rfl ?_
          exact V.sub [1, 2, 3, 4, 5, 7, 9, 0] rfl (sjX9_spellOf_94 hd H kI kE)
        · replace H := ip c23 H
          refine v_iload (q := 89) 0 dX9_spellOf_87 rfl rfl ?_
          refine v_goto (q := 94) dX9_spellOf_89 (by decide) ?_
          exact V.sub [1, 2, 3, 4, 5, 7, 9, 0] rfl (sjX9_spellOf_94 hd H kI kE)
def fX9_spellOf (h : Hp) (v0 : Nat) (v1 : Nat) (v2 : Nat) (v3 : Int32) (v4 : Int32) (v5 : Int32) : Option (Int32 × Hp) :=
(gO h 9 v0).bind fun _ =>
(fX9_begin h v0 v1 v3).bind fun x2 =>
(lp (bX9_spellOf_21 v0 v2 v4 v5) FU ((0 : Int32), (0 : Int32), (0 : Int32), (0 : Int32), (0 : Int32), x2)).bind fun e25 =>
if v5 = (0 : Int32) then (
some (e25.1, e25.2.2.2)) else (
if v5 = (1 : Int32) then (
some (e25.2.1, e25.2.2.2)) else (
if v5 = (2 : Int32) then (
some (e25.2.2.1, e25.2.2.2)) else (
some (((-1 : Int32), e25.2.2.2)))))
set_option maxRecDepth 20000 in
set_option maxHeartbeats 4000000 in
theorem sX9_spellOf {Γ : Gm} {d : Nat} (hd : 4 ≤ d) {h : Hp} {v0 : Nat} {v1 : Nat} {v2 : Nat} {v3 : Int32} {v4 : Int32} {v5 : Int32} {r : Int32 × Hp} (H : fX9_spellOf h v0 v1 v2 v3 v4 v5 = some r) : V Γ d mX9_spellOf 0 [(0, .ref v0), (1, .ref v1), (2, .ref v2), (3, .int v3), (4, .int v4), (5, .int v5)] [] h (some (.int r.1), r.2) := by
  unfold fX9_spellOf at H
  refine v_iconst (v := 0) (q := 1) dX9_spellOf_0 (by decide) rfl ?_
  refine v_istore (L' := [(6, .int (0 : Int32)), (0, .ref v0), (1, .ref v1), (2, .ref v2), (3, .int v3), (4, .int v4), (5, .int v5)]) (q := 3) dX9_spellOf_1 (by decide) rfl rfl ?_
  refine v_iconst (v := 0) (q := 4) dX9_spellOf_3 (by decide) rfl ?_
  refine v_istore (L' := [(7, .int (0 : Int32)), (6, .int (0 : Int32)), (0, .ref v0), (1, .ref v1), (2, .ref v2), (3, .int v3), (4, .int v4), (5, .int v5)]) (q := 6) dX9_spellOf_4 (by decide) rfl rfl ?_
  refine v_iconst (v := 0) (q := 7) dX9_spellOf_6 (by decide) rfl ?_
  refine v_istore (L' := [(8, .int (0 : Int32)), (7, .int (0 : Int32)), (6, .int (0 : Int32)), (0, .ref v0), (1, .ref v1), (2, .ref v2), (3, .int v3), (4, .int v4), (5, .int v5)]) (q := 9) dX9_spellOf_7 (by decide) rfl rfl ?_
  refine v_iconst (v := 0) (q := 10) dX9_spellOf_9 (by decide) rfl ?_
  refine v_istore (L' := [(9, .int (0 : Int32)), (8, .int (0 : Int32)), (7, .int (0 : Int32)), (6, .int (0 : Int32)), (0, .ref v0), (1, .ref v1), (2, .ref v2), (3, .int v3), (4, .int v4), (5, .int v5)]) (q := 12) dX9_spellOf_10 (by decide) rfl rfl ?_
  refine v_aload_n (q := 13) 4 dX9_spellOf_12 rfl rfl rfl ?_
  refine v_aload_n (q := 14) 5 dX9_spellOf_13 rfl rfl rfl ?_
  refine v_iload_n (q := 15) 7 dX9_spellOf_14 rfl rfl rfl ?_
  replace H := bs H; obtain ⟨_, o1, H⟩ := H
  replace H := bs H; obtain ⟨x2, x2e, H⟩ := H
  refine u_callV0 (M' := mX9_begin) (d' := 2) (rc := (RX9, TX9, 10)) (As := [.ref v1, .int v3]) (st := []) (q := 18) oX9_begin dX9_spellOf_15 w0769 w0771 w0014 rfl rfl (gO_sp o1).1 (gO_sp o1).2 rfl (Nat.le_of_ble_eq_true rfl) (Nat.le_of_ble_eq_true rfl) (Nat.lt_of_lt_of_le (by decide) hd) rfl (sX9_begin (Nat.le_refl _) x2e) rfl ?_
  refine v_iconst (v := 0) (q := 19) dX9_spellOf_18 (by decide) rfl ?_
  refine v_istore (L' := [(10, .int (0 : Int32)), (9, .int (0 : Int32)), (8, .int (0 : Int32)), (7, .int (0 : Int32)), (6, .int (0 : Int32)), (0, .ref v0), (1, .ref v1), (2, .ref v2), (3, .int v3), (4, .int v4), (5, .int v5)]) (q := 21) dX9_spellOf_19 (by decide) rfl rfl ?_
  replace H := bs H; obtain ⟨e25, e25L, H⟩ := H
  refine V.sub [5, 7, 9, 10, 4, 3, 2, 1, 0] rfl ?_
  refine lp_V (P := (fun s21 => V Γ d mX9_spellOf 21 [(0, .ref v0), (2, .ref v2), (4, .int v4), (5, .int v5), (6, .int s21.1), (7, .int s21.2.1), (8, .int s21.2.2.1), (9, .int s21.2.2.2.1), (10, .int s21.2.2.2.2.1)] [] s21.2.2.2.2.2 (some (.int r.1), r.2))) (E := (fun e => V Γ d mX9_spellOf 138 [(5, .int v5), (6, .int e.1), (8, .int e.2.1), (9, .int e.2.2.1)] [] e.2.2.2 (some (.int r.1), r.2))) (fun s r hb kI kE => sbX9_spellOf_21 hd (s21 := s) (r := r) hb kI kE) FU ((0 : Int32), (0 : Int32), (0 : Int32), (0 : Int32), (0 : Int32), x2) e25 e25L ?_
  refine v_iload (q := 140) 0 dX9_spellOf_138 rfl rfl ?_
  by_cases c26 : v5 = (0 : Int32)
  · replace H := ip c26 H
    rw [c26]
    refine v_tabIn (off := 28) (q := 168) dX9_spellOf_140 (by decide) (by decide) (by decide) (by decide) ?_
    refine v_iload (q := 170) 1 dX9_spellOf_168 rfl rfl ?_
    cases H
    exact v_ireturn rfl dX9_spellOf_170
  · replace H := ine c26 H
    by_cases c27 : v5 = (1 : Int32)
    · replace H := ip c27 H
      rw [c27]
      refine v_tabIn (off := 31) (q := 171) dX9_spellOf_140 (by decide) (by decide) (by decide) (by decide) ?_
      refine v_iload (q := 173) 2 dX9_spellOf_171 rfl rfl ?_
      cases H
      exact v_ireturn rfl dX9_spellOf_173
    · replace H := ine c27 H
      by_cases c28 : v5 = (2 : Int32)
      · replace H := ip c28 H
        rw [c28]
        refine v_tabIn (off := 34) (q := 174) dX9_spellOf_140 (by decide) (by decide) (by decide) (by decide) ?_
        refine v_iload (q := 176) 3 dX9_spellOf_174 rfl rfl ?_
        cases H
        exact v_ireturn rfl dX9_spellOf_176
      · replace H := ine c28 H
        have c26t := lv_neT (a := 0) c26 (by decide)
        have c27t := lv_neT (a := 1) c27 (by decide)
        have c28t := lv_neT (a := 2) c28 (by decide)
        refine v_tabOut (q := 177) dX9_spellOf_140 (by omega) (by decide) ?_
        refine v_iconst (v := -1) (q := 178) dX9_spellOf_177 (by decide) rfl ?_
        cases H
        exact v_ireturn rfl dX9_spellOf_178
def mX11_spell : MI := (yX11_spell, cX11_spell, 4, some .int)
theorem oX11_spell : mOK mX11_spell 3 := ⟨by decide +kernel, by decide +kernel, by decide +kernel, by decide, w1305, w0139⟩
def jX11_spell_22 (h : Hp) : Option (Int32 × Hp) :=
some (((-1 : Int32), h))
set_option maxRecDepth 20000 in
set_option maxHeartbeats 4000000 in
theorem sjX11_spell_22 {Γ : Gm} {d : Nat} (hd : 5 ≤ d) {h : Hp} {r : Int32 × Hp} (H : jX11_spell_22 h = some r) : V Γ d mX11_spell 22 [] [] h (some (.int r.1), r.2) := by
  unfold jX11_spell_22 at H
  refine v_iconst (v := -1) (q := 23) dX11_spell_22 (by decide) rfl ?_
  cases H
  exact v_ireturn rfl dX11_spell_23
def fX11_spell (h : Hp) (v0 : Nat) (v1 : Int32) (v2 : Int32) (v3 : Int32) : Option (Int32 × Hp) :=
(gR h 11 v0 3).bind fun x1 =>
(gO h 5 x1).bind fun _ =>
(fX5_hasProgram h x1 v1).bind fun x3 =>
if x3 = 0 then (
jX11_spell_22 h) else (
(gR h 11 v0 3).bind fun x5 =>
(gO h 5 x5).bind fun _ =>
(fX5_hasLock h x5 v2).bind fun x7 =>
if x7 = 0 then (
jX11_spell_22 h) else (
(gR h 11 v0 9).bind fun x9 =>
(gR h 11 v0 3).bind fun x10 =>
(gR h 11 v0 5).bind fun x11 =>
(gO h 2 x11).bind fun _ =>
(fX2_present h x11).bind fun x13 =>
(gR h 3 x13 0).bind fun x14 =>
(gO h 9 x9).bind fun _ =>
(fX9_spellOf h x9 x10 x14 v1 v2 v3).bind fun x16 =>
some (x16.1, x16.2)))
set_option maxRecDepth 20000 in
set_option maxHeartbeats 4000000 in
theorem sX11_spell {Γ : Gm} {d : Nat} (hd : 5 ≤ d) {h : Hp} {v0 : Nat} {v1 : Int32} {v2 : Int32} {v3 : Int32} {r : Int32 × Hp} (H : fX11_spell h v0 v1 v2 v3 = some r) : V Γ d mX11_spell 0 [(0, .ref v0), (1, .int v1), (2, .int v2), (3, .int v3)] [] h (some (.int r.1), r.2) := by
  unfold fX11_spell at H
  refine v_aload_n (q := 1) 0 dX11_spell_0 rfl rfl rfl ?_
  replace H := bs H; obtain ⟨x1, x1e, H⟩ := H
  refine u_gR (q := 4) (r := (RX11, TX11, 14)) x1e dX11_spell_1 w0524 rfl (by decide) rfl rfl ?_
  refine v_iload_n (q := 5) 1 dX11_spell_4 rfl rfl rfl ?_
  replace H := bs H; obtain ⟨_, o2, H⟩ := H
  replace H := bs H; obtain ⟨x3, x3e, H⟩ := H
  refine u_callV1 (M' := mX5_hasProgram) (d' := 1) (rc := (RX5, TX5, 7)) (As := [.int v1]) (st := []) (q := 8) oX5_hasProgram dX11_spell_5 w0739 w0740 w0741 rfl rfl (gO_sp o2).1 (gO_sp o2).2 rfl (Nat.le_of_ble_eq_true rfl) (Nat.le_of_ble_eq_true rfl) (Nat.lt_of_lt_of_le (by decide) hd) rfl (sX5_hasProgram (Nat.le_refl _) x3e) rfl ?_
  refine v_if_eq (q1 := 22) (q2 := 11) dX11_spell_8 (by decide) rfl (fun c4 => ?_) (fun c4 => ?_)
  · replace H := ip c4 H
    exact V.sub [] rfl (sjX11_spell_22 hd H)
  · replace H := ine c4 H
    refine v_aload_n (q := 12) 0 dX11_spell_11 rfl rfl rfl ?_
    replace H := bs H; obtain ⟨x5, x5e, H⟩ := H
    refine u_gR (q := 15) (r := (RX11, TX11, 14)) x5e dX11_spell_12 w0524 rfl (by decide) rfl rfl ?_
    refine v_iload_n (q := 16) 2 dX11_spell_15 rfl rfl rfl ?_
    replace H := bs H; obtain ⟨_, o6, H⟩ := H
    replace H := bs H; obtain ⟨x7, x7e, H⟩ := H
    refine u_callV1 (M' := mX5_hasLock) (d' := 1) (rc := (RX5, TX5, 7)) (As := [.int v2]) (st := []) (q := 19) oX5_hasLock dX11_spell_16 w0943 w0944 w0945 rfl rfl (gO_sp o6).1 (gO_sp o6).2 rfl (Nat.le_of_ble_eq_true rfl) (Nat.le_of_ble_eq_true rfl) (Nat.lt_of_lt_of_le (by decide) hd) rfl (sX5_hasLock (Nat.le_refl _) x7e) rfl ?_
    refine v_if_ne (q1 := 24) (q2 := 22) dX11_spell_19 (by decide) rfl (fun c8 => ?_) (fun c8 => ?_)
    · replace H := ine c8 H
      refine v_aload_n (q := 25) 0 dX11_spell_24 rfl rfl rfl ?_
      replace H := bs H; obtain ⟨x9, x9e, H⟩ := H
      refine u_gR (q := 28) (r := (RX11, TX11, 14)) x9e dX11_spell_25 w0530 rfl (by decide) rfl rfl ?_
      refine v_aload_n (q := 29) 0 dX11_spell_28 rfl rfl rfl ?_
      replace H := bs H; obtain ⟨x10, x10e, H⟩ := H
      refine u_gR (q := 32) (r := (RX11, TX11, 14)) x10e dX11_spell_29 w0524 rfl (by decide) rfl rfl ?_
      refine v_aload_n (q := 33) 0 dX11_spell_32 rfl rfl rfl ?_
      replace H := bs H; obtain ⟨x11, x11e, H⟩ := H
      refine u_gR (q := 36) (r := (RX11, TX11, 14)) x11e dX11_spell_33 w0526 rfl (by decide) rfl rfl ?_
      replace H := bs H; obtain ⟨_, o12, H⟩ := H
      replace H := bs H; obtain ⟨x13, x13e, H⟩ := H
      refine u_callV1 (M' := mX2_present) (d' := 1) (rc := (RX2, TX2, 3)) (As := []) (st := [.ref x10, .ref x9]) (q := 39) oX2_present dX11_spell_36 w0701 w0702 w0703 rfl rfl (gO_sp o12).1 (gO_sp o12).2 rfl (Nat.le_of_ble_eq_true rfl) (Nat.le_of_ble_eq_true rfl) (Nat.lt_of_lt_of_le (by decide) hd) rfl (sX2_present (Nat.le_refl _) x13e) rfl ?_
      replace H := bs H; obtain ⟨x14, x14e, H⟩ := H
      refine u_gR (q := 42) (r := (RX3, TX3, 8)) x14e dX11_spell_39 w0341 rfl (by decide) rfl rfl ?_
      refine v_iload_n (q := 43) 1 dX11_spell_42 rfl rfl rfl ?_
      refine v_iload_n (q := 44) 2 dX11_spell_43 rfl rfl rfl ?_
      refine v_iload_n (q := 45) 3 dX11_spell_44 rfl rfl rfl ?_
      replace H := bs H; obtain ⟨_, o15, H⟩ := H
      replace H := bs H; obtain ⟨x16, x16e, H⟩ := H
      refine u_callV1 (M' := mX9_spellOf) (d' := 4) (rc := (RX9, TX9, 10)) (As := [.ref x10, .ref x14, .int v1, .int v2, .int v3]) (st := []) (q := 48) oX9_spellOf dX11_spell_45 w1306 w1307 w1308 rfl rfl (gO_sp o15).1 (gO_sp o15).2 rfl (Nat.le_of_ble_eq_true rfl) (Nat.le_of_ble_eq_true rfl) (Nat.lt_of_lt_of_le (by decide) hd) rfl (sX9_spellOf (Nat.le_refl _) x16e) rfl ?_
      cases H
      exact v_ireturn rfl dX11_spell_48
    · replace H := ip c8 H
      exact V.sub [] rfl (sjX11_spell_22 hd H)
def mX5_hasStep : MI := (yX5_hasStep, cX5_hasStep, 3, some .boolean)
theorem oX5_hasStep : mOK mX5_hasStep 2 := ⟨by decide +kernel, by decide +kernel, by decide +kernel, by decide, w0958, w0141⟩
def jX5_hasStep_27 (y0 : Int32) (h : Hp) : Option (Int32) :=
(bz y0).bind fun x4 =>
some x4
set_option maxRecDepth 20000 in
set_option maxHeartbeats 4000000 in
theorem sjX5_hasStep_27 {Γ : Gm} {d : Nat} (hd : 2 ≤ d) {y0 : Int32} {h : Hp} {r : Int32} (H : jX5_hasStep_27 y0 h = some r) : V Γ d mX5_hasStep 27 [] [.int y0] h (some (.int r), h) := by
  unfold jX5_hasStep_27 at H
  replace H := bs H; obtain ⟨x4, x4e, H⟩ := H
  obtain ⟨x4q, x4z⟩ := bz_sp x4e
  refine v_topi x4q.symm ?_
  cases H
  exact v_zreturn rfl (by rw [x4q]; exact x4z) dX5_hasStep_27
def jX5_hasStep_26 (h : Hp) : Option (Int32) :=
jX5_hasStep_27 (0 : Int32) h
set_option maxRecDepth 20000 in
set_option maxHeartbeats 4000000 in
theorem sjX5_hasStep_26 {Γ : Gm} {d : Nat} (hd : 2 ≤ d) {h : Hp} {r : Int32} (H : jX5_hasStep_26 h = some r) : V Γ d mX5_hasStep 26 [] [] h (some (.int r), h) := by
  unfold jX5_hasStep_26 at H
  refine v_iconst (v := 0) (q := 27) dX5_hasStep_26 (by decide) rfl ?_
  exact V.sub [] rfl (sjX5_hasStep_27 hd H)
def fX5_hasStep (h : Hp) (v0 : Nat) (v1 : Int32) (v2 : Int32) : Option (Int32) :=
(gO h 5 v0).bind fun _ =>
(fX5_hasProgram h v0 v1).bind fun x2 =>
if x2 = 0 then (
jX5_hasStep_26 h) else (
if v2 < 0 then (
jX5_hasStep_26 h) else (
(gR h 5 v0 5).bind fun x6 =>
(lI h .int x6 v1).bind fun x7 =>
if x7 ≤ v2 then (
jX5_hasStep_26 h) else (
jX5_hasStep_27 (1 : Int32) h)))
set_option maxRecDepth 20000 in
set_option maxHeartbeats 4000000 in
theorem sX5_hasStep {Γ : Gm} {d : Nat} (hd : 2 ≤ d) {h : Hp} {v0 : Nat} {v1 : Int32} {v2 : Int32} {r : Int32} (H : fX5_hasStep h v0 v1 v2 = some r) : V Γ d mX5_hasStep 0 [(0, .ref v0), (1, .int v1), (2, .int v2)] [] h (some (.int r), h) := by
  unfold fX5_hasStep at H
  refine v_aload_n (q := 1) 0 dX5_hasStep_0 rfl rfl rfl ?_
  refine v_iload_n (q := 2) 1 dX5_hasStep_1 rfl rfl rfl ?_
  replace H := bs H; obtain ⟨_, o1, H⟩ := H
  replace H := bs H; obtain ⟨x2, x2e, H⟩ := H
  refine u_callV1 (M' := mX5_hasProgram) (d' := 1) (rc := (RX5, TX5, 7)) (As := [.int v1]) (st := []) (q := 5) oX5_hasProgram dX5_hasStep_2 w0919 w0740 w0741 rfl rfl (gO_sp o1).1 (gO_sp o1).2 rfl (Nat.le_of_ble_eq_true rfl) (Nat.le_of_ble_eq_true rfl) (Nat.lt_of_lt_of_le (by decide) hd) rfl (sX5_hasProgram (Nat.le_refl _) x2e) rfl ?_
  refine v_if_eq (q1 := 26) (q2 := 8) dX5_hasStep_5 (by decide) rfl (fun c3 => ?_) (fun c3 => ?_)
  · replace H := ip c3 H
    exact V.sub [] rfl (sjX5_hasStep_26 hd H)
  · replace H := ine c3 H
    refine v_iload_n (q := 9) 2 dX5_hasStep_8 rfl rfl rfl ?_
    refine v_if_lt (q1 := 26) (q2 := 12) dX5_hasStep_9 (by decide) rfl (fun c5 => ?_) (fun c5 => ?_)
    · replace H := ip c5 H
      exact V.sub [] rfl (sjX5_hasStep_26 hd H)
    · replace H := ine c5 H
      refine v_iload_n (q := 13) 2 dX5_hasStep_12 rfl rfl rfl ?_
      refine v_aload_n (q := 14) 0 dX5_hasStep_13 rfl rfl rfl ?_
      replace H := bs H; obtain ⟨x6, x6e, H⟩ := H
      refine u_gR (q := 17) (r := (RX5, TX5, 7)) x6e dX5_hasStep_14 w0244 rfl (by decide) rfl rfl ?_
      refine v_iload_n (q := 18) 1 dX5_hasStep_17 rfl rfl rfl ?_
      replace H := bs H; obtain ⟨x7, x7e, H⟩ := H
      refine u_lI (q := 19) x7e dX5_hasStep_18 rfl ?_
      refine v_icmp_ge (q1 := 26) (q2 := 22) dX5_hasStep_19 (by decide) rfl (fun c8 => ?_) (fun c8 => ?_)
      · replace H := ip c8 H
        exact V.sub [] rfl (sjX5_hasStep_26 hd H)
      · replace H := ine c8 H
        refine v_iconst (v := 1) (q := 23) dX5_hasStep_22 (by decide) rfl ?_
        refine v_goto (q := 27) dX5_hasStep_23 (by decide) ?_
        exact V.sub [] rfl (sjX5_hasStep_27 hd H)
def mX11_step : MI := (yX11_step, cX11_step, 5, some .int)
theorem oX11_step : mOK mX11_step 3 := ⟨by decide +kernel, by decide +kernel, by decide +kernel, by decide, w0954, w0139⟩
def jX11_step_84 (y0 : Int32) (h : Hp) : Option (Int32) :=
some y0
set_option maxRecDepth 20000 in
set_option maxHeartbeats 4000000 in
theorem sjX11_step_84 {Γ : Gm} {d : Nat} (hd : 3 ≤ d) {y0 : Int32} {h : Hp} {r : Int32} (H : jX11_step_84 y0 h = some r) : V Γ d mX11_step 84 [] [.int y0] h (some (.int r), h) := by
  unfold jX11_step_84 at H
  cases H
  exact v_ireturn rfl dX11_step_84
def fX11_step (h : Hp) (v0 : Nat) (v1 : Int32) (v2 : Int32) (v3 : Int32) : Option (Int32) :=
(gR h 11 v0 3).bind fun x1 =>
(gO h 5 x1).bind fun _ =>
(fX5_hasStep h x1 v1 v2).bind fun x3 =>
if x3 = 0 then (
some (-2 : Int32)) else (
(gR h 11 v0 5).bind fun x5 =>
(gO h 2 x5).bind fun _ =>
(fX2_present h x5).bind fun x7 =>
(gR h 3 x7 0).bind fun x8 =>
(lI h .int x8 ((v1 * (12 : Int32)) + v2)).bind fun x9 =>
if v3 = (0 : Int32) then (
(fX11_deedOf h x9).bind fun x11 =>
some x11) else (
if v3 = (1 : Int32) then (
(fX11_deedOf h x9).bind fun x13 =>
if (4 : Int32) < x13 then (
jX11_step_84 (-1 : Int32) h) else (
(fX11_lockOf h x9).bind fun x15 =>
jX11_step_84 x15 h)) else (
some (-2 : Int32))))
set_option maxRecDepth 20000 in
set_option maxHeartbeats 4000000 in
theorem sX11_step {Γ : Gm} {d : Nat} (hd : 3 ≤ d) {h : Hp} {v0 : Nat} {v1 : Int32} {v2 : Int32} {v3 : Int32} {r : Int32} (H : fX11_step h v0 v1 v2 v3 = some r) : V Γ d mX11_step 0 [(0, .ref v0), (1, .int v1), (2, .int v2), (3, .int v3)] [] h (some (.int r), h) := by
  unfold fX11_step at H
  refine v_aload_n (q := 1) 0 dX11_step_0 rfl rfl rfl ?_
  replace H := bs H; obtain ⟨x1, x1e, H⟩ := H
  refine u_gR (q := 4) (r := (RX11, TX11, 14)) x1e dX11_step_1 w0524 rfl (by decide) rfl rfl ?_
  refine v_iload_n (q := 5) 1 dX11_step_4 rfl rfl rfl ?_
  refine v_iload_n (q := 6) 2 dX11_step_5 rfl rfl rfl ?_
  replace H := bs H; obtain ⟨_, o2, H⟩ := H
  replace H := bs H; obtain ⟨x3, x3e, H⟩ := H
  refine u_callV1 (M' := mX5_hasStep) (d' := 2) (rc := (RX5, TX5, 7)) (As := [.int v1, .int v2]) (st := []) (q := 9) oX5_hasStep dX11_step_6 w0955 w0956 w0957 rfl rfl (gO_sp o2).1 (gO_sp o2).2 rfl (Nat.le_of_ble_eq_true rfl) (Nat.le_of_ble_eq_true rfl) (Nat.lt_of_lt_of_le (by decide) hd) rfl (sX5_hasStep (Nat.le_refl _) x3e) rfl ?_
  refine v_if_ne (q1 := 15) (q2 := 12) dX11_step_9 (by decide) rfl (fun c4 => ?_) (fun c4 => ?_)
  · replace H := ine c4 H
    refine v_aload_n (q := 16) 0 dX11_step_15 rfl rfl rfl ?_
    replace H := bs H; obtain ⟨x5, x5e, H⟩ := H
    refine u_gR (q := 19) (r := (RX11, TX11, 14)) x5e dX11_step_16 w0526 rfl (by decide) rfl rfl ?_
    replace H := bs H; obtain ⟨_, o6, H⟩ := H
    replace H := bs H; obtain ⟨x7, x7e, H⟩ := H
    refine u_callV1 (M' := mX2_present) (d' := 1) (rc := (RX2, TX2, 3)) (As := []) (st := []) (q := 22) oX2_present dX11_step_19 w0701 w0702 w0703 rfl rfl (gO_sp o6).1 (gO_sp o6).2 rfl (Nat.le_of_ble_eq_true rfl) (Nat.le_of_ble_eq_true rfl) (Nat.lt_of_lt_of_le (by decide) hd) rfl (sX2_present (Nat.le_refl _) x7e) rfl ?_
    replace H := bs H; obtain ⟨x8, x8e, H⟩ := H
    refine u_gR (q := 25) (r := (RX3, TX3, 8)) x8e dX11_step_22 w0341 rfl (by decide) rfl rfl ?_
    refine v_iload_n (q := 26) 1 dX11_step_25 rfl rfl rfl ?_
    refine v_bipush (v := 12) (q := 28) dX11_step_26 (by decide) rfl ?_
    refine v_imul (q := 29) dX11_step_28 rfl ?_
    refine v_iload_n (q := 30) 2 dX11_step_29 rfl rfl rfl ?_
    refine v_iadd (q := 31) dX11_step_30 rfl ?_
    replace H := bs H; obtain ⟨x9, x9e, H⟩ := H
    refine u_lI (q := 32) x9e dX11_step_31 rfl ?_
    refine v_istore (L' := [(4, .int x9), (0, .ref v0), (1, .int v1), (2, .int v2), (3, .int v3)]) (q := 34) dX11_step_32 (by decide) rfl rfl ?_
    refine v_iload_n (q := 35) 4 dX11_step_34 rfl rfl rfl ?_
    by_cases c10 : v3 = (0 : Int32)
    · replace H := ip c10 H
      rw [c10]
      refine v_lookup (off := 25) (q := 60) dX11_step_35 (by decide) (by decide) (by decide) ?_
      refine v_iload (q := 62) 0 dX11_step_60 rfl rfl ?_
      replace H := bs H; obtain ⟨x11, x11e, H⟩ := H
      refine u_callS1 (M' := mX11_deedOf) (d' := 1) (As := [.int x9]) (st := []) (q := 65) oX11_deedOf dX11_step_62 w0959 w0777 rfl (Nat.le_of_ble_eq_true rfl) (Nat.le_of_ble_eq_true rfl) (Nat.lt_of_lt_of_le (by decide) hd) rfl (sX11_deedOf (Nat.le_refl _) x11e) rfl ?_
      cases H
      exact v_ireturn rfl dX11_step_65
    · replace H := ine c10 H
      by_cases c12 : v3 = (1 : Int32)
      · replace H := ip c12 H
        rw [c12]
        refine v_lookup (off := 31) (q := 66) dX11_step_35 (by decide) (by decide) (by decide) ?_
        refine v_iload (q := 68) 0 dX11_step_66 rfl rfl ?_
        replace H := bs H; obtain ⟨x13, x13e, H⟩ := H
        refine u_callS1 (M' := mX11_deedOf) (d' := 1) (As := [.int x9]) (st := []) (q := 71) oX11_deedOf dX11_step_68 w0959 w0777 rfl (Nat.le_of_ble_eq_true rfl) (Nat.le_of_ble_eq_true rfl) (Nat.lt_of_lt_of_le (by decide) hd) rfl (sX11_deedOf (Nat.le_refl _) x13e) rfl ?_
        refine v_iconst (v := 4) (q := 72) dX11_step_71 (by decide) rfl ?_
        refine v_icmp_gt (q1 := 83) (q2 := 75) dX11_step_72 (by decide) rfl (fun c14 => ?_) (fun c14 => ?_)
        · replace H := ip c14 H
          refine v_iconst (v := -1) (q := 84) dX11_step_83 (by decide) rfl ?_
          exact V.sub [] rfl (sjX11_step_84 hd H)
        · replace H := ine c14 H
          refine v_iload (q := 77) 0 dX11_step_75 rfl rfl ?_
          replace H := bs H; obtain ⟨x15, x15e, H⟩ := H
          refine u_callS1 (M' := mX11_lockOf) (d' := 1) (As := [.int x9]) (st := []) (q := 80) oX11_lockOf dX11_step_77 w0960 w0780 rfl (Nat.le_of_ble_eq_true rfl) (Nat.le_of_ble_eq_true rfl) (Nat.lt_of_lt_of_le (by decide) hd) rfl (sX11_lockOf (Nat.le_refl _) x15e) rfl ?_
          refine v_goto (q := 84) dX11_step_80 (by decide) ?_
          exact V.sub [] rfl (sjX11_step_84 hd H)
      · replace H := ine c12 H
        refine v_lookup (off := 50) (q := 85) dX11_step_35 (by decide) ((lv_osw c10 (by decide)).trans ((lv_osw c12 (by decide)).trans (rfl))) (by decide) ?_
        refine v_bipush (v := -2) (q := 87) dX11_step_85 (by decide) rfl ?_
        cases H
        exact v_ireturn rfl dX11_step_87
  · replace H := ip c4 H
    refine v_bipush (v := -2) (q := 14) dX11_step_12 (by decide) rfl ?_
    cases H
    exact v_ireturn rfl dX11_step_14
def mX5_clear : MI := (yX5_clear, cX5_clear, 1, none)
theorem oX5_clear : mOK mX5_clear 0 := ⟨by decide +kernel, by decide +kernel, by decide +kernel, by decide, w0590, w0141⟩
def fX5_clear (h : Hp) (v0 : Nat) : Option (Hp) :=
(pI h 5 v0 0 (0 : Int32)).bind fun h1 =>
(pI h1 5 v0 1 (0 : Int32)).bind fun h2 =>
(pI h2 5 v0 2 (0 : Int32)).bind fun h3 =>
(gR h3 5 v0 5).bind fun x4 =>
(fJ7_fill_53178 h3 x4 (0 : Int32)).bind fun x5 =>
(gR x5 5 v0 6).bind fun x6 =>
(fJ7_fill_53178 x5 x6 (0 : Int32)).bind fun x7 =>
some x7
set_option maxRecDepth 20000 in
set_option maxHeartbeats 4000000 in
theorem sX5_clear {Γ : Gm} {d : Nat} (hd : 2 ≤ d) {h : Hp} {v0 : Nat} {r : Hp} (H : fX5_clear h v0 = some r) : V Γ d mX5_clear 0 [(0, .ref v0)] [] h (none, r) := by
  unfold fX5_clear at H
  refine v_aload_n (q := 1) 0 dX5_clear_0 rfl rfl rfl ?_
  refine v_iconst (v := 0) (q := 2) dX5_clear_1 (by decide) rfl ?_
  replace H := bs H; obtain ⟨h1, h1e, H⟩ := H
  refine u_pI (q := 5) (r := (RX5, TX5, 7)) h1e dX5_clear_2 w0224 rfl (by decide) (Or.inl rfl) rfl rfl ?_
  refine v_aload_n (q := 6) 0 dX5_clear_5 rfl rfl rfl ?_
  refine v_iconst (v := 0) (q := 7) dX5_clear_6 (by decide) rfl ?_
  replace H := bs H; obtain ⟨h2, h2e, H⟩ := H
  refine u_pI (q := 10) (r := (RX5, TX5, 7)) h2e dX5_clear_7 w0227 rfl (by decide) (Or.inl rfl) rfl rfl ?_
  refine v_aload_n (q := 11) 0 dX5_clear_10 rfl rfl rfl ?_
  refine v_iconst (v := 0) (q := 12) dX5_clear_11 (by decide) rfl ?_
  replace H := bs H; obtain ⟨h3, h3e, H⟩ := H
  refine u_pI (q := 15) (r := (RX5, TX5, 7)) h3e dX5_clear_12 w0230 rfl (by decide) (Or.inl rfl) rfl rfl ?_
  refine v_aload_n (q := 16) 0 dX5_clear_15 rfl rfl rfl ?_
  replace H := bs H; obtain ⟨x4, x4e, H⟩ := H
  refine u_gR (q := 19) (r := (RX5, TX5, 7)) x4e dX5_clear_16 w0244 rfl (by decide) rfl rfl ?_
  refine v_iconst (v := 0) (q := 20) dX5_clear_19 (by decide) rfl ?_
  replace H := bs H; obtain ⟨x5, x5e, H⟩ := H
  refine u_callS0 (M' := mJ7_fill_53178) (d' := 1) (As := [.ref x4, .int (0 : Int32)]) (st := []) (q := 23) oJ7_fill_53178 dX5_clear_20 w0591 w0592 rfl (Nat.le_of_ble_eq_true rfl) (Nat.le_of_ble_eq_true rfl) (Nat.lt_of_lt_of_le (by decide) hd) rfl (sJ7_fill_53178 (Nat.le_refl _) x5e) rfl ?_
  refine v_aload_n (q := 24) 0 dX5_clear_23 rfl rfl rfl ?_
  replace H := bs H; obtain ⟨x6, x6e, H⟩ := H
  refine u_gR (q := 27) (r := (RX5, TX5, 7)) x6e dX5_clear_24 w0249 rfl (by decide) rfl rfl ?_
  refine v_iconst (v := 0) (q := 28) dX5_clear_27 (by decide) rfl ?_
  replace H := bs H; obtain ⟨x7, x7e, H⟩ := H
  refine u_callS0 (M' := mJ7_fill_53178) (d' := 1) (As := [.ref x6, .int (0 : Int32)]) (st := []) (q := 31) oJ7_fill_53178 dX5_clear_28 w0591 w0592 rfl (Nat.le_of_ble_eq_true rfl) (Nat.le_of_ble_eq_true rfl) (Nat.lt_of_lt_of_le (by decide) hd) rfl (sJ7_fill_53178 (Nat.le_refl _) x7e) rfl ?_
  cases H
  exact v_return rfl dX5_clear_31
def mX6_isLetter : MI := (yX6_isLetter, cX6_isLetter, 1, some .boolean)
theorem oX6_isLetter : mOK mX6_isLetter 1 := ⟨by decide +kernel, by decide +kernel, by decide +kernel, by decide, w0600, w0140⟩
def jX6_isLetter_17 (y0 : Int32) (h : Hp) : Option (Int32) :=
(bz y0).bind fun x2 =>
some x2
set_option maxRecDepth 20000 in
set_option maxHeartbeats 4000000 in
theorem sjX6_isLetter_17 {Γ : Gm} {d : Nat} (hd : 1 ≤ d) {y0 : Int32} {h : Hp} {r : Int32} (H : jX6_isLetter_17 y0 h = some r) : V Γ d mX6_isLetter 17 [] [.int y0] h (some (.int r), h) := by
  unfold jX6_isLetter_17 at H
  replace H := bs H; obtain ⟨x2, x2e, H⟩ := H
  obtain ⟨x2q, x2z⟩ := bz_sp x2e
  refine v_topi x2q.symm ?_
  cases H
  exact v_zreturn rfl (by rw [x2q]; exact x2z) dX6_isLetter_17
def jX6_isLetter_16 (h : Hp) : Option (Int32) :=
jX6_isLetter_17 (0 : Int32) h
set_option maxRecDepth 20000 in
set_option maxHeartbeats 4000000 in
theorem sjX6_isLetter_16 {Γ : Gm} {d : Nat} (hd : 1 ≤ d) {h : Hp} {r : Int32} (H : jX6_isLetter_16 h = some r) : V Γ d mX6_isLetter 16 [] [] h (some (.int r), h) := by
  unfold jX6_isLetter_16 at H
  refine v_iconst (v := 0) (q := 17) dX6_isLetter_16 (by decide) rfl ?_
  exact V.sub [] rfl (sjX6_isLetter_17 hd H)
def fX6_isLetter (h : Hp) (v0 : Int32) : Option (Int32) :=
if v0 < (97 : Int32) then (
jX6_isLetter_16 h) else (
if (122 : Int32) < v0 then (
jX6_isLetter_16 h) else (
jX6_isLetter_17 (1 : Int32) h))
set_option maxRecDepth 20000 in
set_option maxHeartbeats 4000000 in
theorem sX6_isLetter {Γ : Gm} {d : Nat} (hd : 1 ≤ d) {h : Hp} {v0 : Int32} {r : Int32} (H : fX6_isLetter h v0 = some r) : V Γ d mX6_isLetter 0 [(0, .int v0)] [] h (some (.int r), h) := by
  unfold fX6_isLetter at H
  refine v_iload_n (q := 1) 0 dX6_isLetter_0 rfl rfl rfl ?_
  refine v_bipush (v := 97) (q := 3) dX6_isLetter_1 (by decide) rfl ?_
  refine v_icmp_lt (q1 := 16) (q2 := 6) dX6_isLetter_3 (by decide) rfl (fun c1 => ?_) (fun c1 => ?_)
  · replace H := ip c1 H
    exact V.sub [] rfl (sjX6_isLetter_16 hd H)
  · replace H := ine c1 H
    refine v_iload_n (q := 7) 0 dX6_isLetter_6 rfl rfl rfl ?_
    refine v_bipush (v := 122) (q := 9) dX6_isLetter_7 (by decide) rfl ?_
    refine v_icmp_gt (q1 := 16) (q2 := 12) dX6_isLetter_9 (by decide) rfl (fun c3 => ?_) (fun c3 => ?_)
    · replace H := ip c3 H
      exact V.sub [] rfl (sjX6_isLetter_16 hd H)
    · replace H := ine c3 H
      refine v_iconst (v := 1) (q := 13) dX6_isLetter_12 (by decide) rfl ?_
      refine v_goto (q := 17) dX6_isLetter_13 (by decide) ?_
      exact V.sub [] rfl (sjX6_isLetter_17 hd H)
def mX6_wordNumber : MI := (yX6_wordNumber, cX6_wordNumber, 7, some .int)
theorem oX6_wordNumber : mOK mX6_wordNumber 0 := ⟨by decide +kernel, by decide +kernel, by decide +kernel, by decide, w0604, w0140⟩
def jX6_wordNumber_105 (u0 : Nat) (u1 : Int32) (v2 : Int32) (v3 : Int32) (v4 : Int32) (v5 : Int32) (h : Hp) : Option ((Int32 × Int32 × Int32 × Int32 × Hp) ⊕ ((Hp) ⊕ (Int32 × Hp))) :=
(some (v5 + (1 : Int32))).bind fun x10 =>
some (.inl (v2, v3, v4, x10, h))
set_option maxRecDepth 20000 in
set_option maxHeartbeats 4000000 in
theorem sjX6_wordNumber_105 {Γ : Gm} {d : Nat} (hd : 6 ≤ d) {u0 : Nat} {u1 : Int32} {v2 : Int32} {v3 : Int32} {v4 : Int32} {v5 : Int32} {h : Hp} {r : (Int32 × Int32 × Int32 × Int32 × Hp) ⊕ ((Hp) ⊕ (Int32 × Hp))} {t : Option Value × Hp} (H : jX6_wordNumber_105 u0 u1 v2 v3 v4 v5 h = some r) (kI : ∀ s, r = .inl s → (fun s20 => V Γ d mX6_wordNumber 20 [(0, .ref u0), (1, .int u1), (2, .int s20.1), (3, .int s20.2.1), (4, .int s20.2.2.1), (5, .int s20.2.2.2.1)] [] s20.2.2.2.2 t) s) (kE : ∀ e, r = .inr e → (fun e => (match e with | .inl a0 => V Γ d mX6_wordNumber 111 [] [] a0 t | .inr b0 => V Γ d mX6_wordNumber 95 [(2, .int b0.1)] [] b0.2 t)) e) : V Γ d mX6_wordNumber 105 [(0, .ref u0), (1, .int u1), (2, .int v2), (3, .int v3), (4, .int v4), (5, .int v5)] [] h t := by
  unfold jX6_wordNumber_105 at H
  replace H := bs H; obtain ⟨x10, x10e, H⟩ := H
  refine v_iinc (v := x10) (L' := [(5, .int x10), (0, .ref u0), (1, .int u1), (2, .int v2), (3, .int v3), (4, .int v4)]) (q := 108) 5 dX6_wordNumber_105 rfl (Option.some.inj x10e) (by decide) rfl rfl ?_
  refine v_goto (q := 20) dX6_wordNumber_108 (by decide) ?_
  exact V.sub [1, 2, 3, 4, 5, 0] rfl (kI (v2, v3, v4, x10, h) (Option.some.inj H).symm)
def jX6_wordNumber_97 (u0 : Nat) (u1 : Int32) (v2 : Int32) (v5 : Int32) (h : Hp) : Option ((Int32 × Int32 × Int32 × Int32 × Hp) ⊕ ((Hp) ⊕ (Int32 × Hp))) :=
(some (v2 + (1 : Int32))).bind fun x9 =>
jX6_wordNumber_105 u0 u1 x9 (0 : Int32) (1 : Int32) v5 h
set_option maxRecDepth 20000 in
set_option maxHeartbeats 4000000 in
theorem sjX6_wordNumber_97 {Γ : Gm} {d : Nat} (hd : 6 ≤ d) {u0 : Nat} {u1 : Int32} {v2 : Int32} {v5 : Int32} {h : Hp} {r : (Int32 × Int32 × Int32 × Int32 × Hp) ⊕ ((Hp) ⊕ (Int32 × Hp))} {t : Option Value × Hp} (H : jX6_wordNumber_97 u0 u1 v2 v5 h = some r) (kI : ∀ s, r = .inl s → (fun s20 => V Γ d mX6_wordNumber 20 [(0, .ref u0), (1, .int u1), (2, .int s20.1), (3, .int s20.2.1), (4, .int s20.2.2.1), (5, .int s20.2.2.2.1)] [] s20.2.2.2.2 t) s) (kE : ∀ e, r = .inr e → (fun e => (match e with | .inl a0 => V Γ d mX6_wordNumber 111 [] [] a0 t | .inr b0 => V Γ d mX6_wordNumber 95 [(2, .int b0.1)] [] b0.2 t)) e) : V Γ d mX6_wordNumber 97 [(0, .ref u0), (1, .int u1), (2, .int v2), (5, .int v5)] [] h t := by
  unfold jX6_wordNumber_97 at H
  replace H := bs H; obtain ⟨x9, x9e, H⟩ := H
  refine v_iinc (v := x9) (L' := [(2, .int x9), (0, .ref u0), (1, .int u1), (5, .int v5)]) (q := 100) 2 dX6_wordNumber_97 rfl (Option.some.inj x9e) (by decide) rfl rfl ?_
  refine v_iconst (v := 0) (q := 101) dX6_wordNumber_100 (by decide) rfl ?_
  refine v_istore_n (L' := [(3, .int (0 : Int32)), (2, .int x9), (0, .ref u0), (1, .int u1), (5, .int v5)]) (q := 102) dX6_wordNumber_101 rfl (by decide) rfl rfl ?_
  refine v_iconst (v := 1) (q := 103) dX6_wordNumber_102 (by decide) rfl ?_
  refine v_istore (L' := [(4, .int (1 : Int32)), (3, .int (0 : Int32)), (2, .int x9), (0, .ref u0), (1, .int u1), (5, .int v5)]) (q := 105) dX6_wordNumber_103 (by decide) rfl rfl ?_
  exact V.sub [3, 4, 2, 1, 0, 5] rfl (sjX6_wordNumber_105 hd H kI kE)
def jX6_wordNumber_77 (u0 : Nat) (u1 : Int32) (v2 : Int32) (v3 : Int32) (v5 : Int32) (y0 : Int32) (h : Hp) : Option ((Int32 × Int32 × Int32 × Int32 × Hp) ⊕ ((Hp) ⊕ (Int32 × Hp))) :=
(some (v3 + (1 : Int32))).bind fun x13 =>
jX6_wordNumber_105 u0 u1 v2 x13 y0 v5 h
set_option maxRecDepth 20000 in
set_option maxHeartbeats 4000000 in
theorem sjX6_wordNumber_77 {Γ : Gm} {d : Nat} (hd : 6 ≤ d) {u0 : Nat} {u1 : Int32} {v2 : Int32} {v3 : Int32} {v5 : Int32} {y0 : Int32} {h : Hp} {r : (Int32 × Int32 × Int32 × Int32 × Hp) ⊕ ((Hp) ⊕ (Int32 × Hp))} {t : Option Value × Hp} (H : jX6_wordNumber_77 u0 u1 v2 v3 v5 y0 h = some r) (kI : ∀ s, r = .inl s → (fun s20 => V Γ d mX6_wordNumber 20 [(0, .ref u0), (1, .int u1), (2, .int s20.1), (3, .int s20.2.1), (4, .int s20.2.2.1), (5, .int s20.2.2.2.1)] [] s20.2.2.2.2 t) s) (kE : ∀ e, r = .inr e → (fun e => (match e with | .inl a0 => V Γ d mX6_wordNumber 111 [] [] a0 t | .inr b0 => V Γ d mX6_wordNumber 95 [(2, .int b0.1)] [] b0.2 t)) e) : V Γ d mX6_wordNumber 77 [(0, .ref u0), (1, .int u1), (2, .int v2), (3, .int v3), (5, .int v5)] [.int y0] h t := by
  unfold jX6_wordNumber_77 at H
  refine v_istore (L' := [(4, .int y0), (0, .ref u0), (1, .int u1), (2, .int v2), (3, .int v3), (5, .int v5)]) (q := 79) dX6_wordNumber_77 (by decide) rfl rfl ?_
  replace H := bs H; obtain ⟨x13, x13e, H⟩ := H
  refine v_iinc (v := x13) (L' := [(3, .int x13), (4, .int y0), (0, .ref u0), (1, .int u1), (2, .int v2), (5, .int v5)]) (q := 82) 4 dX6_wordNumber_79 rfl (Option.some.inj x13e) (by decide) rfl rfl ?_
  refine v_goto (q := 105) dX6_wordNumber_82 (by decide) ?_
  exact V.sub [2, 3, 4, 0, 1, 5] rfl (sjX6_wordNumber_105 hd H kI kE)
def jX6_wordNumber_76 (u0 : Nat) (u1 : Int32) (v2 : Int32) (v3 : Int32) (v5 : Int32) (h : Hp) : Option ((Int32 × Int32 × Int32 × Int32 × Hp) ⊕ ((Hp) ⊕ (Int32 × Hp))) :=
jX6_wordNumber_77 u0 u1 v2 v3 v5 (0 : Int32) h
set_option maxRecDepth 20000 in
set_option maxHeartbeats 4000000 in
theorem sjX6_wordNumber_76 {Γ : Gm} {d : Nat} (hd : 6 ≤ d) {u0 : Nat} {u1 : Int32} {v2 : Int32} {v3 : Int32} {v5 : Int32} {h : Hp} {r : (Int32 × Int32 × Int32 × Int32 × Hp) ⊕ ((Hp) ⊕ (Int32 × Hp))} {t : Option Value × Hp} (H : jX6_wordNumber_76 u0 u1 v2 v3 v5 h = some r) (kI : ∀ s, r = .inl s → (fun s20 => V Γ d mX6_wordNumber 20 [(0, .ref u0), (1, .int u1), (2, .int s20.1), (3, .int s20.2.1), (4, .int s20.2.2.1), (5, .int s20.2.2.2.1)] [] s20.2.2.2.2 t) s) (kE : ∀ e, r = .inr e → (fun e => (match e with | .inl a0 => V Γ d mX6_wordNumber 111 [] [] a0 t | .inr b0 => V Γ d mX6_wordNumber 95 [(2, .int b0.1)] [] b0.2 t)) e) : V Γ d mX6_wordNumber 76 [(0, .ref u0), (1, .int u1), (2, .int v2), (3, .int v3), (5, .int v5)] [] h t := by
  unfold jX6_wordNumber_76 at H
  refine v_iconst (v := 0) (q := 77) dX6_wordNumber_76 (by decide) rfl ?_
  exact V.sub [0, 1, 2, 3, 4] rfl (sjX6_wordNumber_77 hd H kI kE)
def bX6_wordNumber_20 (u0 : Nat) (u1 : Int32) (s20 : Int32 × Int32 × Int32 × Int32 × Hp) : Option ((Int32 × Int32 × Int32 × Int32 × Hp) ⊕ ((Hp) ⊕ (Int32 × Hp))) :=
(fJ0_length_8abf5 s20.2.2.2.2).bind fun x4 =>
if x4 ≤ s20.2.2.2.1 then (
some (.inr (.inl s20.2.2.2.2))) else (
(fJ0_charAt_5068e s20.2.2.2.2 s20.2.2.2.1).bind fun x6 =>
if x6.1 = (32 : Int32) then (
if s20.2.2.1 = 0 then (
jX6_wordNumber_97 u0 u1 s20.1 s20.2.2.2.1 x6.2) else (
if s20.2.1 = u1 then (
some (.inr (.inr (s20.1, x6.2)))) else (
jX6_wordNumber_97 u0 u1 s20.1 s20.2.2.2.1 x6.2))) else (
if s20.2.2.1 = 0 then (
jX6_wordNumber_76 u0 u1 s20.1 s20.2.1 s20.2.2.2.1 x6.2) else (
if u1 ≤ s20.2.1 then (
jX6_wordNumber_76 u0 u1 s20.1 s20.2.1 s20.2.2.2.1 x6.2) else (
(gR x6.2 6 u0 2).bind fun x15 =>
(gI x6.2 6 u0 6).bind fun x16 =>
(lI x6.2 .byte x15 (x16 + s20.2.1)).bind fun x17 =>
if x17 = x6.1 then (
jX6_wordNumber_77 u0 u1 s20.1 s20.2.1 s20.2.2.2.1 (1 : Int32) x6.2) else (
jX6_wordNumber_76 u0 u1 s20.1 s20.2.1 s20.2.2.2.1 x6.2)))))
set_option maxRecDepth 20000 in
set_option maxHeartbeats 4000000 in
theorem sbX6_wordNumber_20 {Γ : Gm} {d : Nat} (hd : 6 ≤ d) {u0 : Nat} {u1 : Int32} {s20 : Int32 × Int32 × Int32 × Int32 × Hp} {r : (Int32 × Int32 × Int32 × Int32 × Hp) ⊕ ((Hp) ⊕ (Int32 × Hp))} {t : Option Value × Hp} (H : bX6_wordNumber_20 u0 u1 s20 = some r) (kI : ∀ s, r = .inl s → (fun s20 => V Γ d mX6_wordNumber 20 [(0, .ref u0), (1, .int u1), (2, .int s20.1), (3, .int s20.2.1), (4, .int s20.2.2.1), (5, .int s20.2.2.2.1)] [] s20.2.2.2.2 t) s) (kE : ∀ e, r = .inr e → (fun e => (match e with | .inl a0 => V Γ d mX6_wordNumber 111 [] [] a0 t | .inr b0 => V Γ d mX6_wordNumber 95 [(2, .int b0.1)] [] b0.2 t)) e) : V Γ d mX6_wordNumber 20 [(0, .ref u0), (1, .int u1), (2, .int s20.1), (3, .int s20.2.1), (4, .int s20.2.2.1), (5, .int s20.2.2.2.1)] [] s20.2.2.2.2 t := by
  unfold bX6_wordNumber_20 at H
  refine v_iload (q := 22) 5 dX6_wordNumber_20 rfl rfl ?_
  refine v_ldcS (q := 24) rfl dX6_wordNumber_22 rfl ?_
  replace H := bs H; obtain ⟨x4, x4e, H⟩ := H
  refine v_callX (M' := mJ0_length_8abf5) (d' := 2) (As := []) (st := [.int s20.2.2.2.1]) (q := 27) oJ0_length_8abf5 rfl dX6_wordNumber_24 w0606 w0607 w0608 rfl (Nat.le_of_ble_eq_true rfl) (Nat.le_of_ble_eq_true rfl) (Nat.lt_of_lt_of_le (by decide) hd) rfl (sJ0_length_8abf5 (Nat.le_refl _) x4e) rfl ?_
  refine v_icmp_ge (q1 := 111) (q2 := 30) dX6_wordNumber_27 (by decide) rfl (fun c5 => ?_) (fun c5 => ?_)
  · replace H := ip c5 H
    exact V.sub [] rfl (kE (.inl s20.2.2.2.2) (Option.some.inj H).symm)
  · replace H := ine c5 H
    refine v_ldcS (q := 32) rfl dX6_wordNumber_30 rfl ?_
    refine v_iload (q := 34) 5 dX6_wordNumber_32 rfl rfl ?_
    replace H := bs H; obtain ⟨x6, x6e, H⟩ := H
    refine v_callX (M' := mJ0_charAt_5068e) (d' := 5) (As := [.int s20.2.2.2.1]) (st := []) (q := 37) oJ0_charAt_5068e rfl dX6_wordNumber_34 w0616 w0617 w0618 rfl (Nat.le_of_ble_eq_true rfl) (Nat.le_of_ble_eq_true rfl) (Nat.lt_of_lt_of_le (by decide) hd) rfl (sJ0_charAt_5068e (Nat.le_refl _) x6e) rfl ?_
    refine v_istore (L' := [(6, .int x6.1), (0, .ref u0), (1, .int u1), (2, .int s20.1), (3, .int s20.2.1), (4, .int s20.2.2.1), (5, .int s20.2.2.2.1)]) (q := 39) dX6_wordNumber_37 (by decide) rfl rfl ?_
    refine v_iload (q := 41) 0 dX6_wordNumber_39 rfl rfl ?_
    refine v_bipush (v := 32) (q := 43) dX6_wordNumber_41 (by decide) rfl ?_
    refine v_icmp_eq (q1 := 85) (q2 := 46) dX6_wordNumber_43 (by decide) rfl (fun c7 => ?_) (fun c7 => ?_)
    · replace H := ip c7 H
      refine v_iload (q := 87) 5 dX6_wordNumber_85 rfl rfl ?_
      refine v_if_eq (q1 := 97) (q2 := 90) dX6_wordNumber_87 (by decide) rfl (fun c8 => ?_) (fun c8 => ?_)
      · replace H := ip c8 H
        exact V.sub [1, 2, 3, 6] rfl (sjX6_wordNumber_97 hd H kI kE)
      · replace H := ine c8 H
        refine v_iload_n (q := 91) 4 dX6_wordNumber_90 rfl rfl rfl ?_
        refine v_iload_n (q := 92) 2 dX6_wordNumber_91 rfl rfl rfl ?_
        refine v_icmp_ne (q1 := 97) (q2 := 95) dX6_wordNumber_92 (by decide) rfl (fun c11 => ?_) (fun c11 => ?_)
        · replace H := ine c11 H
          exact V.sub [1, 2, 3, 6] rfl (sjX6_wordNumber_97 hd H kI kE)
        · replace H := ip c11 H
          exact V.sub [3] rfl (kE (.inr (s20.1, x6.2)) (Option.some.inj H).symm)
    · replace H := ine c7 H
      refine v_iload (q := 48) 5 dX6_wordNumber_46 rfl rfl ?_
      refine v_if_eq (q1 := 76) (q2 := 51) dX6_wordNumber_48 (by decide) rfl (fun c12 => ?_) (fun c12 => ?_)
      · replace H := ip c12 H
        exact V.sub [1, 2, 3, 4, 6] rfl (sjX6_wordNumber_76 hd H kI kE)
      · replace H := ine c12 H
        refine v_iload_n (q := 52) 4 dX6_wordNumber_51 rfl rfl rfl ?_
        refine v_iload_n (q := 53) 2 dX6_wordNumber_52 rfl rfl rfl ?_
        refine v_icmp_ge (q1 := 76) (q2 := 56) dX6_wordNumber_53 (by decide) rfl (fun c14 => ?_) (fun c14 => ?_)
        · replace H := ip c14 H
          exact V.sub [1, 2, 3, 4, 6] rfl (sjX6_wordNumber_76 hd H kI kE)
        · replace H := ine c14 H
          refine v_aload_n (q := 57) 1 dX6_wordNumber_56 rfl rfl rfl ?_
          replace H := bs H; obtain ⟨x15, x15e, H⟩ := H
          refine u_gR (q := 60) (r := (RX6, TX6, 13)) x15e dX6_wordNumber_57 w0178 rfl (by decide) rfl rfl ?_
          refine v_aload_n (q := 61) 1 dX6_wordNumber_60 rfl rfl rfl ?_
          replace H := bs H; obtain ⟨x16, x16e, H⟩ := H
          refine u_gI (q := 64) (r := (RX6, TX6, 13)) x16e dX6_wordNumber_61 w0182 rfl (by decide) rfl rfl ?_
          refine v_iload_n (q := 65) 4 dX6_wordNumber_64 rfl rfl rfl ?_
          refine v_iadd (q := 66) dX6_wordNumber_65 rfl ?_
          replace H := bs H; obtain ⟨x17, x17e, H⟩ := H
          refine u_lB (q := 67) x17e dX6_wordNumber_66 rfl ?_
          refine v_iload (q := 69) 0 dX6_wordNumber_67 rfl rfl ?_
          refine v_icmp_ne (q1 := 76) (q2 := 72) dX6_wordNumber_69 (by decide) rfl (fun c18 => ?_) (fun c18 => ?_)
          · replace H := ine c18 H
            exact V.sub [1, 2, 3, 4, 6] rfl (sjX6_wordNumber_76 hd H kI kE)
          · replace H := ip c18 H
            refine v_iconst (v := 1) (q := 73) dX6_wordNumber_72 (by decide) rfl ?_
            refine v_goto (q := 77) dX6_wordNumber_73 (by decide) ?_
            exact V.sub [1, 2, 3, 4, 6] rfl (sjX6_wordNumber_77 hd H kI kE)
def fX6_wordNumber (h : Hp) (v0 : Nat) : Option (Int32 × Hp) :=
(gI h 6 v0 7).bind fun x1 =>
(gI h 6 v0 6).bind fun x2 =>
(some (x1 - x2)).bind fun x3 =>
(lp (bX6_wordNumber_20 v0 x3) FU ((0 : Int32), (0 : Int32), (1 : Int32), (0 : Int32), h)).bind fun e19 =>
(match e19 with
| .inl e20 => (
some (((15 : Int32), e20)))
| .inr e21 => (
some (e21.1, e21.2)))
set_option maxRecDepth 20000 in
set_option maxHeartbeats 4000000 in
theorem sX6_wordNumber {Γ : Gm} {d : Nat} (hd : 6 ≤ d) {h : Hp} {v0 : Nat} {r : Int32 × Hp} (H : fX6_wordNumber h v0 = some r) : V Γ d mX6_wordNumber 0 [(0, .ref v0)] [] h (some (.int r.1), r.2) := by
  unfold fX6_wordNumber at H
  refine v_aload_n (q := 1) 0 dX6_wordNumber_0 rfl rfl rfl ?_
  replace H := bs H; obtain ⟨x1, x1e, H⟩ := H
  refine u_gI (q := 4) (r := (RX6, TX6, 13)) x1e dX6_wordNumber_1 w0183 rfl (by decide) rfl rfl ?_
  refine v_aload_n (q := 5) 0 dX6_wordNumber_4 rfl rfl rfl ?_
  replace H := bs H; obtain ⟨x2, x2e, H⟩ := H
  refine u_gI (q := 8) (r := (RX6, TX6, 13)) x2e dX6_wordNumber_5 w0182 rfl (by decide) rfl rfl ?_
  refine v_isub (q := 9) dX6_wordNumber_8 rfl ?_
  replace H := bs H; obtain ⟨x3, x3e, H⟩ := H
  refine v_topi (Option.some.inj x3e) ?_
  refine v_istore_n (L' := [(1, .int x3), (0, .ref v0)]) (q := 10) dX6_wordNumber_9 rfl (by decide) rfl rfl ?_
  refine v_iconst (v := 0) (q := 11) dX6_wordNumber_10 (by decide) rfl ?_
  refine v_istore_n (L' := [(2, .int (0 : Int32)), (1, .int x3), (0, .ref v0)]) (q := 12) dX6_wordNumber_11 rfl (by decide) rfl rfl ?_
  refine v_iconst (v := 0) (q := 13) dX6_wordNumber_12 (by decide) rfl ?_
  refine v_istore_n (L' := [(3, .int (0 : Int32)), (2, .int (0 : Int32)), (1, .int x3), (0, .ref v0)]) (q := 14) dX6_wordNumber_13 rfl (by decide) rfl rfl ?_
  refine v_iconst (v := 1) (q := 15) dX6_wordNumber_14 (by decide) rfl ?_
  refine v_istore (L' := [(4, .int (1 : Int32)), (3, .int (0 : Int32)), (2, .int (0 : Int32)), (1, .int x3), (0, .ref v0)]) (q := 17) dX6_wordNumber_15 (by decide) rfl rfl ?_
  refine v_iconst (v := 0) (q := 18) dX6_wordNumber_17 (by decide) rfl ?_
  refine v_istore (L' := [(5, .int (0 : Int32)), (4, .int (1 : Int32)), (3, .int (0 : Int32)), (2, .int (0 : Int32)), (1, .int x3), (0, .ref v0)]) (q := 20) dX6_wordNumber_18 (by decide) rfl rfl ?_
  replace H := bs H; obtain ⟨e19, e19L, H⟩ := H
  refine V.sub [5, 4, 3, 2, 1, 0] rfl ?_
  refine lp_V (P := (fun s20 => V Γ d mX6_wordNumber 20 [(0, .ref v0), (1, .int x3), (2, .int s20.1), (3, .int s20.2.1), (4, .int s20.2.2.1), (5, .int s20.2.2.2.1)] [] s20.2.2.2.2 (some (.int r.1), r.2))) (E := (fun e => (match e with | .inl a0 => V Γ d mX6_wordNumber 111 [] [] a0 (some (.int r.1), r.2) | .inr b0 => V Γ d mX6_wordNumber 95 [(2, .int b0.1)] [] b0.2 (some (.int r.1), r.2)))) (fun s r hb kI kE => sbX6_wordNumber_20 hd (s20 := s) (r := r) hb kI kE) FU ((0 : Int32), (0 : Int32), (1 : Int32), (0 : Int32), h) e19 e19L ?_
  rcases e19 with e20 | e21
  · skip
    refine v_bipush (v := 15) (q := 113) dX6_wordNumber_111 (by decide) rfl ?_
    cases H
    exact v_ireturn rfl dX6_wordNumber_113
  · skip
    refine v_iload_n (q := 96) 0 dX6_wordNumber_95 rfl rfl rfl ?_
    cases H
    exact v_ireturn rfl dX6_wordNumber_96
def mX6_nextToken : MI := (yX6_nextToken, cX6_nextToken, 1, none)
theorem oX6_nextToken : mOK mX6_nextToken 0 := ⟨by decide +kernel, by decide +kernel, by decide +kernel, by decide, w0597, w0140⟩
def jX6_nextToken_47 (u0 : Nat) (h : Hp) : Option ((Hp) ⊕ (Hp)) :=
(gI h 6 u0 6).bind fun x10 =>
(pI h 6 u0 6 (x10 + (1 : Int32))).bind fun h11 =>
some (.inl h11)
set_option maxRecDepth 20000 in
set_option maxHeartbeats 4000000 in
theorem sjX6_nextToken_47 {Γ : Gm} {d : Nat} (hd : 7 ≤ d) {u0 : Nat} {h : Hp} {r : (Hp) ⊕ (Hp)} {t : Option Value × Hp} (H : jX6_nextToken_47 u0 h = some r) (kI : ∀ s, r = .inl s → (fun s8 => V Γ d mX6_nextToken 8 [(0, .ref u0)] [] s8 t) s) (kE : ∀ e, r = .inr e → (fun e => V Γ d mX6_nextToken 60 [(0, .ref u0)] [] e t) e) : V Γ d mX6_nextToken 47 [(0, .ref u0)] [] h t := by
  unfold jX6_nextToken_47 at H
  refine v_aload_n (q := 48) 0 dX6_nextToken_47 rfl rfl rfl ?_
  refine v_dup (q := 49) dX6_nextToken_48 rfl rfl ?_
  replace H := bs H; obtain ⟨x10, x10e, H⟩ := H
  refine u_gI (q := 52) (r := (RX6, TX6, 13)) x10e dX6_nextToken_49 w0182 rfl (by decide) rfl rfl ?_
  refine v_iconst (v := 1) (q := 53) dX6_nextToken_52 (by decide) rfl ?_
  refine v_iadd (q := 54) dX6_nextToken_53 rfl ?_
  replace H := bs H; obtain ⟨h11, h11e, H⟩ := H
  refine u_pI (q := 57) (r := (RX6, TX6, 13)) h11e dX6_nextToken_54 w0182 rfl (by decide) (Or.inl rfl) rfl rfl ?_
  refine v_goto (q := 8) dX6_nextToken_57 (by decide) ?_
  exact V.sub [0] rfl (kI h11 (Option.some.inj H).symm)
def bX6_nextToken_8 (u0 : Nat) (s8 : Hp) : Option ((Hp) ⊕ (Hp)) :=
(gI s8 6 u0 6).bind fun x3 =>
(gI s8 6 u0 3).bind fun x4 =>
if x4 ≤ x3 then (
some (.inr s8)) else (
(gR s8 6 u0 2).bind fun x6 =>
(gI s8 6 u0 6).bind fun x7 =>
(lI s8 .byte x6 x7).bind fun x8 =>
if x8 = (32 : Int32) then (
jX6_nextToken_47 u0 s8) else (
(gR s8 6 u0 2).bind fun x12 =>
(gI s8 6 u0 6).bind fun x13 =>
(lI s8 .byte x12 x13).bind fun x14 =>
if x14 = (10 : Int32) then (
jX6_nextToken_47 u0 s8) else (
some (.inr s8))))
set_option maxRecDepth 20000 in
set_option maxHeartbeats 4000000 in
theorem sbX6_nextToken_8 {Γ : Gm} {d : Nat} (hd : 7 ≤ d) {u0 : Nat} {s8 : Hp} {r : (Hp) ⊕ (Hp)} {t : Option Value × Hp} (H : bX6_nextToken_8 u0 s8 = some r) (kI : ∀ s, r = .inl s → (fun s8 => V Γ d mX6_nextToken 8 [(0, .ref u0)] [] s8 t) s) (kE : ∀ e, r = .inr e → (fun e => V Γ d mX6_nextToken 60 [(0, .ref u0)] [] e t) e) : V Γ d mX6_nextToken 8 [(0, .ref u0)] [] s8 t := by
  unfold bX6_nextToken_8 at H
  refine v_aload_n (q := 9) 0 dX6_nextToken_8 rfl rfl rfl ?_
  replace H := bs H; obtain ⟨x3, x3e, H⟩ := H
  refine u_gI (q := 12) (r := (RX6, TX6, 13)) x3e dX6_nextToken_9 w0182 rfl (by decide) rfl rfl ?_
  refine v_aload_n (q := 13) 0 dX6_nextToken_12 rfl rfl rfl ?_
  replace H := bs H; obtain ⟨x4, x4e, H⟩ := H
  refine u_gI (q := 16) (r := (RX6, TX6, 13)) x4e dX6_nextToken_13 w0179 rfl (by decide) rfl rfl ?_
  refine v_icmp_ge (q1 := 60) (q2 := 19) dX6_nextToken_16 (by decide) rfl (fun c5 => ?_) (fun c5 => ?_)
  · replace H := ip c5 H
    exact V.sub [0] rfl (kE s8 (Option.some.inj H).symm)
  · replace H := ine c5 H
    refine v_aload_n (q := 20) 0 dX6_nextToken_19 rfl rfl rfl ?_
    replace H := bs H; obtain ⟨x6, x6e, H⟩ := H
    refine u_gR (q := 23) (r := (RX6, TX6, 13)) x6e dX6_nextToken_20 w0178 rfl (by decide) rfl rfl ?_
    refine v_aload_n (q := 24) 0 dX6_nextToken_23 rfl rfl rfl ?_
    replace H := bs H; obtain ⟨x7, x7e, H⟩ := H
    refine u_gI (q := 27) (r := (RX6, TX6, 13)) x7e dX6_nextToken_24 w0182 rfl (by decide) rfl rfl ?_
    replace H := bs H; obtain ⟨x8, x8e, H⟩ := H
    refine u_lB (q := 28) x8e dX6_nextToken_27 rfl ?_
    refine v_bipush (v := 32) (q := 30) dX6_nextToken_28 (by decide) rfl ?_
    refine v_icmp_eq (q1 := 47) (q2 := 33) dX6_nextToken_30 (by decide) rfl (fun c9 => ?_) (fun c9 => ?_)
    · replace H := ip c9 H
      exact V.sub [0] rfl (sjX6_nextToken_47 hd H kI kE)
    · replace H := ine c9 H
      refine v_aload_n (q := 34) 0 dX6_nextToken_33 rfl rfl rfl ?_
      replace H := bs H; obtain ⟨x12, x12e, H⟩ := H
      refine u_gR (q := 37) (r := (RX6, TX6, 13)) x12e dX6_nextToken_34 w0178 rfl (by decide) rfl rfl ?_
      refine v_aload_n (q := 38) 0 dX6_nextToken_37 rfl rfl rfl ?_
      replace H := bs H; obtain ⟨x13, x13e, H⟩ := H
      refine u_gI (q := 41) (r := (RX6, TX6, 13)) x13e dX6_nextToken_38 w0182 rfl (by decide) rfl rfl ?_
      replace H := bs H; obtain ⟨x14, x14e, H⟩ := H
      refine u_lB (q := 42) x14e dX6_nextToken_41 rfl ?_
      refine v_bipush (v := 10) (q := 44) dX6_nextToken_42 (by decide) rfl ?_
      refine v_icmp_ne (q1 := 60) (q2 := 47) dX6_nextToken_44 (by decide) rfl (fun c15 => ?_) (fun c15 => ?_)
      · replace H := ine c15 H
        exact V.sub [0] rfl (kE s8 (Option.some.inj H).symm)
      · replace H := ip c15 H
        exact V.sub [0] rfl (sjX6_nextToken_47 hd H kI kE)
def jX6_nextToken_192 (h : Hp) : Option (Hp) :=
some h
set_option maxRecDepth 20000 in
set_option maxHeartbeats 4000000 in
theorem sjX6_nextToken_192 {Γ : Gm} {d : Nat} (hd : 7 ≤ d) {h : Hp} {r : Hp} (H : jX6_nextToken_192 h = some r) : V Γ d mX6_nextToken 192 [] [] h (none, r) := by
  unfold jX6_nextToken_192 at H
  cases H
  exact v_return rfl dX6_nextToken_192
def bX6_nextToken_136 (u0 : Nat) (s136 : Hp) : Option ((Hp) ⊕ (Hp)) :=
(gI s136 6 u0 7).bind fun x32 =>
(gI s136 6 u0 3).bind fun x33 =>
if x33 ≤ x32 then (
some (.inr s136)) else (
(gR s136 6 u0 2).bind fun x35 =>
(gI s136 6 u0 7).bind fun x36 =>
(lI s136 .byte x35 x36).bind fun x37 =>
(fX6_isLetter s136 x37).bind fun x38 =>
if x38 = 0 then (
some (.inr s136)) else (
(gI s136 6 u0 7).bind fun x40 =>
(pI s136 6 u0 7 (x40 + (1 : Int32))).bind fun h41 =>
some (.inl h41)))
set_option maxRecDepth 20000 in
set_option maxHeartbeats 4000000 in
theorem sbX6_nextToken_136 {Γ : Gm} {d : Nat} (hd : 7 ≤ d) {u0 : Nat} {s136 : Hp} {r : (Hp) ⊕ (Hp)} {t : Option Value × Hp} (H : bX6_nextToken_136 u0 s136 = some r) (kI : ∀ s, r = .inl s → (fun s136 => V Γ d mX6_nextToken 136 [(0, .ref u0)] [] s136 t) s) (kE : ∀ e, r = .inr e → (fun e => V Γ d mX6_nextToken 175 [(0, .ref u0)] [] e t) e) : V Γ d mX6_nextToken 136 [(0, .ref u0)] [] s136 t := by
  unfold bX6_nextToken_136 at H
  refine v_aload_n (q := 137) 0 dX6_nextToken_136 rfl rfl rfl ?_
  replace H := bs H; obtain ⟨x32, x32e, H⟩ := H
  refine u_gI (q := 140) (r := (RX6, TX6, 13)) x32e dX6_nextToken_137 w0183 rfl (by decide) rfl rfl ?_
  refine v_aload_n (q := 141) 0 dX6_nextToken_140 rfl rfl rfl ?_
  replace H := bs H; obtain ⟨x33, x33e, H⟩ := H
  refine u_gI (q := 144) (r := (RX6, TX6, 13)) x33e dX6_nextToken_141 w0179 rfl (by decide) rfl rfl ?_
  refine v_icmp_ge (q1 := 175) (q2 := 147) dX6_nextToken_144 (by decide) rfl (fun c34 => ?_) (fun c34 => ?_)
  · replace H := ip c34 H
    exact V.sub [0] rfl (kE s136 (Option.some.inj H).symm)
  · replace H := ine c34 H
    refine v_aload_n (q := 148) 0 dX6_nextToken_147 rfl rfl rfl ?_
    replace H := bs H; obtain ⟨x35, x35e, H⟩ := H
    refine u_gR (q := 151) (r := (RX6, TX6, 13)) x35e dX6_nextToken_148 w0178 rfl (by decide) rfl rfl ?_
    refine v_aload_n (q := 152) 0 dX6_nextToken_151 rfl rfl rfl ?_
    replace H := bs H; obtain ⟨x36, x36e, H⟩ := H
    refine u_gI (q := 155) (r := (RX6, TX6, 13)) x36e dX6_nextToken_152 w0183 rfl (by decide) rfl rfl ?_
    replace H := bs H; obtain ⟨x37, x37e, H⟩ := H
    refine u_lB (q := 156) x37e dX6_nextToken_155 rfl ?_
    replace H := bs H; obtain ⟨x38, x38e, H⟩ := H
    refine u_callS1 (M' := mX6_isLetter) (d' := 1) (As := [.int x37]) (st := []) (q := 159) oX6_isLetter dX6_nextToken_156 w0598 w0599 rfl (Nat.le_of_ble_eq_true rfl) (Nat.le_of_ble_eq_true rfl) (Nat.lt_of_lt_of_le (by decide) hd) rfl (sX6_isLetter (Nat.le_refl _) x38e) rfl ?_
    refine v_if_eq (q1 := 175) (q2 := 162) dX6_nextToken_159 (by decide) rfl (fun c39 => ?_) (fun c39 => ?_)
    · replace H := ip c39 H
      exact V.sub [0] rfl (kE s136 (Option.some.inj H).symm)
    · replace H := ine c39 H
      refine v_aload_n (q := 163) 0 dX6_nextToken_162 rfl rfl rfl ?_
      refine v_dup (q := 164) dX6_nextToken_163 rfl rfl ?_
      replace H := bs H; obtain ⟨x40, x40e, H⟩ := H
      refine u_gI (q := 167) (r := (RX6, TX6, 13)) x40e dX6_nextToken_164 w0183 rfl (by decide) rfl rfl ?_
      refine v_iconst (v := 1) (q := 168) dX6_nextToken_167 (by decide) rfl ?_
      refine v_iadd (q := 169) dX6_nextToken_168 rfl ?_
      replace H := bs H; obtain ⟨h41, h41e, H⟩ := H
      refine u_pI (q := 172) (r := (RX6, TX6, 13)) h41e dX6_nextToken_169 w0183 rfl (by decide) (Or.inl rfl) rfl rfl ?_
      refine v_goto (q := 136) dX6_nextToken_172 (by decide) ?_
      exact V.sub [0] rfl (kI h41 (Option.some.inj H).symm)
def fX6_nextToken (h : Hp) (v0 : Nat) : Option (Hp) :=
(gI h 6 v0 7).bind fun x1 =>
(pI h 6 v0 6 x1).bind fun h2 =>
(lp (bX6_nextToken_8 v0) FU h2).bind fun e16 =>
(gI e16 6 v0 6).bind fun x17 =>
(pI e16 6 v0 7 x17).bind fun h18 =>
(gI h18 6 v0 6).bind fun x19 =>
(gI h18 6 v0 3).bind fun x20 =>
if x19 = x20 then (
(pI h18 6 v0 5 (17 : Int32)).bind fun h49 =>
jX6_nextToken_192 h49) else (
(gR h18 6 v0 2).bind fun x22 =>
(gI h18 6 v0 6).bind fun x23 =>
(lI h18 .byte x22 x23).bind fun x24 =>
if x24 = (59 : Int32) then (
(pI h18 6 v0 5 (16 : Int32)).bind fun h46 =>
(gI h46 6 v0 7).bind fun x47 =>
(pI h46 6 v0 7 (x47 + (1 : Int32))).bind fun h48 =>
jX6_nextToken_192 h48) else (
(gR h18 6 v0 2).bind fun x26 =>
(gI h18 6 v0 6).bind fun x27 =>
(lI h18 .byte x26 x27).bind fun x28 =>
(fX6_isLetter h18 x28).bind fun x29 =>
if x29 = 0 then (
(pI h18 6 v0 5 (18 : Int32)).bind fun h31 =>
jX6_nextToken_192 h31) else (
(lp (bX6_nextToken_136 v0) FU h18).bind fun e42 =>
(gO e42 6 v0).bind fun _ =>
(fX6_wordNumber e42 v0).bind fun x44 =>
(pI x44.2 6 v0 5 x44.1).bind fun h45 =>
jX6_nextToken_192 h45)))
set_option maxRecDepth 20000 in
set_option maxHeartbeats 4000000 in
theorem sX6_nextToken {Γ : Gm} {d : Nat} (hd : 7 ≤ d) {h : Hp} {v0 : Nat} {r : Hp} (H : fX6_nextToken h v0 = some r) : V Γ d mX6_nextToken 0 [(0, .ref v0)] [] h (none, r) := by
  unfold fX6_nextToken at H
  refine v_aload_n (q := 1) 0 dX6_nextToken_0 rfl rfl rfl ?_
  refine v_aload_n (q := 2) 0 dX6_nextToken_1 rfl rfl rfl ?_
  replace H := bs H; obtain ⟨x1, x1e, H⟩ := H
  refine u_gI (q := 5) (r := (RX6, TX6, 13)) x1e dX6_nextToken_2 w0183 rfl (by decide) rfl rfl ?_
  replace H := bs H; obtain ⟨h2, h2e, H⟩ := H
  refine u_pI (q := 8) (r := (RX6, TX6, 13)) h2e dX6_nextToken_5 w0182 rfl (by decide) (Or.inl rfl) rfl rfl ?_
  replace H := bs H; obtain ⟨e16, e16L, H⟩ := H
  refine V.sub [0] rfl ?_
  refine lp_V (P := (fun s8 => V Γ d mX6_nextToken 8 [(0, .ref v0)] [] s8 (none, r))) (E := (fun e => V Γ d mX6_nextToken 60 [(0, .ref v0)] [] e (none, r))) (fun s r hb kI kE => sbX6_nextToken_8 hd (s8 := s) (r := r) hb kI kE) FU h2 e16 e16L ?_
  refine v_aload_n (q := 61) 0 dX6_nextToken_60 rfl rfl rfl ?_
  refine v_aload_n (q := 62) 0 dX6_nextToken_61 rfl rfl rfl ?_
  replace H := bs H; obtain ⟨x17, x17e, H⟩ := H
  refine u_gI (q := 65) (r := (RX6, TX6, 13)) x17e dX6_nextToken_62 w0182 rfl (by decide) rfl rfl ?_
  replace H := bs H; obtain ⟨h18, h18e, H⟩ := H
  refine u_pI (q := 68) (r := (RX6, TX6, 13)) h18e dX6_nextToken_65 w0183 rfl (by decide) (Or.inl rfl) rfl rfl ?_
  refine v_aload_n (q := 69) 0 dX6_nextToken_68 rfl rfl rfl ?_
  replace H := bs H; obtain ⟨x19, x19e, H⟩ := H
  refine u_gI (q := 72) (r := (RX6, TX6, 13)) x19e dX6_nextToken_69 w0182 rfl (by decide) rfl rfl ?_
  refine v_aload_n (q := 73) 0 dX6_nextToken_72 rfl rfl rfl ?_
  replace H := bs H; obtain ⟨x20, x20e, H⟩ := H
  refine u_gI (q := 76) (r := (RX6, TX6, 13)) x20e dX6_nextToken_73 w0179 rfl (by decide) rfl rfl ?_
  refine v_icmp_ne (q1 := 88) (q2 := 79) dX6_nextToken_76 (by decide) rfl (fun c21 => ?_) (fun c21 => ?_)
  · replace H := ine c21 H
    refine v_aload_n (q := 89) 0 dX6_nextToken_88 rfl rfl rfl ?_
    replace H := bs H; obtain ⟨x22, x22e, H⟩ := H
    refine u_gR (q := 92) (r := (RX6, TX6, 13)) x22e dX6_nextToken_89 w0178 rfl (by decide) rfl rfl ?_
    refine v_aload_n (q := 93) 0 dX6_nextToken_92 rfl rfl rfl ?_
    replace H := bs H; obtain ⟨x23, x23e, H⟩ := H
    refine u_gI (q := 96) (r := (RX6, TX6, 13)) x23e dX6_nextToken_93 w0182 rfl (by decide) rfl rfl ?_
    replace H := bs H; obtain ⟨x24, x24e, H⟩ := H
    refine u_lB (q := 97) x24e dX6_nextToken_96 rfl ?_
    refine v_bipush (v := 59) (q := 99) dX6_nextToken_97 (by decide) rfl ?_
    refine v_icmp_ne (q1 := 121) (q2 := 102) dX6_nextToken_99 (by decide) rfl (fun c25 => ?_) (fun c25 => ?_)
    · replace H := ine c25 H
      refine v_aload_n (q := 122) 0 dX6_nextToken_121 rfl rfl rfl ?_
      replace H := bs H; obtain ⟨x26, x26e, H⟩ := H
      refine u_gR (q := 125) (r := (RX6, TX6, 13)) x26e dX6_nextToken_122 w0178 rfl (by decide) rfl rfl ?_
      refine v_aload_n (q := 126) 0 dX6_nextToken_125 rfl rfl rfl ?_
      replace H := bs H; obtain ⟨x27, x27e, H⟩ := H
      refine u_gI (q := 129) (r := (RX6, TX6, 13)) x27e dX6_nextToken_126 w0182 rfl (by decide) rfl rfl ?_
      replace H := bs H; obtain ⟨x28, x28e, H⟩ := H
      refine u_lB (q := 130) x28e dX6_nextToken_129 rfl ?_
      replace H := bs H; obtain ⟨x29, x29e, H⟩ := H
      refine u_callS1 (M' := mX6_isLetter) (d' := 1) (As := [.int x28]) (st := []) (q := 133) oX6_isLetter dX6_nextToken_130 w0598 w0599 rfl (Nat.le_of_ble_eq_true rfl) (Nat.le_of_ble_eq_true rfl) (Nat.lt_of_lt_of_le (by decide) hd) rfl (sX6_isLetter (Nat.le_refl _) x29e) rfl ?_
      refine v_if_eq (q1 := 186) (q2 := 136) dX6_nextToken_133 (by decide) rfl (fun c30 => ?_) (fun c30 => ?_)
      · replace H := ip c30 H
        refine v_aload_n (q := 187) 0 dX6_nextToken_186 rfl rfl rfl ?_
        refine v_bipush (v := 18) (q := 189) dX6_nextToken_187 (by decide) rfl ?_
        replace H := bs H; obtain ⟨h31, h31e, H⟩ := H
        refine u_pI (q := 192) (r := (RX6, TX6, 13)) h31e dX6_nextToken_189 w0181 rfl (by decide) (Or.inl rfl) rfl rfl ?_
        exact V.sub [] rfl (sjX6_nextToken_192 hd H)
      · replace H := ine c30 H
        replace H := bs H; obtain ⟨e42, e42L, H⟩ := H
        refine V.sub [0] rfl ?_
        refine lp_V (P := (fun s136 => V Γ d mX6_nextToken 136 [(0, .ref v0)] [] s136 (none, r))) (E := (fun e => V Γ d mX6_nextToken 175 [(0, .ref v0)] [] e (none, r))) (fun s r hb kI kE => sbX6_nextToken_136 hd (s136 := s) (r := r) hb kI kE) FU h18 e42 e42L ?_
        refine v_aload_n (q := 176) 0 dX6_nextToken_175 rfl rfl rfl ?_
        refine v_aload_n (q := 177) 0 dX6_nextToken_176 rfl rfl rfl ?_
        replace H := bs H; obtain ⟨_, o43, H⟩ := H
        replace H := bs H; obtain ⟨x44, x44e, H⟩ := H
        refine u_callV1 (M' := mX6_wordNumber) (d' := 6) (rc := (RX6, TX6, 13)) (As := []) (st := [.ref v0]) (q := 180) oX6_wordNumber dX6_nextToken_177 w0601 w0603 w0002 rfl rfl (gO_sp o43).1 (gO_sp o43).2 rfl (Nat.le_of_ble_eq_true rfl) (Nat.le_of_ble_eq_true rfl) (Nat.lt_of_lt_of_le (by decide) hd) rfl (sX6_wordNumber (Nat.le_refl _) x44e) rfl ?_
        replace H := bs H; obtain ⟨h45, h45e, H⟩ := H
        refine u_pI (q := 183) (r := (RX6, TX6, 13)) h45e dX6_nextToken_180 w0181 rfl (by decide) (Or.inl rfl) rfl rfl ?_
        refine v_goto (q := 192) dX6_nextToken_183 (by decide) ?_
        exact V.sub [] rfl (sjX6_nextToken_192 hd H)
    · replace H := ip c25 H
      refine v_aload_n (q := 103) 0 dX6_nextToken_102 rfl rfl rfl ?_
      refine v_bipush (v := 16) (q := 105) dX6_nextToken_103 (by decide) rfl ?_
      replace H := bs H; obtain ⟨h46, h46e, H⟩ := H
      refine u_pI (q := 108) (r := (RX6, TX6, 13)) h46e dX6_nextToken_105 w0181 rfl (by decide) (Or.inl rfl) rfl rfl ?_
      refine v_aload_n (q := 109) 0 dX6_nextToken_108 rfl rfl rfl ?_
      refine v_dup (q := 110) dX6_nextToken_109 rfl rfl ?_
      replace H := bs H; obtain ⟨x47, x47e, H⟩ := H
      refine u_gI (q := 113) (r := (RX6, TX6, 13)) x47e dX6_nextToken_110 w0183 rfl (by decide) rfl rfl ?_
      refine v_iconst (v := 1) (q := 114) dX6_nextToken_113 (by decide) rfl ?_
      refine v_iadd (q := 115) dX6_nextToken_114 rfl ?_
      replace H := bs H; obtain ⟨h48, h48e, H⟩ := H
      refine u_pI (q := 118) (r := (RX6, TX6, 13)) h48e dX6_nextToken_115 w0183 rfl (by decide) (Or.inl rfl) rfl rfl ?_
      refine v_goto (q := 192) dX6_nextToken_118 (by decide) ?_
      exact V.sub [] rfl (sjX6_nextToken_192 hd H)
  · replace H := ip c21 H
    refine v_aload_n (q := 80) 0 dX6_nextToken_79 rfl rfl rfl ?_
    refine v_bipush (v := 17) (q := 82) dX6_nextToken_80 (by decide) rfl ?_
    replace H := bs H; obtain ⟨h49, h49e, H⟩ := H
    refine u_pI (q := 85) (r := (RX6, TX6, 13)) h49e dX6_nextToken_82 w0181 rfl (by decide) (Or.inl rfl) rfl rfl ?_
    refine v_goto (q := 192) dX6_nextToken_85 (by decide) ?_
    exact V.sub [] rfl (sjX6_nextToken_192 hd H)
def mX6_fail : MI := (yX6_fail, cX6_fail, 2, none)
theorem oX6_fail : mOK mX6_fail 1 := ⟨by decide +kernel, by decide +kernel, by decide +kernel, by decide, w0661, w0140⟩
def fX6_fail (h : Hp) (v0 : Nat) (v1 : Int32) : Option (Hp) :=
(pI h 6 v0 0 v1).bind fun h1 =>
(gI h1 6 v0 6).bind fun x2 =>
(pI h1 6 v0 1 x2).bind fun h3 =>
some h3
set_option maxRecDepth 20000 in
set_option maxHeartbeats 4000000 in
theorem sX6_fail {Γ : Gm} {d : Nat} (hd : 1 ≤ d) {h : Hp} {v0 : Nat} {v1 : Int32} {r : Hp} (H : fX6_fail h v0 v1 = some r) : V Γ d mX6_fail 0 [(0, .ref v0), (1, .int v1)] [] h (none, r) := by
  unfold fX6_fail at H
  refine v_aload_n (q := 1) 0 dX6_fail_0 rfl rfl rfl ?_
  refine v_iload_n (q := 2) 1 dX6_fail_1 rfl rfl rfl ?_
  replace H := bs H; obtain ⟨h1, h1e, H⟩ := H
  refine u_pI (q := 5) (r := (RX6, TX6, 13)) h1e dX6_fail_2 w0174 rfl (by decide) (Or.inl rfl) rfl rfl ?_
  refine v_aload_n (q := 6) 0 dX6_fail_5 rfl rfl rfl ?_
  refine v_aload_n (q := 7) 0 dX6_fail_6 rfl rfl rfl ?_
  replace H := bs H; obtain ⟨x2, x2e, H⟩ := H
  refine u_gI (q := 10) (r := (RX6, TX6, 13)) x2e dX6_fail_7 w0182 rfl (by decide) rfl rfl ?_
  replace H := bs H; obtain ⟨h3, h3e, H⟩ := H
  refine u_pI (q := 13) (r := (RX6, TX6, 13)) h3e dX6_fail_10 w0176 rfl (by decide) (Or.inl rfl) rfl rfl ?_
  cases H
  exact v_return rfl dX6_fail_13
def mX6_isName : MI := (yX6_isName, cX6_isName, 4, some .boolean)
theorem oX6_isName : mOK mX6_isName 1 := ⟨by decide +kernel, by decide +kernel, by decide +kernel, by decide, w0673, w0140⟩
def bX6_isName_31 (u0 : Nat) (u1 : Int32) (u2 : Int32) (h : Hp) (s31 : Int32) : Option ((Int32) ⊕ ((Unit) ⊕ (Unit))) :=
if u2 ≤ s31 then (
some (.inr (.inl ()))) else (
(gR h 6 u0 2).bind fun x10 =>
(gR h 6 u0 9).bind fun x11 =>
(lI h .int x11 u1).bind fun x12 =>
(lI h .byte x10 (x12 + s31)).bind fun x13 =>
(gR h 6 u0 2).bind fun x14 =>
(gI h 6 u0 6).bind fun x15 =>
(lI h .byte x14 (x15 + s31)).bind fun x16 =>
if x13 = x16 then (
(some (s31 + (1 : Int32))).bind fun x18 =>
some (.inl x18)) else (
some (.inr (.inr ()))))
set_option maxRecDepth 20000 in
set_option maxHeartbeats 4000000 in
theorem sbX6_isName_31 {Γ : Gm} {d : Nat} (hd : 1 ≤ d) {u0 : Nat} {u1 : Int32} {u2 : Int32} {h : Hp} {s31 : Int32} {r : (Int32) ⊕ ((Unit) ⊕ (Unit))} {t : Option Value × Hp} (H : bX6_isName_31 u0 u1 u2 h s31 = some r) (kI : ∀ s, r = .inl s → (fun s31 => V Γ d mX6_isName 31 [(0, .ref u0), (1, .int u1), (2, .int u2), (3, .int s31)] [] h t) s) (kE : ∀ e, r = .inr e → (fun e => (match e with | .inl a0 => V Γ d mX6_isName 71 [] [] h t | .inr b0 => V Γ d mX6_isName 63 [] [] h t)) e) : V Γ d mX6_isName 31 [(0, .ref u0), (1, .int u1), (2, .int u2), (3, .int s31)] [] h t := by
  unfold bX6_isName_31 at H
  refine v_iload_n (q := 32) 3 dX6_isName_31 rfl rfl rfl ?_
  refine v_iload_n (q := 33) 2 dX6_isName_32 rfl rfl rfl ?_
  refine v_icmp_ge (q1 := 71) (q2 := 36) dX6_isName_33 (by decide) rfl (fun c9 => ?_) (fun c9 => ?_)
  · replace H := ip c9 H
    exact V.sub [] rfl (kE (.inl ()) (Option.some.inj H).symm)
  · replace H := ine c9 H
    refine v_aload_n (q := 37) 0 dX6_isName_36 rfl rfl rfl ?_
    replace H := bs H; obtain ⟨x10, x10e, H⟩ := H
    refine u_gR (q := 40) (r := (RX6, TX6, 13)) x10e dX6_isName_37 w0178 rfl (by decide) rfl rfl ?_
    refine v_aload_n (q := 41) 0 dX6_isName_40 rfl rfl rfl ?_
    replace H := bs H; obtain ⟨x11, x11e, H⟩ := H
    refine u_gR (q := 44) (r := (RX6, TX6, 13)) x11e dX6_isName_41 w0185 rfl (by decide) rfl rfl ?_
    refine v_iload_n (q := 45) 1 dX6_isName_44 rfl rfl rfl ?_
    replace H := bs H; obtain ⟨x12, x12e, H⟩ := H
    refine u_lI (q := 46) x12e dX6_isName_45 rfl ?_
    refine v_iload_n (q := 47) 3 dX6_isName_46 rfl rfl rfl ?_
    refine v_iadd (q := 48) dX6_isName_47 rfl ?_
    replace H := bs H; obtain ⟨x13, x13e, H⟩ := H
    refine u_lB (q := 49) x13e dX6_isName_48 rfl ?_
    refine v_aload_n (q := 50) 0 dX6_isName_49 rfl rfl rfl ?_
    replace H := bs H; obtain ⟨x14, x14e, H⟩ := H
    refine u_gR (q := 53) (r := (RX6, TX6, 13)) x14e dX6_isName_50 w0178 rfl (by decide) rfl rfl ?_
    refine v_aload_n (q := 54) 0 dX6_isName_53 rfl rfl rfl ?_
    replace H := bs H; obtain ⟨x15, x15e, H⟩ := H
    refine u_gI (q := 57) (r := (RX6, TX6, 13)) x15e dX6_isName_54 w0182 rfl (by decide) rfl rfl ?_
    refine v_iload_n (q := 58) 3 dX6_isName_57 rfl rfl rfl ?_
    refine v_iadd (q := 59) dX6_isName_58 rfl ?_
    replace H := bs H; obtain ⟨x16, x16e, H⟩ := H
    refine u_lB (q := 60) x16e dX6_isName_59 rfl ?_
    refine v_icmp_eq (q1 := 65) (q2 := 63) dX6_isName_60 (by decide) rfl (fun c17 => ?_) (fun c17 => ?_)
    · replace H := ip c17 H
      replace H := bs H; obtain ⟨x18, x18e, H⟩ := H
      refine v_iinc (v := x18) (L' := [(3, .int x18), (0, .ref u0), (1, .int u1), (2, .int u2)]) (q := 68) 3 dX6_isName_65 rfl (Option.some.inj x18e) (by decide) rfl rfl ?_
      refine v_goto (q := 31) dX6_isName_68 (by decide) ?_
      exact V.sub [1, 2, 3, 0] rfl (kI x18 (Option.some.inj H).symm)
    · replace H := ine c17 H
      exact V.sub [] rfl (kE (.inr ()) (Option.some.inj H).symm)
def fX6_isName (h : Hp) (v0 : Nat) (v1 : Int32) : Option (Int32) :=
(gI h 6 v0 7).bind fun x1 =>
(gI h 6 v0 6).bind fun x2 =>
(some (x1 - x2)).bind fun x3 =>
(gR h 6 v0 10).bind fun x4 =>
(lI h .int x4 v1).bind fun x5 =>
(gR h 6 v0 9).bind fun x6 =>
(lI h .int x6 v1).bind fun x7 =>
if (x5 - x7) = x3 then (
(lp (bX6_isName_31 v0 v1 x3 h) FU (0 : Int32)).bind fun e19 =>
(match e19 with
| .inl e20 => (
some (1 : Int32))
| .inr e21 => (
some (0 : Int32)))) else (
some (0 : Int32))
set_option maxRecDepth 20000 in
set_option maxHeartbeats 4000000 in
theorem sX6_isName {Γ : Gm} {d : Nat} (hd : 1 ≤ d) {h : Hp} {v0 : Nat} {v1 : Int32} {r : Int32} (H : fX6_isName h v0 v1 = some r) : V Γ d mX6_isName 0 [(0, .ref v0), (1, .int v1)] [] h (some (.int r), h) := by
  unfold fX6_isName at H
  refine v_aload_n (q := 1) 0 dX6_isName_0 rfl rfl rfl ?_
  replace H := bs H; obtain ⟨x1, x1e, H⟩ := H
  refine u_gI (q := 4) (r := (RX6, TX6, 13)) x1e dX6_isName_1 w0183 rfl (by decide) rfl rfl ?_
  refine v_aload_n (q := 5) 0 dX6_isName_4 rfl rfl rfl ?_
  replace H := bs H; obtain ⟨x2, x2e, H⟩ := H
  refine u_gI (q := 8) (r := (RX6, TX6, 13)) x2e dX6_isName_5 w0182 rfl (by decide) rfl rfl ?_
  refine v_isub (q := 9) dX6_isName_8 rfl ?_
  replace H := bs H; obtain ⟨x3, x3e, H⟩ := H
  refine v_topi (Option.some.inj x3e) ?_
  refine v_istore_n (L' := [(2, .int x3), (0, .ref v0), (1, .int v1)]) (q := 10) dX6_isName_9 rfl (by decide) rfl rfl ?_
  refine v_aload_n (q := 11) 1 dX6_isName_10 rfl rfl rfl ?_
  replace H := bs H; obtain ⟨x4, x4e, H⟩ := H
  refine u_gR (q := 14) (r := (RX6, TX6, 13)) x4e dX6_isName_11 w0186 rfl (by decide) rfl rfl ?_
  refine v_iload_n (q := 15) 2 dX6_isName_14 rfl rfl rfl ?_
  replace H := bs H; obtain ⟨x5, x5e, H⟩ := H
  refine u_lI (q := 16) x5e dX6_isName_15 rfl ?_
  refine v_aload_n (q := 17) 1 dX6_isName_16 rfl rfl rfl ?_
  replace H := bs H; obtain ⟨x6, x6e, H⟩ := H
  refine u_gR (q := 20) (r := (RX6, TX6, 13)) x6e dX6_isName_17 w0185 rfl (by decide) rfl rfl ?_
  refine v_iload_n (q := 21) 2 dX6_isName_20 rfl rfl rfl ?_
  replace H := bs H; obtain ⟨x7, x7e, H⟩ := H
  refine u_lI (q := 22) x7e dX6_isName_21 rfl ?_
  refine v_isub (q := 23) dX6_isName_22 rfl ?_
  refine v_iload_n (q := 24) 0 dX6_isName_23 rfl rfl rfl ?_
  refine v_icmp_eq (q1 := 29) (q2 := 27) dX6_isName_24 (by decide) rfl (fun c8 => ?_) (fun c8 => ?_)
  · replace H := ip c8 H
    refine v_iconst (v := 0) (q := 30) dX6_isName_29 (by decide) rfl ?_
    refine v_istore_n (L' := [(3, .int (0 : Int32)), (2, .int x3), (0, .ref v0), (1, .int v1)]) (q := 31) dX6_isName_30 rfl (by decide) rfl rfl ?_
    replace H := bs H; obtain ⟨e19, e19L, H⟩ := H
    refine V.sub [2, 3, 1, 0] rfl ?_
    refine lp_V (P := (fun s31 => V Γ d mX6_isName 31 [(0, .ref v0), (1, .int v1), (2, .int x3), (3, .int s31)] [] h (some (.int r), h))) (E := (fun e => (match e with | .inl a0 => V Γ d mX6_isName 71 [] [] h (some (.int r), h) | .inr b0 => V Γ d mX6_isName 63 [] [] h (some (.int r), h)))) (fun s r hb kI kE => sbX6_isName_31 hd (s31 := s) (r := r) hb kI kE) FU (0 : Int32) e19 e19L ?_
    rcases e19 with e20 | e21
    · skip
      refine v_iconst (v := 1) (q := 72) dX6_isName_71 (by decide) rfl ?_
      cases H
      exact v_zreturn rfl (by decide) dX6_isName_72
    · skip
      refine v_iconst (v := 0) (q := 64) dX6_isName_63 (by decide) rfl ?_
      cases H
      exact v_zreturn rfl (by decide) dX6_isName_64
  · replace H := ine c8 H
    refine v_iconst (v := 0) (q := 28) dX6_isName_27 (by decide) rfl ?_
    cases H
    exact v_zreturn rfl (by decide) dX6_isName_28
def mX6_findName : MI := (yX6_findName, cX6_findName, 2, some .int)
theorem oX6_findName : mOK mX6_findName 0 := ⟨by decide +kernel, by decide +kernel, by decide +kernel, by decide, w0669, w0140⟩
def bX6_findName_2 (u0 : Nat) (h : Hp) (s2 : Int32) : Option ((Int32) ⊕ ((Unit) ⊕ (Int32))) :=
(gI h 6 u0 8).bind fun x1 =>
if x1 ≤ s2 then (
some (.inr (.inl ()))) else (
(gO h 6 u0).bind fun _ =>
(fX6_isName h u0 s2).bind fun x4 =>
if x4 = 0 then (
(some (s2 + (1 : Int32))).bind fun x6 =>
some (.inl x6)) else (
some (.inr (.inr s2))))
set_option maxRecDepth 20000 in
set_option maxHeartbeats 4000000 in
theorem sbX6_findName_2 {Γ : Gm} {d : Nat} (hd : 2 ≤ d) {u0 : Nat} {h : Hp} {s2 : Int32} {r : (Int32) ⊕ ((Unit) ⊕ (Int32))} {t : Option Value × Hp} (H : bX6_findName_2 u0 h s2 = some r) (kI : ∀ s, r = .inl s → (fun s2 => V Γ d mX6_findName 2 [(0, .ref u0), (1, .int s2)] [] h t) s) (kE : ∀ e, r = .inr e → (fun e => (match e with | .inl a0 => V Γ d mX6_findName 26 [] [] h t | .inr b0 => V Γ d mX6_findName 18 [(1, .int b0)] [] h t)) e) : V Γ d mX6_findName 2 [(0, .ref u0), (1, .int s2)] [] h t := by
  unfold bX6_findName_2 at H
  refine v_iload_n (q := 3) 1 dX6_findName_2 rfl rfl rfl ?_
  refine v_aload_n (q := 4) 0 dX6_findName_3 rfl rfl rfl ?_
  replace H := bs H; obtain ⟨x1, x1e, H⟩ := H
  refine u_gI (q := 7) (r := (RX6, TX6, 13)) x1e dX6_findName_4 w0184 rfl (by decide) rfl rfl ?_
  refine v_icmp_ge (q1 := 26) (q2 := 10) dX6_findName_7 (by decide) rfl (fun c2 => ?_) (fun c2 => ?_)
  · replace H := ip c2 H
    exact V.sub [] rfl (kE (.inl ()) (Option.some.inj H).symm)
  · replace H := ine c2 H
    refine v_aload_n (q := 11) 0 dX6_findName_10 rfl rfl rfl ?_
    refine v_iload_n (q := 12) 1 dX6_findName_11 rfl rfl rfl ?_
    replace H := bs H; obtain ⟨_, o3, H⟩ := H
    replace H := bs H; obtain ⟨x4, x4e, H⟩ := H
    refine u_callV1 (M' := mX6_isName) (d' := 1) (rc := (RX6, TX6, 13)) (As := [.int s2]) (st := []) (q := 15) oX6_isName dX6_findName_12 w0670 w0672 w0007 rfl rfl (gO_sp o3).1 (gO_sp o3).2 rfl (Nat.le_of_ble_eq_true rfl) (Nat.le_of_ble_eq_true rfl) (Nat.lt_of_lt_of_le (by decide) hd) rfl (sX6_isName (Nat.le_refl _) x4e) rfl ?_
    refine v_if_eq (q1 := 20) (q2 := 18) dX6_findName_15 (by decide) rfl (fun c5 => ?_) (fun c5 => ?_)
    · replace H := ip c5 H
      replace H := bs H; obtain ⟨x6, x6e, H⟩ := H
      refine v_iinc (v := x6) (L' := [(1, .int x6), (0, .ref u0)]) (q := 23) 1 dX6_findName_20 rfl (Option.some.inj x6e) (by decide) rfl rfl ?_
      refine v_goto (q := 2) dX6_findName_23 (by decide) ?_
      exact V.sub [1, 0] rfl (kI x6 (Option.some.inj H).symm)
    · replace H := ine c5 H
      exact V.sub [1] rfl (kE (.inr s2) (Option.some.inj H).symm)
def fX6_findName (h : Hp) (v0 : Nat) : Option (Int32) :=
(lp (bX6_findName_2 v0 h) FU (0 : Int32)).bind fun e7 =>
(match e7 with
| .inl e8 => (
some (-1 : Int32))
| .inr e9 => (
some e9))
set_option maxRecDepth 20000 in
set_option maxHeartbeats 4000000 in
theorem sX6_findName {Γ : Gm} {d : Nat} (hd : 2 ≤ d) {h : Hp} {v0 : Nat} {r : Int32} (H : fX6_findName h v0 = some r) : V Γ d mX6_findName 0 [(0, .ref v0)] [] h (some (.int r), h) := by
  unfold fX6_findName at H
  refine v_iconst (v := 0) (q := 1) dX6_findName_0 (by decide) rfl ?_
  refine v_istore_n (L' := [(1, .int (0 : Int32)), (0, .ref v0)]) (q := 2) dX6_findName_1 rfl (by decide) rfl rfl ?_
  replace H := bs H; obtain ⟨e7, e7L, H⟩ := H
  refine V.sub [1, 0] rfl ?_
  refine lp_V (P := (fun s2 => V Γ d mX6_findName 2 [(0, .ref v0), (1, .int s2)] [] h (some (.int r), h))) (E := (fun e => (match e with | .inl a0 => V Γ d mX6_findName 26 [] [] h (some (.int r), h) | .inr b0 => V Γ d mX6_findName 18 [(1, .int b0)] [] h (some (.int r), h)))) (fun s r hb kI kE => sbX6_findName_2 hd (s2 := s) (r := r) hb kI kE) FU (0 : Int32) e7 e7L ?_
  rcases e7 with e8 | e9
  · skip
    refine v_iconst (v := -1) (q := 27) dX6_findName_26 (by decide) rfl ?_
    cases H
    exact v_ireturn rfl dX6_findName_27
  · skip
    refine v_iload_n (q := 19) 0 dX6_findName_18 rfl rfl rfl ?_
    cases H
    exact v_ireturn rfl dX6_findName_19
def mX6_tellName : MI := (yX6_tellName, cX6_tellName, 3, some .boolean)
theorem oX6_tellName : mOK mX6_tellName 2 := ⟨by decide +kernel, by decide +kernel, by decide +kernel, by decide, w0665, w0140⟩
def jX6_tellName_96 (v0 : Nat) (h : Hp) : Option (Int32 × Hp) :=
(gO h 6 v0).bind fun _ =>
(fX6_nextToken h v0).bind fun x9 =>
some (((1 : Int32), x9))
set_option maxRecDepth 20000 in
set_option maxHeartbeats 4000000 in
theorem sjX6_tellName_96 {Γ : Gm} {d : Nat} (hd : 8 ≤ d) {v0 : Nat} {h : Hp} {r : Int32 × Hp} (H : jX6_tellName_96 v0 h = some r) : V Γ d mX6_tellName 96 [(0, .ref v0)] [] h (some (.int r.1), r.2) := by
  unfold jX6_tellName_96 at H
  refine v_aload_n (q := 97) 0 dX6_tellName_96 rfl rfl rfl ?_
  replace H := bs H; obtain ⟨_, o8, H⟩ := H
  replace H := bs H; obtain ⟨x9, x9e, H⟩ := H
  refine u_callV0 (M' := mX6_nextToken) (d' := 7) (rc := (RX6, TX6, 13)) (As := []) (st := []) (q := 100) oX6_nextToken dX6_tellName_97 w0594 w0596 w0001 rfl rfl (gO_sp o8).1 (gO_sp o8).2 rfl (Nat.le_of_ble_eq_true rfl) (Nat.le_of_ble_eq_true rfl) (Nat.lt_of_lt_of_le (by decide) hd) rfl (sX6_nextToken (Nat.le_refl _) x9e) rfl ?_
  refine v_iconst (v := 1) (q := 101) dX6_tellName_100 (by decide) rfl ?_
  cases H
  exact v_zreturn rfl (by decide) dX6_tellName_101
def fX6_tellName (h : Hp) (v0 : Nat) (v1 : Int32) (v2 : Int32) : Option (Int32 × Hp) :=
(gI h 6 v0 5).bind fun x1 =>
if x1 = (15 : Int32) then (
(gO h 6 v0).bind fun _ =>
(fX6_findName h v0).bind fun x4 =>
if x4 = (-1 : Int32) then (
(gI h 6 v0 8).bind fun x6 =>
if (24 : Int32) ≤ x6 then (
jX6_tellName_96 v0 h) else (
(gR h 6 v0 9).bind fun x10 =>
(gI h 6 v0 8).bind fun x11 =>
(gI h 6 v0 6).bind fun x12 =>
(tI h x10 x11 x12).bind fun h13 =>
(gR h13 6 v0 10).bind fun x14 =>
(gI h13 6 v0 8).bind fun x15 =>
(gI h13 6 v0 7).bind fun x16 =>
(tI h13 x14 x15 x16).bind fun h17 =>
(gR h17 6 v0 11).bind fun x18 =>
(gI h17 6 v0 8).bind fun x19 =>
(tI h17 x18 x19 v1).bind fun h20 =>
(gR h20 6 v0 12).bind fun x21 =>
(gI h20 6 v0 8).bind fun x22 =>
(tI h20 x21 x22 v2).bind fun h23 =>
(gI h23 6 v0 8).bind fun x24 =>
(pI h23 6 v0 8 (x24 + (1 : Int32))).bind fun h25 =>
jX6_tellName_96 v0 h25)) else (
(gO h 6 v0).bind fun _ =>
(fX6_fail h v0 (2 : Int32)).bind fun x27 =>
some (((0 : Int32), x27)))) else (
(gO h 6 v0).bind fun _ =>
(fX6_fail h v0 (1 : Int32)).bind fun x29 =>
some (((0 : Int32), x29)))
set_option maxRecDepth 20000 in
set_option maxHeartbeats 4000000 in
theorem sX6_tellName {Γ : Gm} {d : Nat} (hd : 8 ≤ d) {h : Hp} {v0 : Nat} {v1 : Int32} {v2 : Int32} {r : Int32 × Hp} (H : fX6_tellName h v0 v1 v2 = some r) : V Γ d mX6_tellName 0 [(0, .ref v0), (1, .int v1), (2, .int v2)] [] h (some (.int r.1), r.2) := by
  unfold fX6_tellName at H
  refine v_aload_n (q := 1) 0 dX6_tellName_0 rfl rfl rfl ?_
  replace H := bs H; obtain ⟨x1, x1e, H⟩ := H
  refine u_gI (q := 4) (r := (RX6, TX6, 13)) x1e dX6_tellName_1 w0181 rfl (by decide) rfl rfl ?_
  refine v_bipush (v := 15) (q := 6) dX6_tellName_4 (by decide) rfl ?_
  refine v_icmp_eq (q1 := 16) (q2 := 9) dX6_tellName_6 (by decide) rfl (fun c2 => ?_) (fun c2 => ?_)
  · replace H := ip c2 H
    refine v_aload_n (q := 17) 0 dX6_tellName_16 rfl rfl rfl ?_
    replace H := bs H; obtain ⟨_, o3, H⟩ := H
    replace H := bs H; obtain ⟨x4, x4e, H⟩ := H
    refine u_callV1 (M' := mX6_findName) (d' := 2) (rc := (RX6, TX6, 13)) (As := []) (st := []) (q := 20) oX6_findName dX6_tellName_17 w0666 w0668 w0006 rfl rfl (gO_sp o3).1 (gO_sp o3).2 rfl (Nat.le_of_ble_eq_true rfl) (Nat.le_of_ble_eq_true rfl) (Nat.lt_of_lt_of_le (by decide) hd) rfl (sX6_findName (Nat.le_refl _) x4e) rfl ?_
    refine v_iconst (v := -1) (q := 21) dX6_tellName_20 (by decide) rfl ?_
    refine v_icmp_eq (q1 := 31) (q2 := 24) dX6_tellName_21 (by decide) rfl (fun c5 => ?_) (fun c5 => ?_)
    · replace H := ip c5 H
      refine v_aload_n (q := 32) 0 dX6_tellName_31 rfl rfl rfl ?_
      replace H := bs H; obtain ⟨x6, x6e, H⟩ := H
      refine u_gI (q := 35) (r := (RX6, TX6, 13)) x6e dX6_tellName_32 w0184 rfl (by decide) rfl rfl ?_
      refine v_bipush (v := 24) (q := 37) dX6_tellName_35 (by decide) rfl ?_
      refine v_icmp_ge (q1 := 96) (q2 := 40) dX6_tellName_37 (by decide) rfl (fun c7 => ?_) (fun c7 => ?_)
      · replace H := ip c7 H
        exact V.sub [0] rfl (sjX6_tellName_96 hd H)
      · replace H := ine c7 H
        refine v_aload_n (q := 41) 0 dX6_tellName_40 rfl rfl rfl ?_
        replace H := bs H; obtain ⟨x10, x10e, H⟩ := H
        refine u_gR (q := 44) (r := (RX6, TX6, 13)) x10e dX6_tellName_41 w0185 rfl (by decide) rfl rfl ?_
        refine v_aload_n (q := 45) 0 dX6_tellName_44 rfl rfl rfl ?_
        replace H := bs H; obtain ⟨x11, x11e, H⟩ := H
        refine u_gI (q := 48) (r := (RX6, TX6, 13)) x11e dX6_tellName_45 w0184 rfl (by decide) rfl rfl ?_
        refine v_aload_n (q := 49) 0 dX6_tellName_48 rfl rfl rfl ?_
        replace H := bs H; obtain ⟨x12, x12e, H⟩ := H
        refine u_gI (q := 52) (r := (RX6, TX6, 13)) x12e dX6_tellName_49 w0182 rfl (by decide) rfl rfl ?_
        replace H := bs H; obtain ⟨h13, h13e, H⟩ := H
        refine u_tI (q := 53) h13e dX6_tellName_52 rfl ?_
        refine v_aload_n (q := 54) 0 dX6_tellName_53 rfl rfl rfl ?_
        replace H := bs H; obtain ⟨x14, x14e, H⟩ := H
        refine u_gR (q := 57) (r := (RX6, TX6, 13)) x14e dX6_tellName_54 w0186 rfl (by decide) rfl rfl ?_
        refine v_aload_n (q := 58) 0 dX6_tellName_57 rfl rfl rfl ?_
        replace H := bs H; obtain ⟨x15, x15e, H⟩ := H
        refine u_gI (q := 61) (r := (RX6, TX6, 13)) x15e dX6_tellName_58 w0184 rfl (by decide) rfl rfl ?_
        refine v_aload_n (q := 62) 0 dX6_tellName_61 rfl rfl rfl ?_
        replace H := bs H; obtain ⟨x16, x16e, H⟩ := H
        refine u_gI (q := 65) (r := (RX6, TX6, 13)) x16e dX6_tellName_62 w0183 rfl (by decide) rfl rfl ?_
        replace H := bs H; obtain ⟨h17, h17e, H⟩ := H
        refine u_tI (q := 66) h17e dX6_tellName_65 rfl ?_
        refine v_aload_n (q := 67) 0 dX6_tellName_66 rfl rfl rfl ?_
        replace H := bs H; obtain ⟨x18, x18e, H⟩ := H
        refine u_gR (q := 70) (r := (RX6, TX6, 13)) x18e dX6_tellName_67 w0187 rfl (by decide) rfl rfl ?_
        refine v_aload_n (q := 71) 0 dX6_tellName_70 rfl rfl rfl ?_
        replace H := bs H; obtain ⟨x19, x19e, H⟩ := H
        refine u_gI (q := 74) (r := (RX6, TX6, 13)) x19e dX6_tellName_71 w0184 rfl (by decide) rfl rfl ?_
        refine v_iload_n (q := 75) 1 dX6_tellName_74 rfl rfl rfl ?_
        replace H := bs H; obtain ⟨h20, h20e, H⟩ := H
        refine u_tI (q := 76) h20e dX6_tellName_75 rfl ?_
        refine v_aload_n (q := 77) 0 dX6_tellName_76 rfl rfl rfl ?_
        replace H := bs H; obtain ⟨x21, x21e, H⟩ := H
        refine u_gR (q := 80) (r := (RX6, TX6, 13)) x21e dX6_tellName_77 w0188 rfl (by decide) rfl rfl ?_
        refine v_aload_n (q := 81) 0 dX6_tellName_80 rfl rfl rfl ?_
        replace H := bs H; obtain ⟨x22, x22e, H⟩ := H
        refine u_gI (q := 84) (r := (RX6, TX6, 13)) x22e dX6_tellName_81 w0184 rfl (by decide) rfl rfl ?_
        refine v_iload_n (q := 85) 2 dX6_tellName_84 rfl rfl rfl ?_
        replace H := bs H; obtain ⟨h23, h23e, H⟩ := H
        refine u_tI (q := 86) h23e dX6_tellName_85 rfl ?_
        refine v_aload_n (q := 87) 0 dX6_tellName_86 rfl rfl rfl ?_
        refine v_dup (q := 88) dX6_tellName_87 rfl rfl ?_
        replace H := bs H; obtain ⟨x24, x24e, H⟩ := H
        refine u_gI (q := 91) (r := (RX6, TX6, 13)) x24e dX6_tellName_88 w0184 rfl (by decide) rfl rfl ?_
        refine v_iconst (v := 1) (q := 92) dX6_tellName_91 (by decide) rfl ?_
        refine v_iadd (q := 93) dX6_tellName_92 rfl ?_
        replace H := bs H; obtain ⟨h25, h25e, H⟩ := H
        refine u_pI (q := 96) (r := (RX6, TX6, 13)) h25e dX6_tellName_93 w0184 rfl (by decide) (Or.inl rfl) rfl rfl ?_
        exact V.sub [0] rfl (sjX6_tellName_96 hd H)
    · replace H := ine c5 H
      refine v_aload_n (q := 25) 0 dX6_tellName_24 rfl rfl rfl ?_
      refine v_iconst (v := 2) (q := 26) dX6_tellName_25 (by decide) rfl ?_
      replace H := bs H; obtain ⟨_, o26, H⟩ := H
      replace H := bs H; obtain ⟨x27, x27e, H⟩ := H
      refine u_callV0 (M' := mX6_fail) (d' := 1) (rc := (RX6, TX6, 13)) (As := [.int (2 : Int32)]) (st := []) (q := 29) oX6_fail dX6_tellName_26 w0658 w0660 w0004 rfl rfl (gO_sp o26).1 (gO_sp o26).2 rfl (Nat.le_of_ble_eq_true rfl) (Nat.le_of_ble_eq_true rfl) (Nat.lt_of_lt_of_le (by decide) hd) rfl (sX6_fail (Nat.le_refl _) x27e) rfl ?_
      refine v_iconst (v := 0) (q := 30) dX6_tellName_29 (by decide) rfl ?_
      cases H
      exact v_zreturn rfl (by decide) dX6_tellName_30
  · replace H := ine c2 H
    refine v_aload_n (q := 10) 0 dX6_tellName_9 rfl rfl rfl ?_
    refine v_iconst (v := 1) (q := 11) dX6_tellName_10 (by decide) rfl ?_
    replace H := bs H; obtain ⟨_, o28, H⟩ := H
    replace H := bs H; obtain ⟨x29, x29e, H⟩ := H
    refine u_callV0 (M' := mX6_fail) (d' := 1) (rc := (RX6, TX6, 13)) (As := [.int (1 : Int32)]) (st := []) (q := 14) oX6_fail dX6_tellName_11 w0658 w0660 w0004 rfl rfl (gO_sp o28).1 (gO_sp o28).2 rfl (Nat.le_of_ble_eq_true rfl) (Nat.le_of_ble_eq_true rfl) (Nat.lt_of_lt_of_le (by decide) hd) rfl (sX6_fail (Nat.le_refl _) x29e) rfl ?_
    refine v_iconst (v := 0) (q := 15) dX6_tellName_14 (by decide) rfl ?_
    cases H
    exact v_zreturn rfl (by decide) dX6_tellName_15
def mX6_pass : MI := (yX6_pass, cX6_pass, 2, some .boolean)
theorem oX6_pass : mOK mX6_pass 1 := ⟨by decide +kernel, by decide +kernel, by decide +kernel, by decide, w0677, w0140⟩
def fX6_pass (h : Hp) (v0 : Nat) (v1 : Int32) : Option (Int32 × Hp) :=
(gI h 6 v0 5).bind fun x1 =>
if x1 = v1 then (
(gO h 6 v0).bind fun _ =>
(fX6_nextToken h v0).bind fun x4 =>
some (((1 : Int32), x4))) else (
(gO h 6 v0).bind fun _ =>
(fX6_fail h v0 (1 : Int32)).bind fun x6 =>
some (((0 : Int32), x6)))
set_option maxRecDepth 20000 in
set_option maxHeartbeats 4000000 in
theorem sX6_pass {Γ : Gm} {d : Nat} (hd : 8 ≤ d) {h : Hp} {v0 : Nat} {v1 : Int32} {r : Int32 × Hp} (H : fX6_pass h v0 v1 = some r) : V Γ d mX6_pass 0 [(0, .ref v0), (1, .int v1)] [] h (some (.int r.1), r.2) := by
  unfold fX6_pass at H
  refine v_aload_n (q := 1) 0 dX6_pass_0 rfl rfl rfl ?_
  replace H := bs H; obtain ⟨x1, x1e, H⟩ := H
  refine u_gI (q := 4) (r := (RX6, TX6, 13)) x1e dX6_pass_1 w0181 rfl (by decide) rfl rfl ?_
  refine v_iload_n (q := 5) 1 dX6_pass_4 rfl rfl rfl ?_
  refine v_icmp_eq (q1 := 15) (q2 := 8) dX6_pass_5 (by decide) rfl (fun c2 => ?_) (fun c2 => ?_)
  · replace H := ip c2 H
    refine v_aload_n (q := 16) 0 dX6_pass_15 rfl rfl rfl ?_
    replace H := bs H; obtain ⟨_, o3, H⟩ := H
    replace H := bs H; obtain ⟨x4, x4e, H⟩ := H
    refine u_callV0 (M' := mX6_nextToken) (d' := 7) (rc := (RX6, TX6, 13)) (As := []) (st := []) (q := 19) oX6_nextToken dX6_pass_16 w0594 w0596 w0001 rfl rfl (gO_sp o3).1 (gO_sp o3).2 rfl (Nat.le_of_ble_eq_true rfl) (Nat.le_of_ble_eq_true rfl) (Nat.lt_of_lt_of_le (by decide) hd) rfl (sX6_nextToken (Nat.le_refl _) x4e) rfl ?_
    refine v_iconst (v := 1) (q := 20) dX6_pass_19 (by decide) rfl ?_
    cases H
    exact v_zreturn rfl (by decide) dX6_pass_20
  · replace H := ine c2 H
    refine v_aload_n (q := 9) 0 dX6_pass_8 rfl rfl rfl ?_
    refine v_iconst (v := 1) (q := 10) dX6_pass_9 (by decide) rfl ?_
    replace H := bs H; obtain ⟨_, o5, H⟩ := H
    replace H := bs H; obtain ⟨x6, x6e, H⟩ := H
    refine u_callV0 (M' := mX6_fail) (d' := 1) (rc := (RX6, TX6, 13)) (As := [.int (1 : Int32)]) (st := []) (q := 13) oX6_fail dX6_pass_10 w0658 w0660 w0004 rfl rfl (gO_sp o5).1 (gO_sp o5).2 rfl (Nat.le_of_ble_eq_true rfl) (Nat.le_of_ble_eq_true rfl) (Nat.lt_of_lt_of_le (by decide) hd) rfl (sX6_fail (Nat.le_refl _) x6e) rfl ?_
    refine v_iconst (v := 0) (q := 14) dX6_pass_13 (by decide) rfl ?_
    cases H
    exact v_zreturn rfl (by decide) dX6_pass_14
def mX6_readKind : MI := (yX6_readKind, cX6_readKind, 1, none)
theorem oX6_readKind : mOK mX6_readKind 0 := ⟨by decide +kernel, by decide +kernel, by decide +kernel, by decide, w0657, w0140⟩
def jX6_readKind_57 (h : Hp) : Option (Hp) :=
some h
set_option maxRecDepth 20000 in
set_option maxHeartbeats 4000000 in
theorem sjX6_readKind_57 {Γ : Gm} {d : Nat} (hd : 9 ≤ d) {h : Hp} {r : Hp} (H : jX6_readKind_57 h = some r) : V Γ d mX6_readKind 57 [] [] h (none, r) := by
  unfold jX6_readKind_57 at H
  cases H
  exact v_return rfl dX6_readKind_57
def fX6_readKind (h : Hp) (v0 : Nat) : Option (Hp) :=
(gR h 6 v0 4).bind fun x1 =>
(gI h 5 x1 0).bind fun x2 =>
if x2 = (8 : Int32) then (
(gO h 6 v0).bind fun _ =>
(fX6_fail h v0 (4 : Int32)).bind fun x17 =>
some x17) else (
(gO h 6 v0).bind fun _ =>
(fX6_nextToken h v0).bind fun x5 =>
(gR x5 6 v0 4).bind fun x6 =>
(gI x5 5 x6 0).bind fun x7 =>
(gO x5 6 v0).bind fun _ =>
(fX6_tellName x5 v0 (0 : Int32) x7).bind fun x9 =>
if x9.1 = 0 then (
jX6_readKind_57 x9.2) else (
(gR x9.2 6 v0 4).bind fun x11 =>
(gI x9.2 5 x11 0).bind fun x12 =>
(pI x9.2 5 x11 0 (x12 + (1 : Int32))).bind fun h13 =>
(gO h13 6 v0).bind fun _ =>
(fX6_pass h13 v0 (16 : Int32)).bind fun x15 =>
jX6_readKind_57 x15.2))
set_option maxRecDepth 20000 in
set_option maxHeartbeats 4000000 in
theorem sX6_readKind {Γ : Gm} {d : Nat} (hd : 9 ≤ d) {h : Hp} {v0 : Nat} {r : Hp} (H : fX6_readKind h v0 = some r) : V Γ d mX6_readKind 0 [(0, .ref v0)] [] h (none, r) := by
  unfold fX6_readKind at H
  refine v_aload_n (q := 1) 0 dX6_readKind_0 rfl rfl rfl ?_
  replace H := bs H; obtain ⟨x1, x1e, H⟩ := H
  refine u_gR (q := 4) (r := (RX6, TX6, 13)) x1e dX6_readKind_1 w0180 rfl (by decide) rfl rfl ?_
  replace H := bs H; obtain ⟨x2, x2e, H⟩ := H
  refine u_gI (q := 7) (r := (RX5, TX5, 7)) x2e dX6_readKind_4 w0225 rfl (by decide) rfl rfl ?_
  refine v_bipush (v := 8) (q := 9) dX6_readKind_7 (by decide) rfl ?_
  refine v_icmp_ne (q1 := 18) (q2 := 12) dX6_readKind_9 (by decide) rfl (fun c3 => ?_) (fun c3 => ?_)
  · replace H := ine c3 H
    refine v_aload_n (q := 19) 0 dX6_readKind_18 rfl rfl rfl ?_
    replace H := bs H; obtain ⟨_, o4, H⟩ := H
    replace H := bs H; obtain ⟨x5, x5e, H⟩ := H
    refine u_callV0 (M' := mX6_nextToken) (d' := 7) (rc := (RX6, TX6, 13)) (As := []) (st := []) (q := 22) oX6_nextToken dX6_readKind_19 w0594 w0596 w0001 rfl rfl (gO_sp o4).1 (gO_sp o4).2 rfl (Nat.le_of_ble_eq_true rfl) (Nat.le_of_ble_eq_true rfl) (Nat.lt_of_lt_of_le (by decide) hd) rfl (sX6_nextToken (Nat.le_refl _) x5e) rfl ?_
    refine v_aload_n (q := 23) 0 dX6_readKind_22 rfl rfl rfl ?_
    refine v_iconst (v := 0) (q := 24) dX6_readKind_23 (by decide) rfl ?_
    refine v_aload_n (q := 25) 0 dX6_readKind_24 rfl rfl rfl ?_
    replace H := bs H; obtain ⟨x6, x6e, H⟩ := H
    refine u_gR (q := 28) (r := (RX6, TX6, 13)) x6e dX6_readKind_25 w0180 rfl (by decide) rfl rfl ?_
    replace H := bs H; obtain ⟨x7, x7e, H⟩ := H
    refine u_gI (q := 31) (r := (RX5, TX5, 7)) x7e dX6_readKind_28 w0225 rfl (by decide) rfl rfl ?_
    replace H := bs H; obtain ⟨_, o8, H⟩ := H
    replace H := bs H; obtain ⟨x9, x9e, H⟩ := H
    refine u_callV1 (M' := mX6_tellName) (d' := 8) (rc := (RX6, TX6, 13)) (As := [.int (0 : Int32), .int x7]) (st := []) (q := 34) oX6_tellName dX6_readKind_31 w0662 w0664 w0005 rfl rfl (gO_sp o8).1 (gO_sp o8).2 rfl (Nat.le_of_ble_eq_true rfl) (Nat.le_of_ble_eq_true rfl) (Nat.lt_of_lt_of_le (by decide) hd) rfl (sX6_tellName (Nat.le_refl _) x9e) rfl ?_
    refine v_if_eq (q1 := 57) (q2 := 37) dX6_readKind_34 (by decide) rfl (fun c10 => ?_) (fun c10 => ?_)
    · replace H := ip c10 H
      exact V.sub [] rfl (sjX6_readKind_57 hd H)
    · replace H := ine c10 H
      refine v_aload_n (q := 38) 0 dX6_readKind_37 rfl rfl rfl ?_
      replace H := bs H; obtain ⟨x11, x11e, H⟩ := H
      refine u_gR (q := 41) (r := (RX6, TX6, 13)) x11e dX6_readKind_38 w0180 rfl (by decide) rfl rfl ?_
      refine v_dup (q := 42) dX6_readKind_41 rfl rfl ?_
      replace H := bs H; obtain ⟨x12, x12e, H⟩ := H
      refine u_gI (q := 45) (r := (RX5, TX5, 7)) x12e dX6_readKind_42 w0225 rfl (by decide) rfl rfl ?_
      refine v_iconst (v := 1) (q := 46) dX6_readKind_45 (by decide) rfl ?_
      refine v_iadd (q := 47) dX6_readKind_46 rfl ?_
      replace H := bs H; obtain ⟨h13, h13e, H⟩ := H
      refine u_pI (q := 50) (r := (RX5, TX5, 7)) h13e dX6_readKind_47 w0225 rfl (by decide) (Or.inl rfl) rfl rfl ?_
      refine v_aload_n (q := 51) 0 dX6_readKind_50 rfl rfl rfl ?_
      refine v_bipush (v := 16) (q := 53) dX6_readKind_51 (by decide) rfl ?_
      replace H := bs H; obtain ⟨_, o14, H⟩ := H
      replace H := bs H; obtain ⟨x15, x15e, H⟩ := H
      refine u_callV1 (M' := mX6_pass) (d' := 8) (rc := (RX6, TX6, 13)) (As := [.int (16 : Int32)]) (st := []) (q := 56) oX6_pass dX6_readKind_53 w0674 w0676 w0008 rfl rfl (gO_sp o14).1 (gO_sp o14).2 rfl (Nat.le_of_ble_eq_true rfl) (Nat.le_of_ble_eq_true rfl) (Nat.lt_of_lt_of_le (by decide) hd) rfl (sX6_pass (Nat.le_refl _) x15e) rfl ?_
      refine v_pop (q := 57) dX6_readKind_56 rfl rfl ?_
      exact V.sub [] rfl (sjX6_readKind_57 hd H)
  · replace H := ip c3 H
    refine v_aload_n (q := 13) 0 dX6_readKind_12 rfl rfl rfl ?_
    refine v_iconst (v := 4) (q := 14) dX6_readKind_13 (by decide) rfl ?_
    replace H := bs H; obtain ⟨_, o16, H⟩ := H
    replace H := bs H; obtain ⟨x17, x17e, H⟩ := H
    refine u_callV0 (M' := mX6_fail) (d' := 1) (rc := (RX6, TX6, 13)) (As := [.int (4 : Int32)]) (st := []) (q := 17) oX6_fail dX6_readKind_14 w0658 w0660 w0004 rfl rfl (gO_sp o16).1 (gO_sp o16).2 rfl (Nat.le_of_ble_eq_true rfl) (Nat.le_of_ble_eq_true rfl) (Nat.lt_of_lt_of_le (by decide) hd) rfl (sX6_fail (Nat.le_refl _) x17e) rfl ?_
    cases H
    exact v_return rfl dX6_readKind_17

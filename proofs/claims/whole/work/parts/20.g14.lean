def mX12_program : MI := (yX12_program, cX12_program, 3, some .int)
theorem oX12_program : mOK mX12_program 2 := ⟨by decide +kernel, by decide +kernel, by decide +kernel, by decide, w1765, w0150⟩
def jX12_program_54 (y0 : Int32) (h : Hp) : Option (Int32) :=
some y0
set_option maxRecDepth 20000 in
set_option maxHeartbeats 4000000 in
theorem sjX12_program_54 {Γ : Gm} {d : Nat} (hd : 3 ≤ d) {y0 : Int32} {h : Hp} {r : Int32} (H : jX12_program_54 y0 h = some r) : V Γ d mX12_program 54 [] [.int y0] h (some (.int r), h) := by
  unfold jX12_program_54 at H
  cases H
  exact v_ireturn rfl dX12_program_54
def fX12_program (h : Hp) (v0 : Nat) (v1 : Int32) (v2 : Int32) : Option (Int32) :=
(gO h 12 v0).bind fun _ =>
(fX12_isProgram h v0 v1).bind fun x2 =>
if x2 = 0 then (
some (-1 : Int32)) else (
if v2 = 0 then (
(gO h 12 v0).bind fun _ =>
(fX12_sortOf h v0 v1).bind fun x12 =>
jX12_program_54 x12 h) else (
if v2 = (1 : Int32) then (
(gO h 12 v0).bind fun _ =>
(fX12_stepsOf h v0 v1).bind fun x10 =>
jX12_program_54 x10 h) else (
if v2 = (2 : Int32) then (
(gR h 12 v0 0).bind fun x7 =>
(lI h .int x7 ((1533 : Int32) + v1)).bind fun x8 =>
jX12_program_54 x8 h) else (
jX12_program_54 (-1 : Int32) h))))
set_option maxRecDepth 20000 in
set_option maxHeartbeats 4000000 in
theorem sX12_program {Γ : Gm} {d : Nat} (hd : 3 ≤ d) {h : Hp} {v0 : Nat} {v1 : Int32} {v2 : Int32} {r : Int32} (H : fX12_program h v0 v1 v2 = some r) : V Γ d mX12_program 0 [(0, .ref v0), (1, .int v1), (2, .int v2)] [] h (some (.int r), h) := by
  unfold fX12_program at H
  refine v_aload_n (q := 1) 0 dX12_program_0 rfl rfl rfl ?_
  refine v_iload_n (q := 2) 1 dX12_program_1 rfl rfl rfl ?_
  obtain ⟨_, o1, H⟩ := bs H
  obtain ⟨x2, x2e, H⟩ := bs H
  refine u_callV1 (M' := mX12_isProgram) (d' := 2) (rc := (RX12, TX12, 58)) (As := [.int v1]) (st := []) (q := 5) oX12_isProgram dX12_program_2 w1629 w1631 w0071 rfl rfl (gO_sp o1).1 (gO_sp o1).2 rfl (Nat.le_of_ble_eq_true rfl) (Nat.le_of_ble_eq_true rfl) (Nat.lt_of_lt_of_le (by decide) hd) rfl (sX12_isProgram (Nat.le_refl _) x2e) rfl ?_
  refine v_if_ne (q1 := 10) (q2 := 8) dX12_program_5 (by decide) rfl (fun c3 => ?_) (fun c3 => ?_)
  · have H := ine c3 H
    refine v_iload_n (q := 11) 2 dX12_program_10 rfl rfl rfl ?_
    refine v_if_ne (q1 := 22) (q2 := 14) dX12_program_11 (by decide) rfl (fun c4 => ?_) (fun c4 => ?_)
    · have H := ine c4 H
      refine v_iload_n (q := 23) 2 dX12_program_22 rfl rfl rfl ?_
      refine v_iconst (v := 1) (q := 24) dX12_program_23 (by decide) rfl ?_
      refine v_icmp_ne (q1 := 35) (q2 := 27) dX12_program_24 (by decide) rfl (fun c5 => ?_) (fun c5 => ?_)
      · have H := ine c5 H
        refine v_iload_n (q := 36) 2 dX12_program_35 rfl rfl rfl ?_
        refine v_iconst (v := 2) (q := 37) dX12_program_36 (by decide) rfl ?_
        refine v_icmp_ne (q1 := 53) (q2 := 40) dX12_program_37 (by decide) rfl (fun c6 => ?_) (fun c6 => ?_)
        · have H := ine c6 H
          refine v_iconst (v := -1) (q := 54) dX12_program_53 (by decide) rfl ?_
          exact V.sub [] rfl (sjX12_program_54 hd H)
        · have H := ip c6 H
          refine v_aload_n (q := 41) 0 dX12_program_40 rfl rfl rfl ?_
          obtain ⟨x7, x7e, H⟩ := bs H
          refine u_gR (q := 44) (r := (RX12, TX12, 58)) x7e dX12_program_41 w1356 rfl (by decide) rfl rfl ?_
          refine v_sipush (v := 1533) (q := 47) dX12_program_44 (by decide) rfl ?_
          refine v_iload_n (q := 48) 1 dX12_program_47 rfl rfl rfl ?_
          refine v_iadd (q := 49) dX12_program_48 rfl ?_
          obtain ⟨x8, x8e, H⟩ := bs H
          refine u_lI (q := 50) x8e dX12_program_49 rfl ?_
          refine v_goto (q := 54) dX12_program_50 (by decide) ?_
          exact V.sub [] rfl (sjX12_program_54 hd H)
      · have H := ip c5 H
        refine v_aload_n (q := 28) 0 dX12_program_27 rfl rfl rfl ?_
        refine v_iload_n (q := 29) 1 dX12_program_28 rfl rfl rfl ?_
        obtain ⟨_, o9, H⟩ := bs H
        obtain ⟨x10, x10e, H⟩ := bs H
        refine u_callV1 (M' := mX12_stepsOf) (d' := 1) (rc := (RX12, TX12, 58)) (As := [.int v1]) (st := []) (q := 32) oX12_stepsOf dX12_program_29 w1642 w1644 w0074 rfl rfl (gO_sp o9).1 (gO_sp o9).2 rfl (Nat.le_of_ble_eq_true rfl) (Nat.le_of_ble_eq_true rfl) (Nat.lt_of_lt_of_le (by decide) hd) rfl (sX12_stepsOf (Nat.le_refl _) x10e) rfl ?_
        refine v_goto (q := 54) dX12_program_32 (by decide) ?_
        exact V.sub [] rfl (sjX12_program_54 hd H)
    · have H := ip c4 H
      refine v_aload_n (q := 15) 0 dX12_program_14 rfl rfl rfl ?_
      refine v_iload_n (q := 16) 1 dX12_program_15 rfl rfl rfl ?_
      obtain ⟨_, o11, H⟩ := bs H
      obtain ⟨x12, x12e, H⟩ := bs H
      refine u_callV1 (M' := mX12_sortOf) (d' := 1) (rc := (RX12, TX12, 58)) (As := [.int v1]) (st := []) (q := 19) oX12_sortOf dX12_program_16 w1718 w1720 w0092 rfl rfl (gO_sp o11).1 (gO_sp o11).2 rfl (Nat.le_of_ble_eq_true rfl) (Nat.le_of_ble_eq_true rfl) (Nat.lt_of_lt_of_le (by decide) hd) rfl (sX12_sortOf (Nat.le_refl _) x12e) rfl ?_
      refine v_goto (q := 54) dX12_program_19 (by decide) ?_
      exact V.sub [] rfl (sjX12_program_54 hd H)
  · have H := ip c3 H
    refine v_iconst (v := -1) (q := 9) dX12_program_8 (by decide) rfl ?_
    cases H
    exact v_ireturn rfl dX12_program_9
def mX12_proves : MI := (yX12_proves, cX12_proves, 4, some .int)
theorem oX12_proves : mOK mX12_proves 1 := ⟨by decide +kernel, by decide +kernel, by decide +kernel, by decide, w2003, w0150⟩
def jX12_proves_22 (h : Hp) : Option (Int32 × Hp) :=
some (((-1 : Int32), h))
set_option maxRecDepth 20000 in
set_option maxHeartbeats 4000000 in
theorem sjX12_proves_22 {Γ : Gm} {d : Nat} (hd : 10 ≤ d) {h : Hp} {r : Int32 × Hp} (H : jX12_proves_22 h = some r) : V Γ d mX12_proves 22 [] [] h (some (.int r.1), r.2) := by
  unfold jX12_proves_22 at H
  refine v_iconst (v := -1) (q := 23) dX12_proves_22 (by decide) rfl ?_
  cases H
  exact v_ireturn rfl dX12_proves_23
def jX12_proves_71 (u0 : Nat) (u2 : Int32) (v3 : Int32) (h : Hp) : Option ((Int32 × Hp) ⊕ ((Hp) ⊕ (Hp))) :=
(some (v3 + (1 : Int32))).bind fun x17 =>
some (.inl (x17, h))
set_option maxRecDepth 20000 in
set_option maxHeartbeats 4000000 in
theorem sjX12_proves_71 {Γ : Gm} {d : Nat} (hd : 10 ≤ d) {u0 : Nat} {u2 : Int32} {v3 : Int32} {h : Hp} {r : (Int32 × Hp) ⊕ ((Hp) ⊕ (Hp))} {t : Option Value × Hp} (H : jX12_proves_71 u0 u2 v3 h = some r) (kI : ∀ s, r = .inl s → (fun s32 => V Γ d mX12_proves 32 [(0, .ref u0), (2, .int u2), (3, .int s32.1)] [] s32.2 t) s) (kE : ∀ e, r = .inr e → (fun e => (match e with | .inl a0 => V Γ d mX12_proves 77 [] [] a0 t | .inr b0 => V Γ d mX12_proves 69 [] [] b0 t)) e) : V Γ d mX12_proves 71 [(0, .ref u0), (2, .int u2), (3, .int v3)] [] h t := by
  unfold jX12_proves_71 at H
  obtain ⟨x17, x17e, H⟩ := bs H
  refine v_iinc (v := x17) (L' := [(3, .int x17), (0, .ref u0), (2, .int u2)]) (q := 74) 2 dX12_proves_71 rfl (Option.some.inj x17e) (by decide) rfl rfl ?_
  refine v_goto (q := 32) dX12_proves_74 (by decide) ?_
  exact V.sub [1, 2, 0] rfl (kI (x17, h) (Option.some.inj H).symm)
def bX12_proves_32 (u0 : Nat) (u2 : Int32) (s32 : Int32 × Hp) : Option ((Int32 × Hp) ⊕ ((Hp) ⊕ (Hp))) :=
(gR s32.2 12 u0 3).bind fun x10 =>
(gI s32.2 12 u0 9).bind fun x11 =>
(lI s32.2 .int x10 x11).bind fun x12 =>
if ((1 : Int32) <<< (x12 &&& 31)) ≤ s32.1 then (
some (.inr (.inl s32.2))) else (
(gO s32.2 12 u0).bind fun _ =>
(fX12_stuck s32.2 u0 s32.1 (0 : Int32)).bind fun x15 =>
if x15.1 = (1 : Int32) then (
(gO x15.2 12 u0).bind fun _ =>
(fX12_ringLocks x15.2 u0).bind fun x19 =>
(gO x15.2 12 u0).bind fun _ =>
(fX12_areOf x15.2 u0 x19 u2).bind fun x21 =>
if x21 = 0 then (
jX12_proves_71 u0 u2 s32.1 x15.2) else (
some (.inr (.inr x15.2)))) else (
jX12_proves_71 u0 u2 s32.1 x15.2))
set_option maxRecDepth 20000 in
set_option maxHeartbeats 4000000 in
theorem sbX12_proves_32 {Γ : Gm} {d : Nat} (hd : 10 ≤ d) {u0 : Nat} {u2 : Int32} {s32 : Int32 × Hp} {r : (Int32 × Hp) ⊕ ((Hp) ⊕ (Hp))} {t : Option Value × Hp} (H : bX12_proves_32 u0 u2 s32 = some r) (kI : ∀ s, r = .inl s → (fun s32 => V Γ d mX12_proves 32 [(0, .ref u0), (2, .int u2), (3, .int s32.1)] [] s32.2 t) s) (kE : ∀ e, r = .inr e → (fun e => (match e with | .inl a0 => V Γ d mX12_proves 77 [] [] a0 t | .inr b0 => V Γ d mX12_proves 69 [] [] b0 t)) e) : V Γ d mX12_proves 32 [(0, .ref u0), (2, .int u2), (3, .int s32.1)] [] s32.2 t := by
  unfold bX12_proves_32 at H
  refine v_iload_n (q := 33) 2 dX12_proves_32 rfl rfl rfl ?_
  refine v_iconst (v := 1) (q := 34) dX12_proves_33 (by decide) rfl ?_
  refine v_aload_n (q := 35) 0 dX12_proves_34 rfl rfl rfl ?_
  obtain ⟨x10, x10e, H⟩ := bs H
  refine u_gR (q := 38) (r := (RX12, TX12, 58)) x10e dX12_proves_35 w1359 rfl (by decide) rfl rfl ?_
  refine v_aload_n (q := 39) 0 dX12_proves_38 rfl rfl rfl ?_
  obtain ⟨x11, x11e, H⟩ := bs H
  refine u_gI (q := 42) (r := (RX12, TX12, 58)) x11e dX12_proves_39 w1365 rfl (by decide) rfl rfl ?_
  obtain ⟨x12, x12e, H⟩ := bs H
  refine u_lI (q := 43) x12e dX12_proves_42 rfl ?_
  refine v_ishl (q := 44) dX12_proves_43 rfl ?_
  refine v_icmp_ge (q1 := 77) (q2 := 47) dX12_proves_44 (by decide) rfl (fun c13 => ?_) (fun c13 => ?_)
  · have H := ip c13 H
    exact V.sub [] rfl (kE (.inl s32.2) (Option.some.inj H).symm)
  · have H := ine c13 H
    refine v_aload_n (q := 48) 0 dX12_proves_47 rfl rfl rfl ?_
    refine v_iload_n (q := 49) 2 dX12_proves_48 rfl rfl rfl ?_
    refine v_iconst (v := 0) (q := 50) dX12_proves_49 (by decide) rfl ?_
    obtain ⟨_, o14, H⟩ := bs H
    obtain ⟨x15, x15e, H⟩ := bs H
    refine u_callV1 (M' := mX12_stuck) (d' := 9) (rc := (RX12, TX12, 58)) (As := [.int s32.1, .int (0 : Int32)]) (st := []) (q := 53) oX12_stuck dX12_proves_50 w1838 w1839 w1840 rfl rfl (gO_sp o14).1 (gO_sp o14).2 rfl (Nat.le_of_ble_eq_true rfl) (Nat.le_of_ble_eq_true rfl) (Nat.lt_of_lt_of_le (by decide) hd) rfl (sX12_stuck (Nat.le_refl _) x15e) rfl ?_
    refine v_iconst (v := 1) (q := 54) dX12_proves_53 (by decide) rfl ?_
    refine v_icmp_ne (q1 := 71) (q2 := 57) dX12_proves_54 (by decide) rfl (fun c16 => ?_) (fun c16 => ?_)
    · have H := ine c16 H
      exact V.sub [0, 1, 2] rfl (sjX12_proves_71 hd H kI kE)
    · have H := ip c16 H
      refine v_aload_n (q := 58) 0 dX12_proves_57 rfl rfl rfl ?_
      refine v_aload_n (q := 59) 0 dX12_proves_58 rfl rfl rfl ?_
      obtain ⟨_, o18, H⟩ := bs H
      obtain ⟨x19, x19e, H⟩ := bs H
      refine u_callV1 (M' := mX12_ringLocks) (d' := 1) (rc := (RX12, TX12, 58)) (As := []) (st := [.ref u0]) (q := 62) oX12_ringLocks dX12_proves_59 w1925 w1927 w0126 rfl rfl (gO_sp o18).1 (gO_sp o18).2 rfl (Nat.le_of_ble_eq_true rfl) (Nat.le_of_ble_eq_true rfl) (Nat.lt_of_lt_of_le (by decide) hd) rfl (sX12_ringLocks (Nat.le_refl _) x19e) rfl ?_
      refine v_iload_n (q := 63) 1 dX12_proves_62 rfl rfl rfl ?_
      obtain ⟨_, o20, H⟩ := bs H
      obtain ⟨x21, x21e, H⟩ := bs H
      refine u_callV1 (M' := mX12_areOf) (d' := 2) (rc := (RX12, TX12, 58)) (As := [.int x19, .int u2]) (st := []) (q := 66) oX12_areOf dX12_proves_63 w2004 w2006 w0135 rfl rfl (gO_sp o20).1 (gO_sp o20).2 rfl (Nat.le_of_ble_eq_true rfl) (Nat.le_of_ble_eq_true rfl) (Nat.lt_of_lt_of_le (by decide) hd) rfl (sX12_areOf (Nat.le_refl _) x21e) rfl ?_
      refine v_if_eq (q1 := 71) (q2 := 69) dX12_proves_66 (by decide) rfl (fun c22 => ?_) (fun c22 => ?_)
      · have H := ip c22 H
        exact V.sub [0, 1, 2] rfl (sjX12_proves_71 hd H kI kE)
      · have H := ine c22 H
        exact V.sub [] rfl (kE (.inr x15.2) (Option.some.inj H).symm)
def fX12_proves (h : Hp) (v0 : Nat) (v1 : Int32) : Option (Int32 × Hp) :=
(gO h 12 v0).bind fun _ =>
(fX12_isReport h v0 v1).bind fun x2 =>
if x2 = 0 then (
jX12_proves_22 h) else (
(gR h 12 v0 0).bind fun x4 =>
(fX12_atReport h v1 (0 : Int32)).bind fun x5 =>
(lI h .int x4 x5).bind fun x6 =>
if x6 = (3 : Int32) then (
(gO h 12 v0).bind fun _ =>
(fX12_kindsOf h v0 v1).bind fun x9 =>
(lp (bX12_proves_32 v0 x9) FU ((1 : Int32), h)).bind fun e23 =>
(match e23 with
| .inl e24 => (
some (((0 : Int32), e24)))
| .inr e25 => (
some (((1 : Int32), e25))))) else (
jX12_proves_22 h))
set_option maxRecDepth 20000 in
set_option maxHeartbeats 4000000 in
theorem sX12_proves {Γ : Gm} {d : Nat} (hd : 10 ≤ d) {h : Hp} {v0 : Nat} {v1 : Int32} {r : Int32 × Hp} (H : fX12_proves h v0 v1 = some r) : V Γ d mX12_proves 0 [(0, .ref v0), (1, .int v1)] [] h (some (.int r.1), r.2) := by
  unfold fX12_proves at H
  refine v_aload_n (q := 1) 0 dX12_proves_0 rfl rfl rfl ?_
  refine v_iload_n (q := 2) 1 dX12_proves_1 rfl rfl rfl ?_
  obtain ⟨_, o1, H⟩ := bs H
  obtain ⟨x2, x2e, H⟩ := bs H
  refine u_callV1 (M' := mX12_isReport) (d' := 2) (rc := (RX12, TX12, 58)) (As := [.int v1]) (st := []) (q := 5) oX12_isReport dX12_proves_2 w1797 w1799 w0101 rfl rfl (gO_sp o1).1 (gO_sp o1).2 rfl (Nat.le_of_ble_eq_true rfl) (Nat.le_of_ble_eq_true rfl) (Nat.lt_of_lt_of_le (by decide) hd) rfl (sX12_isReport (Nat.le_refl _) x2e) rfl ?_
  refine v_if_eq (q1 := 22) (q2 := 8) dX12_proves_5 (by decide) rfl (fun c3 => ?_) (fun c3 => ?_)
  · have H := ip c3 H
    exact V.sub [] rfl (sjX12_proves_22 hd H)
  · have H := ine c3 H
    refine v_aload_n (q := 9) 0 dX12_proves_8 rfl rfl rfl ?_
    obtain ⟨x4, x4e, H⟩ := bs H
    refine u_gR (q := 12) (r := (RX12, TX12, 58)) x4e dX12_proves_9 w1356 rfl (by decide) rfl rfl ?_
    refine v_iload_n (q := 13) 1 dX12_proves_12 rfl rfl rfl ?_
    refine v_iconst (v := 0) (q := 14) dX12_proves_13 (by decide) rfl ?_
    obtain ⟨x5, x5e, H⟩ := bs H
    refine u_callS1 (M' := mX12_atReport) (d' := 1) (As := [.int v1, .int (0 : Int32)]) (st := [.ref x4]) (q := 17) oX12_atReport dX12_proves_14 w1670 w1671 rfl (Nat.le_of_ble_eq_true rfl) (Nat.le_of_ble_eq_true rfl) (Nat.lt_of_lt_of_le (by decide) hd) rfl (sX12_atReport (Nat.le_refl _) x5e) rfl ?_
    obtain ⟨x6, x6e, H⟩ := bs H
    refine u_lI (q := 18) x6e dX12_proves_17 rfl ?_
    refine v_iconst (v := 3) (q := 19) dX12_proves_18 (by decide) rfl ?_
    refine v_icmp_eq (q1 := 24) (q2 := 22) dX12_proves_19 (by decide) rfl (fun c7 => ?_) (fun c7 => ?_)
    · have H := ip c7 H
      refine v_aload_n (q := 25) 0 dX12_proves_24 rfl rfl rfl ?_
      refine v_iload_n (q := 26) 1 dX12_proves_25 rfl rfl rfl ?_
      obtain ⟨_, o8, H⟩ := bs H
      obtain ⟨x9, x9e, H⟩ := bs H
      refine u_callV1 (M' := mX12_kindsOf) (d' := 2) (rc := (RX12, TX12, 58)) (As := [.int v1]) (st := []) (q := 29) oX12_kindsOf dX12_proves_26 w1996 w1998 w0134 rfl rfl (gO_sp o8).1 (gO_sp o8).2 rfl (Nat.le_of_ble_eq_true rfl) (Nat.le_of_ble_eq_true rfl) (Nat.lt_of_lt_of_le (by decide) hd) rfl (sX12_kindsOf (Nat.le_refl _) x9e) rfl ?_
      refine v_istore_n (L' := [(2, .int x9), (0, .ref v0), (1, .int v1)]) (q := 30) dX12_proves_29 rfl (by decide) rfl rfl ?_
      refine v_iconst (v := 1) (q := 31) dX12_proves_30 (by decide) rfl ?_
      refine v_istore_n (L' := [(3, .int (1 : Int32)), (2, .int x9), (0, .ref v0), (1, .int v1)]) (q := 32) dX12_proves_31 rfl (by decide) rfl rfl ?_
      obtain ⟨e23, e23L, H⟩ := bs H
      refine V.sub [2, 1, 0] rfl ?_
      refine lp_V (P := (fun s32 => V Γ d mX12_proves 32 [(0, .ref v0), (2, .int x9), (3, .int s32.1)] [] s32.2 (some (.int r.1), r.2))) (E := (fun e => (match e with | .inl a0 => V Γ d mX12_proves 77 [] [] a0 (some (.int r.1), r.2) | .inr b0 => V Γ d mX12_proves 69 [] [] b0 (some (.int r.1), r.2)))) (fun s r hb kI kE => sbX12_proves_32 hd (s32 := s) (r := r) hb kI kE) FU ((1 : Int32), h) e23 e23L ?_
      rcases e23 with e24 | e25
      · skip
        refine v_iconst (v := 0) (q := 78) dX12_proves_77 (by decide) rfl ?_
        cases H
        exact v_ireturn rfl dX12_proves_78
      · skip
        refine v_iconst (v := 1) (q := 70) dX12_proves_69 (by decide) rfl ?_
        cases H
        exact v_ireturn rfl dX12_proves_70
    · have H := ine c7 H
      exact V.sub [] rfl (sjX12_proves_22 hd H)
def mX12_reaches : MI := (yX12_reaches, cX12_reaches, 4, some .int)
theorem oX12_reaches : mOK mX12_reaches 1 := ⟨by decide +kernel, by decide +kernel, by decide +kernel, by decide, w1788, w0150⟩
def jX12_reaches_34 (u0 : Nat) (u1 : Int32) (v3 : Int32) (y0 : Int32) (y1 : Int32) (h : Hp) : Option ((Int32 × Int32 × Hp) ⊕ (Int32 × Hp)) :=
(some (y1 ||| y0)).bind fun x7 =>
(some (v3 + (1 : Int32))).bind fun x8 =>
some (.inl (x7, x8, h))
set_option maxRecDepth 20000 in
set_option maxHeartbeats 4000000 in
theorem sjX12_reaches_34 {Γ : Gm} {d : Nat} (hd : 4 ≤ d) {u0 : Nat} {u1 : Int32} {v3 : Int32} {y0 : Int32} {y1 : Int32} {h : Hp} {r : (Int32 × Int32 × Hp) ⊕ (Int32 × Hp)} {t : Option Value × Hp} (H : jX12_reaches_34 u0 u1 v3 y0 y1 h = some r) (kI : ∀ s, r = .inl s → (fun s4 => V Γ d mX12_reaches 4 [(0, .ref u0), (1, .int u1), (2, .int s4.1), (3, .int s4.2.1)] [] s4.2.2 t) s) (kE : ∀ e, r = .inr e → (fun e => V Γ d mX12_reaches 42 [(2, .int e.1)] [] e.2 t) e) : V Γ d mX12_reaches 34 [(0, .ref u0), (1, .int u1), (3, .int v3)] [.int y0, .int y1] h t := by
  unfold jX12_reaches_34 at H
  refine v_ior (q := 35) dX12_reaches_34 rfl ?_
  obtain ⟨x7, x7e, H⟩ := bs H
  refine v_topi (Option.some.inj x7e) ?_
  refine v_istore_n (L' := [(2, .int x7), (0, .ref u0), (1, .int u1), (3, .int v3)]) (q := 36) dX12_reaches_35 rfl (by decide) rfl rfl ?_
  obtain ⟨x8, x8e, H⟩ := bs H
  refine v_iinc (v := x8) (L' := [(3, .int x8), (2, .int x7), (0, .ref u0), (1, .int u1)]) (q := 39) 3 dX12_reaches_36 rfl (Option.some.inj x8e) (by decide) rfl rfl ?_
  refine v_goto (q := 4) dX12_reaches_39 (by decide) ?_
  exact V.sub [2, 3, 1, 0] rfl (kI (x7, x8, h) (Option.some.inj H).symm)
def bX12_reaches_4 (u0 : Nat) (u1 : Int32) (s4 : Int32 × Int32 × Hp) : Option ((Int32 × Int32 × Hp) ⊕ (Int32 × Hp)) :=
if (16 : Int32) ≤ s4.2.1 then (
some (.inr (s4.1, s4.2.2))) else (
(fX12_isNode s4.2.2 u1).bind fun x2 =>
if x2 = 0 then (
some (.inr (s4.1, s4.2.2))) else (
(gO s4.2.2 12 u0).bind fun _ =>
(fX12_isWay s4.2.2 u0 u1 s4.2.1).bind fun x5 =>
if x5.1 = 0 then (
jX12_reaches_34 u0 u1 s4.2.1 (0 : Int32) s4.1 x5.2) else (
jX12_reaches_34 u0 u1 s4.2.1 ((1 : Int32) <<< (s4.2.1 &&& 31)) s4.1 x5.2)))
set_option maxRecDepth 20000 in
set_option maxHeartbeats 4000000 in
theorem sbX12_reaches_4 {Γ : Gm} {d : Nat} (hd : 4 ≤ d) {u0 : Nat} {u1 : Int32} {s4 : Int32 × Int32 × Hp} {r : (Int32 × Int32 × Hp) ⊕ (Int32 × Hp)} {t : Option Value × Hp} (H : bX12_reaches_4 u0 u1 s4 = some r) (kI : ∀ s, r = .inl s → (fun s4 => V Γ d mX12_reaches 4 [(0, .ref u0), (1, .int u1), (2, .int s4.1), (3, .int s4.2.1)] [] s4.2.2 t) s) (kE : ∀ e, r = .inr e → (fun e => V Γ d mX12_reaches 42 [(2, .int e.1)] [] e.2 t) e) : V Γ d mX12_reaches 4 [(0, .ref u0), (1, .int u1), (2, .int s4.1), (3, .int s4.2.1)] [] s4.2.2 t := by
  unfold bX12_reaches_4 at H
  refine v_iload_n (q := 5) 3 dX12_reaches_4 rfl rfl rfl ?_
  refine v_bipush (v := 16) (q := 7) dX12_reaches_5 (by decide) rfl ?_
  refine v_icmp_ge (q1 := 42) (q2 := 10) dX12_reaches_7 (by decide) rfl (fun c1 => ?_) (fun c1 => ?_)
  · have H := ip c1 H
    exact V.sub [2] rfl (kE (s4.1, s4.2.2) (Option.some.inj H).symm)
  · have H := ine c1 H
    refine v_iload_n (q := 11) 1 dX12_reaches_10 rfl rfl rfl ?_
    obtain ⟨x2, x2e, H⟩ := bs H
    refine u_callS1 (M' := mX12_isNode) (d' := 2) (As := [.int u1]) (st := []) (q := 14) oX12_isNode dX12_reaches_11 w1774 w1775 rfl (Nat.le_of_ble_eq_true rfl) (Nat.le_of_ble_eq_true rfl) (Nat.lt_of_lt_of_le (by decide) hd) rfl (sX12_isNode (Nat.le_refl _) x2e) rfl ?_
    refine v_if_eq (q1 := 42) (q2 := 17) dX12_reaches_14 (by decide) rfl (fun c3 => ?_) (fun c3 => ?_)
    · have H := ip c3 H
      exact V.sub [2] rfl (kE (s4.1, s4.2.2) (Option.some.inj H).symm)
    · have H := ine c3 H
      refine v_iload_n (q := 18) 2 dX12_reaches_17 rfl rfl rfl ?_
      refine v_aload_n (q := 19) 0 dX12_reaches_18 rfl rfl rfl ?_
      refine v_iload_n (q := 20) 1 dX12_reaches_19 rfl rfl rfl ?_
      refine v_iload_n (q := 21) 3 dX12_reaches_20 rfl rfl rfl ?_
      obtain ⟨_, o4, H⟩ := bs H
      obtain ⟨x5, x5e, H⟩ := bs H
      refine u_callV1 (M' := mX12_isWay) (d' := 3) (rc := (RX12, TX12, 58)) (As := [.int u1, .int s4.2.1]) (st := [.int s4.1]) (q := 24) oX12_isWay dX12_reaches_21 w1789 w1791 w0100 rfl rfl (gO_sp o4).1 (gO_sp o4).2 rfl (Nat.le_of_ble_eq_true rfl) (Nat.le_of_ble_eq_true rfl) (Nat.lt_of_lt_of_le (by decide) hd) rfl (sX12_isWay (Nat.le_refl _) x5e) rfl ?_
      refine v_if_eq (q1 := 33) (q2 := 27) dX12_reaches_24 (by decide) rfl (fun c6 => ?_) (fun c6 => ?_)
      · have H := ip c6 H
        refine v_iconst (v := 0) (q := 34) dX12_reaches_33 (by decide) rfl ?_
        exact V.sub [0, 1, 3] rfl (sjX12_reaches_34 hd H kI kE)
      · have H := ine c6 H
        refine v_iconst (v := 1) (q := 28) dX12_reaches_27 (by decide) rfl ?_
        refine v_iload_n (q := 29) 3 dX12_reaches_28 rfl rfl rfl ?_
        refine v_ishl (q := 30) dX12_reaches_29 rfl ?_
        refine v_goto (q := 34) dX12_reaches_30 (by decide) ?_
        exact V.sub [0, 1, 3] rfl (sjX12_reaches_34 hd H kI kE)
def fX12_reaches (h : Hp) (v0 : Nat) (v1 : Int32) : Option (Int32 × Hp) :=
(lp (bX12_reaches_4 v0 v1) FU ((0 : Int32), (0 : Int32), h)).bind fun e9 =>
some (e9.1, e9.2)
set_option maxRecDepth 20000 in
set_option maxHeartbeats 4000000 in
theorem sX12_reaches {Γ : Gm} {d : Nat} (hd : 4 ≤ d) {h : Hp} {v0 : Nat} {v1 : Int32} {r : Int32 × Hp} (H : fX12_reaches h v0 v1 = some r) : V Γ d mX12_reaches 0 [(0, .ref v0), (1, .int v1)] [] h (some (.int r.1), r.2) := by
  unfold fX12_reaches at H
  refine v_iconst (v := 0) (q := 1) dX12_reaches_0 (by decide) rfl ?_
  refine v_istore_n (L' := [(2, .int (0 : Int32)), (0, .ref v0), (1, .int v1)]) (q := 2) dX12_reaches_1 rfl (by decide) rfl rfl ?_
  refine v_iconst (v := 0) (q := 3) dX12_reaches_2 (by decide) rfl ?_
  refine v_istore_n (L' := [(3, .int (0 : Int32)), (2, .int (0 : Int32)), (0, .ref v0), (1, .int v1)]) (q := 4) dX12_reaches_3 rfl (by decide) rfl rfl ?_
  obtain ⟨e9, e9L, H⟩ := bs H
  refine V.sub [2, 3, 1, 0] rfl ?_
  refine lp_V (P := (fun s4 => V Γ d mX12_reaches 4 [(0, .ref v0), (1, .int v1), (2, .int s4.1), (3, .int s4.2.1)] [] s4.2.2 (some (.int r.1), r.2))) (E := (fun e => V Γ d mX12_reaches 42 [(2, .int e.1)] [] e.2 (some (.int r.1), r.2))) (fun s r hb kI kE => sbX12_reaches_4 hd (s4 := s) (r := r) hb kI kE) FU ((0 : Int32), (0 : Int32), h) e9 e9L ?_
  refine v_iload_n (q := 43) 0 dX12_reaches_42 rfl rfl rfl ?_
  cases H
  exact v_ireturn rfl dX12_reaches_43
def mX12_readLock : MI := (yX12_readLock, cX12_readLock, 3, none)
theorem oX12_readLock : mOK mX12_readLock 1 := ⟨by decide +kernel, by decide +kernel, by decide +kernel, by decide, w1601, w0150⟩
def jX12_readLock_60 (v0 : Nat) (v1 : Int32) (h : Hp) : Option (Hp) :=
(gO h 12 v0).bind fun _ =>
(fX12_oldName h v0 (0 : Int32)).bind fun x18 =>
(gI x18.2 12 v0 17).bind fun x19 =>
if x19 ≤ 0 then (
(gR x18.2 12 v0 4).bind fun x21 =>
(gR x18.2 12 v0 2).bind fun x22 =>
(lI x18.2 .int x22 v1).bind fun x23 =>
(tI x18.2 x21 (((10 : Int32) * v1) + x23) x18.1).bind fun h24 =>
(gR h24 12 v0 2).bind fun x25 =>
(lI h24 .int x25 v1).bind fun x26 =>
(tI h24 x25 v1 (x26 + (1 : Int32))).bind fun h27 =>
some h27) else (
some x18.2)
set_option maxRecDepth 20000 in
set_option maxHeartbeats 4000000 in
theorem sjX12_readLock_60 {Γ : Gm} {d : Nat} (hd : 5 ≤ d) {v0 : Nat} {v1 : Int32} {h : Hp} {r : Hp} (H : jX12_readLock_60 v0 v1 h = some r) : V Γ d mX12_readLock 60 [(0, .ref v0), (1, .int v1)] [] h (none, r) := by
  unfold jX12_readLock_60 at H
  refine v_aload_n (q := 61) 0 dX12_readLock_60 rfl rfl rfl ?_
  refine v_iconst (v := 0) (q := 62) dX12_readLock_61 (by decide) rfl ?_
  obtain ⟨_, o17, H⟩ := bs H
  obtain ⟨x18, x18e, H⟩ := bs H
  refine u_callV1 (M' := mX12_oldName) (d' := 4) (rc := (RX12, TX12, 58)) (As := [.int (0 : Int32)]) (st := []) (q := 65) oX12_oldName dX12_readLock_62 w1602 w1604 w0067 rfl rfl (gO_sp o17).1 (gO_sp o17).2 rfl (Nat.le_of_ble_eq_true rfl) (Nat.le_of_ble_eq_true rfl) (Nat.lt_of_lt_of_le (by decide) hd) rfl (sX12_oldName (Nat.le_refl _) x18e) rfl ?_
  refine v_istore_n (L' := [(2, .int x18.1), (0, .ref v0), (1, .int v1)]) (q := 66) dX12_readLock_65 rfl (by decide) rfl rfl ?_
  refine v_aload_n (q := 67) 1 dX12_readLock_66 rfl rfl rfl ?_
  obtain ⟨x19, x19e, H⟩ := bs H
  refine u_gI (q := 70) (r := (RX12, TX12, 58)) x19e dX12_readLock_67 w1373 rfl (by decide) rfl rfl ?_
  refine v_if_le (q1 := 74) (q2 := 73) dX12_readLock_70 (by decide) rfl (fun c20 => ?_) (fun c20 => ?_)
  · have H := ip c20 H
    refine v_aload_n (q := 75) 1 dX12_readLock_74 rfl rfl rfl ?_
    obtain ⟨x21, x21e, H⟩ := bs H
    refine u_gR (q := 78) (r := (RX12, TX12, 58)) x21e dX12_readLock_75 w1360 rfl (by decide) rfl rfl ?_
    refine v_bipush (v := 10) (q := 80) dX12_readLock_78 (by decide) rfl ?_
    refine v_iload_n (q := 81) 2 dX12_readLock_80 rfl rfl rfl ?_
    refine v_imul (q := 82) dX12_readLock_81 rfl ?_
    refine v_aload_n (q := 83) 1 dX12_readLock_82 rfl rfl rfl ?_
    obtain ⟨x22, x22e, H⟩ := bs H
    refine u_gR (q := 86) (r := (RX12, TX12, 58)) x22e dX12_readLock_83 w1358 rfl (by decide) rfl rfl ?_
    refine v_iload_n (q := 87) 2 dX12_readLock_86 rfl rfl rfl ?_
    obtain ⟨x23, x23e, H⟩ := bs H
    refine u_lI (q := 88) x23e dX12_readLock_87 rfl ?_
    refine v_iadd (q := 89) dX12_readLock_88 rfl ?_
    refine v_iload_n (q := 90) 0 dX12_readLock_89 rfl rfl rfl ?_
    obtain ⟨h24, h24e, H⟩ := bs H
    refine u_tI (q := 91) h24e dX12_readLock_90 rfl ?_
    refine v_aload_n (q := 92) 1 dX12_readLock_91 rfl rfl rfl ?_
    obtain ⟨x25, x25e, H⟩ := bs H
    refine u_gR (q := 95) (r := (RX12, TX12, 58)) x25e dX12_readLock_92 w1358 rfl (by decide) rfl rfl ?_
    refine v_iload_n (q := 96) 2 dX12_readLock_95 rfl rfl rfl ?_
    refine v_dup2 (q := 97) dX12_readLock_96 rfl rfl rfl ?_
    obtain ⟨x26, x26e, H⟩ := bs H
    refine u_lI (q := 98) x26e dX12_readLock_97 rfl ?_
    refine v_iconst (v := 1) (q := 99) dX12_readLock_98 (by decide) rfl ?_
    refine v_iadd (q := 100) dX12_readLock_99 rfl ?_
    obtain ⟨h27, h27e, H⟩ := bs H
    refine u_tI (q := 101) h27e dX12_readLock_100 rfl ?_
    cases H
    exact v_return rfl dX12_readLock_101
  · have H := ine c20 H
    cases H
    exact v_return rfl dX12_readLock_73
def jX12_readLock_16 (v0 : Nat) (v1 : Int32) (h : Hp) : Option (Hp) :=
(gI h 12 v0 17).bind fun x4 =>
if x4 ≤ 0 then (
(gO h 12 v0).bind fun _ =>
(fX12_scan h v0).bind fun x7 =>
(gR x7 12 v0 2).bind fun x8 =>
(lI x7 .int x8 v1).bind fun x9 =>
(gO x7 12 v0).bind fun _ =>
(fX12_newName x7 v0 (1 : Int32) x9).bind fun x11 =>
(gO x11 12 v0).bind fun _ =>
(fX12_isWord x11 v0 (11 : Int32)).bind fun x13 =>
if x13 = 0 then (
(gO x11 12 v0).bind fun _ =>
(fX12_fail x11 v0 (1 : Int32)).bind fun x16 =>
jX12_readLock_60 v0 v1 x16) else (
(gO x11 12 v0).bind fun _ =>
(fX12_scan x11 v0).bind fun x29 =>
jX12_readLock_60 v0 v1 x29)) else (
some h)
set_option maxRecDepth 20000 in
set_option maxHeartbeats 4000000 in
theorem sjX12_readLock_16 {Γ : Gm} {d : Nat} (hd : 5 ≤ d) {v0 : Nat} {v1 : Int32} {h : Hp} {r : Hp} (H : jX12_readLock_16 v0 v1 h = some r) : V Γ d mX12_readLock 16 [(0, .ref v0), (1, .int v1)] [] h (none, r) := by
  unfold jX12_readLock_16 at H
  refine v_aload_n (q := 17) 0 dX12_readLock_16 rfl rfl rfl ?_
  obtain ⟨x4, x4e, H⟩ := bs H
  refine u_gI (q := 20) (r := (RX12, TX12, 58)) x4e dX12_readLock_17 w1373 rfl (by decide) rfl rfl ?_
  refine v_if_le (q1 := 24) (q2 := 23) dX12_readLock_20 (by decide) rfl (fun c5 => ?_) (fun c5 => ?_)
  · have H := ip c5 H
    refine v_aload_n (q := 25) 0 dX12_readLock_24 rfl rfl rfl ?_
    obtain ⟨_, o6, H⟩ := bs H
    obtain ⟨x7, x7e, H⟩ := bs H
    refine u_callV0 (M' := mX12_scan) (d' := 3) (rc := (RX12, TX12, 58)) (As := []) (st := []) (q := 28) oX12_scan dX12_readLock_25 w1547 w1549 w0054 rfl rfl (gO_sp o6).1 (gO_sp o6).2 rfl (Nat.le_of_ble_eq_true rfl) (Nat.le_of_ble_eq_true rfl) (Nat.lt_of_lt_of_le (by decide) hd) rfl (sX12_scan (Nat.le_refl _) x7e) rfl ?_
    refine v_aload_n (q := 29) 0 dX12_readLock_28 rfl rfl rfl ?_
    refine v_iconst (v := 1) (q := 30) dX12_readLock_29 (by decide) rfl ?_
    refine v_aload_n (q := 31) 0 dX12_readLock_30 rfl rfl rfl ?_
    obtain ⟨x8, x8e, H⟩ := bs H
    refine u_gR (q := 34) (r := (RX12, TX12, 58)) x8e dX12_readLock_31 w1358 rfl (by decide) rfl rfl ?_
    refine v_iload_n (q := 35) 1 dX12_readLock_34 rfl rfl rfl ?_
    obtain ⟨x9, x9e, H⟩ := bs H
    refine u_lI (q := 36) x9e dX12_readLock_35 rfl ?_
    obtain ⟨_, o10, H⟩ := bs H
    obtain ⟨x11, x11e, H⟩ := bs H
    refine u_callV0 (M' := mX12_newName) (d' := 4) (rc := (RX12, TX12, 58)) (As := [.int (1 : Int32), .int x9]) (st := []) (q := 39) oX12_newName dX12_readLock_36 w1582 w1584 w0062 rfl rfl (gO_sp o10).1 (gO_sp o10).2 rfl (Nat.le_of_ble_eq_true rfl) (Nat.le_of_ble_eq_true rfl) (Nat.lt_of_lt_of_le (by decide) hd) rfl (sX12_newName (Nat.le_refl _) x11e) rfl ?_
    refine v_aload_n (q := 40) 0 dX12_readLock_39 rfl rfl rfl ?_
    refine v_bipush (v := 11) (q := 42) dX12_readLock_40 (by decide) rfl ?_
    obtain ⟨_, o12, H⟩ := bs H
    obtain ⟨x13, x13e, H⟩ := bs H
    refine u_callV1 (M' := mX12_isWord) (d' := 1) (rc := (RX12, TX12, 58)) (As := [.int (11 : Int32)]) (st := []) (q := 45) oX12_isWord dX12_readLock_42 w1574 w1576 w0060 rfl rfl (gO_sp o12).1 (gO_sp o12).2 rfl (Nat.le_of_ble_eq_true rfl) (Nat.le_of_ble_eq_true rfl) (Nat.lt_of_lt_of_le (by decide) hd) rfl (sX12_isWord (Nat.le_refl _) x13e) rfl ?_
    refine v_if_eq (q1 := 55) (q2 := 48) dX12_readLock_45 (by decide) rfl (fun c14 => ?_) (fun c14 => ?_)
    · have H := ip c14 H
      refine v_aload_n (q := 56) 0 dX12_readLock_55 rfl rfl rfl ?_
      refine v_iconst (v := 1) (q := 57) dX12_readLock_56 (by decide) rfl ?_
      obtain ⟨_, o15, H⟩ := bs H
      obtain ⟨x16, x16e, H⟩ := bs H
      refine u_callV0 (M' := mX12_fail) (d' := 1) (rc := (RX12, TX12, 58)) (As := [.int (1 : Int32)]) (st := []) (q := 60) oX12_fail dX12_readLock_57 w1578 w1580 w0061 rfl rfl (gO_sp o15).1 (gO_sp o15).2 rfl (Nat.le_of_ble_eq_true rfl) (Nat.le_of_ble_eq_true rfl) (Nat.lt_of_lt_of_le (by decide) hd) rfl (sX12_fail (Nat.le_refl _) x16e) rfl ?_
      exact V.sub [0, 1] rfl (sjX12_readLock_60 hd H)
    · have H := ine c14 H
      refine v_aload_n (q := 49) 0 dX12_readLock_48 rfl rfl rfl ?_
      obtain ⟨_, o28, H⟩ := bs H
      obtain ⟨x29, x29e, H⟩ := bs H
      refine u_callV0 (M' := mX12_scan) (d' := 3) (rc := (RX12, TX12, 58)) (As := []) (st := []) (q := 52) oX12_scan dX12_readLock_49 w1547 w1549 w0054 rfl rfl (gO_sp o28).1 (gO_sp o28).2 rfl (Nat.le_of_ble_eq_true rfl) (Nat.le_of_ble_eq_true rfl) (Nat.lt_of_lt_of_le (by decide) hd) rfl (sX12_scan (Nat.le_refl _) x29e) rfl ?_
      refine v_goto (q := 60) dX12_readLock_52 (by decide) ?_
      exact V.sub [0, 1] rfl (sjX12_readLock_60 hd H)
  · have H := ine c5 H
    cases H
    exact v_return rfl dX12_readLock_23
def fX12_readLock (h : Hp) (v0 : Nat) (v1 : Int32) : Option (Hp) :=
(gR h 12 v0 2).bind fun x1 =>
(lI h .int x1 v1).bind fun x2 =>
if x2 = (10 : Int32) then (
(gO h 12 v0).bind fun _ =>
(fX12_fail h v0 (4 : Int32)).bind fun x31 =>
jX12_readLock_16 v0 v1 x31) else (
jX12_readLock_16 v0 v1 h)
set_option maxRecDepth 20000 in
set_option maxHeartbeats 4000000 in
theorem sX12_readLock {Γ : Gm} {d : Nat} (hd : 5 ≤ d) {h : Hp} {v0 : Nat} {v1 : Int32} {r : Hp} (H : fX12_readLock h v0 v1 = some r) : V Γ d mX12_readLock 0 [(0, .ref v0), (1, .int v1)] [] h (none, r) := by
  unfold fX12_readLock at H
  refine v_aload_n (q := 1) 0 dX12_readLock_0 rfl rfl rfl ?_
  obtain ⟨x1, x1e, H⟩ := bs H
  refine u_gR (q := 4) (r := (RX12, TX12, 58)) x1e dX12_readLock_1 w1358 rfl (by decide) rfl rfl ?_
  refine v_iload_n (q := 5) 1 dX12_readLock_4 rfl rfl rfl ?_
  obtain ⟨x2, x2e, H⟩ := bs H
  refine u_lI (q := 6) x2e dX12_readLock_5 rfl ?_
  refine v_bipush (v := 10) (q := 8) dX12_readLock_6 (by decide) rfl ?_
  refine v_icmp_ne (q1 := 16) (q2 := 11) dX12_readLock_8 (by decide) rfl (fun c3 => ?_) (fun c3 => ?_)
  · have H := ine c3 H
    exact V.sub [0, 1] rfl (sjX12_readLock_16 hd H)
  · have H := ip c3 H
    refine v_aload_n (q := 12) 0 dX12_readLock_11 rfl rfl rfl ?_
    refine v_iconst (v := 4) (q := 13) dX12_readLock_12 (by decide) rfl ?_
    obtain ⟨_, o30, H⟩ := bs H
    obtain ⟨x31, x31e, H⟩ := bs H
    refine u_callV0 (M' := mX12_fail) (d' := 1) (rc := (RX12, TX12, 58)) (As := [.int (4 : Int32)]) (st := []) (q := 16) oX12_fail dX12_readLock_13 w1578 w1580 w0061 rfl rfl (gO_sp o30).1 (gO_sp o30).2 rfl (Nat.le_of_ble_eq_true rfl) (Nat.le_of_ble_eq_true rfl) (Nat.lt_of_lt_of_le (by decide) hd) rfl (sX12_fail (Nat.le_refl _) x31e) rfl ?_
    exact V.sub [0, 1] rfl (sjX12_readLock_16 hd H)
def mX12_readStep : MI := (yX12_readStep, cX12_readStep, 4, none)
theorem oX12_readStep : mOK mX12_readStep 1 := ⟨by decide +kernel, by decide +kernel, by decide +kernel, by decide, w1617, w0150⟩
def jX12_readStep_117 (v0 : Nat) (v1 : Int32) (h : Hp) : Option (Hp) :=
(gR h 12 v0 6).bind fun x22 =>
(lI h .int x22 v1).bind fun x23 =>
(tI h x22 v1 (x23 + (1 : Int32))).bind fun h24 =>
some h24
set_option maxRecDepth 20000 in
set_option maxHeartbeats 4000000 in
theorem sjX12_readStep_117 {Γ : Gm} {d : Nat} (hd : 5 ≤ d) {v0 : Nat} {v1 : Int32} {h : Hp} {r : Hp} (H : jX12_readStep_117 v0 v1 h = some r) : V Γ d mX12_readStep 117 [(0, .ref v0), (1, .int v1)] [] h (none, r) := by
  unfold jX12_readStep_117 at H
  refine v_aload_n (q := 118) 0 dX12_readStep_117 rfl rfl rfl ?_
  obtain ⟨x22, x22e, H⟩ := bs H
  refine u_gR (q := 121) (r := (RX12, TX12, 58)) x22e dX12_readStep_118 w1362 rfl (by decide) rfl rfl ?_
  refine v_iload_n (q := 122) 1 dX12_readStep_121 rfl rfl rfl ?_
  refine v_dup2 (q := 123) dX12_readStep_122 rfl rfl rfl ?_
  obtain ⟨x23, x23e, H⟩ := bs H
  refine u_lI (q := 124) x23e dX12_readStep_123 rfl ?_
  refine v_iconst (v := 1) (q := 125) dX12_readStep_124 (by decide) rfl ?_
  refine v_iadd (q := 126) dX12_readStep_125 rfl ?_
  obtain ⟨h24, h24e, H⟩ := bs H
  refine u_tI (q := 127) h24e dX12_readStep_126 rfl ?_
  cases H
  exact v_return rfl dX12_readStep_127
def jX12_readStep_55 (v0 : Nat) (v1 : Int32) (h : Hp) : Option (Hp) :=
(gI h 12 v0 17).bind fun x7 =>
if x7 ≤ 0 then (
(gR h 12 v0 6).bind fun x9 =>
(lI h .int x9 v1).bind fun x10 =>
(some (((12 : Int32) * v1) + x10)).bind fun x11 =>
(gR h 12 v0 7).bind fun x12 =>
(gI h 12 v0 16).bind fun x13 =>
(tI h x12 x11 x13).bind fun h14 =>
(gR h14 12 v0 8).bind fun x15 =>
(tI h14 x15 x11 (-1 : Int32)).bind fun h16 =>
(gO h16 12 v0).bind fun _ =>
(fX12_scan h16 v0).bind fun x18 =>
(gR x18 12 v0 7).bind fun x19 =>
(lI x18 .int x19 x11).bind fun x20 =>
if (4 : Int32) < x20 then (
jX12_readStep_117 v0 v1 x18) else (
(gR x18 12 v0 8).bind fun x25 =>
(gO x18 12 v0).bind fun _ =>
(fX12_oldName x18 v0 (1 : Int32)).bind fun x27 =>
(tI x27.2 x25 x11 x27.1).bind fun h28 =>
jX12_readStep_117 v0 v1 h28)) else (
some h)
set_option maxRecDepth 20000 in
set_option maxHeartbeats 4000000 in
theorem sjX12_readStep_55 {Γ : Gm} {d : Nat} (hd : 5 ≤ d) {v0 : Nat} {v1 : Int32} {h : Hp} {r : Hp} (H : jX12_readStep_55 v0 v1 h = some r) : V Γ d mX12_readStep 55 [(0, .ref v0), (1, .int v1)] [] h (none, r) := by
  unfold jX12_readStep_55 at H
  refine v_aload_n (q := 56) 0 dX12_readStep_55 rfl rfl rfl ?_
  obtain ⟨x7, x7e, H⟩ := bs H
  refine u_gI (q := 59) (r := (RX12, TX12, 58)) x7e dX12_readStep_56 w1373 rfl (by decide) rfl rfl ?_
  refine v_if_le (q1 := 63) (q2 := 62) dX12_readStep_59 (by decide) rfl (fun c8 => ?_) (fun c8 => ?_)
  · have H := ip c8 H
    refine v_bipush (v := 12) (q := 65) dX12_readStep_63 (by decide) rfl ?_
    refine v_iload_n (q := 66) 1 dX12_readStep_65 rfl rfl rfl ?_
    refine v_imul (q := 67) dX12_readStep_66 rfl ?_
    refine v_aload_n (q := 68) 0 dX12_readStep_67 rfl rfl rfl ?_
    obtain ⟨x9, x9e, H⟩ := bs H
    refine u_gR (q := 71) (r := (RX12, TX12, 58)) x9e dX12_readStep_68 w1362 rfl (by decide) rfl rfl ?_
    refine v_iload_n (q := 72) 1 dX12_readStep_71 rfl rfl rfl ?_
    obtain ⟨x10, x10e, H⟩ := bs H
    refine u_lI (q := 73) x10e dX12_readStep_72 rfl ?_
    refine v_iadd (q := 74) dX12_readStep_73 rfl ?_
    obtain ⟨x11, x11e, H⟩ := bs H
    refine v_topi (Option.some.inj x11e) ?_
    refine v_istore_n (L' := [(3, .int x11), (0, .ref v0), (1, .int v1)]) (q := 75) dX12_readStep_74 rfl (by decide) rfl rfl ?_
    refine v_aload_n (q := 76) 1 dX12_readStep_75 rfl rfl rfl ?_
    obtain ⟨x12, x12e, H⟩ := bs H
    refine u_gR (q := 79) (r := (RX12, TX12, 58)) x12e dX12_readStep_76 w1363 rfl (by decide) rfl rfl ?_
    refine v_iload_n (q := 80) 0 dX12_readStep_79 rfl rfl rfl ?_
    refine v_aload_n (q := 81) 1 dX12_readStep_80 rfl rfl rfl ?_
    obtain ⟨x13, x13e, H⟩ := bs H
    refine u_gI (q := 84) (r := (RX12, TX12, 58)) x13e dX12_readStep_81 w1372 rfl (by decide) rfl rfl ?_
    obtain ⟨h14, h14e, H⟩ := bs H
    refine u_tI (q := 85) h14e dX12_readStep_84 rfl ?_
    refine v_aload_n (q := 86) 1 dX12_readStep_85 rfl rfl rfl ?_
    obtain ⟨x15, x15e, H⟩ := bs H
    refine u_gR (q := 89) (r := (RX12, TX12, 58)) x15e dX12_readStep_86 w1364 rfl (by decide) rfl rfl ?_
    refine v_iload_n (q := 90) 0 dX12_readStep_89 rfl rfl rfl ?_
    refine v_iconst (v := -1) (q := 91) dX12_readStep_90 (by decide) rfl ?_
    obtain ⟨h16, h16e, H⟩ := bs H
    refine u_tI (q := 92) h16e dX12_readStep_91 rfl ?_
    refine v_aload_n (q := 93) 1 dX12_readStep_92 rfl rfl rfl ?_
    obtain ⟨_, o17, H⟩ := bs H
    obtain ⟨x18, x18e, H⟩ := bs H
    refine u_callV0 (M' := mX12_scan) (d' := 3) (rc := (RX12, TX12, 58)) (As := []) (st := []) (q := 96) oX12_scan dX12_readStep_93 w1547 w1549 w0054 rfl rfl (gO_sp o17).1 (gO_sp o17).2 rfl (Nat.le_of_ble_eq_true rfl) (Nat.le_of_ble_eq_true rfl) (Nat.lt_of_lt_of_le (by decide) hd) rfl (sX12_scan (Nat.le_refl _) x18e) rfl ?_
    refine v_aload_n (q := 97) 1 dX12_readStep_96 rfl rfl rfl ?_
    obtain ⟨x19, x19e, H⟩ := bs H
    refine u_gR (q := 100) (r := (RX12, TX12, 58)) x19e dX12_readStep_97 w1363 rfl (by decide) rfl rfl ?_
    refine v_iload_n (q := 101) 0 dX12_readStep_100 rfl rfl rfl ?_
    obtain ⟨x20, x20e, H⟩ := bs H
    refine u_lI (q := 102) x20e dX12_readStep_101 rfl ?_
    refine v_iconst (v := 4) (q := 103) dX12_readStep_102 (by decide) rfl ?_
    refine v_icmp_gt (q1 := 117) (q2 := 106) dX12_readStep_103 (by decide) rfl (fun c21 => ?_) (fun c21 => ?_)
    · have H := ip c21 H
      exact V.sub [1, 2] rfl (sjX12_readStep_117 hd H)
    · have H := ine c21 H
      refine v_aload_n (q := 107) 1 dX12_readStep_106 rfl rfl rfl ?_
      obtain ⟨x25, x25e, H⟩ := bs H
      refine u_gR (q := 110) (r := (RX12, TX12, 58)) x25e dX12_readStep_107 w1364 rfl (by decide) rfl rfl ?_
      refine v_iload_n (q := 111) 0 dX12_readStep_110 rfl rfl rfl ?_
      refine v_aload_n (q := 112) 1 dX12_readStep_111 rfl rfl rfl ?_
      refine v_iconst (v := 1) (q := 113) dX12_readStep_112 (by decide) rfl ?_
      obtain ⟨_, o26, H⟩ := bs H
      obtain ⟨x27, x27e, H⟩ := bs H
      refine u_callV1 (M' := mX12_oldName) (d' := 4) (rc := (RX12, TX12, 58)) (As := [.int (1 : Int32)]) (st := [.int x11, .ref x25]) (q := 116) oX12_oldName dX12_readStep_113 w1602 w1604 w0067 rfl rfl (gO_sp o26).1 (gO_sp o26).2 rfl (Nat.le_of_ble_eq_true rfl) (Nat.le_of_ble_eq_true rfl) (Nat.lt_of_lt_of_le (by decide) hd) rfl (sX12_oldName (Nat.le_refl _) x27e) rfl ?_
      obtain ⟨h28, h28e, H⟩ := bs H
      refine u_tI (q := 117) h28e dX12_readStep_116 rfl ?_
      exact V.sub [1, 2] rfl (sjX12_readStep_117 hd H)
  · have H := ine c8 H
    cases H
    exact v_return rfl dX12_readStep_62
def jX12_readStep_26 (v0 : Nat) (v1 : Int32) (y0 : Int32) (h : Hp) : Option (Hp) :=
if y0 = 0 then (
(gO h 12 v0).bind fun _ =>
(fX12_fail h v0 (1 : Int32)).bind fun x32 =>
jX12_readStep_55 v0 v1 x32) else (
(gR h 12 v0 6).bind fun x4 =>
(lI h .int x4 v1).bind fun x5 =>
if x5 = (12 : Int32) then (
(gO h 12 v0).bind fun _ =>
(fX12_fail h v0 (4 : Int32)).bind fun x30 =>
jX12_readStep_55 v0 v1 x30) else (
jX12_readStep_55 v0 v1 h))
set_option maxRecDepth 20000 in
set_option maxHeartbeats 4000000 in
theorem sjX12_readStep_26 {Γ : Gm} {d : Nat} (hd : 5 ≤ d) {v0 : Nat} {v1 : Int32} {y0 : Int32} {h : Hp} {r : Hp} (H : jX12_readStep_26 v0 v1 y0 h = some r) : V Γ d mX12_readStep 26 [(0, .ref v0), (1, .int v1)] [.int y0] h (none, r) := by
  unfold jX12_readStep_26 at H
  refine v_istore_n (L' := [(2, .int y0), (0, .ref v0), (1, .int v1)]) (q := 27) dX12_readStep_26 rfl (by decide) rfl rfl ?_
  refine v_iload_n (q := 28) 0 dX12_readStep_27 rfl rfl rfl ?_
  refine v_if_ne (q1 := 39) (q2 := 31) dX12_readStep_28 (by decide) rfl (fun c3 => ?_) (fun c3 => ?_)
  · have H := ine c3 H
    refine v_aload_n (q := 40) 1 dX12_readStep_39 rfl rfl rfl ?_
    obtain ⟨x4, x4e, H⟩ := bs H
    refine u_gR (q := 43) (r := (RX12, TX12, 58)) x4e dX12_readStep_40 w1362 rfl (by decide) rfl rfl ?_
    refine v_iload_n (q := 44) 2 dX12_readStep_43 rfl rfl rfl ?_
    obtain ⟨x5, x5e, H⟩ := bs H
    refine u_lI (q := 45) x5e dX12_readStep_44 rfl ?_
    refine v_bipush (v := 12) (q := 47) dX12_readStep_45 (by decide) rfl ?_
    refine v_icmp_ne (q1 := 55) (q2 := 50) dX12_readStep_47 (by decide) rfl (fun c6 => ?_) (fun c6 => ?_)
    · have H := ine c6 H
      exact V.sub [1, 2] rfl (sjX12_readStep_55 hd H)
    · have H := ip c6 H
      refine v_aload_n (q := 51) 1 dX12_readStep_50 rfl rfl rfl ?_
      refine v_iconst (v := 4) (q := 52) dX12_readStep_51 (by decide) rfl ?_
      obtain ⟨_, o29, H⟩ := bs H
      obtain ⟨x30, x30e, H⟩ := bs H
      refine u_callV0 (M' := mX12_fail) (d' := 1) (rc := (RX12, TX12, 58)) (As := [.int (4 : Int32)]) (st := []) (q := 55) oX12_fail dX12_readStep_52 w1578 w1580 w0061 rfl rfl (gO_sp o29).1 (gO_sp o29).2 rfl (Nat.le_of_ble_eq_true rfl) (Nat.le_of_ble_eq_true rfl) (Nat.lt_of_lt_of_le (by decide) hd) rfl (sX12_fail (Nat.le_refl _) x30e) rfl ?_
      exact V.sub [1, 2] rfl (sjX12_readStep_55 hd H)
  · have H := ip c3 H
    refine v_aload_n (q := 32) 1 dX12_readStep_31 rfl rfl rfl ?_
    refine v_iconst (v := 1) (q := 33) dX12_readStep_32 (by decide) rfl ?_
    obtain ⟨_, o31, H⟩ := bs H
    obtain ⟨x32, x32e, H⟩ := bs H
    refine u_callV0 (M' := mX12_fail) (d' := 1) (rc := (RX12, TX12, 58)) (As := [.int (1 : Int32)]) (st := []) (q := 36) oX12_fail dX12_readStep_33 w1578 w1580 w0061 rfl rfl (gO_sp o31).1 (gO_sp o31).2 rfl (Nat.le_of_ble_eq_true rfl) (Nat.le_of_ble_eq_true rfl) (Nat.lt_of_lt_of_le (by decide) hd) rfl (sX12_fail (Nat.le_refl _) x32e) rfl ?_
    refine v_goto (q := 55) dX12_readStep_36 (by decide) ?_
    exact V.sub [1, 2] rfl (sjX12_readStep_55 hd H)
def jX12_readStep_25 (v0 : Nat) (v1 : Int32) (h : Hp) : Option (Hp) :=
jX12_readStep_26 v0 v1 (0 : Int32) h
set_option maxRecDepth 20000 in
set_option maxHeartbeats 4000000 in
theorem sjX12_readStep_25 {Γ : Gm} {d : Nat} (hd : 5 ≤ d) {v0 : Nat} {v1 : Int32} {h : Hp} {r : Hp} (H : jX12_readStep_25 v0 v1 h = some r) : V Γ d mX12_readStep 25 [(0, .ref v0), (1, .int v1)] [] h (none, r) := by
  unfold jX12_readStep_25 at H
  refine v_iconst (v := 0) (q := 26) dX12_readStep_25 (by decide) rfl ?_
  exact V.sub [0, 1] rfl (sjX12_readStep_26 hd H)
def fX12_readStep (h : Hp) (v0 : Nat) (v1 : Int32) : Option (Hp) :=
(gI h 12 v0 15).bind fun x1 =>
if x1 = (2 : Int32) then (
(gI h 12 v0 16).bind fun x33 =>
(fX12_isIn h x33 (0 : Int32) (8 : Int32)).bind fun x34 =>
if x34 = 0 then (
jX12_readStep_25 v0 v1 h) else (
jX12_readStep_26 v0 v1 (1 : Int32) h)) else (
jX12_readStep_25 v0 v1 h)
set_option maxRecDepth 20000 in
set_option maxHeartbeats 4000000 in
theorem sX12_readStep {Γ : Gm} {d : Nat} (hd : 5 ≤ d) {h : Hp} {v0 : Nat} {v1 : Int32} {r : Hp} (H : fX12_readStep h v0 v1 = some r) : V Γ d mX12_readStep 0 [(0, .ref v0), (1, .int v1)] [] h (none, r) := by
  unfold fX12_readStep at H
  refine v_aload_n (q := 1) 0 dX12_readStep_0 rfl rfl rfl ?_
  obtain ⟨x1, x1e, H⟩ := bs H
  refine u_gI (q := 4) (r := (RX12, TX12, 58)) x1e dX12_readStep_1 w1371 rfl (by decide) rfl rfl ?_
  refine v_iconst (v := 2) (q := 5) dX12_readStep_4 (by decide) rfl ?_
  refine v_icmp_ne (q1 := 25) (q2 := 8) dX12_readStep_5 (by decide) rfl (fun c2 => ?_) (fun c2 => ?_)
  · have H := ine c2 H
    exact V.sub [0, 1] rfl (sjX12_readStep_25 hd H)
  · have H := ip c2 H
    refine v_aload_n (q := 9) 0 dX12_readStep_8 rfl rfl rfl ?_
    obtain ⟨x33, x33e, H⟩ := bs H
    refine u_gI (q := 12) (r := (RX12, TX12, 58)) x33e dX12_readStep_9 w1372 rfl (by decide) rfl rfl ?_
    refine v_iconst (v := 0) (q := 13) dX12_readStep_12 (by decide) rfl ?_
    refine v_bipush (v := 8) (q := 15) dX12_readStep_13 (by decide) rfl ?_
    obtain ⟨x34, x34e, H⟩ := bs H
    refine u_callS1 (M' := mX12_isIn) (d' := 1) (As := [.int x33, .int (0 : Int32), .int (8 : Int32)]) (st := []) (q := 18) oX12_isIn dX12_readStep_15 w1618 w1619 rfl (Nat.le_of_ble_eq_true rfl) (Nat.le_of_ble_eq_true rfl) (Nat.lt_of_lt_of_le (by decide) hd) rfl (sX12_isIn (Nat.le_refl _) x34e) rfl ?_
    refine v_if_eq (q1 := 25) (q2 := 21) dX12_readStep_18 (by decide) rfl (fun c35 => ?_) (fun c35 => ?_)
    · have H := ip c35 H
      exact V.sub [0, 1] rfl (sjX12_readStep_25 hd H)
    · have H := ine c35 H
      refine v_iconst (v := 1) (q := 22) dX12_readStep_21 (by decide) rfl ?_
      refine v_goto (q := 26) dX12_readStep_22 (by decide) ?_
      exact V.sub [0, 1] rfl (sjX12_readStep_26 hd H)
def mX12_readProgram : MI := (yX12_readProgram, cX12_readProgram, 4, none)
theorem oX12_readProgram : mOK mX12_readProgram 2 := ⟨by decide +kernel, by decide +kernel, by decide +kernel, by decide, w1609, w0150⟩
def jX12_readProgram_88 (u0 : Nat) (u1 : Int32) (u3 : Int32) (h : Hp) : Option ((Hp) ⊕ (Hp)) :=
(gO h 12 u0).bind fun _ =>
(fX12_readStep h u0 u3).bind fun x25 =>
some (.inl x25)
set_option maxRecDepth 20000 in
set_option maxHeartbeats 4000000 in
theorem sjX12_readProgram_88 {Γ : Gm} {d : Nat} (hd : 6 ≤ d) {u0 : Nat} {u1 : Int32} {u3 : Int32} {h : Hp} {r : (Hp) ⊕ (Hp)} {t : Option Value × Hp} (H : jX12_readProgram_88 u0 u1 u3 h = some r) (kI : ∀ s, r = .inl s → (fun s65 => V Γ d mX12_readProgram 65 [(0, .ref u0), (1, .int u1), (3, .int u3)] [] s65 t) s) (kE : ∀ e, r = .inr e → (fun e => V Γ d mX12_readProgram 96 [(0, .ref u0), (1, .int u1)] [] e t) e) : V Γ d mX12_readProgram 88 [(0, .ref u0), (1, .int u1), (3, .int u3)] [] h t := by
  unfold jX12_readProgram_88 at H
  refine v_aload_n (q := 89) 0 dX12_readProgram_88 rfl rfl rfl ?_
  refine v_iload_n (q := 90) 2 dX12_readProgram_89 rfl rfl rfl ?_
  obtain ⟨_, o24, H⟩ := bs H
  obtain ⟨x25, x25e, H⟩ := bs H
  refine u_callV0 (M' := mX12_readStep) (d' := 5) (rc := (RX12, TX12, 58)) (As := [.int u3]) (st := []) (q := 93) oX12_readStep dX12_readProgram_90 w1614 w1616 w0070 rfl rfl (gO_sp o24).1 (gO_sp o24).2 rfl (Nat.le_of_ble_eq_true rfl) (Nat.le_of_ble_eq_true rfl) (Nat.lt_of_lt_of_le (by decide) hd) rfl (sX12_readStep (Nat.le_refl _) x25e) rfl ?_
  refine v_goto (q := 65) dX12_readProgram_93 (by decide) ?_
  exact V.sub [0, 1, 2] rfl (kI x25 (Option.some.inj H).symm)
def bX12_readProgram_65 (u0 : Nat) (u1 : Int32) (u3 : Int32) (s65 : Hp) : Option ((Hp) ⊕ (Hp)) :=
(gI s65 12 u0 17).bind fun x19 =>
if x19 = 0 then (
(gR s65 12 u0 6).bind fun x21 =>
(lI s65 .int x21 u3).bind fun x22 =>
if x22 = 0 then (
jX12_readProgram_88 u0 u1 u3 s65) else (
(gO s65 12 u0).bind fun _ =>
(fX12_isStop s65 u0).bind fun x27 =>
if x27 = 0 then (
jX12_readProgram_88 u0 u1 u3 s65) else (
some (.inr s65)))) else (
some (.inr s65))
set_option maxRecDepth 20000 in
set_option maxHeartbeats 4000000 in
theorem sbX12_readProgram_65 {Γ : Gm} {d : Nat} (hd : 6 ≤ d) {u0 : Nat} {u1 : Int32} {u3 : Int32} {s65 : Hp} {r : (Hp) ⊕ (Hp)} {t : Option Value × Hp} (H : bX12_readProgram_65 u0 u1 u3 s65 = some r) (kI : ∀ s, r = .inl s → (fun s65 => V Γ d mX12_readProgram 65 [(0, .ref u0), (1, .int u1), (3, .int u3)] [] s65 t) s) (kE : ∀ e, r = .inr e → (fun e => V Γ d mX12_readProgram 96 [(0, .ref u0), (1, .int u1)] [] e t) e) : V Γ d mX12_readProgram 65 [(0, .ref u0), (1, .int u1), (3, .int u3)] [] s65 t := by
  unfold bX12_readProgram_65 at H
  refine v_aload_n (q := 66) 0 dX12_readProgram_65 rfl rfl rfl ?_
  obtain ⟨x19, x19e, H⟩ := bs H
  refine u_gI (q := 69) (r := (RX12, TX12, 58)) x19e dX12_readProgram_66 w1373 rfl (by decide) rfl rfl ?_
  refine v_if_ne (q1 := 96) (q2 := 72) dX12_readProgram_69 (by decide) rfl (fun c20 => ?_) (fun c20 => ?_)
  · have H := ine c20 H
    exact V.sub [0, 1] rfl (kE s65 (Option.some.inj H).symm)
  · have H := ip c20 H
    refine v_aload_n (q := 73) 0 dX12_readProgram_72 rfl rfl rfl ?_
    obtain ⟨x21, x21e, H⟩ := bs H
    refine u_gR (q := 76) (r := (RX12, TX12, 58)) x21e dX12_readProgram_73 w1362 rfl (by decide) rfl rfl ?_
    refine v_iload_n (q := 77) 2 dX12_readProgram_76 rfl rfl rfl ?_
    obtain ⟨x22, x22e, H⟩ := bs H
    refine u_lI (q := 78) x22e dX12_readProgram_77 rfl ?_
    refine v_if_eq (q1 := 88) (q2 := 81) dX12_readProgram_78 (by decide) rfl (fun c23 => ?_) (fun c23 => ?_)
    · have H := ip c23 H
      exact V.sub [0, 1, 2] rfl (sjX12_readProgram_88 hd H kI kE)
    · have H := ine c23 H
      refine v_aload_n (q := 82) 0 dX12_readProgram_81 rfl rfl rfl ?_
      obtain ⟨_, o26, H⟩ := bs H
      obtain ⟨x27, x27e, H⟩ := bs H
      refine u_callV1 (M' := mX12_isStop) (d' := 1) (rc := (RX12, TX12, 58)) (As := []) (st := []) (q := 85) oX12_isStop dX12_readProgram_82 w1610 w1612 w0069 rfl rfl (gO_sp o26).1 (gO_sp o26).2 rfl (Nat.le_of_ble_eq_true rfl) (Nat.le_of_ble_eq_true rfl) (Nat.lt_of_lt_of_le (by decide) hd) rfl (sX12_isStop (Nat.le_refl _) x27e) rfl ?_
      refine v_if_ne (q1 := 96) (q2 := 88) dX12_readProgram_85 (by decide) rfl (fun c28 => ?_) (fun c28 => ?_)
      · have H := ine c28 H
        exact V.sub [0, 1] rfl (kE s65 (Option.some.inj H).symm)
      · have H := ip c28 H
        exact V.sub [0, 1, 2] rfl (sjX12_readProgram_88 hd H kI kE)
def jX12_readProgram_113 (h : Hp) : Option (Hp) :=
some h
set_option maxRecDepth 20000 in
set_option maxHeartbeats 4000000 in
theorem sjX12_readProgram_113 {Γ : Gm} {d : Nat} (hd : 6 ≤ d) {h : Hp} {r : Hp} (H : jX12_readProgram_113 h = some r) : V Γ d mX12_readProgram 113 [] [] h (none, r) := by
  unfold jX12_readProgram_113 at H
  cases H
  exact v_return rfl dX12_readProgram_113
def jX12_readProgram_16 (v0 : Nat) (v1 : Int32) (v2 : Int32) (h : Hp) : Option (Hp) :=
(gI h 12 v0 17).bind fun x4 =>
if x4 ≤ 0 then (
(gO h 12 v0).bind fun _ =>
(fX12_scan h v0).bind fun x7 =>
(gR x7 12 v0 3).bind fun x8 =>
(lI x7 .int x8 v1).bind fun x9 =>
(some (((6 : Int32) * v1) + x9)).bind fun x10 =>
(gR x7 12 v0 3).bind fun x11 =>
(lI x7 .int x11 v1).bind fun x12 =>
(gO x7 12 v0).bind fun _ =>
(fX12_newName x7 v0 (2 : Int32) x12).bind fun x14 =>
(gR x14 12 v0 5).bind fun x15 =>
(tI x14 x15 x10 v2).bind fun h16 =>
(gR h16 12 v0 6).bind fun x17 =>
(tI h16 x17 x10 (0 : Int32)).bind fun h18 =>
(lp (bX12_readProgram_65 v0 v1 x10) FU h18).bind fun e29 =>
(gI e29 12 v0 17).bind fun x30 =>
if x30 = 0 then (
(gR e29 12 v0 3).bind fun x32 =>
(lI e29 .int x32 v1).bind fun x33 =>
(tI e29 x32 v1 (x33 + (1 : Int32))).bind fun h34 =>
jX12_readProgram_113 h34) else (
jX12_readProgram_113 e29)) else (
some h)
set_option maxRecDepth 20000 in
set_option maxHeartbeats 4000000 in
theorem sjX12_readProgram_16 {Γ : Gm} {d : Nat} (hd : 6 ≤ d) {v0 : Nat} {v1 : Int32} {v2 : Int32} {h : Hp} {r : Hp} (H : jX12_readProgram_16 v0 v1 v2 h = some r) : V Γ d mX12_readProgram 16 [(0, .ref v0), (1, .int v1), (2, .int v2)] [] h (none, r) := by
  unfold jX12_readProgram_16 at H
  refine v_aload_n (q := 17) 0 dX12_readProgram_16 rfl rfl rfl ?_
  obtain ⟨x4, x4e, H⟩ := bs H
  refine u_gI (q := 20) (r := (RX12, TX12, 58)) x4e dX12_readProgram_17 w1373 rfl (by decide) rfl rfl ?_
  refine v_if_le (q1 := 24) (q2 := 23) dX12_readProgram_20 (by decide) rfl (fun c5 => ?_) (fun c5 => ?_)
  · have H := ip c5 H
    refine v_aload_n (q := 25) 0 dX12_readProgram_24 rfl rfl rfl ?_
    obtain ⟨_, o6, H⟩ := bs H
    obtain ⟨x7, x7e, H⟩ := bs H
    refine u_callV0 (M' := mX12_scan) (d' := 3) (rc := (RX12, TX12, 58)) (As := []) (st := []) (q := 28) oX12_scan dX12_readProgram_25 w1547 w1549 w0054 rfl rfl (gO_sp o6).1 (gO_sp o6).2 rfl (Nat.le_of_ble_eq_true rfl) (Nat.le_of_ble_eq_true rfl) (Nat.lt_of_lt_of_le (by decide) hd) rfl (sX12_scan (Nat.le_refl _) x7e) rfl ?_
    refine v_bipush (v := 6) (q := 30) dX12_readProgram_28 (by decide) rfl ?_
    refine v_iload_n (q := 31) 1 dX12_readProgram_30 rfl rfl rfl ?_
    refine v_imul (q := 32) dX12_readProgram_31 rfl ?_
    refine v_aload_n (q := 33) 0 dX12_readProgram_32 rfl rfl rfl ?_
    obtain ⟨x8, x8e, H⟩ := bs H
    refine u_gR (q := 36) (r := (RX12, TX12, 58)) x8e dX12_readProgram_33 w1359 rfl (by decide) rfl rfl ?_
    refine v_iload_n (q := 37) 1 dX12_readProgram_36 rfl rfl rfl ?_
    obtain ⟨x9, x9e, H⟩ := bs H
    refine u_lI (q := 38) x9e dX12_readProgram_37 rfl ?_
    refine v_iadd (q := 39) dX12_readProgram_38 rfl ?_
    obtain ⟨x10, x10e, H⟩ := bs H
    refine v_topi (Option.some.inj x10e) ?_
    refine v_istore_n (L' := [(3, .int x10), (0, .ref v0), (1, .int v1), (2, .int v2)]) (q := 40) dX12_readProgram_39 rfl (by decide) rfl rfl ?_
    refine v_aload_n (q := 41) 1 dX12_readProgram_40 rfl rfl rfl ?_
    refine v_iconst (v := 2) (q := 42) dX12_readProgram_41 (by decide) rfl ?_
    refine v_aload_n (q := 43) 1 dX12_readProgram_42 rfl rfl rfl ?_
    obtain ⟨x11, x11e, H⟩ := bs H
    refine u_gR (q := 46) (r := (RX12, TX12, 58)) x11e dX12_readProgram_43 w1359 rfl (by decide) rfl rfl ?_
    refine v_iload_n (q := 47) 2 dX12_readProgram_46 rfl rfl rfl ?_
    obtain ⟨x12, x12e, H⟩ := bs H
    refine u_lI (q := 48) x12e dX12_readProgram_47 rfl ?_
    obtain ⟨_, o13, H⟩ := bs H
    obtain ⟨x14, x14e, H⟩ := bs H
    refine u_callV0 (M' := mX12_newName) (d' := 4) (rc := (RX12, TX12, 58)) (As := [.int (2 : Int32), .int x12]) (st := []) (q := 51) oX12_newName dX12_readProgram_48 w1582 w1584 w0062 rfl rfl (gO_sp o13).1 (gO_sp o13).2 rfl (Nat.le_of_ble_eq_true rfl) (Nat.le_of_ble_eq_true rfl) (Nat.lt_of_lt_of_le (by decide) hd) rfl (sX12_newName (Nat.le_refl _) x14e) rfl ?_
    refine v_aload_n (q := 52) 1 dX12_readProgram_51 rfl rfl rfl ?_
    obtain ⟨x15, x15e, H⟩ := bs H
    refine u_gR (q := 55) (r := (RX12, TX12, 58)) x15e dX12_readProgram_52 w1361 rfl (by decide) rfl rfl ?_
    refine v_iload_n (q := 56) 0 dX12_readProgram_55 rfl rfl rfl ?_
    refine v_iload_n (q := 57) 3 dX12_readProgram_56 rfl rfl rfl ?_
    obtain ⟨h16, h16e, H⟩ := bs H
    refine u_tI (q := 58) h16e dX12_readProgram_57 rfl ?_
    refine v_aload_n (q := 59) 1 dX12_readProgram_58 rfl rfl rfl ?_
    obtain ⟨x17, x17e, H⟩ := bs H
    refine u_gR (q := 62) (r := (RX12, TX12, 58)) x17e dX12_readProgram_59 w1362 rfl (by decide) rfl rfl ?_
    refine v_iload_n (q := 63) 0 dX12_readProgram_62 rfl rfl rfl ?_
    refine v_iconst (v := 0) (q := 64) dX12_readProgram_63 (by decide) rfl ?_
    obtain ⟨h18, h18e, H⟩ := bs H
    refine u_tI (q := 65) h18e dX12_readProgram_64 rfl ?_
    obtain ⟨e29, e29L, H⟩ := bs H
    refine V.sub [1, 2, 0] rfl ?_
    refine lp_V (P := (fun s65 => V Γ d mX12_readProgram 65 [(0, .ref v0), (1, .int v1), (3, .int x10)] [] s65 (none, r))) (E := (fun e => V Γ d mX12_readProgram 96 [(0, .ref v0), (1, .int v1)] [] e (none, r))) (fun s r hb kI kE => sbX12_readProgram_65 hd (s65 := s) (r := r) hb kI kE) FU h18 e29 e29L ?_
    refine v_aload_n (q := 97) 0 dX12_readProgram_96 rfl rfl rfl ?_
    obtain ⟨x30, x30e, H⟩ := bs H
    refine u_gI (q := 100) (r := (RX12, TX12, 58)) x30e dX12_readProgram_97 w1373 rfl (by decide) rfl rfl ?_
    refine v_if_ne (q1 := 113) (q2 := 103) dX12_readProgram_100 (by decide) rfl (fun c31 => ?_) (fun c31 => ?_)
    · have H := ine c31 H
      exact V.sub [] rfl (sjX12_readProgram_113 hd H)
    · have H := ip c31 H
      refine v_aload_n (q := 104) 0 dX12_readProgram_103 rfl rfl rfl ?_
      obtain ⟨x32, x32e, H⟩ := bs H
      refine u_gR (q := 107) (r := (RX12, TX12, 58)) x32e dX12_readProgram_104 w1359 rfl (by decide) rfl rfl ?_
      refine v_iload_n (q := 108) 1 dX12_readProgram_107 rfl rfl rfl ?_
      refine v_dup2 (q := 109) dX12_readProgram_108 rfl rfl rfl ?_
      obtain ⟨x33, x33e, H⟩ := bs H
      refine u_lI (q := 110) x33e dX12_readProgram_109 rfl ?_
      refine v_iconst (v := 1) (q := 111) dX12_readProgram_110 (by decide) rfl ?_
      refine v_iadd (q := 112) dX12_readProgram_111 rfl ?_
      obtain ⟨h34, h34e, H⟩ := bs H
      refine u_tI (q := 113) h34e dX12_readProgram_112 rfl ?_
      exact V.sub [] rfl (sjX12_readProgram_113 hd H)
  · have H := ine c5 H
    cases H
    exact v_return rfl dX12_readProgram_23
def fX12_readProgram (h : Hp) (v0 : Nat) (v1 : Int32) (v2 : Int32) : Option (Hp) :=
(gR h 12 v0 3).bind fun x1 =>
(lI h .int x1 v1).bind fun x2 =>
if x2 = (6 : Int32) then (
(gO h 12 v0).bind fun _ =>
(fX12_fail h v0 (4 : Int32)).bind fun x36 =>
jX12_readProgram_16 v0 v1 v2 x36) else (
jX12_readProgram_16 v0 v1 v2 h)
set_option maxRecDepth 20000 in
set_option maxHeartbeats 4000000 in
theorem sX12_readProgram {Γ : Gm} {d : Nat} (hd : 6 ≤ d) {h : Hp} {v0 : Nat} {v1 : Int32} {v2 : Int32} {r : Hp} (H : fX12_readProgram h v0 v1 v2 = some r) : V Γ d mX12_readProgram 0 [(0, .ref v0), (1, .int v1), (2, .int v2)] [] h (none, r) := by
  unfold fX12_readProgram at H
  refine v_aload_n (q := 1) 0 dX12_readProgram_0 rfl rfl rfl ?_
  obtain ⟨x1, x1e, H⟩ := bs H
  refine u_gR (q := 4) (r := (RX12, TX12, 58)) x1e dX12_readProgram_1 w1359 rfl (by decide) rfl rfl ?_
  refine v_iload_n (q := 5) 1 dX12_readProgram_4 rfl rfl rfl ?_
  obtain ⟨x2, x2e, H⟩ := bs H
  refine u_lI (q := 6) x2e dX12_readProgram_5 rfl ?_
  refine v_bipush (v := 6) (q := 8) dX12_readProgram_6 (by decide) rfl ?_
  refine v_icmp_ne (q1 := 16) (q2 := 11) dX12_readProgram_8 (by decide) rfl (fun c3 => ?_) (fun c3 => ?_)
  · have H := ine c3 H
    exact V.sub [0, 1, 2] rfl (sjX12_readProgram_16 hd H)
  · have H := ip c3 H
    refine v_aload_n (q := 12) 0 dX12_readProgram_11 rfl rfl rfl ?_
    refine v_iconst (v := 4) (q := 13) dX12_readProgram_12 (by decide) rfl ?_
    obtain ⟨_, o35, H⟩ := bs H
    obtain ⟨x36, x36e, H⟩ := bs H
    refine u_callV0 (M' := mX12_fail) (d' := 1) (rc := (RX12, TX12, 58)) (As := [.int (4 : Int32)]) (st := []) (q := 16) oX12_fail dX12_readProgram_13 w1578 w1580 w0061 rfl rfl (gO_sp o35).1 (gO_sp o35).2 rfl (Nat.le_of_ble_eq_true rfl) (Nat.le_of_ble_eq_true rfl) (Nat.lt_of_lt_of_le (by decide) hd) rfl (sX12_fail (Nat.le_refl _) x36e) rfl ?_
    exact V.sub [0, 1, 2] rfl (sjX12_readProgram_16 hd H)
def mX12_readLine : MI := (yX12_readLine, cX12_readLine, 2, none)
theorem oX12_readLine : mOK mX12_readLine 1 := ⟨by decide +kernel, by decide +kernel, by decide +kernel, by decide, w1573, w0150⟩
def jX12_readLine_124 (h : Hp) : Option (Hp) :=
some h
set_option maxRecDepth 20000 in
set_option maxHeartbeats 4000000 in
theorem sjX12_readLine_124 {Γ : Gm} {d : Nat} (hd : 7 ≤ d) {h : Hp} {r : Hp} (H : jX12_readLine_124 h = some r) : V Γ d mX12_readLine 124 [] [] h (none, r) := by
  unfold jX12_readLine_124 at H
  cases H
  exact v_return rfl dX12_readLine_124
def jX12_readLine_104 (v0 : Nat) (v1 : Int32) (h : Hp) : Option (Hp) :=
(gI h 12 v0 16).bind fun x10 =>
(gO h 12 v0).bind fun _ =>
(fX12_readProgram h v0 v1 (x10 - (12 : Int32))).bind fun x12 =>
jX12_readLine_124 x12
set_option maxRecDepth 20000 in
set_option maxHeartbeats 4000000 in
theorem sjX12_readLine_104 {Γ : Gm} {d : Nat} (hd : 7 ≤ d) {v0 : Nat} {v1 : Int32} {h : Hp} {r : Hp} (H : jX12_readLine_104 v0 v1 h = some r) : V Γ d mX12_readLine 104 [(0, .ref v0), (1, .int v1)] [] h (none, r) := by
  unfold jX12_readLine_104 at H
  refine v_aload_n (q := 105) 0 dX12_readLine_104 rfl rfl rfl ?_
  refine v_iload_n (q := 106) 1 dX12_readLine_105 rfl rfl rfl ?_
  refine v_aload_n (q := 107) 0 dX12_readLine_106 rfl rfl rfl ?_
  obtain ⟨x10, x10e, H⟩ := bs H
  refine u_gI (q := 110) (r := (RX12, TX12, 58)) x10e dX12_readLine_107 w1372 rfl (by decide) rfl rfl ?_
  refine v_bipush (v := 12) (q := 112) dX12_readLine_110 (by decide) rfl ?_
  refine v_isub (q := 113) dX12_readLine_112 rfl ?_
  obtain ⟨_, o11, H⟩ := bs H
  obtain ⟨x12, x12e, H⟩ := bs H
  refine u_callV0 (M' := mX12_readProgram) (d' := 6) (rc := (RX12, TX12, 58)) (As := [.int v1, .int (x10 - (12 : Int32))]) (st := []) (q := 116) oX12_readProgram dX12_readLine_113 w1606 w1608 w0068 rfl rfl (gO_sp o11).1 (gO_sp o11).2 rfl (Nat.le_of_ble_eq_true rfl) (Nat.le_of_ble_eq_true rfl) (Nat.lt_of_lt_of_le (by decide) hd) rfl (sX12_readProgram (Nat.le_refl _) x12e) rfl ?_
  refine v_goto (q := 124) dX12_readLine_116 (by decide) ?_
  exact V.sub [] rfl (sjX12_readLine_124 hd H)
def jX12_readLine_36 (v0 : Nat) (v1 : Int32) (h : Hp) : Option (Hp) :=
(gR h 12 v0 1).bind fun x28 =>
(lI h .int x28 v1).bind fun x29 =>
(gO h 12 v0).bind fun _ =>
(fX12_newName h v0 (0 : Int32) x29).bind fun x31 =>
(gR x31 12 v0 1).bind fun x32 =>
(lI x31 .int x32 v1).bind fun x33 =>
(tI x31 x32 v1 (x33 + (1 : Int32))).bind fun h34 =>
jX12_readLine_124 h34
set_option maxRecDepth 20000 in
set_option maxHeartbeats 4000000 in
theorem sjX12_readLine_36 {Γ : Gm} {d : Nat} (hd : 7 ≤ d) {v0 : Nat} {v1 : Int32} {h : Hp} {r : Hp} (H : jX12_readLine_36 v0 v1 h = some r) : V Γ d mX12_readLine 36 [(0, .ref v0), (1, .int v1)] [] h (none, r) := by
  unfold jX12_readLine_36 at H
  refine v_aload_n (q := 37) 0 dX12_readLine_36 rfl rfl rfl ?_
  refine v_iconst (v := 0) (q := 38) dX12_readLine_37 (by decide) rfl ?_
  refine v_aload_n (q := 39) 0 dX12_readLine_38 rfl rfl rfl ?_
  obtain ⟨x28, x28e, H⟩ := bs H
  refine u_gR (q := 42) (r := (RX12, TX12, 58)) x28e dX12_readLine_39 w1357 rfl (by decide) rfl rfl ?_
  refine v_iload_n (q := 43) 1 dX12_readLine_42 rfl rfl rfl ?_
  obtain ⟨x29, x29e, H⟩ := bs H
  refine u_lI (q := 44) x29e dX12_readLine_43 rfl ?_
  obtain ⟨_, o30, H⟩ := bs H
  obtain ⟨x31, x31e, H⟩ := bs H
  refine u_callV0 (M' := mX12_newName) (d' := 4) (rc := (RX12, TX12, 58)) (As := [.int (0 : Int32), .int x29]) (st := []) (q := 47) oX12_newName dX12_readLine_44 w1582 w1584 w0062 rfl rfl (gO_sp o30).1 (gO_sp o30).2 rfl (Nat.le_of_ble_eq_true rfl) (Nat.le_of_ble_eq_true rfl) (Nat.lt_of_lt_of_le (by decide) hd) rfl (sX12_newName (Nat.le_refl _) x31e) rfl ?_
  refine v_aload_n (q := 48) 0 dX12_readLine_47 rfl rfl rfl ?_
  obtain ⟨x32, x32e, H⟩ := bs H
  refine u_gR (q := 51) (r := (RX12, TX12, 58)) x32e dX12_readLine_48 w1357 rfl (by decide) rfl rfl ?_
  refine v_iload_n (q := 52) 1 dX12_readLine_51 rfl rfl rfl ?_
  refine v_dup2 (q := 53) dX12_readLine_52 rfl rfl rfl ?_
  obtain ⟨x33, x33e, H⟩ := bs H
  refine u_lI (q := 54) x33e dX12_readLine_53 rfl ?_
  refine v_iconst (v := 1) (q := 55) dX12_readLine_54 (by decide) rfl ?_
  refine v_iadd (q := 56) dX12_readLine_55 rfl ?_
  obtain ⟨h34, h34e, H⟩ := bs H
  refine u_tI (q := 57) h34e dX12_readLine_56 rfl ?_
  refine v_goto (q := 124) dX12_readLine_57 (by decide) ?_
  exact V.sub [] rfl (sjX12_readLine_124 hd H)
def jX12_readLine_25 (v0 : Nat) (v1 : Int32) (h : Hp) : Option (Hp) :=
(gI h 12 v0 17).bind fun x26 =>
if x26 = 0 then (
(gO h 12 v0).bind fun _ =>
(fX12_scan h v0).bind fun x36 =>
jX12_readLine_36 v0 v1 x36) else (
jX12_readLine_36 v0 v1 h)
set_option maxRecDepth 20000 in
set_option maxHeartbeats 4000000 in
theorem sjX12_readLine_25 {Γ : Gm} {d : Nat} (hd : 7 ≤ d) {v0 : Nat} {v1 : Int32} {h : Hp} {r : Hp} (H : jX12_readLine_25 v0 v1 h = some r) : V Γ d mX12_readLine 25 [(0, .ref v0), (1, .int v1)] [] h (none, r) := by
  unfold jX12_readLine_25 at H
  refine v_aload_n (q := 26) 0 dX12_readLine_25 rfl rfl rfl ?_
  obtain ⟨x26, x26e, H⟩ := bs H
  refine u_gI (q := 29) (r := (RX12, TX12, 58)) x26e dX12_readLine_26 w1373 rfl (by decide) rfl rfl ?_
  refine v_if_ne (q1 := 36) (q2 := 32) dX12_readLine_29 (by decide) rfl (fun c27 => ?_) (fun c27 => ?_)
  · have H := ine c27 H
    exact V.sub [0, 1] rfl (sjX12_readLine_36 hd H)
  · have H := ip c27 H
    refine v_aload_n (q := 33) 0 dX12_readLine_32 rfl rfl rfl ?_
    obtain ⟨_, o35, H⟩ := bs H
    obtain ⟨x36, x36e, H⟩ := bs H
    refine u_callV0 (M' := mX12_scan) (d' := 3) (rc := (RX12, TX12, 58)) (As := []) (st := []) (q := 36) oX12_scan dX12_readLine_33 w1547 w1549 w0054 rfl rfl (gO_sp o35).1 (gO_sp o35).2 rfl (Nat.le_of_ble_eq_true rfl) (Nat.le_of_ble_eq_true rfl) (Nat.lt_of_lt_of_le (by decide) hd) rfl (sX12_scan (Nat.le_refl _) x36e) rfl ?_
    exact V.sub [0, 1] rfl (sjX12_readLine_36 hd H)
def fX12_readLine (h : Hp) (v0 : Nat) (v1 : Int32) : Option (Hp) :=
(gO h 12 v0).bind fun _ =>
(fX12_isWord h v0 (9 : Int32)).bind fun x2 =>
if x2 = 0 then (
(gO h 12 v0).bind fun _ =>
(fX12_isWord h v0 (10 : Int32)).bind fun x5 =>
if x5 = 0 then (
(gO h 12 v0).bind fun _ =>
(fX12_isWord h v0 (12 : Int32)).bind fun x8 =>
if x8 = 0 then (
(gO h 12 v0).bind fun _ =>
(fX12_isWord h v0 (13 : Int32)).bind fun x14 =>
if x14 = 0 then (
(gO h 12 v0).bind fun _ =>
(fX12_isWord h v0 (14 : Int32)).bind fun x17 =>
if x17 = 0 then (
(gO h 12 v0).bind fun _ =>
(fX12_fail h v0 (1 : Int32)).bind fun x20 =>
jX12_readLine_124 x20) else (
jX12_readLine_104 v0 v1 h)) else (
jX12_readLine_104 v0 v1 h)) else (
jX12_readLine_104 v0 v1 h)) else (
(gO h 12 v0).bind fun _ =>
(fX12_readLock h v0 v1).bind fun x22 =>
jX12_readLine_124 x22)) else (
(gR h 12 v0 1).bind fun x23 =>
(lI h .int x23 v1).bind fun x24 =>
if x24 = (8 : Int32) then (
(gO h 12 v0).bind fun _ =>
(fX12_fail h v0 (4 : Int32)).bind fun x38 =>
jX12_readLine_25 v0 v1 x38) else (
jX12_readLine_25 v0 v1 h))
set_option maxRecDepth 20000 in
set_option maxHeartbeats 4000000 in
theorem sX12_readLine {Γ : Gm} {d : Nat} (hd : 7 ≤ d) {h : Hp} {v0 : Nat} {v1 : Int32} {r : Hp} (H : fX12_readLine h v0 v1 = some r) : V Γ d mX12_readLine 0 [(0, .ref v0), (1, .int v1)] [] h (none, r) := by
  unfold fX12_readLine at H
  refine v_aload_n (q := 1) 0 dX12_readLine_0 rfl rfl rfl ?_
  refine v_bipush (v := 9) (q := 3) dX12_readLine_1 (by decide) rfl ?_
  obtain ⟨_, o1, H⟩ := bs H
  obtain ⟨x2, x2e, H⟩ := bs H
  refine u_callV1 (M' := mX12_isWord) (d' := 1) (rc := (RX12, TX12, 58)) (As := [.int (9 : Int32)]) (st := []) (q := 6) oX12_isWord dX12_readLine_3 w1574 w1576 w0060 rfl rfl (gO_sp o1).1 (gO_sp o1).2 rfl (Nat.le_of_ble_eq_true rfl) (Nat.le_of_ble_eq_true rfl) (Nat.lt_of_lt_of_le (by decide) hd) rfl (sX12_isWord (Nat.le_refl _) x2e) rfl ?_
  refine v_if_eq (q1 := 60) (q2 := 9) dX12_readLine_6 (by decide) rfl (fun c3 => ?_) (fun c3 => ?_)
  · have H := ip c3 H
    refine v_aload_n (q := 61) 0 dX12_readLine_60 rfl rfl rfl ?_
    refine v_bipush (v := 10) (q := 63) dX12_readLine_61 (by decide) rfl ?_
    obtain ⟨_, o4, H⟩ := bs H
    obtain ⟨x5, x5e, H⟩ := bs H
    refine u_callV1 (M' := mX12_isWord) (d' := 1) (rc := (RX12, TX12, 58)) (As := [.int (10 : Int32)]) (st := []) (q := 66) oX12_isWord dX12_readLine_63 w1574 w1576 w0060 rfl rfl (gO_sp o4).1 (gO_sp o4).2 rfl (Nat.le_of_ble_eq_true rfl) (Nat.le_of_ble_eq_true rfl) (Nat.lt_of_lt_of_le (by decide) hd) rfl (sX12_isWord (Nat.le_refl _) x5e) rfl ?_
    refine v_if_eq (q1 := 77) (q2 := 69) dX12_readLine_66 (by decide) rfl (fun c6 => ?_) (fun c6 => ?_)
    · have H := ip c6 H
      refine v_aload_n (q := 78) 0 dX12_readLine_77 rfl rfl rfl ?_
      refine v_bipush (v := 12) (q := 80) dX12_readLine_78 (by decide) rfl ?_
      obtain ⟨_, o7, H⟩ := bs H
      obtain ⟨x8, x8e, H⟩ := bs H
      refine u_callV1 (M' := mX12_isWord) (d' := 1) (rc := (RX12, TX12, 58)) (As := [.int (12 : Int32)]) (st := []) (q := 83) oX12_isWord dX12_readLine_80 w1574 w1576 w0060 rfl rfl (gO_sp o7).1 (gO_sp o7).2 rfl (Nat.le_of_ble_eq_true rfl) (Nat.le_of_ble_eq_true rfl) (Nat.lt_of_lt_of_le (by decide) hd) rfl (sX12_isWord (Nat.le_refl _) x8e) rfl ?_
      refine v_if_ne (q1 := 104) (q2 := 86) dX12_readLine_83 (by decide) rfl (fun c9 => ?_) (fun c9 => ?_)
      · have H := ine c9 H
        exact V.sub [0, 1] rfl (sjX12_readLine_104 hd H)
      · have H := ip c9 H
        refine v_aload_n (q := 87) 0 dX12_readLine_86 rfl rfl rfl ?_
        refine v_bipush (v := 13) (q := 89) dX12_readLine_87 (by decide) rfl ?_
        obtain ⟨_, o13, H⟩ := bs H
        obtain ⟨x14, x14e, H⟩ := bs H
        refine u_callV1 (M' := mX12_isWord) (d' := 1) (rc := (RX12, TX12, 58)) (As := [.int (13 : Int32)]) (st := []) (q := 92) oX12_isWord dX12_readLine_89 w1574 w1576 w0060 rfl rfl (gO_sp o13).1 (gO_sp o13).2 rfl (Nat.le_of_ble_eq_true rfl) (Nat.le_of_ble_eq_true rfl) (Nat.lt_of_lt_of_le (by decide) hd) rfl (sX12_isWord (Nat.le_refl _) x14e) rfl ?_
        refine v_if_ne (q1 := 104) (q2 := 95) dX12_readLine_92 (by decide) rfl (fun c15 => ?_) (fun c15 => ?_)
        · have H := ine c15 H
          exact V.sub [0, 1] rfl (sjX12_readLine_104 hd H)
        · have H := ip c15 H
          refine v_aload_n (q := 96) 0 dX12_readLine_95 rfl rfl rfl ?_
          refine v_bipush (v := 14) (q := 98) dX12_readLine_96 (by decide) rfl ?_
          obtain ⟨_, o16, H⟩ := bs H
          obtain ⟨x17, x17e, H⟩ := bs H
          refine u_callV1 (M' := mX12_isWord) (d' := 1) (rc := (RX12, TX12, 58)) (As := [.int (14 : Int32)]) (st := []) (q := 101) oX12_isWord dX12_readLine_98 w1574 w1576 w0060 rfl rfl (gO_sp o16).1 (gO_sp o16).2 rfl (Nat.le_of_ble_eq_true rfl) (Nat.le_of_ble_eq_true rfl) (Nat.lt_of_lt_of_le (by decide) hd) rfl (sX12_isWord (Nat.le_refl _) x17e) rfl ?_
          refine v_if_eq (q1 := 119) (q2 := 104) dX12_readLine_101 (by decide) rfl (fun c18 => ?_) (fun c18 => ?_)
          · have H := ip c18 H
            refine v_aload_n (q := 120) 0 dX12_readLine_119 rfl rfl rfl ?_
            refine v_iconst (v := 1) (q := 121) dX12_readLine_120 (by decide) rfl ?_
            obtain ⟨_, o19, H⟩ := bs H
            obtain ⟨x20, x20e, H⟩ := bs H
            refine u_callV0 (M' := mX12_fail) (d' := 1) (rc := (RX12, TX12, 58)) (As := [.int (1 : Int32)]) (st := []) (q := 124) oX12_fail dX12_readLine_121 w1578 w1580 w0061 rfl rfl (gO_sp o19).1 (gO_sp o19).2 rfl (Nat.le_of_ble_eq_true rfl) (Nat.le_of_ble_eq_true rfl) (Nat.lt_of_lt_of_le (by decide) hd) rfl (sX12_fail (Nat.le_refl _) x20e) rfl ?_
            exact V.sub [] rfl (sjX12_readLine_124 hd H)
          · have H := ine c18 H
            exact V.sub [0, 1] rfl (sjX12_readLine_104 hd H)
    · have H := ine c6 H
      refine v_aload_n (q := 70) 0 dX12_readLine_69 rfl rfl rfl ?_
      refine v_iload_n (q := 71) 1 dX12_readLine_70 rfl rfl rfl ?_
      obtain ⟨_, o21, H⟩ := bs H
      obtain ⟨x22, x22e, H⟩ := bs H
      refine u_callV0 (M' := mX12_readLock) (d' := 5) (rc := (RX12, TX12, 58)) (As := [.int v1]) (st := []) (q := 74) oX12_readLock dX12_readLine_71 w1598 w1600 w0066 rfl rfl (gO_sp o21).1 (gO_sp o21).2 rfl (Nat.le_of_ble_eq_true rfl) (Nat.le_of_ble_eq_true rfl) (Nat.lt_of_lt_of_le (by decide) hd) rfl (sX12_readLock (Nat.le_refl _) x22e) rfl ?_
      refine v_goto (q := 124) dX12_readLine_74 (by decide) ?_
      exact V.sub [] rfl (sjX12_readLine_124 hd H)
  · have H := ine c3 H
    refine v_aload_n (q := 10) 0 dX12_readLine_9 rfl rfl rfl ?_
    obtain ⟨x23, x23e, H⟩ := bs H
    refine u_gR (q := 13) (r := (RX12, TX12, 58)) x23e dX12_readLine_10 w1357 rfl (by decide) rfl rfl ?_
    refine v_iload_n (q := 14) 1 dX12_readLine_13 rfl rfl rfl ?_
    obtain ⟨x24, x24e, H⟩ := bs H
    refine u_lI (q := 15) x24e dX12_readLine_14 rfl ?_
    refine v_bipush (v := 8) (q := 17) dX12_readLine_15 (by decide) rfl ?_
    refine v_icmp_ne (q1 := 25) (q2 := 20) dX12_readLine_17 (by decide) rfl (fun c25 => ?_) (fun c25 => ?_)
    · have H := ine c25 H
      exact V.sub [0, 1] rfl (sjX12_readLine_25 hd H)
    · have H := ip c25 H
      refine v_aload_n (q := 21) 0 dX12_readLine_20 rfl rfl rfl ?_
      refine v_iconst (v := 4) (q := 22) dX12_readLine_21 (by decide) rfl ?_
      obtain ⟨_, o37, H⟩ := bs H
      obtain ⟨x38, x38e, H⟩ := bs H
      refine u_callV0 (M' := mX12_fail) (d' := 1) (rc := (RX12, TX12, 58)) (As := [.int (4 : Int32)]) (st := []) (q := 25) oX12_fail dX12_readLine_22 w1578 w1580 w0061 rfl rfl (gO_sp o37).1 (gO_sp o37).2 rfl (Nat.le_of_ble_eq_true rfl) (Nat.le_of_ble_eq_true rfl) (Nat.lt_of_lt_of_le (by decide) hd) rfl (sX12_fail (Nat.le_refl _) x38e) rfl ?_
      exact V.sub [0, 1] rfl (sjX12_readLine_25 hd H)
def mX12_readAll : MI := (yX12_readAll, cX12_readAll, 2, none)
theorem oX12_readAll : mOK mX12_readAll 1 := ⟨by decide +kernel, by decide +kernel, by decide +kernel, by decide, w1546, w0150⟩
def bX12_readAll_4 (u0 : Nat) (u1 : Int32) (s4 : Hp) : Option ((Hp) ⊕ (Hp)) :=
(gI s4 12 u0 17).bind fun x3 =>
if x3 = 0 then (
(gI s4 12 u0 15).bind fun x5 =>
if x5 = 0 then (
some (.inr s4)) else (
(gO s4 12 u0).bind fun _ =>
(fX12_readLine s4 u0 u1).bind fun x8 =>
(gO x8 12 u0).bind fun _ =>
(fX12_isStop x8 u0).bind fun x10 =>
if x10 = 0 then (
(gO x8 12 u0).bind fun _ =>
(fX12_fail x8 u0 (1 : Int32)).bind fun x13 =>
some (.inl x13)) else (
(gO x8 12 u0).bind fun _ =>
(fX12_scan x8 u0).bind fun x15 =>
some (.inl x15)))) else (
some (.inr s4))
set_option maxRecDepth 20000 in
set_option maxHeartbeats 4000000 in
theorem sbX12_readAll_4 {Γ : Gm} {d : Nat} (hd : 8 ≤ d) {u0 : Nat} {u1 : Int32} {s4 : Hp} {r : (Hp) ⊕ (Hp)} {t : Option Value × Hp} (H : bX12_readAll_4 u0 u1 s4 = some r) (kI : ∀ s, r = .inl s → (fun s4 => V Γ d mX12_readAll 4 [(0, .ref u0), (1, .int u1)] [] s4 t) s) (kE : ∀ e, r = .inr e → (fun e => V Γ d mX12_readAll 45 [] [] e t) e) : V Γ d mX12_readAll 4 [(0, .ref u0), (1, .int u1)] [] s4 t := by
  unfold bX12_readAll_4 at H
  refine v_aload_n (q := 5) 0 dX12_readAll_4 rfl rfl rfl ?_
  obtain ⟨x3, x3e, H⟩ := bs H
  refine u_gI (q := 8) (r := (RX12, TX12, 58)) x3e dX12_readAll_5 w1373 rfl (by decide) rfl rfl ?_
  refine v_if_ne (q1 := 45) (q2 := 11) dX12_readAll_8 (by decide) rfl (fun c4 => ?_) (fun c4 => ?_)
  · have H := ine c4 H
    exact V.sub [] rfl (kE s4 (Option.some.inj H).symm)
  · have H := ip c4 H
    refine v_aload_n (q := 12) 0 dX12_readAll_11 rfl rfl rfl ?_
    obtain ⟨x5, x5e, H⟩ := bs H
    refine u_gI (q := 15) (r := (RX12, TX12, 58)) x5e dX12_readAll_12 w1371 rfl (by decide) rfl rfl ?_
    refine v_if_eq (q1 := 45) (q2 := 18) dX12_readAll_15 (by decide) rfl (fun c6 => ?_) (fun c6 => ?_)
    · have H := ip c6 H
      exact V.sub [] rfl (kE s4 (Option.some.inj H).symm)
    · have H := ine c6 H
      refine v_aload_n (q := 19) 0 dX12_readAll_18 rfl rfl rfl ?_
      refine v_iload_n (q := 20) 1 dX12_readAll_19 rfl rfl rfl ?_
      obtain ⟨_, o7, H⟩ := bs H
      obtain ⟨x8, x8e, H⟩ := bs H
      refine u_callV0 (M' := mX12_readLine) (d' := 7) (rc := (RX12, TX12, 58)) (As := [.int u1]) (st := []) (q := 23) oX12_readLine dX12_readAll_20 w1570 w1572 w0059 rfl rfl (gO_sp o7).1 (gO_sp o7).2 rfl (Nat.le_of_ble_eq_true rfl) (Nat.le_of_ble_eq_true rfl) (Nat.lt_of_lt_of_le (by decide) hd) rfl (sX12_readLine (Nat.le_refl _) x8e) rfl ?_
      refine v_aload_n (q := 24) 0 dX12_readAll_23 rfl rfl rfl ?_
      obtain ⟨_, o9, H⟩ := bs H
      obtain ⟨x10, x10e, H⟩ := bs H
      refine u_callV1 (M' := mX12_isStop) (d' := 1) (rc := (RX12, TX12, 58)) (As := []) (st := []) (q := 27) oX12_isStop dX12_readAll_24 w1610 w1612 w0069 rfl rfl (gO_sp o9).1 (gO_sp o9).2 rfl (Nat.le_of_ble_eq_true rfl) (Nat.le_of_ble_eq_true rfl) (Nat.lt_of_lt_of_le (by decide) hd) rfl (sX12_isStop (Nat.le_refl _) x10e) rfl ?_
      refine v_if_eq (q1 := 37) (q2 := 30) dX12_readAll_27 (by decide) rfl (fun c11 => ?_) (fun c11 => ?_)
      · have H := ip c11 H
        refine v_aload_n (q := 38) 0 dX12_readAll_37 rfl rfl rfl ?_
        refine v_iconst (v := 1) (q := 39) dX12_readAll_38 (by decide) rfl ?_
        obtain ⟨_, o12, H⟩ := bs H
        obtain ⟨x13, x13e, H⟩ := bs H
        refine u_callV0 (M' := mX12_fail) (d' := 1) (rc := (RX12, TX12, 58)) (As := [.int (1 : Int32)]) (st := []) (q := 42) oX12_fail dX12_readAll_39 w1578 w1580 w0061 rfl rfl (gO_sp o12).1 (gO_sp o12).2 rfl (Nat.le_of_ble_eq_true rfl) (Nat.le_of_ble_eq_true rfl) (Nat.lt_of_lt_of_le (by decide) hd) rfl (sX12_fail (Nat.le_refl _) x13e) rfl ?_
        refine v_goto (q := 4) dX12_readAll_42 (by decide) ?_
        exact V.sub [0, 1] rfl (kI x13 (Option.some.inj H).symm)
      · have H := ine c11 H
        refine v_aload_n (q := 31) 0 dX12_readAll_30 rfl rfl rfl ?_
        obtain ⟨_, o14, H⟩ := bs H
        obtain ⟨x15, x15e, H⟩ := bs H
        refine u_callV0 (M' := mX12_scan) (d' := 3) (rc := (RX12, TX12, 58)) (As := []) (st := []) (q := 34) oX12_scan dX12_readAll_31 w1547 w1549 w0054 rfl rfl (gO_sp o14).1 (gO_sp o14).2 rfl (Nat.le_of_ble_eq_true rfl) (Nat.le_of_ble_eq_true rfl) (Nat.lt_of_lt_of_le (by decide) hd) rfl (sX12_scan (Nat.le_refl _) x15e) rfl ?_
        refine v_goto (q := 4) dX12_readAll_34 (by decide) ?_
        exact V.sub [0, 1] rfl (kI x15 (Option.some.inj H).symm)
def fX12_readAll (h : Hp) (v0 : Nat) (v1 : Int32) : Option (Hp) :=
(gO h 12 v0).bind fun _ =>
(fX12_scan h v0).bind fun x2 =>
(lp (bX12_readAll_4 v0 v1) FU x2).bind fun e16 =>
some e16
set_option maxRecDepth 20000 in
set_option maxHeartbeats 4000000 in
theorem sX12_readAll {Γ : Gm} {d : Nat} (hd : 8 ≤ d) {h : Hp} {v0 : Nat} {v1 : Int32} {r : Hp} (H : fX12_readAll h v0 v1 = some r) : V Γ d mX12_readAll 0 [(0, .ref v0), (1, .int v1)] [] h (none, r) := by
  unfold fX12_readAll at H
  refine v_aload_n (q := 1) 0 dX12_readAll_0 rfl rfl rfl ?_
  obtain ⟨_, o1, H⟩ := bs H
  obtain ⟨x2, x2e, H⟩ := bs H
  refine u_callV0 (M' := mX12_scan) (d' := 3) (rc := (RX12, TX12, 58)) (As := []) (st := []) (q := 4) oX12_scan dX12_readAll_1 w1547 w1549 w0054 rfl rfl (gO_sp o1).1 (gO_sp o1).2 rfl (Nat.le_of_ble_eq_true rfl) (Nat.le_of_ble_eq_true rfl) (Nat.lt_of_lt_of_le (by decide) hd) rfl (sX12_scan (Nat.le_refl _) x2e) rfl ?_
  obtain ⟨e16, e16L, H⟩ := bs H
  refine V.sub [0, 1] rfl ?_
  refine lp_V (P := (fun s4 => V Γ d mX12_readAll 4 [(0, .ref v0), (1, .int v1)] [] s4 (none, r))) (E := (fun e => V Γ d mX12_readAll 45 [] [] e (none, r))) (fun s r hb kI kE => sbX12_readAll_4 hd (s4 := s) (r := r) hb kI kE) FU x2 e16 e16L ?_
  cases H
  exact v_return rfl dX12_readAll_45
def mX12_swapAll : MI := (yX12_swapAll, cX12_swapAll, 3, none)
theorem oX12_swapAll : mOK mX12_swapAll 0 := ⟨by decide +kernel, by decide +kernel, by decide +kernel, by decide, w2015, w0150⟩
def bX12_swapAll_2 (u0 : Nat) (s2 : Int32 × Hp) : Option ((Int32 × Hp) ⊕ (Hp)) :=
if (9685 : Int32) ≤ s2.1 then (
some (.inr s2.2)) else (
(gR s2.2 12 u0 53).bind fun x2 =>
(gI s2.2 12 u0 56).bind fun x3 =>
(lI s2.2 .int x2 (((9685 : Int32) * x3) + s2.1)).bind fun x4 =>
(gR s2.2 12 u0 53).bind fun x5 =>
(gI s2.2 12 u0 56).bind fun x6 =>
(gR s2.2 12 u0 0).bind fun x7 =>
(lI s2.2 .int x7 s2.1).bind fun x8 =>
(tI s2.2 x5 (((9685 : Int32) * x6) + s2.1) x8).bind fun h9 =>
(gR h9 12 u0 0).bind fun x10 =>
(tI h9 x10 s2.1 x4).bind fun h11 =>
(some (s2.1 + (1 : Int32))).bind fun x12 =>
some (.inl (x12, h11)))
set_option maxRecDepth 20000 in
set_option maxHeartbeats 4000000 in
theorem sbX12_swapAll_2 {Γ : Gm} {d : Nat} (hd : 1 ≤ d) {u0 : Nat} {s2 : Int32 × Hp} {r : (Int32 × Hp) ⊕ (Hp)} {t : Option Value × Hp} (H : bX12_swapAll_2 u0 s2 = some r) (kI : ∀ s, r = .inl s → (fun s2 => V Γ d mX12_swapAll 2 [(0, .ref u0), (1, .int s2.1)] [] s2.2 t) s) (kE : ∀ e, r = .inr e → (fun e => V Γ d mX12_swapAll 59 [] [] e t) e) : V Γ d mX12_swapAll 2 [(0, .ref u0), (1, .int s2.1)] [] s2.2 t := by
  unfold bX12_swapAll_2 at H
  refine v_iload_n (q := 3) 1 dX12_swapAll_2 rfl rfl rfl ?_
  refine v_sipush (v := 9685) (q := 6) dX12_swapAll_3 (by decide) rfl ?_
  refine v_icmp_ge (q1 := 59) (q2 := 9) dX12_swapAll_6 (by decide) rfl (fun c1 => ?_) (fun c1 => ?_)
  · have H := ip c1 H
    exact V.sub [] rfl (kE s2.2 (Option.some.inj H).symm)
  · have H := ine c1 H
    refine v_aload_n (q := 10) 0 dX12_swapAll_9 rfl rfl rfl ?_
    obtain ⟨x2, x2e, H⟩ := bs H
    refine u_gR (q := 13) (r := (RX12, TX12, 58)) x2e dX12_swapAll_10 w1409 rfl (by decide) rfl rfl ?_
    refine v_sipush (v := 9685) (q := 16) dX12_swapAll_13 (by decide) rfl ?_
    refine v_aload_n (q := 17) 0 dX12_swapAll_16 rfl rfl rfl ?_
    obtain ⟨x3, x3e, H⟩ := bs H
    refine u_gI (q := 20) (r := (RX12, TX12, 58)) x3e dX12_swapAll_17 w1412 rfl (by decide) rfl rfl ?_
    refine v_imul (q := 21) dX12_swapAll_20 rfl ?_
    refine v_iload_n (q := 22) 1 dX12_swapAll_21 rfl rfl rfl ?_
    refine v_iadd (q := 23) dX12_swapAll_22 rfl ?_
    obtain ⟨x4, x4e, H⟩ := bs H
    refine u_lI (q := 24) x4e dX12_swapAll_23 rfl ?_
    refine v_istore_n (L' := [(2, .int x4), (0, .ref u0), (1, .int s2.1)]) (q := 25) dX12_swapAll_24 rfl (by decide) rfl rfl ?_
    refine v_aload_n (q := 26) 1 dX12_swapAll_25 rfl rfl rfl ?_
    obtain ⟨x5, x5e, H⟩ := bs H
    refine u_gR (q := 29) (r := (RX12, TX12, 58)) x5e dX12_swapAll_26 w1409 rfl (by decide) rfl rfl ?_
    refine v_sipush (v := 9685) (q := 32) dX12_swapAll_29 (by decide) rfl ?_
    refine v_aload_n (q := 33) 1 dX12_swapAll_32 rfl rfl rfl ?_
    obtain ⟨x6, x6e, H⟩ := bs H
    refine u_gI (q := 36) (r := (RX12, TX12, 58)) x6e dX12_swapAll_33 w1412 rfl (by decide) rfl rfl ?_
    refine v_imul (q := 37) dX12_swapAll_36 rfl ?_
    refine v_iload_n (q := 38) 2 dX12_swapAll_37 rfl rfl rfl ?_
    refine v_iadd (q := 39) dX12_swapAll_38 rfl ?_
    refine v_aload_n (q := 40) 1 dX12_swapAll_39 rfl rfl rfl ?_
    obtain ⟨x7, x7e, H⟩ := bs H
    refine u_gR (q := 43) (r := (RX12, TX12, 58)) x7e dX12_swapAll_40 w1356 rfl (by decide) rfl rfl ?_
    refine v_iload_n (q := 44) 2 dX12_swapAll_43 rfl rfl rfl ?_
    obtain ⟨x8, x8e, H⟩ := bs H
    refine u_lI (q := 45) x8e dX12_swapAll_44 rfl ?_
    obtain ⟨h9, h9e, H⟩ := bs H
    refine u_tI (q := 46) h9e dX12_swapAll_45 rfl ?_
    refine v_aload_n (q := 47) 1 dX12_swapAll_46 rfl rfl rfl ?_
    obtain ⟨x10, x10e, H⟩ := bs H
    refine u_gR (q := 50) (r := (RX12, TX12, 58)) x10e dX12_swapAll_47 w1356 rfl (by decide) rfl rfl ?_
    refine v_iload_n (q := 51) 2 dX12_swapAll_50 rfl rfl rfl ?_
    refine v_iload_n (q := 52) 0 dX12_swapAll_51 rfl rfl rfl ?_
    obtain ⟨h11, h11e, H⟩ := bs H
    refine u_tI (q := 53) h11e dX12_swapAll_52 rfl ?_
    obtain ⟨x12, x12e, H⟩ := bs H
    refine v_iinc (v := x12) (L' := [(1, .int x12), (2, .int x4), (0, .ref u0)]) (q := 56) 2 dX12_swapAll_53 rfl (Option.some.inj x12e) (by decide) rfl rfl ?_
    refine v_goto (q := 2) dX12_swapAll_56 (by decide) ?_
    exact V.sub [2, 0] rfl (kI (x12, h11) (Option.some.inj H).symm)
def fX12_swapAll (h : Hp) (v0 : Nat) : Option (Hp) :=
(lp (bX12_swapAll_2 v0) FU ((0 : Int32), h)).bind fun e13 =>
some e13
set_option maxRecDepth 20000 in
set_option maxHeartbeats 4000000 in
theorem sX12_swapAll {Γ : Gm} {d : Nat} (hd : 1 ≤ d) {h : Hp} {v0 : Nat} {r : Hp} (H : fX12_swapAll h v0 = some r) : V Γ d mX12_swapAll 0 [(0, .ref v0)] [] h (none, r) := by
  unfold fX12_swapAll at H
  refine v_iconst (v := 0) (q := 1) dX12_swapAll_0 (by decide) rfl ?_
  refine v_istore_n (L' := [(1, .int (0 : Int32)), (0, .ref v0)]) (q := 2) dX12_swapAll_1 rfl (by decide) rfl rfl ?_
  obtain ⟨e13, e13L, H⟩ := bs H
  refine V.sub [1, 0] rfl ?_
  refine lp_V (P := (fun s2 => V Γ d mX12_swapAll 2 [(0, .ref v0), (1, .int s2.1)] [] s2.2 (none, r))) (E := (fun e => V Γ d mX12_swapAll 59 [] [] e (none, r))) (fun s r hb kI kE => sbX12_swapAll_2 hd (s2 := s) (r := r) hb kI kE) FU ((0 : Int32), h) e13 e13L ?_
  cases H
  exact v_return rfl dX12_swapAll_59
def mX12_redo : MI := (yX12_redo, cX12_redo, 1, some .boolean)
theorem oX12_redo : mOK mX12_redo 0 := ⟨by decide +kernel, by decide +kernel, by decide +kernel, by decide, w2019, w0150⟩
def fX12_redo (h : Hp) (v0 : Nat) : Option (Int32 × Hp) :=
(gI h 12 v0 57).bind fun x1 =>
if x1 = 0 then (
some (((0 : Int32), h))) else (
(gO h 12 v0).bind fun _ =>
(fX12_swapAll h v0).bind fun x4 =>
(gI x4 12 v0 56).bind fun x5 =>
(pI x4 12 v0 56 (x5 + (1 : Int32))).bind fun h6 =>
(gI h6 12 v0 57).bind fun x7 =>
(pI h6 12 v0 57 (x7 - (1 : Int32))).bind fun h8 =>
some (((1 : Int32), h8)))
set_option maxRecDepth 20000 in
set_option maxHeartbeats 4000000 in
theorem sX12_redo {Γ : Gm} {d : Nat} (hd : 2 ≤ d) {h : Hp} {v0 : Nat} {r : Int32 × Hp} (H : fX12_redo h v0 = some r) : V Γ d mX12_redo 0 [(0, .ref v0)] [] h (some (.int r.1), r.2) := by
  unfold fX12_redo at H
  refine v_aload_n (q := 1) 0 dX12_redo_0 rfl rfl rfl ?_
  obtain ⟨x1, x1e, H⟩ := bs H
  refine u_gI (q := 4) (r := (RX12, TX12, 58)) x1e dX12_redo_1 w1413 rfl (by decide) rfl rfl ?_
  refine v_if_ne (q1 := 9) (q2 := 7) dX12_redo_4 (by decide) rfl (fun c2 => ?_) (fun c2 => ?_)
  · have H := ine c2 H
    refine v_aload_n (q := 10) 0 dX12_redo_9 rfl rfl rfl ?_
    obtain ⟨_, o3, H⟩ := bs H
    obtain ⟨x4, x4e, H⟩ := bs H
    refine u_callV0 (M' := mX12_swapAll) (d' := 1) (rc := (RX12, TX12, 58)) (As := []) (st := []) (q := 13) oX12_swapAll dX12_redo_10 w2012 w2014 w0136 rfl rfl (gO_sp o3).1 (gO_sp o3).2 rfl (Nat.le_of_ble_eq_true rfl) (Nat.le_of_ble_eq_true rfl) (Nat.lt_of_lt_of_le (by decide) hd) rfl (sX12_swapAll (Nat.le_refl _) x4e) rfl ?_
    refine v_aload_n (q := 14) 0 dX12_redo_13 rfl rfl rfl ?_
    refine v_dup (q := 15) dX12_redo_14 rfl rfl ?_
    obtain ⟨x5, x5e, H⟩ := bs H
    refine u_gI (q := 18) (r := (RX12, TX12, 58)) x5e dX12_redo_15 w1412 rfl (by decide) rfl rfl ?_
    refine v_iconst (v := 1) (q := 19) dX12_redo_18 (by decide) rfl ?_
    refine v_iadd (q := 20) dX12_redo_19 rfl ?_
    obtain ⟨h6, h6e, H⟩ := bs H
    refine u_pI (q := 23) (r := (RX12, TX12, 58)) h6e dX12_redo_20 w1412 rfl (by decide) (Or.inl rfl) rfl rfl ?_
    refine v_aload_n (q := 24) 0 dX12_redo_23 rfl rfl rfl ?_
    refine v_dup (q := 25) dX12_redo_24 rfl rfl ?_
    obtain ⟨x7, x7e, H⟩ := bs H
    refine u_gI (q := 28) (r := (RX12, TX12, 58)) x7e dX12_redo_25 w1413 rfl (by decide) rfl rfl ?_
    refine v_iconst (v := 1) (q := 29) dX12_redo_28 (by decide) rfl ?_
    refine v_isub (q := 30) dX12_redo_29 rfl ?_
    obtain ⟨h8, h8e, H⟩ := bs H
    refine u_pI (q := 33) (r := (RX12, TX12, 58)) h8e dX12_redo_30 w1413 rfl (by decide) (Or.inl rfl) rfl rfl ?_
    refine v_iconst (v := 1) (q := 34) dX12_redo_33 (by decide) rfl ?_
    cases H
    exact v_zreturn rfl (by decide) dX12_redo_34
  · have H := ip c2 H
    refine v_iconst (v := 0) (q := 8) dX12_redo_7 (by decide) rfl ?_
    cases H
    exact v_zreturn rfl (by decide) dX12_redo_8
def mX12_report_ : MI := (yX12_report_, cX12_report_, 3, some .int)
theorem oX12_report_ : mOK mX12_report_ 2 := ⟨by decide +kernel, by decide +kernel, by decide +kernel, by decide, w1796, w0150⟩
def jX12_report__57 (y0 : Int32) (h : Hp) : Option (Int32) :=
some y0
set_option maxRecDepth 20000 in
set_option maxHeartbeats 4000000 in
theorem sjX12_report__57 {Γ : Gm} {d : Nat} (hd : 3 ≤ d) {y0 : Int32} {h : Hp} {r : Int32} (H : jX12_report__57 y0 h = some r) : V Γ d mX12_report_ 57 [] [.int y0] h (some (.int r), h) := by
  unfold jX12_report__57 at H
  cases H
  exact v_ireturn rfl dX12_report__57
def fX12_report_ (h : Hp) (v0 : Nat) (v1 : Int32) (v2 : Int32) : Option (Int32) :=
(gO h 12 v0).bind fun _ =>
(fX12_isReport h v0 v1).bind fun x2 =>
if x2 = 0 then (
some (-1 : Int32)) else (
(fX12_isIn h v2 (0 : Int32) (3 : Int32)).bind fun x4 =>
if x4 = 0 then (
if v2 = (4 : Int32) then (
(gO h 12 v0).bind fun _ =>
(fX12_firstOf h v0 v1).bind fun x11 =>
jX12_report__57 x11 h) else (
if v2 = (5 : Int32) then (
(gO h 12 v0).bind fun _ =>
(fX12_lastOf h v0 v1).bind fun x9 =>
jX12_report__57 x9 h) else (
jX12_report__57 (-1 : Int32) h))) else (
(gR h 12 v0 0).bind fun x12 =>
(fX12_atReport h v1 v2).bind fun x13 =>
(lI h .int x12 x13).bind fun x14 =>
some x14))
set_option maxRecDepth 20000 in
set_option maxHeartbeats 4000000 in
theorem sX12_report_ {Γ : Gm} {d : Nat} (hd : 3 ≤ d) {h : Hp} {v0 : Nat} {v1 : Int32} {v2 : Int32} {r : Int32} (H : fX12_report_ h v0 v1 v2 = some r) : V Γ d mX12_report_ 0 [(0, .ref v0), (1, .int v1), (2, .int v2)] [] h (some (.int r), h) := by
  unfold fX12_report_ at H
  refine v_aload_n (q := 1) 0 dX12_report__0 rfl rfl rfl ?_
  refine v_iload_n (q := 2) 1 dX12_report__1 rfl rfl rfl ?_
  obtain ⟨_, o1, H⟩ := bs H
  obtain ⟨x2, x2e, H⟩ := bs H
  refine u_callV1 (M' := mX12_isReport) (d' := 2) (rc := (RX12, TX12, 58)) (As := [.int v1]) (st := []) (q := 5) oX12_isReport dX12_report__2 w1797 w1799 w0101 rfl rfl (gO_sp o1).1 (gO_sp o1).2 rfl (Nat.le_of_ble_eq_true rfl) (Nat.le_of_ble_eq_true rfl) (Nat.lt_of_lt_of_le (by decide) hd) rfl (sX12_isReport (Nat.le_refl _) x2e) rfl ?_
  refine v_if_ne (q1 := 10) (q2 := 8) dX12_report__5 (by decide) rfl (fun c3 => ?_) (fun c3 => ?_)
  · have H := ine c3 H
    refine v_iload_n (q := 11) 2 dX12_report__10 rfl rfl rfl ?_
    refine v_iconst (v := 0) (q := 12) dX12_report__11 (by decide) rfl ?_
    refine v_iconst (v := 3) (q := 13) dX12_report__12 (by decide) rfl ?_
    obtain ⟨x4, x4e, H⟩ := bs H
    refine u_callS1 (M' := mX12_isIn) (d' := 1) (As := [.int v2, .int (0 : Int32), .int (3 : Int32)]) (st := []) (q := 16) oX12_isIn dX12_report__13 w1618 w1619 rfl (Nat.le_of_ble_eq_true rfl) (Nat.le_of_ble_eq_true rfl) (Nat.lt_of_lt_of_le (by decide) hd) rfl (sX12_isIn (Nat.le_refl _) x4e) rfl ?_
    refine v_if_eq (q1 := 30) (q2 := 19) dX12_report__16 (by decide) rfl (fun c5 => ?_) (fun c5 => ?_)
    · have H := ip c5 H
      refine v_iload_n (q := 31) 2 dX12_report__30 rfl rfl rfl ?_
      refine v_iconst (v := 4) (q := 32) dX12_report__31 (by decide) rfl ?_
      refine v_icmp_ne (q1 := 43) (q2 := 35) dX12_report__32 (by decide) rfl (fun c6 => ?_) (fun c6 => ?_)
      · have H := ine c6 H
        refine v_iload_n (q := 44) 2 dX12_report__43 rfl rfl rfl ?_
        refine v_iconst (v := 5) (q := 45) dX12_report__44 (by decide) rfl ?_
        refine v_icmp_ne (q1 := 56) (q2 := 48) dX12_report__45 (by decide) rfl (fun c7 => ?_) (fun c7 => ?_)
        · have H := ine c7 H
          refine v_iconst (v := -1) (q := 57) dX12_report__56 (by decide) rfl ?_
          exact V.sub [] rfl (sjX12_report__57 hd H)
        · have H := ip c7 H
          refine v_aload_n (q := 49) 0 dX12_report__48 rfl rfl rfl ?_
          refine v_iload_n (q := 50) 1 dX12_report__49 rfl rfl rfl ?_
          obtain ⟨_, o8, H⟩ := bs H
          obtain ⟨x9, x9e, H⟩ := bs H
          refine u_callV1 (M' := mX12_lastOf) (d' := 2) (rc := (RX12, TX12, 58)) (As := [.int v1]) (st := []) (q := 53) oX12_lastOf dX12_report__50 w1697 w1699 w0087 rfl rfl (gO_sp o8).1 (gO_sp o8).2 rfl (Nat.le_of_ble_eq_true rfl) (Nat.le_of_ble_eq_true rfl) (Nat.lt_of_lt_of_le (by decide) hd) rfl (sX12_lastOf (Nat.le_refl _) x9e) rfl ?_
          refine v_goto (q := 57) dX12_report__53 (by decide) ?_
          exact V.sub [] rfl (sjX12_report__57 hd H)
      · have H := ip c6 H
        refine v_aload_n (q := 36) 0 dX12_report__35 rfl rfl rfl ?_
        refine v_iload_n (q := 37) 1 dX12_report__36 rfl rfl rfl ?_
        obtain ⟨_, o10, H⟩ := bs H
        obtain ⟨x11, x11e, H⟩ := bs H
        refine u_callV1 (M' := mX12_firstOf) (d' := 2) (rc := (RX12, TX12, 58)) (As := [.int v1]) (st := []) (q := 40) oX12_firstOf dX12_report__37 w1693 w1695 w0086 rfl rfl (gO_sp o10).1 (gO_sp o10).2 rfl (Nat.le_of_ble_eq_true rfl) (Nat.le_of_ble_eq_true rfl) (Nat.lt_of_lt_of_le (by decide) hd) rfl (sX12_firstOf (Nat.le_refl _) x11e) rfl ?_
        refine v_goto (q := 57) dX12_report__40 (by decide) ?_
        exact V.sub [] rfl (sjX12_report__57 hd H)
    · have H := ine c5 H
      refine v_aload_n (q := 20) 0 dX12_report__19 rfl rfl rfl ?_
      obtain ⟨x12, x12e, H⟩ := bs H
      refine u_gR (q := 23) (r := (RX12, TX12, 58)) x12e dX12_report__20 w1356 rfl (by decide) rfl rfl ?_
      refine v_iload_n (q := 24) 1 dX12_report__23 rfl rfl rfl ?_
      refine v_iload_n (q := 25) 2 dX12_report__24 rfl rfl rfl ?_
      obtain ⟨x13, x13e, H⟩ := bs H
      refine u_callS1 (M' := mX12_atReport) (d' := 1) (As := [.int v1, .int v2]) (st := [.ref x12]) (q := 28) oX12_atReport dX12_report__25 w1670 w1671 rfl (Nat.le_of_ble_eq_true rfl) (Nat.le_of_ble_eq_true rfl) (Nat.lt_of_lt_of_le (by decide) hd) rfl (sX12_atReport (Nat.le_refl _) x13e) rfl ?_
      obtain ⟨x14, x14e, H⟩ := bs H
      refine u_lI (q := 29) x14e dX12_report__28 rfl ?_
      cases H
      exact v_ireturn rfl dX12_report__29
  · have H := ip c3 H
    refine v_iconst (v := -1) (q := 9) dX12_report__8 (by decide) rfl ?_
    cases H
    exact v_ireturn rfl dX12_report__9
def mX12_runs : MI := (yX12_runs, cX12_runs, 3, some .int)
theorem oX12_runs : mOK mX12_runs 1 := ⟨by decide +kernel, by decide +kernel, by decide +kernel, by decide, w1628, w0150⟩
def fX12_runs (h : Hp) (v0 : Nat) (v1 : Int32) : Option (Int32 × Hp) :=
(gO h 12 v0).bind fun _ =>
(fX12_isProgram h v0 v1).bind fun x2 =>
if x2 = 0 then (
some (((-1 : Int32), h))) else (
(gO h 12 v0).bind fun _ =>
(fX12_keepAct h v0).bind fun x5 =>
(gR x5 12 v0 0).bind fun x6 =>
(lI x5 .int x6 (272 : Int32)).bind fun x7 =>
(gO x5 12 v0).bind fun _ =>
(fX12_goRun x5 v0 v1).bind fun x9 =>
(gR x9 12 v0 0).bind fun x10 =>
(lI x9 .int x10 (272 : Int32)).bind fun x11 =>
some (x11 - x7, x9))
set_option maxRecDepth 20000 in
set_option maxHeartbeats 4000000 in
theorem sX12_runs {Γ : Gm} {d : Nat} (hd : 8 ≤ d) {h : Hp} {v0 : Nat} {v1 : Int32} {r : Int32 × Hp} (H : fX12_runs h v0 v1 = some r) : V Γ d mX12_runs 0 [(0, .ref v0), (1, .int v1)] [] h (some (.int r.1), r.2) := by
  unfold fX12_runs at H
  refine v_aload_n (q := 1) 0 dX12_runs_0 rfl rfl rfl ?_
  refine v_iload_n (q := 2) 1 dX12_runs_1 rfl rfl rfl ?_
  obtain ⟨_, o1, H⟩ := bs H
  obtain ⟨x2, x2e, H⟩ := bs H
  refine u_callV1 (M' := mX12_isProgram) (d' := 2) (rc := (RX12, TX12, 58)) (As := [.int v1]) (st := []) (q := 5) oX12_isProgram dX12_runs_2 w1629 w1631 w0071 rfl rfl (gO_sp o1).1 (gO_sp o1).2 rfl (Nat.le_of_ble_eq_true rfl) (Nat.le_of_ble_eq_true rfl) (Nat.lt_of_lt_of_le (by decide) hd) rfl (sX12_isProgram (Nat.le_refl _) x2e) rfl ?_
  refine v_if_ne (q1 := 10) (q2 := 8) dX12_runs_5 (by decide) rfl (fun c3 => ?_) (fun c3 => ?_)
  · have H := ine c3 H
    refine v_aload_n (q := 11) 0 dX12_runs_10 rfl rfl rfl ?_
    obtain ⟨_, o4, H⟩ := bs H
    obtain ⟨x5, x5e, H⟩ := bs H
    refine u_callV0 (M' := mX12_keepAct) (d' := 1) (rc := (RX12, TX12, 58)) (As := []) (st := []) (q := 14) oX12_keepAct dX12_runs_11 w1633 w1635 w0072 rfl rfl (gO_sp o4).1 (gO_sp o4).2 rfl (Nat.le_of_ble_eq_true rfl) (Nat.le_of_ble_eq_true rfl) (Nat.lt_of_lt_of_le (by decide) hd) rfl (sX12_keepAct (Nat.le_refl _) x5e) rfl ?_
    refine v_aload_n (q := 15) 0 dX12_runs_14 rfl rfl rfl ?_
    obtain ⟨x6, x6e, H⟩ := bs H
    refine u_gR (q := 18) (r := (RX12, TX12, 58)) x6e dX12_runs_15 w1356 rfl (by decide) rfl rfl ?_
    refine v_sipush (v := 272) (q := 21) dX12_runs_18 (by decide) rfl ?_
    obtain ⟨x7, x7e, H⟩ := bs H
    refine u_lI (q := 22) x7e dX12_runs_21 rfl ?_
    refine v_istore_n (L' := [(2, .int x7), (0, .ref v0), (1, .int v1)]) (q := 23) dX12_runs_22 rfl (by decide) rfl rfl ?_
    refine v_aload_n (q := 24) 1 dX12_runs_23 rfl rfl rfl ?_
    refine v_iload_n (q := 25) 2 dX12_runs_24 rfl rfl rfl ?_
    obtain ⟨_, o8, H⟩ := bs H
    obtain ⟨x9, x9e, H⟩ := bs H
    refine u_callV0 (M' := mX12_goRun) (d' := 7) (rc := (RX12, TX12, 58)) (As := [.int v1]) (st := []) (q := 28) oX12_goRun dX12_runs_25 w1638 w1640 w0073 rfl rfl (gO_sp o8).1 (gO_sp o8).2 rfl (Nat.le_of_ble_eq_true rfl) (Nat.le_of_ble_eq_true rfl) (Nat.lt_of_lt_of_le (by decide) hd) rfl (sX12_goRun (Nat.le_refl _) x9e) rfl ?_
    refine v_aload_n (q := 29) 1 dX12_runs_28 rfl rfl rfl ?_
    obtain ⟨x10, x10e, H⟩ := bs H
    refine u_gR (q := 32) (r := (RX12, TX12, 58)) x10e dX12_runs_29 w1356 rfl (by decide) rfl rfl ?_
    refine v_sipush (v := 272) (q := 35) dX12_runs_32 (by decide) rfl ?_
    obtain ⟨x11, x11e, H⟩ := bs H
    refine u_lI (q := 36) x11e dX12_runs_35 rfl ?_
    refine v_iload_n (q := 37) 0 dX12_runs_36 rfl rfl rfl ?_
    refine v_isub (q := 38) dX12_runs_37 rfl ?_
    cases H
    exact v_ireturn rfl dX12_runs_38
  · have H := ip c3 H
    refine v_iconst (v := -1) (q := 9) dX12_runs_8 (by decide) rfl ?_
    cases H
    exact v_ireturn rfl dX12_runs_9
def mX12_spell : MI := (yX12_spell, cX12_spell, 12, some .int)
theorem oX12_spell : mOK mX12_spell 3 := ⟨by decide +kernel, by decide +kernel, by decide +kernel, by decide, w1932, w0150⟩
def jX12_spell_36 (h : Hp) : Option (Int32) :=
some (-1 : Int32)
set_option maxRecDepth 20000 in
set_option maxHeartbeats 4000000 in
theorem sjX12_spell_36 {Γ : Gm} {d : Nat} (hd : 3 ≤ d) {h : Hp} {r : Int32} (H : jX12_spell_36 h = some r) : V Γ d mX12_spell 36 [] [] h (some (.int r), h) := by
  unfold jX12_spell_36 at H
  refine v_iconst (v := -1) (q := 37) dX12_spell_36 (by decide) rfl ?_
  cases H
  exact v_ireturn rfl dX12_spell_37
def jX12_spell_220 (u0 : Nat) (u1 : Int32) (u2 : Int32) (u3 : Int32) (v4 : Int32) (v5 : Int32) (v6 : Int32) (v7 : Int32) (v8 : Int32) (v9 : Int32) (h : Hp) : Option ((Int32 × Int32 × Int32 × Int32 × Int32 × Int32) ⊕ (Int32 × Int32 × Int32 × Int32)) :=
(some (v9 + (1 : Int32))).bind fun x29 =>
some (.inl (v4, v5, v6, v7, v8, x29))
set_option maxRecDepth 20000 in
set_option maxHeartbeats 4000000 in
theorem sjX12_spell_220 {Γ : Gm} {d : Nat} (hd : 3 ≤ d) {u0 : Nat} {u1 : Int32} {u2 : Int32} {u3 : Int32} {v4 : Int32} {v5 : Int32} {v6 : Int32} {v7 : Int32} {v8 : Int32} {v9 : Int32} {h : Hp} {r : (Int32 × Int32 × Int32 × Int32 × Int32 × Int32) ⊕ (Int32 × Int32 × Int32 × Int32)} {t : Option Value × Hp} (H : jX12_spell_220 u0 u1 u2 u3 v4 v5 v6 v7 v8 v9 h = some r) (kI : ∀ s, r = .inl s → (fun s56 => V Γ d mX12_spell 56 [(0, .ref u0), (1, .int u1), (2, .int u2), (3, .int u3), (4, .int s56.1), (5, .int s56.2.1), (6, .int s56.2.2.1), (7, .int s56.2.2.2.1), (8, .int s56.2.2.2.2.1), (9, .int s56.2.2.2.2.2)] [] h t) s) (kE : ∀ e, r = .inr e → (fun e => V Γ d mX12_spell 226 [(0, .ref u0), (1, .int u1), (3, .int u3), (4, .int e.1), (5, .int e.2.1), (6, .int e.2.2.1), (8, .int e.2.2.2)] [] h t) e) : V Γ d mX12_spell 220 [(0, .ref u0), (1, .int u1), (2, .int u2), (3, .int u3), (4, .int v4), (5, .int v5), (6, .int v6), (7, .int v7), (8, .int v8), (9, .int v9)] [] h t := by
  unfold jX12_spell_220 at H
  obtain ⟨x29, x29e, H⟩ := bs H
  refine v_iinc (v := x29) (L' := [(9, .int x29), (0, .ref u0), (1, .int u1), (2, .int u2), (3, .int u3), (4, .int v4), (5, .int v5), (6, .int v6), (7, .int v7), (8, .int v8)]) (q := 223) 9 dX12_spell_220 rfl (Option.some.inj x29e) (by decide) rfl rfl ?_
  refine v_goto (q := 56) dX12_spell_223 (by decide) ?_
  exact V.sub [1, 2, 3, 4, 5, 6, 7, 8, 9, 0] rfl (kI (v4, v5, v6, v7, v8, x29) (Option.some.inj H).symm)
def jX12_spell_218 (u0 : Nat) (u1 : Int32) (u2 : Int32) (u3 : Int32) (v4 : Int32) (v5 : Int32) (v6 : Int32) (v8 : Int32) (v9 : Int32) (y0 : Int32) (h : Hp) : Option ((Int32 × Int32 × Int32 × Int32 × Int32 × Int32) ⊕ (Int32 × Int32 × Int32 × Int32)) :=
jX12_spell_220 u0 u1 u2 u3 v4 v5 v6 y0 v8 v9 h
set_option maxRecDepth 20000 in
set_option maxHeartbeats 4000000 in
theorem sjX12_spell_218 {Γ : Gm} {d : Nat} (hd : 3 ≤ d) {u0 : Nat} {u1 : Int32} {u2 : Int32} {u3 : Int32} {v4 : Int32} {v5 : Int32} {v6 : Int32} {v8 : Int32} {v9 : Int32} {y0 : Int32} {h : Hp} {r : (Int32 × Int32 × Int32 × Int32 × Int32 × Int32) ⊕ (Int32 × Int32 × Int32 × Int32)} {t : Option Value × Hp} (H : jX12_spell_218 u0 u1 u2 u3 v4 v5 v6 v8 v9 y0 h = some r) (kI : ∀ s, r = .inl s → (fun s56 => V Γ d mX12_spell 56 [(0, .ref u0), (1, .int u1), (2, .int u2), (3, .int u3), (4, .int s56.1), (5, .int s56.2.1), (6, .int s56.2.2.1), (7, .int s56.2.2.2.1), (8, .int s56.2.2.2.2.1), (9, .int s56.2.2.2.2.2)] [] h t) s) (kE : ∀ e, r = .inr e → (fun e => V Γ d mX12_spell 226 [(0, .ref u0), (1, .int u1), (3, .int u3), (4, .int e.1), (5, .int e.2.1), (6, .int e.2.2.1), (8, .int e.2.2.2)] [] h t) e) : V Γ d mX12_spell 218 [(0, .ref u0), (1, .int u1), (2, .int u2), (3, .int u3), (4, .int v4), (5, .int v5), (6, .int v6), (8, .int v8), (9, .int v9)] [.int y0] h t := by
  unfold jX12_spell_218 at H
  refine v_istore (L' := [(7, .int y0), (0, .ref u0), (1, .int u1), (2, .int u2), (3, .int u3), (4, .int v4), (5, .int v5), (6, .int v6), (8, .int v8), (9, .int v9)]) (q := 220) dX12_spell_218 (by decide) rfl rfl ?_
  exact V.sub [1, 2, 3, 4, 5, 6, 7, 0, 8, 9] rfl (sjX12_spell_220 hd H kI kE)
def jX12_spell_188 (u0 : Nat) (u1 : Int32) (u2 : Int32) (u3 : Int32) (v4 : Int32) (v5 : Int32) (v6 : Int32) (v7 : Int32) (v8 : Int32) (v9 : Int32) (v10 : Int32) (h : Hp) : Option ((Int32 × Int32 × Int32 × Int32 × Int32 × Int32) ⊕ (Int32 × Int32 × Int32 × Int32)) :=
(gO h 12 u0).bind fun _ =>
(fX12_opOf h u0 u1 v9).bind fun x27 =>
if x27 = (4 : Int32) then (
jX12_spell_218 u0 u1 u2 u3 v4 v5 v6 v8 v9 (v7 &&& (((1 : Int32) <<< (v10 &&& 31)) ^^^ (-1 : Int32))) h) else (
jX12_spell_218 u0 u1 u2 u3 v4 v5 v6 v8 v9 (v7 ||| ((1 : Int32) <<< (v10 &&& 31))) h)
set_option maxRecDepth 20000 in
set_option maxHeartbeats 4000000 in
theorem sjX12_spell_188 {Γ : Gm} {d : Nat} (hd : 3 ≤ d) {u0 : Nat} {u1 : Int32} {u2 : Int32} {u3 : Int32} {v4 : Int32} {v5 : Int32} {v6 : Int32} {v7 : Int32} {v8 : Int32} {v9 : Int32} {v10 : Int32} {h : Hp} {r : (Int32 × Int32 × Int32 × Int32 × Int32 × Int32) ⊕ (Int32 × Int32 × Int32 × Int32)} {t : Option Value × Hp} (H : jX12_spell_188 u0 u1 u2 u3 v4 v5 v6 v7 v8 v9 v10 h = some r) (kI : ∀ s, r = .inl s → (fun s56 => V Γ d mX12_spell 56 [(0, .ref u0), (1, .int u1), (2, .int u2), (3, .int u3), (4, .int s56.1), (5, .int s56.2.1), (6, .int s56.2.2.1), (7, .int s56.2.2.2.1), (8, .int s56.2.2.2.2.1), (9, .int s56.2.2.2.2.2)] [] h t) s) (kE : ∀ e, r = .inr e → (fun e => V Γ d mX12_spell 226 [(0, .ref u0), (1, .int u1), (3, .int u3), (4, .int e.1), (5, .int e.2.1), (6, .int e.2.2.1), (8, .int e.2.2.2)] [] h t) e) : V Γ d mX12_spell 188 [(0, .ref u0), (1, .int u1), (2, .int u2), (3, .int u3), (4, .int v4), (5, .int v5), (6, .int v6), (7, .int v7), (8, .int v8), (9, .int v9), (10, .int v10)] [] h t := by
  unfold jX12_spell_188 at H
  refine v_aload_n (q := 189) 0 dX12_spell_188 rfl rfl rfl ?_
  refine v_iload_n (q := 190) 1 dX12_spell_189 rfl rfl rfl ?_
  refine v_iload (q := 192) 9 dX12_spell_190 rfl rfl ?_
  obtain ⟨_, o26, H⟩ := bs H
  obtain ⟨x27, x27e, H⟩ := bs H
  refine u_callV1 (M' := mX12_opOf) (d' := 1) (rc := (RX12, TX12, 58)) (As := [.int u1, .int v9]) (st := []) (q := 195) oX12_opOf dX12_spell_192 w1646 w1648 w0075 rfl rfl (gO_sp o26).1 (gO_sp o26).2 rfl (Nat.le_of_ble_eq_true rfl) (Nat.le_of_ble_eq_true rfl) (Nat.lt_of_lt_of_le (by decide) hd) rfl (sX12_opOf (Nat.le_refl _) x27e) rfl ?_
  refine v_iconst (v := 4) (q := 196) dX12_spell_195 (by decide) rfl ?_
  refine v_icmp_ne (q1 := 211) (q2 := 199) dX12_spell_196 (by decide) rfl (fun c28 => ?_) (fun c28 => ?_)
  · have H := ine c28 H
    refine v_iload (q := 213) 7 dX12_spell_211 rfl rfl ?_
    refine v_iconst (v := 1) (q := 214) dX12_spell_213 (by decide) rfl ?_
    refine v_iload (q := 216) 10 dX12_spell_214 rfl rfl ?_
    refine v_ishl (q := 217) dX12_spell_216 rfl ?_
    refine v_ior (q := 218) dX12_spell_217 rfl ?_
    exact V.sub [0, 1, 2, 3, 4, 5, 6, 8, 9] rfl (sjX12_spell_218 hd H kI kE)
  · have H := ip c28 H
    refine v_iload (q := 201) 7 dX12_spell_199 rfl rfl ?_
    refine v_iconst (v := 1) (q := 202) dX12_spell_201 (by decide) rfl ?_
    refine v_iload (q := 204) 10 dX12_spell_202 rfl rfl ?_
    refine v_ishl (q := 205) dX12_spell_204 rfl ?_
    refine v_iconst (v := -1) (q := 206) dX12_spell_205 (by decide) rfl ?_
    refine v_ixor (q := 207) dX12_spell_206 rfl ?_
    refine v_iand (q := 208) dX12_spell_207 rfl ?_
    refine v_goto (q := 218) dX12_spell_208 (by decide) ?_
    exact V.sub [0, 1, 2, 3, 4, 5, 6, 8, 9] rfl (sjX12_spell_218 hd H kI kE)
def jX12_spell_149 (u0 : Nat) (u1 : Int32) (u2 : Int32) (u3 : Int32) (v4 : Int32) (v5 : Int32) (v6 : Int32) (v7 : Int32) (v8 : Int32) (v9 : Int32) (v10 : Int32) (h : Hp) : Option ((Int32 × Int32 × Int32 × Int32 × Int32 × Int32) ⊕ (Int32 × Int32 × Int32 × Int32)) :=
(gO h 12 u0).bind fun _ =>
(fX12_opOf h u0 u1 v9).bind fun x24 =>
if x24 = (4 : Int32) then (
if v10 = u2 then (
if v6 < 0 then (
jX12_spell_188 u0 u1 u2 u3 v4 v5 v6 v7 v8 v9 v10 h) else (
(fX12_more h v5 ((v9 - v6) + (1 : Int32))).bind fun x32 =>
jX12_spell_188 u0 u1 u2 u3 v4 x32 (-1 : Int32) v7 v8 v9 v10 h)) else (
jX12_spell_188 u0 u1 u2 u3 v4 v5 v6 v7 v8 v9 v10 h)) else (
jX12_spell_188 u0 u1 u2 u3 v4 v5 v6 v7 v8 v9 v10 h)
set_option maxRecDepth 20000 in
set_option maxHeartbeats 4000000 in
theorem sjX12_spell_149 {Γ : Gm} {d : Nat} (hd : 3 ≤ d) {u0 : Nat} {u1 : Int32} {u2 : Int32} {u3 : Int32} {v4 : Int32} {v5 : Int32} {v6 : Int32} {v7 : Int32} {v8 : Int32} {v9 : Int32} {v10 : Int32} {h : Hp} {r : (Int32 × Int32 × Int32 × Int32 × Int32 × Int32) ⊕ (Int32 × Int32 × Int32 × Int32)} {t : Option Value × Hp} (H : jX12_spell_149 u0 u1 u2 u3 v4 v5 v6 v7 v8 v9 v10 h = some r) (kI : ∀ s, r = .inl s → (fun s56 => V Γ d mX12_spell 56 [(0, .ref u0), (1, .int u1), (2, .int u2), (3, .int u3), (4, .int s56.1), (5, .int s56.2.1), (6, .int s56.2.2.1), (7, .int s56.2.2.2.1), (8, .int s56.2.2.2.2.1), (9, .int s56.2.2.2.2.2)] [] h t) s) (kE : ∀ e, r = .inr e → (fun e => V Γ d mX12_spell 226 [(0, .ref u0), (1, .int u1), (3, .int u3), (4, .int e.1), (5, .int e.2.1), (6, .int e.2.2.1), (8, .int e.2.2.2)] [] h t) e) : V Γ d mX12_spell 149 [(0, .ref u0), (1, .int u1), (2, .int u2), (3, .int u3), (4, .int v4), (5, .int v5), (6, .int v6), (7, .int v7), (8, .int v8), (9, .int v9), (10, .int v10)] [] h t := by
  unfold jX12_spell_149 at H
  refine v_aload_n (q := 150) 0 dX12_spell_149 rfl rfl rfl ?_
  refine v_iload_n (q := 151) 1 dX12_spell_150 rfl rfl rfl ?_
  refine v_iload (q := 153) 9 dX12_spell_151 rfl rfl ?_
  obtain ⟨_, o23, H⟩ := bs H
  obtain ⟨x24, x24e, H⟩ := bs H
  refine u_callV1 (M' := mX12_opOf) (d' := 1) (rc := (RX12, TX12, 58)) (As := [.int u1, .int v9]) (st := []) (q := 156) oX12_opOf dX12_spell_153 w1646 w1648 w0075 rfl rfl (gO_sp o23).1 (gO_sp o23).2 rfl (Nat.le_of_ble_eq_true rfl) (Nat.le_of_ble_eq_true rfl) (Nat.lt_of_lt_of_le (by decide) hd) rfl (sX12_opOf (Nat.le_refl _) x24e) rfl ?_
  refine v_iconst (v := 4) (q := 157) dX12_spell_156 (by decide) rfl ?_
  refine v_icmp_ne (q1 := 188) (q2 := 160) dX12_spell_157 (by decide) rfl (fun c25 => ?_) (fun c25 => ?_)
  · have H := ine c25 H
    exact V.sub [0, 1, 2, 3, 4, 5, 6, 7, 8, 9, 10] rfl (sjX12_spell_188 hd H kI kE)
  · have H := ip c25 H
    refine v_iload (q := 162) 10 dX12_spell_160 rfl rfl ?_
    refine v_iload_n (q := 163) 2 dX12_spell_162 rfl rfl rfl ?_
    refine v_icmp_ne (q1 := 188) (q2 := 166) dX12_spell_163 (by decide) rfl (fun c30 => ?_) (fun c30 => ?_)
    · have H := ine c30 H
      exact V.sub [0, 1, 2, 3, 4, 5, 6, 7, 8, 9, 10] rfl (sjX12_spell_188 hd H kI kE)
    · have H := ip c30 H
      refine v_iload (q := 168) 6 dX12_spell_166 rfl rfl ?_
      refine v_if_lt (q1 := 188) (q2 := 171) dX12_spell_168 (by decide) rfl (fun c31 => ?_) (fun c31 => ?_)
      · have H := ip c31 H
        exact V.sub [0, 1, 2, 3, 4, 5, 6, 7, 8, 9, 10] rfl (sjX12_spell_188 hd H kI kE)
      · have H := ine c31 H
        refine v_iload (q := 173) 5 dX12_spell_171 rfl rfl ?_
        refine v_iload (q := 175) 9 dX12_spell_173 rfl rfl ?_
        refine v_iload (q := 177) 6 dX12_spell_175 rfl rfl ?_
        refine v_isub (q := 178) dX12_spell_177 rfl ?_
        refine v_iconst (v := 1) (q := 179) dX12_spell_178 (by decide) rfl ?_
        refine v_iadd (q := 180) dX12_spell_179 rfl ?_
        obtain ⟨x32, x32e, H⟩ := bs H
        refine u_callS1 (M' := mX12_more) (d' := 1) (As := [.int v5, .int ((v9 - v6) + (1 : Int32))]) (st := []) (q := 183) oX12_more dX12_spell_180 w1933 w1934 rfl (Nat.le_of_ble_eq_true rfl) (Nat.le_of_ble_eq_true rfl) (Nat.lt_of_lt_of_le (by decide) hd) rfl (sX12_more (Nat.le_refl _) x32e) rfl ?_
        refine v_istore (L' := [(5, .int x32), (0, .ref u0), (1, .int u1), (2, .int u2), (3, .int u3), (4, .int v4), (6, .int v6), (7, .int v7), (8, .int v8), (9, .int v9), (10, .int v10)]) (q := 185) dX12_spell_183 (by decide) rfl rfl ?_
        refine v_iconst (v := -1) (q := 186) dX12_spell_185 (by decide) rfl ?_
        refine v_istore (L' := [(6, .int (-1 : Int32)), (5, .int x32), (0, .ref u0), (1, .int u1), (2, .int u2), (3, .int u3), (4, .int v4), (7, .int v7), (8, .int v8), (9, .int v9), (10, .int v10)]) (q := 188) dX12_spell_186 (by decide) rfl rfl ?_
        exact V.sub [2, 3, 4, 5, 6, 1, 0, 7, 8, 9, 10] rfl (sjX12_spell_188 hd H kI kE)
def jX12_spell_140 (u0 : Nat) (u1 : Int32) (u2 : Int32) (u3 : Int32) (v4 : Int32) (v5 : Int32) (v7 : Int32) (v9 : Int32) (v10 : Int32) (y0 : Int32) (h : Hp) : Option ((Int32 × Int32 × Int32 × Int32 × Int32 × Int32) ⊕ (Int32 × Int32 × Int32 × Int32)) :=
(some (v4 + (1 : Int32))).bind fun x35 =>
jX12_spell_149 u0 u1 u2 u3 x35 v5 v9 v7 y0 v9 v10 h
set_option maxRecDepth 20000 in
set_option maxHeartbeats 4000000 in
theorem sjX12_spell_140 {Γ : Gm} {d : Nat} (hd : 3 ≤ d) {u0 : Nat} {u1 : Int32} {u2 : Int32} {u3 : Int32} {v4 : Int32} {v5 : Int32} {v7 : Int32} {v9 : Int32} {v10 : Int32} {y0 : Int32} {h : Hp} {r : (Int32 × Int32 × Int32 × Int32 × Int32 × Int32) ⊕ (Int32 × Int32 × Int32 × Int32)} {t : Option Value × Hp} (H : jX12_spell_140 u0 u1 u2 u3 v4 v5 v7 v9 v10 y0 h = some r) (kI : ∀ s, r = .inl s → (fun s56 => V Γ d mX12_spell 56 [(0, .ref u0), (1, .int u1), (2, .int u2), (3, .int u3), (4, .int s56.1), (5, .int s56.2.1), (6, .int s56.2.2.1), (7, .int s56.2.2.2.1), (8, .int s56.2.2.2.2.1), (9, .int s56.2.2.2.2.2)] [] h t) s) (kE : ∀ e, r = .inr e → (fun e => V Γ d mX12_spell 226 [(0, .ref u0), (1, .int u1), (3, .int u3), (4, .int e.1), (5, .int e.2.1), (6, .int e.2.2.1), (8, .int e.2.2.2)] [] h t) e) : V Γ d mX12_spell 140 [(0, .ref u0), (1, .int u1), (2, .int u2), (3, .int u3), (4, .int v4), (5, .int v5), (7, .int v7), (9, .int v9), (10, .int v10)] [.int y0] h t := by
  unfold jX12_spell_140 at H
  refine v_istore (L' := [(8, .int y0), (0, .ref u0), (1, .int u1), (2, .int u2), (3, .int u3), (4, .int v4), (5, .int v5), (7, .int v7), (9, .int v9), (10, .int v10)]) (q := 142) dX12_spell_140 (by decide) rfl rfl ?_
  obtain ⟨x35, x35e, H⟩ := bs H
  refine v_iinc (v := x35) (L' := [(4, .int x35), (8, .int y0), (0, .ref u0), (1, .int u1), (2, .int u2), (3, .int u3), (5, .int v5), (7, .int v7), (9, .int v9), (10, .int v10)]) (q := 145) 5 dX12_spell_142 rfl (Option.some.inj x35e) (by decide) rfl rfl ?_
  refine v_iload (q := 147) 8 dX12_spell_145 rfl rfl ?_
  refine v_istore (L' := [(6, .int v9), (4, .int x35), (8, .int y0), (0, .ref u0), (1, .int u1), (2, .int u2), (3, .int u3), (5, .int v5), (7, .int v7), (9, .int v9), (10, .int v10)]) (q := 149) dX12_spell_147 (by decide) rfl rfl ?_
  exact V.sub [3, 4, 5, 6, 1, 7, 0, 8, 2, 9, 10] rfl (sjX12_spell_149 hd H kI kE)
def jX12_spell_115 (u0 : Nat) (u1 : Int32) (u2 : Int32) (u3 : Int32) (v4 : Int32) (v5 : Int32) (v6 : Int32) (v7 : Int32) (v8 : Int32) (v9 : Int32) (v10 : Int32) (y0 : Int32) (h : Hp) : Option ((Int32 × Int32 × Int32 × Int32 × Int32 × Int32) ⊕ (Int32 × Int32 × Int32 × Int32)) :=
if y0 = 0 then (
jX12_spell_149 u0 u1 u2 u3 v4 v5 v6 v7 v8 v9 v10 h) else (
if v10 = u2 then (
if v4 = 0 then (
jX12_spell_140 u0 u1 u2 u3 v4 v5 v7 v9 v10 v7 h) else (
jX12_spell_140 u0 u1 u2 u3 v4 v5 v7 v9 v10 v8 h)) else (
jX12_spell_149 u0 u1 u2 u3 v4 v5 v6 v7 v8 v9 v10 h))
set_option maxRecDepth 20000 in
set_option maxHeartbeats 4000000 in
theorem sjX12_spell_115 {Γ : Gm} {d : Nat} (hd : 3 ≤ d) {u0 : Nat} {u1 : Int32} {u2 : Int32} {u3 : Int32} {v4 : Int32} {v5 : Int32} {v6 : Int32} {v7 : Int32} {v8 : Int32} {v9 : Int32} {v10 : Int32} {y0 : Int32} {h : Hp} {r : (Int32 × Int32 × Int32 × Int32 × Int32 × Int32) ⊕ (Int32 × Int32 × Int32 × Int32)} {t : Option Value × Hp} (H : jX12_spell_115 u0 u1 u2 u3 v4 v5 v6 v7 v8 v9 v10 y0 h = some r) (kI : ∀ s, r = .inl s → (fun s56 => V Γ d mX12_spell 56 [(0, .ref u0), (1, .int u1), (2, .int u2), (3, .int u3), (4, .int s56.1), (5, .int s56.2.1), (6, .int s56.2.2.1), (7, .int s56.2.2.2.1), (8, .int s56.2.2.2.2.1), (9, .int s56.2.2.2.2.2)] [] h t) s) (kE : ∀ e, r = .inr e → (fun e => V Γ d mX12_spell 226 [(0, .ref u0), (1, .int u1), (3, .int u3), (4, .int e.1), (5, .int e.2.1), (6, .int e.2.2.1), (8, .int e.2.2.2)] [] h t) e) : V Γ d mX12_spell 115 [(0, .ref u0), (1, .int u1), (2, .int u2), (3, .int u3), (4, .int v4), (5, .int v5), (6, .int v6), (7, .int v7), (8, .int v8), (9, .int v9), (10, .int v10)] [.int y0] h t := by
  unfold jX12_spell_115 at H
  refine v_istore (L' := [(11, .int y0), (0, .ref u0), (1, .int u1), (2, .int u2), (3, .int u3), (4, .int v4), (5, .int v5), (6, .int v6), (7, .int v7), (8, .int v8), (9, .int v9), (10, .int v10)]) (q := 117) dX12_spell_115 (by decide) rfl rfl ?_
  refine v_iload (q := 119) 0 dX12_spell_117 rfl rfl ?_
  refine v_if_eq (q1 := 149) (q2 := 122) dX12_spell_119 (by decide) rfl (fun c22 => ?_) (fun c22 => ?_)
  · have H := ip c22 H
    exact V.sub [1, 2, 3, 4, 5, 6, 7, 8, 9, 10, 11] rfl (sjX12_spell_149 hd H kI kE)
  · have H := ine c22 H
    refine v_iload (q := 124) 11 dX12_spell_122 rfl rfl ?_
    refine v_iload_n (q := 125) 3 dX12_spell_124 rfl rfl rfl ?_
    refine v_icmp_ne (q1 := 149) (q2 := 128) dX12_spell_125 (by decide) rfl (fun c33 => ?_) (fun c33 => ?_)
    · have H := ine c33 H
      exact V.sub [1, 2, 3, 4, 5, 6, 7, 8, 9, 10, 11] rfl (sjX12_spell_149 hd H kI kE)
    · have H := ip c33 H
      refine v_iload (q := 130) 5 dX12_spell_128 rfl rfl ?_
      refine v_if_ne (q1 := 138) (q2 := 133) dX12_spell_130 (by decide) rfl (fun c34 => ?_) (fun c34 => ?_)
      · have H := ine c34 H
        refine v_iload (q := 140) 9 dX12_spell_138 rfl rfl ?_
        exact V.sub [1, 2, 3, 4, 5, 6, 8, 10, 11] rfl (sjX12_spell_140 hd H kI kE)
      · have H := ip c34 H
        refine v_iload (q := 135) 8 dX12_spell_133 rfl rfl ?_
        refine v_goto (q := 140) dX12_spell_135 (by decide) ?_
        exact V.sub [1, 2, 3, 4, 5, 6, 8, 10, 11] rfl (sjX12_spell_140 hd H kI kE)
def jX12_spell_114 (u0 : Nat) (u1 : Int32) (u2 : Int32) (u3 : Int32) (v4 : Int32) (v5 : Int32) (v6 : Int32) (v7 : Int32) (v8 : Int32) (v9 : Int32) (v10 : Int32) (h : Hp) : Option ((Int32 × Int32 × Int32 × Int32 × Int32 × Int32) ⊕ (Int32 × Int32 × Int32 × Int32)) :=
jX12_spell_115 u0 u1 u2 u3 v4 v5 v6 v7 v8 v9 v10 (0 : Int32) h
set_option maxRecDepth 20000 in
set_option maxHeartbeats 4000000 in
theorem sjX12_spell_114 {Γ : Gm} {d : Nat} (hd : 3 ≤ d) {u0 : Nat} {u1 : Int32} {u2 : Int32} {u3 : Int32} {v4 : Int32} {v5 : Int32} {v6 : Int32} {v7 : Int32} {v8 : Int32} {v9 : Int32} {v10 : Int32} {h : Hp} {r : (Int32 × Int32 × Int32 × Int32 × Int32 × Int32) ⊕ (Int32 × Int32 × Int32 × Int32)} {t : Option Value × Hp} (H : jX12_spell_114 u0 u1 u2 u3 v4 v5 v6 v7 v8 v9 v10 h = some r) (kI : ∀ s, r = .inl s → (fun s56 => V Γ d mX12_spell 56 [(0, .ref u0), (1, .int u1), (2, .int u2), (3, .int u3), (4, .int s56.1), (5, .int s56.2.1), (6, .int s56.2.2.1), (7, .int s56.2.2.2.1), (8, .int s56.2.2.2.2.1), (9, .int s56.2.2.2.2.2)] [] h t) s) (kE : ∀ e, r = .inr e → (fun e => V Γ d mX12_spell 226 [(0, .ref u0), (1, .int u1), (3, .int u3), (4, .int e.1), (5, .int e.2.1), (6, .int e.2.2.1), (8, .int e.2.2.2)] [] h t) e) : V Γ d mX12_spell 114 [(0, .ref u0), (1, .int u1), (2, .int u2), (3, .int u3), (4, .int v4), (5, .int v5), (6, .int v6), (7, .int v7), (8, .int v8), (9, .int v9), (10, .int v10)] [] h t := by
  unfold jX12_spell_114 at H
  refine v_iconst (v := 0) (q := 115) dX12_spell_114 (by decide) rfl ?_
  exact V.sub [0, 1, 2, 3, 4, 5, 6, 7, 8, 9, 10] rfl (sjX12_spell_115 hd H kI kE)
def bX12_spell_56 (u0 : Nat) (u1 : Int32) (u2 : Int32) (u3 : Int32) (h : Hp) (s56 : Int32 × Int32 × Int32 × Int32 × Int32 × Int32) : Option ((Int32 × Int32 × Int32 × Int32 × Int32 × Int32) ⊕ (Int32 × Int32 × Int32 × Int32)) :=
(gO h 12 u0).bind fun _ =>
(fX12_stepsOf h u0 u1).bind fun x12 =>
if x12 ≤ s56.2.2.2.2.2 then (
some (.inr (s56.1, s56.2.1, s56.2.2.1, s56.2.2.2.2.1))) else (
(gO h 12 u0).bind fun _ =>
(fX12_lockOf h u0 u1 s56.2.2.2.2.2).bind fun x15 =>
(gO h 12 u0).bind fun _ =>
(fX12_opOf h u0 u1 s56.2.2.2.2.2).bind fun x17 =>
if x17 ≤ (4 : Int32) then (
(gO h 12 u0).bind fun _ =>
(fX12_opOf h u0 u1 s56.2.2.2.2.2).bind fun x20 =>
if (4 : Int32) ≤ x20 then (
jX12_spell_114 u0 u1 u2 u3 s56.1 s56.2.1 s56.2.2.1 s56.2.2.2.1 s56.2.2.2.2.1 s56.2.2.2.2.2 x15 h) else (
(fX12_has h s56.2.2.2.1 x15).bind fun x36 =>
if x36 = 0 then (
jX12_spell_115 u0 u1 u2 u3 s56.1 s56.2.1 s56.2.2.1 s56.2.2.2.1 s56.2.2.2.2.1 s56.2.2.2.2.2 x15 (1 : Int32) h) else (
jX12_spell_114 u0 u1 u2 u3 s56.1 s56.2.1 s56.2.2.1 s56.2.2.2.1 s56.2.2.2.2.1 s56.2.2.2.2.2 x15 h))) else (
jX12_spell_220 u0 u1 u2 u3 s56.1 s56.2.1 s56.2.2.1 s56.2.2.2.1 s56.2.2.2.2.1 s56.2.2.2.2.2 h))
set_option maxRecDepth 20000 in
set_option maxHeartbeats 4000000 in
theorem sbX12_spell_56 {Γ : Gm} {d : Nat} (hd : 3 ≤ d) {u0 : Nat} {u1 : Int32} {u2 : Int32} {u3 : Int32} {h : Hp} {s56 : Int32 × Int32 × Int32 × Int32 × Int32 × Int32} {r : (Int32 × Int32 × Int32 × Int32 × Int32 × Int32) ⊕ (Int32 × Int32 × Int32 × Int32)} {t : Option Value × Hp} (H : bX12_spell_56 u0 u1 u2 u3 h s56 = some r) (kI : ∀ s, r = .inl s → (fun s56 => V Γ d mX12_spell 56 [(0, .ref u0), (1, .int u1), (2, .int u2), (3, .int u3), (4, .int s56.1), (5, .int s56.2.1), (6, .int s56.2.2.1), (7, .int s56.2.2.2.1), (8, .int s56.2.2.2.2.1), (9, .int s56.2.2.2.2.2)] [] h t) s) (kE : ∀ e, r = .inr e → (fun e => V Γ d mX12_spell 226 [(0, .ref u0), (1, .int u1), (3, .int u3), (4, .int e.1), (5, .int e.2.1), (6, .int e.2.2.1), (8, .int e.2.2.2)] [] h t) e) : V Γ d mX12_spell 56 [(0, .ref u0), (1, .int u1), (2, .int u2), (3, .int u3), (4, .int s56.1), (5, .int s56.2.1), (6, .int s56.2.2.1), (7, .int s56.2.2.2.1), (8, .int s56.2.2.2.2.1), (9, .int s56.2.2.2.2.2)] [] h t := by
  unfold bX12_spell_56 at H
  refine v_iload (q := 58) 9 dX12_spell_56 rfl rfl ?_
  refine v_aload_n (q := 59) 0 dX12_spell_58 rfl rfl rfl ?_
  refine v_iload_n (q := 60) 1 dX12_spell_59 rfl rfl rfl ?_
  obtain ⟨_, o11, H⟩ := bs H
  obtain ⟨x12, x12e, H⟩ := bs H
  refine u_callV1 (M' := mX12_stepsOf) (d' := 1) (rc := (RX12, TX12, 58)) (As := [.int u1]) (st := [.int s56.2.2.2.2.2]) (q := 63) oX12_stepsOf dX12_spell_60 w1642 w1644 w0074 rfl rfl (gO_sp o11).1 (gO_sp o11).2 rfl (Nat.le_of_ble_eq_true rfl) (Nat.le_of_ble_eq_true rfl) (Nat.lt_of_lt_of_le (by decide) hd) rfl (sX12_stepsOf (Nat.le_refl _) x12e) rfl ?_
  refine v_icmp_ge (q1 := 226) (q2 := 66) dX12_spell_63 (by decide) rfl (fun c13 => ?_) (fun c13 => ?_)
  · have H := ip c13 H
    exact V.sub [0, 1, 3, 4, 5, 6, 8] rfl (kE (s56.1, s56.2.1, s56.2.2.1, s56.2.2.2.2.1) (Option.some.inj H).symm)
  · have H := ine c13 H
    refine v_aload_n (q := 67) 0 dX12_spell_66 rfl rfl rfl ?_
    refine v_iload_n (q := 68) 1 dX12_spell_67 rfl rfl rfl ?_
    refine v_iload (q := 70) 9 dX12_spell_68 rfl rfl ?_
    obtain ⟨_, o14, H⟩ := bs H
    obtain ⟨x15, x15e, H⟩ := bs H
    refine u_callV1 (M' := mX12_lockOf) (d' := 1) (rc := (RX12, TX12, 58)) (As := [.int u1, .int s56.2.2.2.2.2]) (st := []) (q := 73) oX12_lockOf dX12_spell_70 w1654 w1656 w0077 rfl rfl (gO_sp o14).1 (gO_sp o14).2 rfl (Nat.le_of_ble_eq_true rfl) (Nat.le_of_ble_eq_true rfl) (Nat.lt_of_lt_of_le (by decide) hd) rfl (sX12_lockOf (Nat.le_refl _) x15e) rfl ?_
    refine v_istore (L' := [(10, .int x15), (0, .ref u0), (1, .int u1), (2, .int u2), (3, .int u3), (4, .int s56.1), (5, .int s56.2.1), (6, .int s56.2.2.1), (7, .int s56.2.2.2.1), (8, .int s56.2.2.2.2.1), (9, .int s56.2.2.2.2.2)]) (q := 75) dX12_spell_73 (by decide) rfl rfl ?_
    refine v_aload_n (q := 76) 1 dX12_spell_75 rfl rfl rfl ?_
    refine v_iload_n (q := 77) 2 dX12_spell_76 rfl rfl rfl ?_
    refine v_iload (q := 79) 10 dX12_spell_77 rfl rfl ?_
    obtain ⟨_, o16, H⟩ := bs H
    obtain ⟨x17, x17e, H⟩ := bs H
    refine u_callV1 (M' := mX12_opOf) (d' := 1) (rc := (RX12, TX12, 58)) (As := [.int u1, .int s56.2.2.2.2.2]) (st := []) (q := 82) oX12_opOf dX12_spell_79 w1646 w1648 w0075 rfl rfl (gO_sp o16).1 (gO_sp o16).2 rfl (Nat.le_of_ble_eq_true rfl) (Nat.le_of_ble_eq_true rfl) (Nat.lt_of_lt_of_le (by decide) hd) rfl (sX12_opOf (Nat.le_refl _) x17e) rfl ?_
    refine v_iconst (v := 4) (q := 83) dX12_spell_82 (by decide) rfl ?_
    refine v_icmp_le (q1 := 89) (q2 := 86) dX12_spell_83 (by decide) rfl (fun c18 => ?_) (fun c18 => ?_)
    · have H := ip c18 H
      refine v_aload_n (q := 90) 1 dX12_spell_89 rfl rfl rfl ?_
      refine v_iload_n (q := 91) 2 dX12_spell_90 rfl rfl rfl ?_
      refine v_iload (q := 93) 10 dX12_spell_91 rfl rfl ?_
      obtain ⟨_, o19, H⟩ := bs H
      obtain ⟨x20, x20e, H⟩ := bs H
      refine u_callV1 (M' := mX12_opOf) (d' := 1) (rc := (RX12, TX12, 58)) (As := [.int u1, .int s56.2.2.2.2.2]) (st := []) (q := 96) oX12_opOf dX12_spell_93 w1646 w1648 w0075 rfl rfl (gO_sp o19).1 (gO_sp o19).2 rfl (Nat.le_of_ble_eq_true rfl) (Nat.le_of_ble_eq_true rfl) (Nat.lt_of_lt_of_le (by decide) hd) rfl (sX12_opOf (Nat.le_refl _) x20e) rfl ?_
      refine v_iconst (v := 4) (q := 97) dX12_spell_96 (by decide) rfl ?_
      refine v_icmp_ge (q1 := 114) (q2 := 100) dX12_spell_97 (by decide) rfl (fun c21 => ?_) (fun c21 => ?_)
      · have H := ip c21 H
        exact V.sub [1, 2, 3, 4, 5, 6, 7, 8, 9, 10, 0] rfl (sjX12_spell_114 hd H kI kE)
      · have H := ine c21 H
        refine v_iload (q := 102) 8 dX12_spell_100 rfl rfl ?_
        refine v_iload (q := 104) 0 dX12_spell_102 rfl rfl ?_
        obtain ⟨x36, x36e, H⟩ := bs H
        refine u_callS1 (M' := mX12_has) (d' := 1) (As := [.int s56.2.2.2.1, .int x15]) (st := []) (q := 107) oX12_has dX12_spell_104 w1846 w1847 rfl (Nat.le_of_ble_eq_true rfl) (Nat.le_of_ble_eq_true rfl) (Nat.lt_of_lt_of_le (by decide) hd) rfl (sX12_has (Nat.le_refl _) x36e) rfl ?_
        refine v_if_ne (q1 := 114) (q2 := 110) dX12_spell_107 (by decide) rfl (fun c37 => ?_) (fun c37 => ?_)
        · have H := ine c37 H
          exact V.sub [1, 2, 3, 4, 5, 6, 7, 8, 9, 10, 0] rfl (sjX12_spell_114 hd H kI kE)
        · have H := ip c37 H
          refine v_iconst (v := 1) (q := 111) dX12_spell_110 (by decide) rfl ?_
          refine v_goto (q := 115) dX12_spell_111 (by decide) ?_
          exact V.sub [1, 2, 3, 4, 5, 6, 7, 8, 9, 10, 0] rfl (sjX12_spell_115 hd H kI kE)
    · have H := ine c18 H
      refine v_goto (q := 220) dX12_spell_86 (by decide) ?_
      exact V.sub [1, 2, 3, 4, 5, 6, 7, 8, 9, 10] rfl (sjX12_spell_220 hd H kI kE)
def jX12_spell_267 (y0 : Int32) (h : Hp) : Option (Int32) :=
some y0
set_option maxRecDepth 20000 in
set_option maxHeartbeats 4000000 in
theorem sjX12_spell_267 {Γ : Gm} {d : Nat} (hd : 3 ≤ d) {y0 : Int32} {h : Hp} {r : Int32} (H : jX12_spell_267 y0 h = some r) : V Γ d mX12_spell 267 [] [.int y0] h (some (.int r), h) := by
  unfold jX12_spell_267 at H
  cases H
  exact v_ireturn rfl dX12_spell_267
def jX12_spell_246 (v3 : Int32) (v4 : Int32) (v5 : Int32) (v8 : Int32) (h : Hp) : Option (Int32) :=
if v3 = 0 then (
jX12_spell_267 v4 h) else (
if v3 = (1 : Int32) then (
jX12_spell_267 v5 h) else (
jX12_spell_267 v8 h))
set_option maxRecDepth 20000 in
set_option maxHeartbeats 4000000 in
theorem sjX12_spell_246 {Γ : Gm} {d : Nat} (hd : 3 ≤ d) {v3 : Int32} {v4 : Int32} {v5 : Int32} {v8 : Int32} {h : Hp} {r : Int32} (H : jX12_spell_246 v3 v4 v5 v8 h = some r) : V Γ d mX12_spell 246 [(3, .int v3), (4, .int v4), (5, .int v5), (8, .int v8)] [] h (some (.int r), h) := by
  unfold jX12_spell_246 at H
  refine v_iload_n (q := 247) 0 dX12_spell_246 rfl rfl rfl ?_
  refine v_if_ne (q1 := 255) (q2 := 250) dX12_spell_247 (by decide) rfl (fun c40 => ?_) (fun c40 => ?_)
  · have H := ine c40 H
    refine v_iload_n (q := 256) 0 dX12_spell_255 rfl rfl rfl ?_
    refine v_iconst (v := 1) (q := 257) dX12_spell_256 (by decide) rfl ?_
    refine v_icmp_ne (q1 := 265) (q2 := 260) dX12_spell_257 (by decide) rfl (fun c41 => ?_) (fun c41 => ?_)
    · have H := ine c41 H
      refine v_iload (q := 267) 3 dX12_spell_265 rfl rfl ?_
      exact V.sub [] rfl (sjX12_spell_267 hd H)
    · have H := ip c41 H
      refine v_iload (q := 262) 2 dX12_spell_260 rfl rfl ?_
      refine v_goto (q := 267) dX12_spell_262 (by decide) ?_
      exact V.sub [] rfl (sjX12_spell_267 hd H)
  · have H := ip c40 H
    refine v_iload (q := 252) 1 dX12_spell_250 rfl rfl ?_
    refine v_goto (q := 267) dX12_spell_252 (by decide) ?_
    exact V.sub [] rfl (sjX12_spell_267 hd H)
def fX12_spell (h : Hp) (v0 : Nat) (v1 : Int32) (v2 : Int32) (v3 : Int32) : Option (Int32) :=
(gO h 12 v0).bind fun _ =>
(fX12_isProgram h v0 v1).bind fun x2 =>
if x2 = 0 then (
jX12_spell_36 h) else (
(gR h 12 v0 2).bind fun x4 =>
(gI h 12 v0 9).bind fun x5 =>
(lI h .int x4 x5).bind fun x6 =>
(fX12_isIn h v2 (0 : Int32) (x6 - (1 : Int32))).bind fun x7 =>
if x7 = 0 then (
jX12_spell_36 h) else (
(fX12_isIn h v3 (0 : Int32) (2 : Int32)).bind fun x9 =>
if x9 = 0 then (
jX12_spell_36 h) else (
(lp (bX12_spell_56 v0 v1 v2 v3 h) FU ((0 : Int32), (0 : Int32), (-1 : Int32), (0 : Int32), (0 : Int32), (0 : Int32))).bind fun e38 =>
if e38.2.2.1 < 0 then (
jX12_spell_246 v3 e38.1 e38.2.1 e38.2.2.2 h) else (
(gO h 12 v0).bind fun _ =>
(fX12_stepsOf h v0 v1).bind fun x43 =>
(fX12_more h e38.2.1 (x43 - e38.2.2.1)).bind fun x44 =>
jX12_spell_246 v3 e38.1 x44 e38.2.2.2 h))))
set_option maxRecDepth 20000 in
set_option maxHeartbeats 4000000 in
theorem sX12_spell {Γ : Gm} {d : Nat} (hd : 3 ≤ d) {h : Hp} {v0 : Nat} {v1 : Int32} {v2 : Int32} {v3 : Int32} {r : Int32} (H : fX12_spell h v0 v1 v2 v3 = some r) : V Γ d mX12_spell 0 [(0, .ref v0), (1, .int v1), (2, .int v2), (3, .int v3)] [] h (some (.int r), h) := by
  unfold fX12_spell at H
  refine v_aload_n (q := 1) 0 dX12_spell_0 rfl rfl rfl ?_
  refine v_iload_n (q := 2) 1 dX12_spell_1 rfl rfl rfl ?_
  obtain ⟨_, o1, H⟩ := bs H
  obtain ⟨x2, x2e, H⟩ := bs H
  refine u_callV1 (M' := mX12_isProgram) (d' := 2) (rc := (RX12, TX12, 58)) (As := [.int v1]) (st := []) (q := 5) oX12_isProgram dX12_spell_2 w1629 w1631 w0071 rfl rfl (gO_sp o1).1 (gO_sp o1).2 rfl (Nat.le_of_ble_eq_true rfl) (Nat.le_of_ble_eq_true rfl) (Nat.lt_of_lt_of_le (by decide) hd) rfl (sX12_isProgram (Nat.le_refl _) x2e) rfl ?_
  refine v_if_eq (q1 := 36) (q2 := 8) dX12_spell_5 (by decide) rfl (fun c3 => ?_) (fun c3 => ?_)
  · have H := ip c3 H
    exact V.sub [] rfl (sjX12_spell_36 hd H)
  · have H := ine c3 H
    refine v_iload_n (q := 9) 2 dX12_spell_8 rfl rfl rfl ?_
    refine v_iconst (v := 0) (q := 10) dX12_spell_9 (by decide) rfl ?_
    refine v_aload_n (q := 11) 0 dX12_spell_10 rfl rfl rfl ?_
    obtain ⟨x4, x4e, H⟩ := bs H
    refine u_gR (q := 14) (r := (RX12, TX12, 58)) x4e dX12_spell_11 w1358 rfl (by decide) rfl rfl ?_
    refine v_aload_n (q := 15) 0 dX12_spell_14 rfl rfl rfl ?_
    obtain ⟨x5, x5e, H⟩ := bs H
    refine u_gI (q := 18) (r := (RX12, TX12, 58)) x5e dX12_spell_15 w1365 rfl (by decide) rfl rfl ?_
    obtain ⟨x6, x6e, H⟩ := bs H
    refine u_lI (q := 19) x6e dX12_spell_18 rfl ?_
    refine v_iconst (v := 1) (q := 20) dX12_spell_19 (by decide) rfl ?_
    refine v_isub (q := 21) dX12_spell_20 rfl ?_
    obtain ⟨x7, x7e, H⟩ := bs H
    refine u_callS1 (M' := mX12_isIn) (d' := 1) (As := [.int v2, .int (0 : Int32), .int (x6 - (1 : Int32))]) (st := []) (q := 24) oX12_isIn dX12_spell_21 w1618 w1619 rfl (Nat.le_of_ble_eq_true rfl) (Nat.le_of_ble_eq_true rfl) (Nat.lt_of_lt_of_le (by decide) hd) rfl (sX12_isIn (Nat.le_refl _) x7e) rfl ?_
    refine v_if_eq (q1 := 36) (q2 := 27) dX12_spell_24 (by decide) rfl (fun c8 => ?_) (fun c8 => ?_)
    · have H := ip c8 H
      exact V.sub [] rfl (sjX12_spell_36 hd H)
    · have H := ine c8 H
      refine v_iload_n (q := 28) 3 dX12_spell_27 rfl rfl rfl ?_
      refine v_iconst (v := 0) (q := 29) dX12_spell_28 (by decide) rfl ?_
      refine v_iconst (v := 2) (q := 30) dX12_spell_29 (by decide) rfl ?_
      obtain ⟨x9, x9e, H⟩ := bs H
      refine u_callS1 (M' := mX12_isIn) (d' := 1) (As := [.int v3, .int (0 : Int32), .int (2 : Int32)]) (st := []) (q := 33) oX12_isIn dX12_spell_30 w1618 w1619 rfl (Nat.le_of_ble_eq_true rfl) (Nat.le_of_ble_eq_true rfl) (Nat.lt_of_lt_of_le (by decide) hd) rfl (sX12_isIn (Nat.le_refl _) x9e) rfl ?_
      refine v_if_ne (q1 := 38) (q2 := 36) dX12_spell_33 (by decide) rfl (fun c10 => ?_) (fun c10 => ?_)
      · have H := ine c10 H
        refine v_iconst (v := 0) (q := 39) dX12_spell_38 (by decide) rfl ?_
        refine v_istore (L' := [(4, .int (0 : Int32)), (0, .ref v0), (1, .int v1), (2, .int v2), (3, .int v3)]) (q := 41) dX12_spell_39 (by decide) rfl rfl ?_
        refine v_iconst (v := 0) (q := 42) dX12_spell_41 (by decide) rfl ?_
        refine v_istore (L' := [(5, .int (0 : Int32)), (4, .int (0 : Int32)), (0, .ref v0), (1, .int v1), (2, .int v2), (3, .int v3)]) (q := 44) dX12_spell_42 (by decide) rfl rfl ?_
        refine v_iconst (v := -1) (q := 45) dX12_spell_44 (by decide) rfl ?_
        refine v_istore (L' := [(6, .int (-1 : Int32)), (5, .int (0 : Int32)), (4, .int (0 : Int32)), (0, .ref v0), (1, .int v1), (2, .int v2), (3, .int v3)]) (q := 47) dX12_spell_45 (by decide) rfl rfl ?_
        refine v_iconst (v := 0) (q := 48) dX12_spell_47 (by decide) rfl ?_
        refine v_istore (L' := [(7, .int (0 : Int32)), (6, .int (-1 : Int32)), (5, .int (0 : Int32)), (4, .int (0 : Int32)), (0, .ref v0), (1, .int v1), (2, .int v2), (3, .int v3)]) (q := 50) dX12_spell_48 (by decide) rfl rfl ?_
        refine v_iconst (v := 0) (q := 51) dX12_spell_50 (by decide) rfl ?_
        refine v_istore (L' := [(8, .int (0 : Int32)), (7, .int (0 : Int32)), (6, .int (-1 : Int32)), (5, .int (0 : Int32)), (4, .int (0 : Int32)), (0, .ref v0), (1, .int v1), (2, .int v2), (3, .int v3)]) (q := 53) dX12_spell_51 (by decide) rfl rfl ?_
        refine v_iconst (v := 0) (q := 54) dX12_spell_53 (by decide) rfl ?_
        refine v_istore (L' := [(9, .int (0 : Int32)), (8, .int (0 : Int32)), (7, .int (0 : Int32)), (6, .int (-1 : Int32)), (5, .int (0 : Int32)), (4, .int (0 : Int32)), (0, .ref v0), (1, .int v1), (2, .int v2), (3, .int v3)]) (q := 56) dX12_spell_54 (by decide) rfl rfl ?_
        obtain ⟨e38, e38L, H⟩ := bs H
        refine V.sub [6, 7, 8, 9, 5, 4, 3, 2, 1, 0] rfl ?_
        refine lp_V (P := (fun s56 => V Γ d mX12_spell 56 [(0, .ref v0), (1, .int v1), (2, .int v2), (3, .int v3), (4, .int s56.1), (5, .int s56.2.1), (6, .int s56.2.2.1), (7, .int s56.2.2.2.1), (8, .int s56.2.2.2.2.1), (9, .int s56.2.2.2.2.2)] [] h (some (.int r), h))) (E := (fun e => V Γ d mX12_spell 226 [(0, .ref v0), (1, .int v1), (3, .int v3), (4, .int e.1), (5, .int e.2.1), (6, .int e.2.2.1), (8, .int e.2.2.2)] [] h (some (.int r), h))) (fun s r hb kI kE => sbX12_spell_56 hd (s56 := s) (r := r) hb kI kE) FU ((0 : Int32), (0 : Int32), (-1 : Int32), (0 : Int32), (0 : Int32), (0 : Int32)) e38 e38L ?_
        refine v_iload (q := 228) 5 dX12_spell_226 rfl rfl ?_
        refine v_if_lt (q1 := 246) (q2 := 231) dX12_spell_228 (by decide) rfl (fun c39 => ?_) (fun c39 => ?_)
        · have H := ip c39 H
          exact V.sub [2, 3, 4, 6] rfl (sjX12_spell_246 hd H)
        · have H := ine c39 H
          refine v_iload (q := 233) 4 dX12_spell_231 rfl rfl ?_
          refine v_aload_n (q := 234) 0 dX12_spell_233 rfl rfl rfl ?_
          refine v_iload_n (q := 235) 1 dX12_spell_234 rfl rfl rfl ?_
          obtain ⟨_, o42, H⟩ := bs H
          obtain ⟨x43, x43e, H⟩ := bs H
          refine u_callV1 (M' := mX12_stepsOf) (d' := 1) (rc := (RX12, TX12, 58)) (As := [.int v1]) (st := [.int e38.2.1]) (q := 238) oX12_stepsOf dX12_spell_235 w1642 w1644 w0074 rfl rfl (gO_sp o42).1 (gO_sp o42).2 rfl (Nat.le_of_ble_eq_true rfl) (Nat.le_of_ble_eq_true rfl) (Nat.lt_of_lt_of_le (by decide) hd) rfl (sX12_stepsOf (Nat.le_refl _) x43e) rfl ?_
          refine v_iload (q := 240) 5 dX12_spell_238 rfl rfl ?_
          refine v_isub (q := 241) dX12_spell_240 rfl ?_
          obtain ⟨x44, x44e, H⟩ := bs H
          refine u_callS1 (M' := mX12_more) (d' := 1) (As := [.int e38.2.1, .int (x43 - e38.2.2.1)]) (st := []) (q := 244) oX12_more dX12_spell_241 w1933 w1934 rfl (Nat.le_of_ble_eq_true rfl) (Nat.le_of_ble_eq_true rfl) (Nat.lt_of_lt_of_le (by decide) hd) rfl (sX12_more (Nat.le_refl _) x44e) rfl ?_
          refine v_istore (L' := [(5, .int x44), (0, .ref v0), (1, .int v1), (3, .int v3), (4, .int e38.1), (6, .int e38.2.2.1), (8, .int e38.2.2.2)]) (q := 246) dX12_spell_244 (by decide) rfl rfl ?_
          exact V.sub [3, 4, 0, 6] rfl (sjX12_spell_246 hd H)
      · have H := ip c10 H
        exact V.sub [] rfl (sjX12_spell_36 hd H)
def mX12_step : MI := (yX12_step, cX12_step, 4, some .int)
theorem oX12_step : mOK mX12_step 3 := ⟨by decide +kernel, by decide +kernel, by decide +kernel, by decide, w1769, w0150⟩
def jX12_step_32 (h : Hp) : Option (Int32) :=
some (-2 : Int32)
set_option maxRecDepth 20000 in
set_option maxHeartbeats 4000000 in
theorem sjX12_step_32 {Γ : Gm} {d : Nat} (hd : 3 ≤ d) {h : Hp} {r : Int32} (H : jX12_step_32 h = some r) : V Γ d mX12_step 32 [] [] h (some (.int r), h) := by
  unfold jX12_step_32 at H
  refine v_bipush (v := -2) (q := 34) dX12_step_32 (by decide) rfl ?_
  cases H
  exact v_ireturn rfl dX12_step_34
def jX12_step_54 (y0 : Int32) (h : Hp) : Option (Int32) :=
some y0
set_option maxRecDepth 20000 in
set_option maxHeartbeats 4000000 in
theorem sjX12_step_54 {Γ : Gm} {d : Nat} (hd : 3 ≤ d) {y0 : Int32} {h : Hp} {r : Int32} (H : jX12_step_54 y0 h = some r) : V Γ d mX12_step 54 [] [.int y0] h (some (.int r), h) := by
  unfold jX12_step_54 at H
  cases H
  exact v_ireturn rfl dX12_step_54
def fX12_step (h : Hp) (v0 : Nat) (v1 : Int32) (v2 : Int32) (v3 : Int32) : Option (Int32) :=
(gO h 12 v0).bind fun _ =>
(fX12_isProgram h v0 v1).bind fun x2 =>
if x2 = 0 then (
jX12_step_32 h) else (
(gO h 12 v0).bind fun _ =>
(fX12_stepsOf h v0 v1).bind fun x5 =>
(fX12_isIn h v2 (0 : Int32) (x5 - (1 : Int32))).bind fun x6 =>
if x6 = 0 then (
jX12_step_32 h) else (
(fX12_isIn h v3 (0 : Int32) (1 : Int32)).bind fun x8 =>
if x8 = 0 then (
jX12_step_32 h) else (
if v3 = 0 then (
(gO h 12 v0).bind fun _ =>
(fX12_opOf h v0 v1 v2).bind fun x14 =>
jX12_step_54 x14 h) else (
(gO h 12 v0).bind fun _ =>
(fX12_lockOf h v0 v1 v2).bind fun x12 =>
jX12_step_54 x12 h))))
set_option maxRecDepth 20000 in
set_option maxHeartbeats 4000000 in
theorem sX12_step {Γ : Gm} {d : Nat} (hd : 3 ≤ d) {h : Hp} {v0 : Nat} {v1 : Int32} {v2 : Int32} {v3 : Int32} {r : Int32} (H : fX12_step h v0 v1 v2 v3 = some r) : V Γ d mX12_step 0 [(0, .ref v0), (1, .int v1), (2, .int v2), (3, .int v3)] [] h (some (.int r), h) := by
  unfold fX12_step at H
  refine v_aload_n (q := 1) 0 dX12_step_0 rfl rfl rfl ?_
  refine v_iload_n (q := 2) 1 dX12_step_1 rfl rfl rfl ?_
  obtain ⟨_, o1, H⟩ := bs H
  obtain ⟨x2, x2e, H⟩ := bs H
  refine u_callV1 (M' := mX12_isProgram) (d' := 2) (rc := (RX12, TX12, 58)) (As := [.int v1]) (st := []) (q := 5) oX12_isProgram dX12_step_2 w1629 w1631 w0071 rfl rfl (gO_sp o1).1 (gO_sp o1).2 rfl (Nat.le_of_ble_eq_true rfl) (Nat.le_of_ble_eq_true rfl) (Nat.lt_of_lt_of_le (by decide) hd) rfl (sX12_isProgram (Nat.le_refl _) x2e) rfl ?_
  refine v_if_eq (q1 := 32) (q2 := 8) dX12_step_5 (by decide) rfl (fun c3 => ?_) (fun c3 => ?_)
  · have H := ip c3 H
    exact V.sub [] rfl (sjX12_step_32 hd H)
  · have H := ine c3 H
    refine v_iload_n (q := 9) 2 dX12_step_8 rfl rfl rfl ?_
    refine v_iconst (v := 0) (q := 10) dX12_step_9 (by decide) rfl ?_
    refine v_aload_n (q := 11) 0 dX12_step_10 rfl rfl rfl ?_
    refine v_iload_n (q := 12) 1 dX12_step_11 rfl rfl rfl ?_
    obtain ⟨_, o4, H⟩ := bs H
    obtain ⟨x5, x5e, H⟩ := bs H
    refine u_callV1 (M' := mX12_stepsOf) (d' := 1) (rc := (RX12, TX12, 58)) (As := [.int v1]) (st := [.int (0 : Int32), .int v2]) (q := 15) oX12_stepsOf dX12_step_12 w1642 w1644 w0074 rfl rfl (gO_sp o4).1 (gO_sp o4).2 rfl (Nat.le_of_ble_eq_true rfl) (Nat.le_of_ble_eq_true rfl) (Nat.lt_of_lt_of_le (by decide) hd) rfl (sX12_stepsOf (Nat.le_refl _) x5e) rfl ?_
    refine v_iconst (v := 1) (q := 16) dX12_step_15 (by decide) rfl ?_
    refine v_isub (q := 17) dX12_step_16 rfl ?_
    obtain ⟨x6, x6e, H⟩ := bs H
    refine u_callS1 (M' := mX12_isIn) (d' := 1) (As := [.int v2, .int (0 : Int32), .int (x5 - (1 : Int32))]) (st := []) (q := 20) oX12_isIn dX12_step_17 w1618 w1619 rfl (Nat.le_of_ble_eq_true rfl) (Nat.le_of_ble_eq_true rfl) (Nat.lt_of_lt_of_le (by decide) hd) rfl (sX12_isIn (Nat.le_refl _) x6e) rfl ?_
    refine v_if_eq (q1 := 32) (q2 := 23) dX12_step_20 (by decide) rfl (fun c7 => ?_) (fun c7 => ?_)
    · have H := ip c7 H
      exact V.sub [] rfl (sjX12_step_32 hd H)
    · have H := ine c7 H
      refine v_iload_n (q := 24) 3 dX12_step_23 rfl rfl rfl ?_
      refine v_iconst (v := 0) (q := 25) dX12_step_24 (by decide) rfl ?_
      refine v_iconst (v := 1) (q := 26) dX12_step_25 (by decide) rfl ?_
      obtain ⟨x8, x8e, H⟩ := bs H
      refine u_callS1 (M' := mX12_isIn) (d' := 1) (As := [.int v3, .int (0 : Int32), .int (1 : Int32)]) (st := []) (q := 29) oX12_isIn dX12_step_26 w1618 w1619 rfl (Nat.le_of_ble_eq_true rfl) (Nat.le_of_ble_eq_true rfl) (Nat.lt_of_lt_of_le (by decide) hd) rfl (sX12_isIn (Nat.le_refl _) x8e) rfl ?_
      refine v_if_ne (q1 := 35) (q2 := 32) dX12_step_29 (by decide) rfl (fun c9 => ?_) (fun c9 => ?_)
      · have H := ine c9 H
        refine v_iload_n (q := 36) 3 dX12_step_35 rfl rfl rfl ?_
        refine v_if_ne (q1 := 48) (q2 := 39) dX12_step_36 (by decide) rfl (fun c10 => ?_) (fun c10 => ?_)
        · have H := ine c10 H
          refine v_aload_n (q := 49) 0 dX12_step_48 rfl rfl rfl ?_
          refine v_iload_n (q := 50) 1 dX12_step_49 rfl rfl rfl ?_
          refine v_iload_n (q := 51) 2 dX12_step_50 rfl rfl rfl ?_
          obtain ⟨_, o11, H⟩ := bs H
          obtain ⟨x12, x12e, H⟩ := bs H
          refine u_callV1 (M' := mX12_lockOf) (d' := 1) (rc := (RX12, TX12, 58)) (As := [.int v1, .int v2]) (st := []) (q := 54) oX12_lockOf dX12_step_51 w1654 w1656 w0077 rfl rfl (gO_sp o11).1 (gO_sp o11).2 rfl (Nat.le_of_ble_eq_true rfl) (Nat.le_of_ble_eq_true rfl) (Nat.lt_of_lt_of_le (by decide) hd) rfl (sX12_lockOf (Nat.le_refl _) x12e) rfl ?_
          exact V.sub [] rfl (sjX12_step_54 hd H)
        · have H := ip c10 H
          refine v_aload_n (q := 40) 0 dX12_step_39 rfl rfl rfl ?_
          refine v_iload_n (q := 41) 1 dX12_step_40 rfl rfl rfl ?_
          refine v_iload_n (q := 42) 2 dX12_step_41 rfl rfl rfl ?_
          obtain ⟨_, o13, H⟩ := bs H
          obtain ⟨x14, x14e, H⟩ := bs H
          refine u_callV1 (M' := mX12_opOf) (d' := 1) (rc := (RX12, TX12, 58)) (As := [.int v1, .int v2]) (st := []) (q := 45) oX12_opOf dX12_step_42 w1646 w1648 w0075 rfl rfl (gO_sp o13).1 (gO_sp o13).2 rfl (Nat.le_of_ble_eq_true rfl) (Nat.le_of_ble_eq_true rfl) (Nat.lt_of_lt_of_le (by decide) hd) rfl (sX12_opOf (Nat.le_refl _) x14e) rfl ?_
          refine v_goto (q := 54) dX12_step_45 (by decide) ?_
          exact V.sub [] rfl (sjX12_step_54 hd H)
      · have H := ip c9 H
        exact V.sub [] rfl (sjX12_step_32 hd H)
def mX12_store : MI := (yX12_store, cX12_store, 2, some .int)
theorem oX12_store : mOK mX12_store 0 := ⟨by decide +kernel, by decide +kernel, by decide +kernel, by decide, w1542, w0150⟩
def fX12_store (h : Hp) (v0 : Nat) : Option (Int32 × Hp) :=
(gI h 12 v0 9).bind fun x1 =>
(some ((1 : Int32) - x1)).bind fun x2 =>
(gI h 12 v0 11).bind fun x3 =>
(pI h 12 v0 12 x3).bind fun h4 =>
(pI h4 12 v0 11 (0 : Int32)).bind fun h5 =>
(pI h5 12 v0 13 (0 : Int32)).bind fun h6 =>
(pI h6 12 v0 17 (0 : Int32)).bind fun h7 =>
(pI h7 12 v0 18 (-1 : Int32)).bind fun h8 =>
(pI h8 12 v0 26 (0 : Int32)).bind fun h9 =>
(gO h9 12 v0).bind fun _ =>
(fX12_clearBank h9 v0 x2).bind fun x11 =>
(gO x11 12 v0).bind fun _ =>
(fX12_readAll x11 v0 x2).bind fun x13 =>
(gI x13 12 v0 17).bind fun x14 =>
(pI x13 12 v0 19 x14).bind fun h15 =>
(gI h15 12 v0 18).bind fun x16 =>
(pI h15 12 v0 20 x16).bind fun h17 =>
(gI h17 12 v0 19).bind fun x18 =>
if x18 ≤ 0 then (
(pI h17 12 v0 9 x2).bind fun h20 =>
(gO h20 12 v0).bind fun _ =>
(fX12_startAnew h20 v0).bind fun x22 =>
(gR x22 12 v0 3).bind fun x23 =>
(lI x22 .int x23 x2).bind fun x24 =>
some (x24, x22)) else (
some (((-1 : Int32), h17)))
set_option maxRecDepth 20000 in
set_option maxHeartbeats 4000000 in
theorem sX12_store {Γ : Gm} {d : Nat} (hd : 9 ≤ d) {h : Hp} {v0 : Nat} {r : Int32 × Hp} (H : fX12_store h v0 = some r) : V Γ d mX12_store 0 [(0, .ref v0)] [] h (some (.int r.1), r.2) := by
  unfold fX12_store at H
  refine v_iconst (v := 1) (q := 1) dX12_store_0 (by decide) rfl ?_
  refine v_aload_n (q := 2) 0 dX12_store_1 rfl rfl rfl ?_
  obtain ⟨x1, x1e, H⟩ := bs H
  refine u_gI (q := 5) (r := (RX12, TX12, 58)) x1e dX12_store_2 w1365 rfl (by decide) rfl rfl ?_
  refine v_isub (q := 6) dX12_store_5 rfl ?_
  obtain ⟨x2, x2e, H⟩ := bs H
  refine v_topi (Option.some.inj x2e) ?_
  refine v_istore_n (L' := [(1, .int x2), (0, .ref v0)]) (q := 7) dX12_store_6 rfl (by decide) rfl rfl ?_
  refine v_aload_n (q := 8) 1 dX12_store_7 rfl rfl rfl ?_
  refine v_aload_n (q := 9) 1 dX12_store_8 rfl rfl rfl ?_
  obtain ⟨x3, x3e, H⟩ := bs H
  refine u_gI (q := 12) (r := (RX12, TX12, 58)) x3e dX12_store_9 w1367 rfl (by decide) rfl rfl ?_
  obtain ⟨h4, h4e, H⟩ := bs H
  refine u_pI (q := 15) (r := (RX12, TX12, 58)) h4e dX12_store_12 w1368 rfl (by decide) (Or.inl rfl) rfl rfl ?_
  refine v_aload_n (q := 16) 1 dX12_store_15 rfl rfl rfl ?_
  refine v_iconst (v := 0) (q := 17) dX12_store_16 (by decide) rfl ?_
  obtain ⟨h5, h5e, H⟩ := bs H
  refine u_pI (q := 20) (r := (RX12, TX12, 58)) h5e dX12_store_17 w1367 rfl (by decide) (Or.inl rfl) rfl rfl ?_
  refine v_aload_n (q := 21) 1 dX12_store_20 rfl rfl rfl ?_
  refine v_iconst (v := 0) (q := 22) dX12_store_21 (by decide) rfl ?_
  obtain ⟨h6, h6e, H⟩ := bs H
  refine u_pI (q := 25) (r := (RX12, TX12, 58)) h6e dX12_store_22 w1369 rfl (by decide) (Or.inl rfl) rfl rfl ?_
  refine v_aload_n (q := 26) 1 dX12_store_25 rfl rfl rfl ?_
  refine v_iconst (v := 0) (q := 27) dX12_store_26 (by decide) rfl ?_
  obtain ⟨h7, h7e, H⟩ := bs H
  refine u_pI (q := 30) (r := (RX12, TX12, 58)) h7e dX12_store_27 w1373 rfl (by decide) (Or.inl rfl) rfl rfl ?_
  refine v_aload_n (q := 31) 1 dX12_store_30 rfl rfl rfl ?_
  refine v_iconst (v := -1) (q := 32) dX12_store_31 (by decide) rfl ?_
  obtain ⟨h8, h8e, H⟩ := bs H
  refine u_pI (q := 35) (r := (RX12, TX12, 58)) h8e dX12_store_32 w1374 rfl (by decide) (Or.inl rfl) rfl rfl ?_
  refine v_aload_n (q := 36) 1 dX12_store_35 rfl rfl rfl ?_
  refine v_iconst (v := 0) (q := 37) dX12_store_36 (by decide) rfl ?_
  obtain ⟨h9, h9e, H⟩ := bs H
  refine u_pI (q := 40) (r := (RX12, TX12, 58)) h9e dX12_store_37 w1382 rfl (by decide) (Or.inl rfl) rfl rfl ?_
  refine v_aload_n (q := 41) 1 dX12_store_40 rfl rfl rfl ?_
  refine v_iload_n (q := 42) 0 dX12_store_41 rfl rfl rfl ?_
  obtain ⟨_, o10, H⟩ := bs H
  obtain ⟨x11, x11e, H⟩ := bs H
  refine u_callV0 (M' := mX12_clearBank) (d' := 1) (rc := (RX12, TX12, 58)) (As := [.int x2]) (st := []) (q := 45) oX12_clearBank dX12_store_42 w1344 w1346 w0050 rfl rfl (gO_sp o10).1 (gO_sp o10).2 rfl (Nat.le_of_ble_eq_true rfl) (Nat.le_of_ble_eq_true rfl) (Nat.lt_of_lt_of_le (by decide) hd) rfl (sX12_clearBank (Nat.le_refl _) x11e) rfl ?_
  refine v_aload_n (q := 46) 1 dX12_store_45 rfl rfl rfl ?_
  refine v_iload_n (q := 47) 0 dX12_store_46 rfl rfl rfl ?_
  obtain ⟨_, o12, H⟩ := bs H
  obtain ⟨x13, x13e, H⟩ := bs H
  refine u_callV0 (M' := mX12_readAll) (d' := 8) (rc := (RX12, TX12, 58)) (As := [.int x2]) (st := []) (q := 50) oX12_readAll dX12_store_47 w1543 w1545 w0053 rfl rfl (gO_sp o12).1 (gO_sp o12).2 rfl (Nat.le_of_ble_eq_true rfl) (Nat.le_of_ble_eq_true rfl) (Nat.lt_of_lt_of_le (by decide) hd) rfl (sX12_readAll (Nat.le_refl _) x13e) rfl ?_
  refine v_aload_n (q := 51) 1 dX12_store_50 rfl rfl rfl ?_
  refine v_aload_n (q := 52) 1 dX12_store_51 rfl rfl rfl ?_
  obtain ⟨x14, x14e, H⟩ := bs H
  refine u_gI (q := 55) (r := (RX12, TX12, 58)) x14e dX12_store_52 w1373 rfl (by decide) rfl rfl ?_
  obtain ⟨h15, h15e, H⟩ := bs H
  refine u_pI (q := 58) (r := (RX12, TX12, 58)) h15e dX12_store_55 w1375 rfl (by decide) (Or.inl rfl) rfl rfl ?_
  refine v_aload_n (q := 59) 1 dX12_store_58 rfl rfl rfl ?_
  refine v_aload_n (q := 60) 1 dX12_store_59 rfl rfl rfl ?_
  obtain ⟨x16, x16e, H⟩ := bs H
  refine u_gI (q := 63) (r := (RX12, TX12, 58)) x16e dX12_store_60 w1374 rfl (by decide) rfl rfl ?_
  obtain ⟨h17, h17e, H⟩ := bs H
  refine u_pI (q := 66) (r := (RX12, TX12, 58)) h17e dX12_store_63 w1376 rfl (by decide) (Or.inl rfl) rfl rfl ?_
  refine v_aload_n (q := 67) 1 dX12_store_66 rfl rfl rfl ?_
  obtain ⟨x18, x18e, H⟩ := bs H
  refine u_gI (q := 70) (r := (RX12, TX12, 58)) x18e dX12_store_67 w1375 rfl (by decide) rfl rfl ?_
  refine v_if_le (q1 := 75) (q2 := 73) dX12_store_70 (by decide) rfl (fun c19 => ?_) (fun c19 => ?_)
  · have H := ip c19 H
    refine v_aload_n (q := 76) 1 dX12_store_75 rfl rfl rfl ?_
    refine v_iload_n (q := 77) 0 dX12_store_76 rfl rfl rfl ?_
    obtain ⟨h20, h20e, H⟩ := bs H
    refine u_pI (q := 80) (r := (RX12, TX12, 58)) h20e dX12_store_77 w1365 rfl (by decide) (Or.inl rfl) rfl rfl ?_
    refine v_aload_n (q := 81) 1 dX12_store_80 rfl rfl rfl ?_
    obtain ⟨_, o21, H⟩ := bs H
    obtain ⟨x22, x22e, H⟩ := bs H
    refine u_callV0 (M' := mX12_startAnew) (d' := 2) (rc := (RX12, TX12, 58)) (As := []) (st := []) (q := 84) oX12_startAnew dX12_store_81 w1348 w1350 w0051 rfl rfl (gO_sp o21).1 (gO_sp o21).2 rfl (Nat.le_of_ble_eq_true rfl) (Nat.le_of_ble_eq_true rfl) (Nat.lt_of_lt_of_le (by decide) hd) rfl (sX12_startAnew (Nat.le_refl _) x22e) rfl ?_
    refine v_aload_n (q := 85) 1 dX12_store_84 rfl rfl rfl ?_
    obtain ⟨x23, x23e, H⟩ := bs H
    refine u_gR (q := 88) (r := (RX12, TX12, 58)) x23e dX12_store_85 w1359 rfl (by decide) rfl rfl ?_
    refine v_iload_n (q := 89) 0 dX12_store_88 rfl rfl rfl ?_
    obtain ⟨x24, x24e, H⟩ := bs H
    refine u_lI (q := 90) x24e dX12_store_89 rfl ?_
    cases H
    exact v_ireturn rfl dX12_store_90
  · have H := ine c19 H
    refine v_iconst (v := -1) (q := 74) dX12_store_73 (by decide) rfl ?_
    cases H
    exact v_ireturn rfl dX12_store_74

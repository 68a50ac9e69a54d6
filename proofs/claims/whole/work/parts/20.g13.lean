def mX12_isBlank : MI := (yX12_isBlank, cX12_isBlank, 2, some .boolean)
theorem oX12_isBlank : mOK mX12_isBlank 1 := ⟨by decide +kernel, by decide +kernel, by decide +kernel, by decide, w1554, w0150⟩
def jX12_isBlank_35 (y0 : Int32) (h : Hp) : Option (Int32) :=
(bz y0).bind fun x3 =>
some x3
set_option maxRecDepth 20000 in
set_option maxHeartbeats 4000000 in
theorem sjX12_isBlank_35 {Γ : Gm} {d : Nat} (hd : 1 ≤ d) {y0 : Int32} {h : Hp} {r : Int32} (H : jX12_isBlank_35 y0 h = some r) : V Γ d mX12_isBlank 35 [] [.int y0] h (some (.int r), h) := by
  unfold jX12_isBlank_35 at H
  obtain ⟨x3, x3e, H⟩ := bs H
  obtain ⟨x3q, x3z⟩ := bz_sp x3e
  refine v_topi x3q.symm ?_
  cases H
  exact v_zreturn rfl (by rw [x3q]; exact x3z) dX12_isBlank_35
def jX12_isBlank_34 (h : Hp) : Option (Int32) :=
jX12_isBlank_35 (0 : Int32) h
set_option maxRecDepth 20000 in
set_option maxHeartbeats 4000000 in
theorem sjX12_isBlank_34 {Γ : Gm} {d : Nat} (hd : 1 ≤ d) {h : Hp} {r : Int32} (H : jX12_isBlank_34 h = some r) : V Γ d mX12_isBlank 34 [] [] h (some (.int r), h) := by
  unfold jX12_isBlank_34 at H
  refine v_iconst (v := 0) (q := 35) dX12_isBlank_34 (by decide) rfl ?_
  exact V.sub [] rfl (sjX12_isBlank_35 hd H)
def jX12_isBlank_30 (h : Hp) : Option (Int32) :=
jX12_isBlank_35 (1 : Int32) h
set_option maxRecDepth 20000 in
set_option maxHeartbeats 4000000 in
theorem sjX12_isBlank_30 {Γ : Gm} {d : Nat} (hd : 1 ≤ d) {h : Hp} {r : Int32} (H : jX12_isBlank_30 h = some r) : V Γ d mX12_isBlank 30 [] [] h (some (.int r), h) := by
  unfold jX12_isBlank_30 at H
  refine v_iconst (v := 1) (q := 31) dX12_isBlank_30 (by decide) rfl ?_
  refine v_goto (q := 35) dX12_isBlank_31 (by decide) ?_
  exact V.sub [] rfl (sjX12_isBlank_35 hd H)
def fX12_isBlank (h : Hp) (v0 : Nat) (v1 : Int32) : Option (Int32) :=
(gI h 12 v0 12).bind fun x1 =>
if x1 ≤ v1 then (
jX12_isBlank_34 h) else (
(gR h 12 v0 10).bind fun x4 =>
(lI h .byte x4 v1).bind fun x5 =>
if x5 = (32 : Int32) then (
jX12_isBlank_30 h) else (
(gR h 12 v0 10).bind fun x7 =>
(lI h .byte x7 v1).bind fun x8 =>
if x8 = (10 : Int32) then (
jX12_isBlank_30 h) else (
jX12_isBlank_34 h)))
set_option maxRecDepth 20000 in
set_option maxHeartbeats 4000000 in
theorem sX12_isBlank {Γ : Gm} {d : Nat} (hd : 1 ≤ d) {h : Hp} {v0 : Nat} {v1 : Int32} {r : Int32} (H : fX12_isBlank h v0 v1 = some r) : V Γ d mX12_isBlank 0 [(0, .ref v0), (1, .int v1)] [] h (some (.int r), h) := by
  unfold fX12_isBlank at H
  refine v_iload_n (q := 1) 1 dX12_isBlank_0 rfl rfl rfl ?_
  refine v_aload_n (q := 2) 0 dX12_isBlank_1 rfl rfl rfl ?_
  obtain ⟨x1, x1e, H⟩ := bs H
  refine u_gI (q := 5) (r := (RX12, TX12, 58)) x1e dX12_isBlank_2 w1368 rfl (by decide) rfl rfl ?_
  refine v_icmp_ge (q1 := 34) (q2 := 8) dX12_isBlank_5 (by decide) rfl (fun c2 => ?_) (fun c2 => ?_)
  · have H := ip c2 H
    exact V.sub [] rfl (sjX12_isBlank_34 hd H)
  · have H := ine c2 H
    refine v_aload_n (q := 9) 0 dX12_isBlank_8 rfl rfl rfl ?_
    obtain ⟨x4, x4e, H⟩ := bs H
    refine u_gR (q := 12) (r := (RX12, TX12, 58)) x4e dX12_isBlank_9 w1366 rfl (by decide) rfl rfl ?_
    refine v_iload_n (q := 13) 1 dX12_isBlank_12 rfl rfl rfl ?_
    obtain ⟨x5, x5e, H⟩ := bs H
    refine u_lB (q := 14) x5e dX12_isBlank_13 rfl ?_
    refine v_bipush (v := 32) (q := 16) dX12_isBlank_14 (by decide) rfl ?_
    refine v_icmp_eq (q1 := 30) (q2 := 19) dX12_isBlank_16 (by decide) rfl (fun c6 => ?_) (fun c6 => ?_)
    · have H := ip c6 H
      exact V.sub [] rfl (sjX12_isBlank_30 hd H)
    · have H := ine c6 H
      refine v_aload_n (q := 20) 0 dX12_isBlank_19 rfl rfl rfl ?_
      obtain ⟨x7, x7e, H⟩ := bs H
      refine u_gR (q := 23) (r := (RX12, TX12, 58)) x7e dX12_isBlank_20 w1366 rfl (by decide) rfl rfl ?_
      refine v_iload_n (q := 24) 1 dX12_isBlank_23 rfl rfl rfl ?_
      obtain ⟨x8, x8e, H⟩ := bs H
      refine u_lB (q := 25) x8e dX12_isBlank_24 rfl ?_
      refine v_bipush (v := 10) (q := 27) dX12_isBlank_25 (by decide) rfl ?_
      refine v_icmp_ne (q1 := 34) (q2 := 30) dX12_isBlank_27 (by decide) rfl (fun c9 => ?_) (fun c9 => ?_)
      · have H := ine c9 H
        exact V.sub [] rfl (sjX12_isBlank_34 hd H)
      · have H := ip c9 H
        exact V.sub [] rfl (sjX12_isBlank_30 hd H)
def mX12_isLetter : MI := (yX12_isLetter, cX12_isLetter, 1, some .boolean)
theorem oX12_isLetter : mOK mX12_isLetter 1 := ⟨by decide +kernel, by decide +kernel, by decide +kernel, by decide, w1561, w0150⟩
def jX12_isLetter_17 (y0 : Int32) (h : Hp) : Option (Int32) :=
(bz y0).bind fun x2 =>
some x2
set_option maxRecDepth 20000 in
set_option maxHeartbeats 4000000 in
theorem sjX12_isLetter_17 {Γ : Gm} {d : Nat} (hd : 1 ≤ d) {y0 : Int32} {h : Hp} {r : Int32} (H : jX12_isLetter_17 y0 h = some r) : V Γ d mX12_isLetter 17 [] [.int y0] h (some (.int r), h) := by
  unfold jX12_isLetter_17 at H
  obtain ⟨x2, x2e, H⟩ := bs H
  obtain ⟨x2q, x2z⟩ := bz_sp x2e
  refine v_topi x2q.symm ?_
  cases H
  exact v_zreturn rfl (by rw [x2q]; exact x2z) dX12_isLetter_17
def jX12_isLetter_16 (h : Hp) : Option (Int32) :=
jX12_isLetter_17 (0 : Int32) h
set_option maxRecDepth 20000 in
set_option maxHeartbeats 4000000 in
theorem sjX12_isLetter_16 {Γ : Gm} {d : Nat} (hd : 1 ≤ d) {h : Hp} {r : Int32} (H : jX12_isLetter_16 h = some r) : V Γ d mX12_isLetter 16 [] [] h (some (.int r), h) := by
  unfold jX12_isLetter_16 at H
  refine v_iconst (v := 0) (q := 17) dX12_isLetter_16 (by decide) rfl ?_
  exact V.sub [] rfl (sjX12_isLetter_17 hd H)
def fX12_isLetter (h : Hp) (v0 : Int32) : Option (Int32) :=
if v0 < (97 : Int32) then (
jX12_isLetter_16 h) else (
if (122 : Int32) < v0 then (
jX12_isLetter_16 h) else (
jX12_isLetter_17 (1 : Int32) h))
set_option maxRecDepth 20000 in
set_option maxHeartbeats 4000000 in
theorem sX12_isLetter {Γ : Gm} {d : Nat} (hd : 1 ≤ d) {h : Hp} {v0 : Int32} {r : Int32} (H : fX12_isLetter h v0 = some r) : V Γ d mX12_isLetter 0 [(0, .int v0)] [] h (some (.int r), h) := by
  unfold fX12_isLetter at H
  refine v_iload_n (q := 1) 0 dX12_isLetter_0 rfl rfl rfl ?_
  refine v_bipush (v := 97) (q := 3) dX12_isLetter_1 (by decide) rfl ?_
  refine v_icmp_lt (q1 := 16) (q2 := 6) dX12_isLetter_3 (by decide) rfl (fun c1 => ?_) (fun c1 => ?_)
  · have H := ip c1 H
    exact V.sub [] rfl (sjX12_isLetter_16 hd H)
  · have H := ine c1 H
    refine v_iload_n (q := 7) 0 dX12_isLetter_6 rfl rfl rfl ?_
    refine v_bipush (v := 122) (q := 9) dX12_isLetter_7 (by decide) rfl ?_
    refine v_icmp_gt (q1 := 16) (q2 := 12) dX12_isLetter_9 (by decide) rfl (fun c3 => ?_) (fun c3 => ?_)
    · have H := ip c3 H
      exact V.sub [] rfl (sjX12_isLetter_16 hd H)
    · have H := ine c3 H
      refine v_iconst (v := 1) (q := 13) dX12_isLetter_12 (by decide) rfl ?_
      refine v_goto (q := 17) dX12_isLetter_13 (by decide) ?_
      exact V.sub [] rfl (sjX12_isLetter_17 hd H)
def mX12_isName : MI := (yX12_isName, cX12_isName, 1, some .boolean)
theorem oX12_isName : mOK mX12_isName 0 := ⟨by decide +kernel, by decide +kernel, by decide +kernel, by decide, w1589, w0150⟩
def jX12_isName_28 (y0 : Int32) (h : Hp) : Option (Int32) :=
(bz y0).bind fun x3 =>
some x3
set_option maxRecDepth 20000 in
set_option maxHeartbeats 4000000 in
theorem sjX12_isName_28 {Γ : Gm} {d : Nat} (hd : 1 ≤ d) {y0 : Int32} {h : Hp} {r : Int32} (H : jX12_isName_28 y0 h = some r) : V Γ d mX12_isName 28 [] [.int y0] h (some (.int r), h) := by
  unfold jX12_isName_28 at H
  obtain ⟨x3, x3e, H⟩ := bs H
  obtain ⟨x3q, x3z⟩ := bz_sp x3e
  refine v_topi x3q.symm ?_
  cases H
  exact v_zreturn rfl (by rw [x3q]; exact x3z) dX12_isName_28
def jX12_isName_27 (h : Hp) : Option (Int32) :=
jX12_isName_28 (0 : Int32) h
set_option maxRecDepth 20000 in
set_option maxHeartbeats 4000000 in
theorem sjX12_isName_27 {Γ : Gm} {d : Nat} (hd : 1 ≤ d) {h : Hp} {r : Int32} (H : jX12_isName_27 h = some r) : V Γ d mX12_isName 27 [] [] h (some (.int r), h) := by
  unfold jX12_isName_27 at H
  refine v_iconst (v := 0) (q := 28) dX12_isName_27 (by decide) rfl ?_
  exact V.sub [] rfl (sjX12_isName_28 hd H)
def fX12_isName (h : Hp) (v0 : Nat) : Option (Int32) :=
(gI h 12 v0 17).bind fun x1 =>
if x1 = 0 then (
(gI h 12 v0 15).bind fun x4 =>
if x4 = (2 : Int32) then (
(gI h 12 v0 16).bind fun x6 =>
if x6 = (-1 : Int32) then (
jX12_isName_28 (1 : Int32) h) else (
jX12_isName_27 h)) else (
jX12_isName_27 h)) else (
jX12_isName_27 h)
set_option maxRecDepth 20000 in
set_option maxHeartbeats 4000000 in
theorem sX12_isName {Γ : Gm} {d : Nat} (hd : 1 ≤ d) {h : Hp} {v0 : Nat} {r : Int32} (H : fX12_isName h v0 = some r) : V Γ d mX12_isName 0 [(0, .ref v0)] [] h (some (.int r), h) := by
  unfold fX12_isName at H
  refine v_aload_n (q := 1) 0 dX12_isName_0 rfl rfl rfl ?_
  obtain ⟨x1, x1e, H⟩ := bs H
  refine u_gI (q := 4) (r := (RX12, TX12, 58)) x1e dX12_isName_1 w1373 rfl (by decide) rfl rfl ?_
  refine v_if_ne (q1 := 27) (q2 := 7) dX12_isName_4 (by decide) rfl (fun c2 => ?_) (fun c2 => ?_)
  · have H := ine c2 H
    exact V.sub [] rfl (sjX12_isName_27 hd H)
  · have H := ip c2 H
    refine v_aload_n (q := 8) 0 dX12_isName_7 rfl rfl rfl ?_
    obtain ⟨x4, x4e, H⟩ := bs H
    refine u_gI (q := 11) (r := (RX12, TX12, 58)) x4e dX12_isName_8 w1371 rfl (by decide) rfl rfl ?_
    refine v_iconst (v := 2) (q := 12) dX12_isName_11 (by decide) rfl ?_
    refine v_icmp_ne (q1 := 27) (q2 := 15) dX12_isName_12 (by decide) rfl (fun c5 => ?_) (fun c5 => ?_)
    · have H := ine c5 H
      exact V.sub [] rfl (sjX12_isName_27 hd H)
    · have H := ip c5 H
      refine v_aload_n (q := 16) 0 dX12_isName_15 rfl rfl rfl ?_
      obtain ⟨x6, x6e, H⟩ := bs H
      refine u_gI (q := 19) (r := (RX12, TX12, 58)) x6e dX12_isName_16 w1372 rfl (by decide) rfl rfl ?_
      refine v_iconst (v := -1) (q := 20) dX12_isName_19 (by decide) rfl ?_
      refine v_icmp_ne (q1 := 27) (q2 := 23) dX12_isName_20 (by decide) rfl (fun c7 => ?_) (fun c7 => ?_)
      · have H := ine c7 H
        exact V.sub [] rfl (sjX12_isName_27 hd H)
      · have H := ip c7 H
        refine v_iconst (v := 1) (q := 24) dX12_isName_23 (by decide) rfl ?_
        refine v_goto (q := 28) dX12_isName_24 (by decide) ?_
        exact V.sub [] rfl (sjX12_isName_28 hd H)
def mX12_isNamed : MI := (yX12_isNamed, cX12_isNamed, 3, some .boolean)
theorem oX12_isNamed : mOK mX12_isNamed 1 := ⟨by decide +kernel, by decide +kernel, by decide +kernel, by decide, w1597, w0150⟩
def bX12_isNamed_22 (u0 : Nat) (u1 : Int32) (h : Hp) (s22 : Int32) : Option ((Int32) ⊕ ((Unit) ⊕ (Unit))) :=
(gR h 12 u0 23).bind fun x6 =>
(lI h .int x6 u1).bind fun x7 =>
if x7 ≤ s22 then (
some (.inr (.inl ()))) else (
(gR h 12 u0 10).bind fun x9 =>
(gR h 12 u0 22).bind fun x10 =>
(lI h .int x10 u1).bind fun x11 =>
(lI h .byte x9 (x11 + s22)).bind fun x12 =>
(gR h 12 u0 10).bind fun x13 =>
(gI h 12 u0 14).bind fun x14 =>
(lI h .byte x13 (x14 + s22)).bind fun x15 =>
if x12 = x15 then (
(some (s22 + (1 : Int32))).bind fun x17 =>
some (.inl x17)) else (
some (.inr (.inr ()))))
set_option maxRecDepth 20000 in
set_option maxHeartbeats 4000000 in
theorem sbX12_isNamed_22 {Γ : Gm} {d : Nat} (hd : 1 ≤ d) {u0 : Nat} {u1 : Int32} {h : Hp} {s22 : Int32} {r : (Int32) ⊕ ((Unit) ⊕ (Unit))} {t : Option Value × Hp} (H : bX12_isNamed_22 u0 u1 h s22 = some r) (kI : ∀ s, r = .inl s → (fun s22 => V Γ d mX12_isNamed 22 [(0, .ref u0), (1, .int u1), (2, .int s22)] [] h t) s) (kE : ∀ e, r = .inr e → (fun e => (match e with | .inl a0 => V Γ d mX12_isNamed 67 [] [] h t | .inr b0 => V Γ d mX12_isNamed 59 [] [] h t)) e) : V Γ d mX12_isNamed 22 [(0, .ref u0), (1, .int u1), (2, .int s22)] [] h t := by
  unfold bX12_isNamed_22 at H
  refine v_iload_n (q := 23) 2 dX12_isNamed_22 rfl rfl rfl ?_
  refine v_aload_n (q := 24) 0 dX12_isNamed_23 rfl rfl rfl ?_
  obtain ⟨x6, x6e, H⟩ := bs H
  refine u_gR (q := 27) (r := (RX12, TX12, 58)) x6e dX12_isNamed_24 w1379 rfl (by decide) rfl rfl ?_
  refine v_iload_n (q := 28) 1 dX12_isNamed_27 rfl rfl rfl ?_
  obtain ⟨x7, x7e, H⟩ := bs H
  refine u_lI (q := 29) x7e dX12_isNamed_28 rfl ?_
  refine v_icmp_ge (q1 := 67) (q2 := 32) dX12_isNamed_29 (by decide) rfl (fun c8 => ?_) (fun c8 => ?_)
  · have H := ip c8 H
    exact V.sub [] rfl (kE (.inl ()) (Option.some.inj H).symm)
  · have H := ine c8 H
    refine v_aload_n (q := 33) 0 dX12_isNamed_32 rfl rfl rfl ?_
    obtain ⟨x9, x9e, H⟩ := bs H
    refine u_gR (q := 36) (r := (RX12, TX12, 58)) x9e dX12_isNamed_33 w1366 rfl (by decide) rfl rfl ?_
    refine v_aload_n (q := 37) 0 dX12_isNamed_36 rfl rfl rfl ?_
    obtain ⟨x10, x10e, H⟩ := bs H
    refine u_gR (q := 40) (r := (RX12, TX12, 58)) x10e dX12_isNamed_37 w1378 rfl (by decide) rfl rfl ?_
    refine v_iload_n (q := 41) 1 dX12_isNamed_40 rfl rfl rfl ?_
    obtain ⟨x11, x11e, H⟩ := bs H
    refine u_lI (q := 42) x11e dX12_isNamed_41 rfl ?_
    refine v_iload_n (q := 43) 2 dX12_isNamed_42 rfl rfl rfl ?_
    refine v_iadd (q := 44) dX12_isNamed_43 rfl ?_
    obtain ⟨x12, x12e, H⟩ := bs H
    refine u_lB (q := 45) x12e dX12_isNamed_44 rfl ?_
    refine v_aload_n (q := 46) 0 dX12_isNamed_45 rfl rfl rfl ?_
    obtain ⟨x13, x13e, H⟩ := bs H
    refine u_gR (q := 49) (r := (RX12, TX12, 58)) x13e dX12_isNamed_46 w1366 rfl (by decide) rfl rfl ?_
    refine v_aload_n (q := 50) 0 dX12_isNamed_49 rfl rfl rfl ?_
    obtain ⟨x14, x14e, H⟩ := bs H
    refine u_gI (q := 53) (r := (RX12, TX12, 58)) x14e dX12_isNamed_50 w1370 rfl (by decide) rfl rfl ?_
    refine v_iload_n (q := 54) 2 dX12_isNamed_53 rfl rfl rfl ?_
    refine v_iadd (q := 55) dX12_isNamed_54 rfl ?_
    obtain ⟨x15, x15e, H⟩ := bs H
    refine u_lB (q := 56) x15e dX12_isNamed_55 rfl ?_
    refine v_icmp_eq (q1 := 61) (q2 := 59) dX12_isNamed_56 (by decide) rfl (fun c16 => ?_) (fun c16 => ?_)
    · have H := ip c16 H
      obtain ⟨x17, x17e, H⟩ := bs H
      refine v_iinc (v := x17) (L' := [(2, .int x17), (0, .ref u0), (1, .int u1)]) (q := 64) 2 dX12_isNamed_61 rfl (Option.some.inj x17e) (by decide) rfl rfl ?_
      refine v_goto (q := 22) dX12_isNamed_64 (by decide) ?_
      exact V.sub [1, 2, 0] rfl (kI x17 (Option.some.inj H).symm)
    · have H := ine c16 H
      exact V.sub [] rfl (kE (.inr ()) (Option.some.inj H).symm)
def fX12_isNamed (h : Hp) (v0 : Nat) (v1 : Int32) : Option (Int32) :=
(gR h 12 v0 23).bind fun x1 =>
(lI h .int x1 v1).bind fun x2 =>
(gI h 12 v0 13).bind fun x3 =>
(gI h 12 v0 14).bind fun x4 =>
if x2 = (x3 - x4) then (
(lp (bX12_isNamed_22 v0 v1 h) FU (0 : Int32)).bind fun e18 =>
(match e18 with
| .inl e19 => (
some (1 : Int32))
| .inr e20 => (
some (0 : Int32)))) else (
some (0 : Int32))
set_option maxRecDepth 20000 in
set_option maxHeartbeats 4000000 in
theorem sX12_isNamed {Γ : Gm} {d : Nat} (hd : 1 ≤ d) {h : Hp} {v0 : Nat} {v1 : Int32} {r : Int32} (H : fX12_isNamed h v0 v1 = some r) : V Γ d mX12_isNamed 0 [(0, .ref v0), (1, .int v1)] [] h (some (.int r), h) := by
  unfold fX12_isNamed at H
  refine v_aload_n (q := 1) 0 dX12_isNamed_0 rfl rfl rfl ?_
  obtain ⟨x1, x1e, H⟩ := bs H
  refine u_gR (q := 4) (r := (RX12, TX12, 58)) x1e dX12_isNamed_1 w1379 rfl (by decide) rfl rfl ?_
  refine v_iload_n (q := 5) 1 dX12_isNamed_4 rfl rfl rfl ?_
  obtain ⟨x2, x2e, H⟩ := bs H
  refine u_lI (q := 6) x2e dX12_isNamed_5 rfl ?_
  refine v_aload_n (q := 7) 0 dX12_isNamed_6 rfl rfl rfl ?_
  obtain ⟨x3, x3e, H⟩ := bs H
  refine u_gI (q := 10) (r := (RX12, TX12, 58)) x3e dX12_isNamed_7 w1369 rfl (by decide) rfl rfl ?_
  refine v_aload_n (q := 11) 0 dX12_isNamed_10 rfl rfl rfl ?_
  obtain ⟨x4, x4e, H⟩ := bs H
  refine u_gI (q := 14) (r := (RX12, TX12, 58)) x4e dX12_isNamed_11 w1370 rfl (by decide) rfl rfl ?_
  refine v_isub (q := 15) dX12_isNamed_14 rfl ?_
  refine v_icmp_eq (q1 := 20) (q2 := 18) dX12_isNamed_15 (by decide) rfl (fun c5 => ?_) (fun c5 => ?_)
  · have H := ip c5 H
    refine v_iconst (v := 0) (q := 21) dX12_isNamed_20 (by decide) rfl ?_
    refine v_istore_n (L' := [(2, .int (0 : Int32)), (0, .ref v0), (1, .int v1)]) (q := 22) dX12_isNamed_21 rfl (by decide) rfl rfl ?_
    obtain ⟨e18, e18L, H⟩ := bs H
    refine V.sub [1, 2, 0] rfl ?_
    refine lp_V (P := (fun s22 => V Γ d mX12_isNamed 22 [(0, .ref v0), (1, .int v1), (2, .int s22)] [] h (some (.int r), h))) (E := (fun e => (match e with | .inl a0 => V Γ d mX12_isNamed 67 [] [] h (some (.int r), h) | .inr b0 => V Γ d mX12_isNamed 59 [] [] h (some (.int r), h)))) (fun s r hb kI kE => sbX12_isNamed_22 hd (s22 := s) (r := r) hb kI kE) FU (0 : Int32) e18 e18L ?_
    rcases e18 with e19 | e20
    · skip
      refine v_iconst (v := 1) (q := 68) dX12_isNamed_67 (by decide) rfl ?_
      cases H
      exact v_zreturn rfl (by decide) dX12_isNamed_68
    · skip
      refine v_iconst (v := 0) (q := 60) dX12_isNamed_59 (by decide) rfl ?_
      cases H
      exact v_zreturn rfl (by decide) dX12_isNamed_60
  · have H := ine c5 H
    refine v_iconst (v := 0) (q := 19) dX12_isNamed_18 (by decide) rfl ?_
    cases H
    exact v_zreturn rfl (by decide) dX12_isNamed_19
def mX12_isSame : MI := (yX12_isSame, cX12_isSame, 4, some .boolean)
theorem oX12_isSame : mOK mX12_isSame 2 := ⟨by decide +kernel, by decide +kernel, by decide +kernel, by decide, w1569, w0150⟩
def bX12_isSame_19 (u0 : Nat) (u1 : Int32) (u2 : Int32) (h : Hp) (s19 : Int32) : Option ((Int32) ⊕ ((Unit) ⊕ (Unit))) :=
if (u2 - u1) ≤ s19 then (
some (.inr (.inl ()))) else (
(gR h 12 u0 21).bind fun x5 =>
(lI h .byte x5 (u1 + s19)).bind fun x6 =>
(gR h 12 u0 10).bind fun x7 =>
(gI h 12 u0 14).bind fun x8 =>
(lI h .byte x7 (x8 + s19)).bind fun x9 =>
if x6 = x9 then (
(some (s19 + (1 : Int32))).bind fun x11 =>
some (.inl x11)) else (
some (.inr (.inr ()))))
set_option maxRecDepth 20000 in
set_option maxHeartbeats 4000000 in
theorem sbX12_isSame_19 {Γ : Gm} {d : Nat} (hd : 1 ≤ d) {u0 : Nat} {u1 : Int32} {u2 : Int32} {h : Hp} {s19 : Int32} {r : (Int32) ⊕ ((Unit) ⊕ (Unit))} {t : Option Value × Hp} (H : bX12_isSame_19 u0 u1 u2 h s19 = some r) (kI : ∀ s, r = .inl s → (fun s19 => V Γ d mX12_isSame 19 [(0, .ref u0), (1, .int u1), (2, .int u2), (3, .int s19)] [] h t) s) (kE : ∀ e, r = .inr e → (fun e => (match e with | .inl a0 => V Γ d mX12_isSame 56 [] [] h t | .inr b0 => V Γ d mX12_isSame 48 [] [] h t)) e) : V Γ d mX12_isSame 19 [(0, .ref u0), (1, .int u1), (2, .int u2), (3, .int s19)] [] h t := by
  unfold bX12_isSame_19 at H
  refine v_iload_n (q := 20) 3 dX12_isSame_19 rfl rfl rfl ?_
  refine v_iload_n (q := 21) 2 dX12_isSame_20 rfl rfl rfl ?_
  refine v_iload_n (q := 22) 1 dX12_isSame_21 rfl rfl rfl ?_
  refine v_isub (q := 23) dX12_isSame_22 rfl ?_
  refine v_icmp_ge (q1 := 56) (q2 := 26) dX12_isSame_23 (by decide) rfl (fun c4 => ?_) (fun c4 => ?_)
  · have H := ip c4 H
    exact V.sub [] rfl (kE (.inl ()) (Option.some.inj H).symm)
  · have H := ine c4 H
    refine v_aload_n (q := 27) 0 dX12_isSame_26 rfl rfl rfl ?_
    obtain ⟨x5, x5e, H⟩ := bs H
    refine u_gR (q := 30) (r := (RX12, TX12, 58)) x5e dX12_isSame_27 w1377 rfl (by decide) rfl rfl ?_
    refine v_iload_n (q := 31) 1 dX12_isSame_30 rfl rfl rfl ?_
    refine v_iload_n (q := 32) 3 dX12_isSame_31 rfl rfl rfl ?_
    refine v_iadd (q := 33) dX12_isSame_32 rfl ?_
    obtain ⟨x6, x6e, H⟩ := bs H
    refine u_lB (q := 34) x6e dX12_isSame_33 rfl ?_
    refine v_aload_n (q := 35) 0 dX12_isSame_34 rfl rfl rfl ?_
    obtain ⟨x7, x7e, H⟩ := bs H
    refine u_gR (q := 38) (r := (RX12, TX12, 58)) x7e dX12_isSame_35 w1366 rfl (by decide) rfl rfl ?_
    refine v_aload_n (q := 39) 0 dX12_isSame_38 rfl rfl rfl ?_
    obtain ⟨x8, x8e, H⟩ := bs H
    refine u_gI (q := 42) (r := (RX12, TX12, 58)) x8e dX12_isSame_39 w1370 rfl (by decide) rfl rfl ?_
    refine v_iload_n (q := 43) 3 dX12_isSame_42 rfl rfl rfl ?_
    refine v_iadd (q := 44) dX12_isSame_43 rfl ?_
    obtain ⟨x9, x9e, H⟩ := bs H
    refine u_lB (q := 45) x9e dX12_isSame_44 rfl ?_
    refine v_icmp_eq (q1 := 50) (q2 := 48) dX12_isSame_45 (by decide) rfl (fun c10 => ?_) (fun c10 => ?_)
    · have H := ip c10 H
      obtain ⟨x11, x11e, H⟩ := bs H
      refine v_iinc (v := x11) (L' := [(3, .int x11), (0, .ref u0), (1, .int u1), (2, .int u2)]) (q := 53) 3 dX12_isSame_50 rfl (Option.some.inj x11e) (by decide) rfl rfl ?_
      refine v_goto (q := 19) dX12_isSame_53 (by decide) ?_
      exact V.sub [1, 2, 3, 0] rfl (kI x11 (Option.some.inj H).symm)
    · have H := ine c10 H
      exact V.sub [] rfl (kE (.inr ()) (Option.some.inj H).symm)
def fX12_isSame (h : Hp) (v0 : Nat) (v1 : Int32) (v2 : Int32) : Option (Int32) :=
(gI h 12 v0 13).bind fun x1 =>
(gI h 12 v0 14).bind fun x2 =>
if (v2 - v1) = (x1 - x2) then (
(lp (bX12_isSame_19 v0 v1 v2 h) FU (0 : Int32)).bind fun e12 =>
(match e12 with
| .inl e13 => (
some (1 : Int32))
| .inr e14 => (
some (0 : Int32)))) else (
some (0 : Int32))
set_option maxRecDepth 20000 in
set_option maxHeartbeats 4000000 in
theorem sX12_isSame {Γ : Gm} {d : Nat} (hd : 1 ≤ d) {h : Hp} {v0 : Nat} {v1 : Int32} {v2 : Int32} {r : Int32} (H : fX12_isSame h v0 v1 v2 = some r) : V Γ d mX12_isSame 0 [(0, .ref v0), (1, .int v1), (2, .int v2)] [] h (some (.int r), h) := by
  unfold fX12_isSame at H
  refine v_iload_n (q := 1) 2 dX12_isSame_0 rfl rfl rfl ?_
  refine v_iload_n (q := 2) 1 dX12_isSame_1 rfl rfl rfl ?_
  refine v_isub (q := 3) dX12_isSame_2 rfl ?_
  refine v_aload_n (q := 4) 0 dX12_isSame_3 rfl rfl rfl ?_
  obtain ⟨x1, x1e, H⟩ := bs H
  refine u_gI (q := 7) (r := (RX12, TX12, 58)) x1e dX12_isSame_4 w1369 rfl (by decide) rfl rfl ?_
  refine v_aload_n (q := 8) 0 dX12_isSame_7 rfl rfl rfl ?_
  obtain ⟨x2, x2e, H⟩ := bs H
  refine u_gI (q := 11) (r := (RX12, TX12, 58)) x2e dX12_isSame_8 w1370 rfl (by decide) rfl rfl ?_
  refine v_isub (q := 12) dX12_isSame_11 rfl ?_
  refine v_icmp_eq (q1 := 17) (q2 := 15) dX12_isSame_12 (by decide) rfl (fun c3 => ?_) (fun c3 => ?_)
  · have H := ip c3 H
    refine v_iconst (v := 0) (q := 18) dX12_isSame_17 (by decide) rfl ?_
    refine v_istore_n (L' := [(3, .int (0 : Int32)), (0, .ref v0), (1, .int v1), (2, .int v2)]) (q := 19) dX12_isSame_18 rfl (by decide) rfl rfl ?_
    obtain ⟨e12, e12L, H⟩ := bs H
    refine V.sub [1, 2, 3, 0] rfl ?_
    refine lp_V (P := (fun s19 => V Γ d mX12_isSame 19 [(0, .ref v0), (1, .int v1), (2, .int v2), (3, .int s19)] [] h (some (.int r), h))) (E := (fun e => (match e with | .inl a0 => V Γ d mX12_isSame 56 [] [] h (some (.int r), h) | .inr b0 => V Γ d mX12_isSame 48 [] [] h (some (.int r), h)))) (fun s r hb kI kE => sbX12_isSame_19 hd (s19 := s) (r := r) hb kI kE) FU (0 : Int32) e12 e12L ?_
    rcases e12 with e13 | e14
    · skip
      refine v_iconst (v := 1) (q := 57) dX12_isSame_56 (by decide) rfl ?_
      cases H
      exact v_zreturn rfl (by decide) dX12_isSame_57
    · skip
      refine v_iconst (v := 0) (q := 49) dX12_isSame_48 (by decide) rfl ?_
      cases H
      exact v_zreturn rfl (by decide) dX12_isSame_49
  · have H := ine c3 H
    refine v_iconst (v := 0) (q := 16) dX12_isSame_15 (by decide) rfl ?_
    cases H
    exact v_zreturn rfl (by decide) dX12_isSame_16
def mX12_isStop : MI := (yX12_isStop, cX12_isStop, 1, some .boolean)
theorem oX12_isStop : mOK mX12_isStop 0 := ⟨by decide +kernel, by decide +kernel, by decide +kernel, by decide, w1613, w0150⟩
def jX12_isStop_20 (y0 : Int32) (h : Hp) : Option (Int32) :=
(bz y0).bind fun x3 =>
some x3
set_option maxRecDepth 20000 in
set_option maxHeartbeats 4000000 in
theorem sjX12_isStop_20 {Γ : Gm} {d : Nat} (hd : 1 ≤ d) {y0 : Int32} {h : Hp} {r : Int32} (H : jX12_isStop_20 y0 h = some r) : V Γ d mX12_isStop 20 [] [.int y0] h (some (.int r), h) := by
  unfold jX12_isStop_20 at H
  obtain ⟨x3, x3e, H⟩ := bs H
  obtain ⟨x3q, x3z⟩ := bz_sp x3e
  refine v_topi x3q.symm ?_
  cases H
  exact v_zreturn rfl (by rw [x3q]; exact x3z) dX12_isStop_20
def jX12_isStop_19 (h : Hp) : Option (Int32) :=
jX12_isStop_20 (0 : Int32) h
set_option maxRecDepth 20000 in
set_option maxHeartbeats 4000000 in
theorem sjX12_isStop_19 {Γ : Gm} {d : Nat} (hd : 1 ≤ d) {h : Hp} {r : Int32} (H : jX12_isStop_19 h = some r) : V Γ d mX12_isStop 19 [] [] h (some (.int r), h) := by
  unfold jX12_isStop_19 at H
  refine v_iconst (v := 0) (q := 20) dX12_isStop_19 (by decide) rfl ?_
  exact V.sub [] rfl (sjX12_isStop_20 hd H)
def fX12_isStop (h : Hp) (v0 : Nat) : Option (Int32) :=
(gI h 12 v0 17).bind fun x1 =>
if x1 = 0 then (
(gI h 12 v0 15).bind fun x4 =>
if x4 = (3 : Int32) then (
jX12_isStop_20 (1 : Int32) h) else (
jX12_isStop_19 h)) else (
jX12_isStop_19 h)
set_option maxRecDepth 20000 in
set_option maxHeartbeats 4000000 in
theorem sX12_isStop {Γ : Gm} {d : Nat} (hd : 1 ≤ d) {h : Hp} {v0 : Nat} {r : Int32} (H : fX12_isStop h v0 = some r) : V Γ d mX12_isStop 0 [(0, .ref v0)] [] h (some (.int r), h) := by
  unfold fX12_isStop at H
  refine v_aload_n (q := 1) 0 dX12_isStop_0 rfl rfl rfl ?_
  obtain ⟨x1, x1e, H⟩ := bs H
  refine u_gI (q := 4) (r := (RX12, TX12, 58)) x1e dX12_isStop_1 w1373 rfl (by decide) rfl rfl ?_
  refine v_if_ne (q1 := 19) (q2 := 7) dX12_isStop_4 (by decide) rfl (fun c2 => ?_) (fun c2 => ?_)
  · have H := ine c2 H
    exact V.sub [] rfl (sjX12_isStop_19 hd H)
  · have H := ip c2 H
    refine v_aload_n (q := 8) 0 dX12_isStop_7 rfl rfl rfl ?_
    obtain ⟨x4, x4e, H⟩ := bs H
    refine u_gI (q := 11) (r := (RX12, TX12, 58)) x4e dX12_isStop_8 w1371 rfl (by decide) rfl rfl ?_
    refine v_iconst (v := 3) (q := 12) dX12_isStop_11 (by decide) rfl ?_
    refine v_icmp_ne (q1 := 19) (q2 := 15) dX12_isStop_12 (by decide) rfl (fun c5 => ?_) (fun c5 => ?_)
    · have H := ine c5 H
      exact V.sub [] rfl (sjX12_isStop_19 hd H)
    · have H := ip c5 H
      refine v_iconst (v := 1) (q := 16) dX12_isStop_15 (by decide) rfl ?_
      refine v_goto (q := 20) dX12_isStop_16 (by decide) ?_
      exact V.sub [] rfl (sjX12_isStop_20 hd H)
def mX12_isWay : MI := (yX12_isWay, cX12_isWay, 3, some .boolean)
theorem oX12_isWay : mOK mX12_isWay 2 := ⟨by decide +kernel, by decide +kernel, by decide +kernel, by decide, w1792, w0150⟩
def jX12_isWay_14 (y0 : Int32) (h : Hp) : Option (Int32 × Hp) :=
(bz y0).bind fun x4 =>
some (x4, h)
set_option maxRecDepth 20000 in
set_option maxHeartbeats 4000000 in
theorem sjX12_isWay_14 {Γ : Gm} {d : Nat} (hd : 3 ≤ d) {y0 : Int32} {h : Hp} {r : Int32 × Hp} (H : jX12_isWay_14 y0 h = some r) : V Γ d mX12_isWay 14 [] [.int y0] h (some (.int r.1), r.2) := by
  unfold jX12_isWay_14 at H
  obtain ⟨x4, x4e, H⟩ := bs H
  obtain ⟨x4q, x4z⟩ := bz_sp x4e
  refine v_topi x4q.symm ?_
  cases H
  exact v_zreturn rfl (by rw [x4q]; exact x4z) dX12_isWay_14
def fX12_isWay (h : Hp) (v0 : Nat) (v1 : Int32) (v2 : Int32) : Option (Int32 × Hp) :=
(gO h 12 v0).bind fun _ =>
(fX12_layWay h v0 v1 v2).bind fun x2 =>
if x2.1 ≤ 0 then (
jX12_isWay_14 (0 : Int32) x2.2) else (
jX12_isWay_14 (1 : Int32) x2.2)
set_option maxRecDepth 20000 in
set_option maxHeartbeats 4000000 in
theorem sX12_isWay {Γ : Gm} {d : Nat} (hd : 3 ≤ d) {h : Hp} {v0 : Nat} {v1 : Int32} {v2 : Int32} {r : Int32 × Hp} (H : fX12_isWay h v0 v1 v2 = some r) : V Γ d mX12_isWay 0 [(0, .ref v0), (1, .int v1), (2, .int v2)] [] h (some (.int r.1), r.2) := by
  unfold fX12_isWay at H
  refine v_aload_n (q := 1) 0 dX12_isWay_0 rfl rfl rfl ?_
  refine v_iload_n (q := 2) 1 dX12_isWay_1 rfl rfl rfl ?_
  refine v_iload_n (q := 3) 2 dX12_isWay_2 rfl rfl rfl ?_
  obtain ⟨_, o1, H⟩ := bs H
  obtain ⟨x2, x2e, H⟩ := bs H
  refine u_callV1 (M' := mX12_layWay) (d' := 2) (rc := (RX12, TX12, 58)) (As := [.int v1, .int v2]) (st := []) (q := 6) oX12_layWay dX12_isWay_3 w1709 w1711 w0090 rfl rfl (gO_sp o1).1 (gO_sp o1).2 rfl (Nat.le_of_ble_eq_true rfl) (Nat.le_of_ble_eq_true rfl) (Nat.lt_of_lt_of_le (by decide) hd) rfl (sX12_layWay (Nat.le_refl _) x2e) rfl ?_
  refine v_if_le (q1 := 13) (q2 := 9) dX12_isWay_6 (by decide) rfl (fun c3 => ?_) (fun c3 => ?_)
  · have H := ip c3 H
    refine v_iconst (v := 0) (q := 14) dX12_isWay_13 (by decide) rfl ?_
    exact V.sub [] rfl (sjX12_isWay_14 hd H)
  · have H := ine c3 H
    refine v_iconst (v := 1) (q := 10) dX12_isWay_9 (by decide) rfl ?_
    refine v_goto (q := 14) dX12_isWay_10 (by decide) ?_
    exact V.sub [] rfl (sjX12_isWay_14 hd H)
def mX12_isWord : MI := (yX12_isWord, cX12_isWord, 2, some .boolean)
theorem oX12_isWord : mOK mX12_isWord 1 := ⟨by decide +kernel, by decide +kernel, by decide +kernel, by decide, w1577, w0150⟩
def jX12_isWord_28 (y0 : Int32) (h : Hp) : Option (Int32) :=
(bz y0).bind fun x3 =>
some x3
set_option maxRecDepth 20000 in
set_option maxHeartbeats 4000000 in
theorem sjX12_isWord_28 {Γ : Gm} {d : Nat} (hd : 1 ≤ d) {y0 : Int32} {h : Hp} {r : Int32} (H : jX12_isWord_28 y0 h = some r) : V Γ d mX12_isWord 28 [] [.int y0] h (some (.int r), h) := by
  unfold jX12_isWord_28 at H
  obtain ⟨x3, x3e, H⟩ := bs H
  obtain ⟨x3q, x3z⟩ := bz_sp x3e
  refine v_topi x3q.symm ?_
  cases H
  exact v_zreturn rfl (by rw [x3q]; exact x3z) dX12_isWord_28
def jX12_isWord_27 (h : Hp) : Option (Int32) :=
jX12_isWord_28 (0 : Int32) h
set_option maxRecDepth 20000 in
set_option maxHeartbeats 4000000 in
theorem sjX12_isWord_27 {Γ : Gm} {d : Nat} (hd : 1 ≤ d) {h : Hp} {r : Int32} (H : jX12_isWord_27 h = some r) : V Γ d mX12_isWord 27 [] [] h (some (.int r), h) := by
  unfold jX12_isWord_27 at H
  refine v_iconst (v := 0) (q := 28) dX12_isWord_27 (by decide) rfl ?_
  exact V.sub [] rfl (sjX12_isWord_28 hd H)
def fX12_isWord (h : Hp) (v0 : Nat) (v1 : Int32) : Option (Int32) :=
(gI h 12 v0 17).bind fun x1 =>
if x1 = 0 then (
(gI h 12 v0 15).bind fun x4 =>
if x4 = (2 : Int32) then (
(gI h 12 v0 16).bind fun x6 =>
if x6 = v1 then (
jX12_isWord_28 (1 : Int32) h) else (
jX12_isWord_27 h)) else (
jX12_isWord_27 h)) else (
jX12_isWord_27 h)
set_option maxRecDepth 20000 in
set_option maxHeartbeats 4000000 in
theorem sX12_isWord {Γ : Gm} {d : Nat} (hd : 1 ≤ d) {h : Hp} {v0 : Nat} {v1 : Int32} {r : Int32} (H : fX12_isWord h v0 v1 = some r) : V Γ d mX12_isWord 0 [(0, .ref v0), (1, .int v1)] [] h (some (.int r), h) := by
  unfold fX12_isWord at H
  refine v_aload_n (q := 1) 0 dX12_isWord_0 rfl rfl rfl ?_
  obtain ⟨x1, x1e, H⟩ := bs H
  refine u_gI (q := 4) (r := (RX12, TX12, 58)) x1e dX12_isWord_1 w1373 rfl (by decide) rfl rfl ?_
  refine v_if_ne (q1 := 27) (q2 := 7) dX12_isWord_4 (by decide) rfl (fun c2 => ?_) (fun c2 => ?_)
  · have H := ine c2 H
    exact V.sub [] rfl (sjX12_isWord_27 hd H)
  · have H := ip c2 H
    refine v_aload_n (q := 8) 0 dX12_isWord_7 rfl rfl rfl ?_
    obtain ⟨x4, x4e, H⟩ := bs H
    refine u_gI (q := 11) (r := (RX12, TX12, 58)) x4e dX12_isWord_8 w1371 rfl (by decide) rfl rfl ?_
    refine v_iconst (v := 2) (q := 12) dX12_isWord_11 (by decide) rfl ?_
    refine v_icmp_ne (q1 := 27) (q2 := 15) dX12_isWord_12 (by decide) rfl (fun c5 => ?_) (fun c5 => ?_)
    · have H := ine c5 H
      exact V.sub [] rfl (sjX12_isWord_27 hd H)
    · have H := ip c5 H
      refine v_aload_n (q := 16) 0 dX12_isWord_15 rfl rfl rfl ?_
      obtain ⟨x6, x6e, H⟩ := bs H
      refine u_gI (q := 19) (r := (RX12, TX12, 58)) x6e dX12_isWord_16 w1372 rfl (by decide) rfl rfl ?_
      refine v_iload_n (q := 20) 1 dX12_isWord_19 rfl rfl rfl ?_
      refine v_icmp_ne (q1 := 27) (q2 := 23) dX12_isWord_20 (by decide) rfl (fun c7 => ?_) (fun c7 => ?_)
      · have H := ine c7 H
        exact V.sub [] rfl (sjX12_isWord_27 hd H)
      · have H := ip c7 H
        refine v_iconst (v := 1) (q := 24) dX12_isWord_23 (by decide) rfl ?_
        refine v_goto (q := 28) dX12_isWord_24 (by decide) ?_
        exact V.sub [] rfl (sjX12_isWord_28 hd H)
def mX12_kindsOf : MI := (yX12_kindsOf, cX12_kindsOf, 4, some .int)
theorem oX12_kindsOf : mOK mX12_kindsOf 1 := ⟨by decide +kernel, by decide +kernel, by decide +kernel, by decide, w1999, w0150⟩
def bX12_kindsOf_4 (u0 : Nat) (u1 : Int32) (h : Hp) (s4 : Int32 × Int32) : Option ((Int32 × Int32) ⊕ (Int32)) :=
(gR h 12 u0 0).bind fun x1 =>
(fX12_atReport h u1 (3 : Int32)).bind fun x2 =>
(lI h .int x1 x2).bind fun x3 =>
if x3 ≤ s4.2 then (
some (.inr s4.1)) else (
(gR h 12 u0 0).bind fun x5 =>
(fX12_atReport h u1 ((4 : Int32) + s4.2)).bind fun x6 =>
(lI h .int x5 x6).bind fun x7 =>
(some (s4.1 ||| ((1 : Int32) <<< ((x7 / (2 : Int32)) &&& 31)))).bind fun x8 =>
(some (s4.2 + (1 : Int32))).bind fun x9 =>
some (.inl (x8, x9)))
set_option maxRecDepth 20000 in
set_option maxHeartbeats 4000000 in
theorem sbX12_kindsOf_4 {Γ : Gm} {d : Nat} (hd : 2 ≤ d) {u0 : Nat} {u1 : Int32} {h : Hp} {s4 : Int32 × Int32} {r : (Int32 × Int32) ⊕ (Int32)} {t : Option Value × Hp} (H : bX12_kindsOf_4 u0 u1 h s4 = some r) (kI : ∀ s, r = .inl s → (fun s4 => V Γ d mX12_kindsOf 4 [(0, .ref u0), (1, .int u1), (2, .int s4.1), (3, .int s4.2)] [] h t) s) (kE : ∀ e, r = .inr e → (fun e => V Γ d mX12_kindsOf 43 [(2, .int e)] [] h t) e) : V Γ d mX12_kindsOf 4 [(0, .ref u0), (1, .int u1), (2, .int s4.1), (3, .int s4.2)] [] h t := by
  unfold bX12_kindsOf_4 at H
  refine v_iload_n (q := 5) 3 dX12_kindsOf_4 rfl rfl rfl ?_
  refine v_aload_n (q := 6) 0 dX12_kindsOf_5 rfl rfl rfl ?_
  obtain ⟨x1, x1e, H⟩ := bs H
  refine u_gR (q := 9) (r := (RX12, TX12, 58)) x1e dX12_kindsOf_6 w1356 rfl (by decide) rfl rfl ?_
  refine v_iload_n (q := 10) 1 dX12_kindsOf_9 rfl rfl rfl ?_
  refine v_iconst (v := 3) (q := 11) dX12_kindsOf_10 (by decide) rfl ?_
  obtain ⟨x2, x2e, H⟩ := bs H
  refine u_callS1 (M' := mX12_atReport) (d' := 1) (As := [.int u1, .int (3 : Int32)]) (st := [.ref x1, .int s4.2]) (q := 14) oX12_atReport dX12_kindsOf_11 w1670 w1671 rfl (Nat.le_of_ble_eq_true rfl) (Nat.le_of_ble_eq_true rfl) (Nat.lt_of_lt_of_le (by decide) hd) rfl (sX12_atReport (Nat.le_refl _) x2e) rfl ?_
  obtain ⟨x3, x3e, H⟩ := bs H
  refine u_lI (q := 15) x3e dX12_kindsOf_14 rfl ?_
  refine v_icmp_ge (q1 := 43) (q2 := 18) dX12_kindsOf_15 (by decide) rfl (fun c4 => ?_) (fun c4 => ?_)
  · have H := ip c4 H
    exact V.sub [2] rfl (kE s4.1 (Option.some.inj H).symm)
  · have H := ine c4 H
    refine v_iload_n (q := 19) 2 dX12_kindsOf_18 rfl rfl rfl ?_
    refine v_iconst (v := 1) (q := 20) dX12_kindsOf_19 (by decide) rfl ?_
    refine v_aload_n (q := 21) 0 dX12_kindsOf_20 rfl rfl rfl ?_
    obtain ⟨x5, x5e, H⟩ := bs H
    refine u_gR (q := 24) (r := (RX12, TX12, 58)) x5e dX12_kindsOf_21 w1356 rfl (by decide) rfl rfl ?_
    refine v_iload_n (q := 25) 1 dX12_kindsOf_24 rfl rfl rfl ?_
    refine v_iconst (v := 4) (q := 26) dX12_kindsOf_25 (by decide) rfl ?_
    refine v_iload_n (q := 27) 3 dX12_kindsOf_26 rfl rfl rfl ?_
    refine v_iadd (q := 28) dX12_kindsOf_27 rfl ?_
    obtain ⟨x6, x6e, H⟩ := bs H
    refine u_callS1 (M' := mX12_atReport) (d' := 1) (As := [.int u1, .int ((4 : Int32) + s4.2)]) (st := [.ref x5, .int (1 : Int32), .int s4.1]) (q := 31) oX12_atReport dX12_kindsOf_28 w1670 w1671 rfl (Nat.le_of_ble_eq_true rfl) (Nat.le_of_ble_eq_true rfl) (Nat.lt_of_lt_of_le (by decide) hd) rfl (sX12_atReport (Nat.le_refl _) x6e) rfl ?_
    obtain ⟨x7, x7e, H⟩ := bs H
    refine u_lI (q := 32) x7e dX12_kindsOf_31 rfl ?_
    refine v_iconst (v := 2) (q := 33) dX12_kindsOf_32 (by decide) rfl ?_
    refine v_idiv (q := 34) dX12_kindsOf_33 (by decide) rfl ?_
    refine v_ishl (q := 35) dX12_kindsOf_34 rfl ?_
    refine v_ior (q := 36) dX12_kindsOf_35 rfl ?_
    obtain ⟨x8, x8e, H⟩ := bs H
    refine v_topi (Option.some.inj x8e) ?_
    refine v_istore_n (L' := [(2, .int x8), (0, .ref u0), (1, .int u1), (3, .int s4.2)]) (q := 37) dX12_kindsOf_36 rfl (by decide) rfl rfl ?_
    obtain ⟨x9, x9e, H⟩ := bs H
    refine v_iinc (v := x9) (L' := [(3, .int x9), (2, .int x8), (0, .ref u0), (1, .int u1)]) (q := 40) 3 dX12_kindsOf_37 rfl (Option.some.inj x9e) (by decide) rfl rfl ?_
    refine v_goto (q := 4) dX12_kindsOf_40 (by decide) ?_
    exact V.sub [2, 3, 1, 0] rfl (kI (x8, x9) (Option.some.inj H).symm)
def fX12_kindsOf (h : Hp) (v0 : Nat) (v1 : Int32) : Option (Int32) :=
(lp (bX12_kindsOf_4 v0 v1 h) FU ((0 : Int32), (0 : Int32))).bind fun e10 =>
some e10
set_option maxRecDepth 20000 in
set_option maxHeartbeats 4000000 in
theorem sX12_kindsOf {Γ : Gm} {d : Nat} (hd : 2 ≤ d) {h : Hp} {v0 : Nat} {v1 : Int32} {r : Int32} (H : fX12_kindsOf h v0 v1 = some r) : V Γ d mX12_kindsOf 0 [(0, .ref v0), (1, .int v1)] [] h (some (.int r), h) := by
  unfold fX12_kindsOf at H
  refine v_iconst (v := 0) (q := 1) dX12_kindsOf_0 (by decide) rfl ?_
  refine v_istore_n (L' := [(2, .int (0 : Int32)), (0, .ref v0), (1, .int v1)]) (q := 2) dX12_kindsOf_1 rfl (by decide) rfl rfl ?_
  refine v_iconst (v := 0) (q := 3) dX12_kindsOf_2 (by decide) rfl ?_
  refine v_istore_n (L' := [(3, .int (0 : Int32)), (2, .int (0 : Int32)), (0, .ref v0), (1, .int v1)]) (q := 4) dX12_kindsOf_3 rfl (by decide) rfl rfl ?_
  obtain ⟨e10, e10L, H⟩ := bs H
  refine V.sub [2, 3, 1, 0] rfl ?_
  refine lp_V (P := (fun s4 => V Γ d mX12_kindsOf 4 [(0, .ref v0), (1, .int v1), (2, .int s4.1), (3, .int s4.2)] [] h (some (.int r), h))) (E := (fun e => V Γ d mX12_kindsOf 43 [(2, .int e)] [] h (some (.int r), h))) (fun s r hb kI kE => sbX12_kindsOf_4 hd (s4 := s) (r := r) hb kI kE) FU ((0 : Int32), (0 : Int32)) e10 e10L ?_
  refine v_iload_n (q := 44) 0 dX12_kindsOf_43 rfl rfl rfl ?_
  cases H
  exact v_ireturn rfl dX12_kindsOf_44
def mX12_kindsTold : MI := (yX12_kindsTold, cX12_kindsTold, 3, some .int)
theorem oX12_kindsTold : mOK mX12_kindsTold 0 := ⟨by decide +kernel, by decide +kernel, by decide +kernel, by decide, w1995, w0150⟩
def jX12_kindsTold_43 (u0 : Nat) (v1 : Int32) (v2 : Int32) (h : Hp) : Option ((Int32 × Int32) ⊕ (Int32)) :=
(some (v2 + (1 : Int32))).bind fun x10 =>
some (.inl (v1, x10))
set_option maxRecDepth 20000 in
set_option maxHeartbeats 4000000 in
theorem sjX12_kindsTold_43 {Γ : Gm} {d : Nat} (hd : 9 ≤ d) {u0 : Nat} {v1 : Int32} {v2 : Int32} {h : Hp} {r : (Int32 × Int32) ⊕ (Int32)} {t : Option Value × Hp} (H : jX12_kindsTold_43 u0 v1 v2 h = some r) (kI : ∀ s, r = .inl s → (fun s8 => V Γ d mX12_kindsTold 8 [(0, .ref u0), (1, .int s8.1), (2, .int s8.2)] [] h t) s) (kE : ∀ e, r = .inr e → (fun e => V Γ d mX12_kindsTold 49 [(0, .ref u0), (1, .int e)] [] h t) e) : V Γ d mX12_kindsTold 43 [(0, .ref u0), (1, .int v1), (2, .int v2)] [] h t := by
  unfold jX12_kindsTold_43 at H
  obtain ⟨x10, x10e, H⟩ := bs H
  refine v_iinc (v := x10) (L' := [(2, .int x10), (0, .ref u0), (1, .int v1)]) (q := 46) 2 dX12_kindsTold_43 rfl (Option.some.inj x10e) (by decide) rfl rfl ?_
  refine v_goto (q := 8) dX12_kindsTold_46 (by decide) ?_
  exact V.sub [1, 2, 0] rfl (kI (v1, x10) (Option.some.inj H).symm)
def bX12_kindsTold_8 (u0 : Nat) (h : Hp) (s8 : Int32 × Int32) : Option ((Int32 × Int32) ⊕ (Int32)) :=
(gR h 12 u0 0).bind fun x3 =>
(lI h .int x3 (272 : Int32)).bind fun x4 =>
if x4 ≤ s8.2 then (
some (.inr s8.1)) else (
(gR h 12 u0 0).bind fun x6 =>
(fX12_atReport h s8.2 (0 : Int32)).bind fun x7 =>
(lI h .int x6 x7).bind fun x8 =>
if (8 : Int32) ≤ x8 then (
jX12_kindsTold_43 u0 s8.1 s8.2 h) else (
(gO h 12 u0).bind fun _ =>
(fX12_kindsOf h u0 s8.2).bind fun x12 =>
(some (s8.1 ||| x12)).bind fun x13 =>
jX12_kindsTold_43 u0 x13 s8.2 h))
set_option maxRecDepth 20000 in
set_option maxHeartbeats 4000000 in
theorem sbX12_kindsTold_8 {Γ : Gm} {d : Nat} (hd : 9 ≤ d) {u0 : Nat} {h : Hp} {s8 : Int32 × Int32} {r : (Int32 × Int32) ⊕ (Int32)} {t : Option Value × Hp} (H : bX12_kindsTold_8 u0 h s8 = some r) (kI : ∀ s, r = .inl s → (fun s8 => V Γ d mX12_kindsTold 8 [(0, .ref u0), (1, .int s8.1), (2, .int s8.2)] [] h t) s) (kE : ∀ e, r = .inr e → (fun e => V Γ d mX12_kindsTold 49 [(0, .ref u0), (1, .int e)] [] h t) e) : V Γ d mX12_kindsTold 8 [(0, .ref u0), (1, .int s8.1), (2, .int s8.2)] [] h t := by
  unfold bX12_kindsTold_8 at H
  refine v_iload_n (q := 9) 2 dX12_kindsTold_8 rfl rfl rfl ?_
  refine v_aload_n (q := 10) 0 dX12_kindsTold_9 rfl rfl rfl ?_
  obtain ⟨x3, x3e, H⟩ := bs H
  refine u_gR (q := 13) (r := (RX12, TX12, 58)) x3e dX12_kindsTold_10 w1356 rfl (by decide) rfl rfl ?_
  refine v_sipush (v := 272) (q := 16) dX12_kindsTold_13 (by decide) rfl ?_
  obtain ⟨x4, x4e, H⟩ := bs H
  refine u_lI (q := 17) x4e dX12_kindsTold_16 rfl ?_
  refine v_icmp_ge (q1 := 49) (q2 := 20) dX12_kindsTold_17 (by decide) rfl (fun c5 => ?_) (fun c5 => ?_)
  · have H := ip c5 H
    exact V.sub [0, 1] rfl (kE s8.1 (Option.some.inj H).symm)
  · have H := ine c5 H
    refine v_aload_n (q := 21) 0 dX12_kindsTold_20 rfl rfl rfl ?_
    obtain ⟨x6, x6e, H⟩ := bs H
    refine u_gR (q := 24) (r := (RX12, TX12, 58)) x6e dX12_kindsTold_21 w1356 rfl (by decide) rfl rfl ?_
    refine v_iload_n (q := 25) 2 dX12_kindsTold_24 rfl rfl rfl ?_
    refine v_iconst (v := 0) (q := 26) dX12_kindsTold_25 (by decide) rfl ?_
    obtain ⟨x7, x7e, H⟩ := bs H
    refine u_callS1 (M' := mX12_atReport) (d' := 1) (As := [.int s8.2, .int (0 : Int32)]) (st := [.ref x6]) (q := 29) oX12_atReport dX12_kindsTold_26 w1670 w1671 rfl (Nat.le_of_ble_eq_true rfl) (Nat.le_of_ble_eq_true rfl) (Nat.lt_of_lt_of_le (by decide) hd) rfl (sX12_atReport (Nat.le_refl _) x7e) rfl ?_
    obtain ⟨x8, x8e, H⟩ := bs H
    refine u_lI (q := 30) x8e dX12_kindsTold_29 rfl ?_
    refine v_bipush (v := 8) (q := 32) dX12_kindsTold_30 (by decide) rfl ?_
    refine v_icmp_ge (q1 := 43) (q2 := 35) dX12_kindsTold_32 (by decide) rfl (fun c9 => ?_) (fun c9 => ?_)
    · have H := ip c9 H
      exact V.sub [0, 1, 2] rfl (sjX12_kindsTold_43 hd H kI kE)
    · have H := ine c9 H
      refine v_iload_n (q := 36) 1 dX12_kindsTold_35 rfl rfl rfl ?_
      refine v_aload_n (q := 37) 0 dX12_kindsTold_36 rfl rfl rfl ?_
      refine v_iload_n (q := 38) 2 dX12_kindsTold_37 rfl rfl rfl ?_
      obtain ⟨_, o11, H⟩ := bs H
      obtain ⟨x12, x12e, H⟩ := bs H
      refine u_callV1 (M' := mX12_kindsOf) (d' := 2) (rc := (RX12, TX12, 58)) (As := [.int s8.2]) (st := [.int s8.1]) (q := 41) oX12_kindsOf dX12_kindsTold_38 w1996 w1998 w0134 rfl rfl (gO_sp o11).1 (gO_sp o11).2 rfl (Nat.le_of_ble_eq_true rfl) (Nat.le_of_ble_eq_true rfl) (Nat.lt_of_lt_of_le (by decide) hd) rfl (sX12_kindsOf (Nat.le_refl _) x12e) rfl ?_
      refine v_ior (q := 42) dX12_kindsTold_41 rfl ?_
      obtain ⟨x13, x13e, H⟩ := bs H
      refine v_topi (Option.some.inj x13e) ?_
      refine v_istore_n (L' := [(1, .int x13), (0, .ref u0), (2, .int s8.2)]) (q := 43) dX12_kindsTold_42 rfl (by decide) rfl rfl ?_
      exact V.sub [1, 0, 2] rfl (sjX12_kindsTold_43 hd H kI kE)
def fX12_kindsTold (h : Hp) (v0 : Nat) : Option (Int32 × Hp) :=
(gO h 12 v0).bind fun _ =>
(fX12_goAll h v0).bind fun x2 =>
(lp (bX12_kindsTold_8 v0 x2) FU ((0 : Int32), (0 : Int32))).bind fun e14 =>
(gO x2 12 v0).bind fun _ =>
(fX12_bringBack x2 v0).bind fun x16 =>
some (e14, x16)
set_option maxRecDepth 20000 in
set_option maxHeartbeats 4000000 in
theorem sX12_kindsTold {Γ : Gm} {d : Nat} (hd : 9 ≤ d) {h : Hp} {v0 : Nat} {r : Int32 × Hp} (H : fX12_kindsTold h v0 = some r) : V Γ d mX12_kindsTold 0 [(0, .ref v0)] [] h (some (.int r.1), r.2) := by
  unfold fX12_kindsTold at H
  refine v_aload_n (q := 1) 0 dX12_kindsTold_0 rfl rfl rfl ?_
  obtain ⟨_, o1, H⟩ := bs H
  obtain ⟨x2, x2e, H⟩ := bs H
  refine u_callV0 (M' := mX12_goAll) (d' := 8) (rc := (RX12, TX12, 58)) (As := []) (st := []) (q := 4) oX12_goAll dX12_kindsTold_1 w1825 w1827 w0105 rfl rfl (gO_sp o1).1 (gO_sp o1).2 rfl (Nat.le_of_ble_eq_true rfl) (Nat.le_of_ble_eq_true rfl) (Nat.lt_of_lt_of_le (by decide) hd) rfl (sX12_goAll (Nat.le_refl _) x2e) rfl ?_
  refine v_iconst (v := 0) (q := 5) dX12_kindsTold_4 (by decide) rfl ?_
  refine v_istore_n (L' := [(1, .int (0 : Int32)), (0, .ref v0)]) (q := 6) dX12_kindsTold_5 rfl (by decide) rfl rfl ?_
  refine v_iconst (v := 0) (q := 7) dX12_kindsTold_6 (by decide) rfl ?_
  refine v_istore_n (L' := [(2, .int (0 : Int32)), (1, .int (0 : Int32)), (0, .ref v0)]) (q := 8) dX12_kindsTold_7 rfl (by decide) rfl rfl ?_
  obtain ⟨e14, e14L, H⟩ := bs H
  refine V.sub [2, 1, 0] rfl ?_
  refine lp_V (P := (fun s8 => V Γ d mX12_kindsTold 8 [(0, .ref v0), (1, .int s8.1), (2, .int s8.2)] [] x2 (some (.int r.1), r.2))) (E := (fun e => V Γ d mX12_kindsTold 49 [(0, .ref v0), (1, .int e)] [] x2 (some (.int r.1), r.2))) (fun s r hb kI kE => sbX12_kindsTold_8 hd (s8 := s) (r := r) hb kI kE) FU ((0 : Int32), (0 : Int32)) e14 e14L ?_
  refine v_aload_n (q := 50) 0 dX12_kindsTold_49 rfl rfl rfl ?_
  obtain ⟨_, o15, H⟩ := bs H
  obtain ⟨x16, x16e, H⟩ := bs H
  refine u_callV0 (M' := mX12_bringBack) (d' := 1) (rc := (RX12, TX12, 58)) (As := []) (st := []) (q := 53) oX12_bringBack dX12_kindsTold_50 w1817 w1819 w0104 rfl rfl (gO_sp o15).1 (gO_sp o15).2 rfl (Nat.le_of_ble_eq_true rfl) (Nat.le_of_ble_eq_true rfl) (Nat.lt_of_lt_of_le (by decide) hd) rfl (sX12_bringBack (Nat.le_refl _) x16e) rfl ?_
  refine v_iload_n (q := 54) 1 dX12_kindsTold_53 rfl rfl rfl ?_
  cases H
  exact v_ireturn rfl dX12_kindsTold_54
def mX12_size : MI := (yX12_size, cX12_size, 3, some .int)
theorem oX12_size : mOK mX12_size 1 := ⟨by decide +kernel, by decide +kernel, by decide +kernel, by decide, w1987, w0150⟩
def bX12_size_4 (u0 : Int32) (h : Hp) (s4 : Int32 × Int32) : Option ((Int32 × Int32) ⊕ (Int32)) :=
if (20 : Int32) ≤ s4.2 then (
some (.inr s4.1)) else (
(some (s4.1 + ((u0 >>> (s4.2 &&& 31)) &&& (1 : Int32)))).bind fun x2 =>
(some (s4.2 + (1 : Int32))).bind fun x3 =>
some (.inl (x2, x3)))
set_option maxRecDepth 20000 in
set_option maxHeartbeats 4000000 in
theorem sbX12_size_4 {Γ : Gm} {d : Nat} (hd : 1 ≤ d) {u0 : Int32} {h : Hp} {s4 : Int32 × Int32} {r : (Int32 × Int32) ⊕ (Int32)} {t : Option Value × Hp} (H : bX12_size_4 u0 h s4 = some r) (kI : ∀ s, r = .inl s → (fun s4 => V Γ d mX12_size 4 [(0, .int u0), (1, .int s4.1), (2, .int s4.2)] [] h t) s) (kE : ∀ e, r = .inr e → (fun e => V Γ d mX12_size 24 [(1, .int e)] [] h t) e) : V Γ d mX12_size 4 [(0, .int u0), (1, .int s4.1), (2, .int s4.2)] [] h t := by
  unfold bX12_size_4 at H
  refine v_iload_n (q := 5) 2 dX12_size_4 rfl rfl rfl ?_
  refine v_bipush (v := 20) (q := 7) dX12_size_5 (by decide) rfl ?_
  refine v_icmp_ge (q1 := 24) (q2 := 10) dX12_size_7 (by decide) rfl (fun c1 => ?_) (fun c1 => ?_)
  · have H := ip c1 H
    exact V.sub [1] rfl (kE s4.1 (Option.some.inj H).symm)
  · have H := ine c1 H
    refine v_iload_n (q := 11) 1 dX12_size_10 rfl rfl rfl ?_
    refine v_iload_n (q := 12) 0 dX12_size_11 rfl rfl rfl ?_
    refine v_iload_n (q := 13) 2 dX12_size_12 rfl rfl rfl ?_
    refine v_ishr (q := 14) dX12_size_13 rfl ?_
    refine v_iconst (v := 1) (q := 15) dX12_size_14 (by decide) rfl ?_
    refine v_iand (q := 16) dX12_size_15 rfl ?_
    refine v_iadd (q := 17) dX12_size_16 rfl ?_
    obtain ⟨x2, x2e, H⟩ := bs H
    refine v_topi (Option.some.inj x2e) ?_
    refine v_istore_n (L' := [(1, .int x2), (0, .int u0), (2, .int s4.2)]) (q := 18) dX12_size_17 rfl (by decide) rfl rfl ?_
    obtain ⟨x3, x3e, H⟩ := bs H
    refine v_iinc (v := x3) (L' := [(2, .int x3), (1, .int x2), (0, .int u0)]) (q := 21) 2 dX12_size_18 rfl (Option.some.inj x3e) (by decide) rfl rfl ?_
    refine v_goto (q := 4) dX12_size_21 (by decide) ?_
    exact V.sub [2, 1, 0] rfl (kI (x2, x3) (Option.some.inj H).symm)
def fX12_size (h : Hp) (v0 : Int32) : Option (Int32) :=
(lp (bX12_size_4 v0 h) FU ((0 : Int32), (0 : Int32))).bind fun e4 =>
some e4
set_option maxRecDepth 20000 in
set_option maxHeartbeats 4000000 in
theorem sX12_size {Γ : Gm} {d : Nat} (hd : 1 ≤ d) {h : Hp} {v0 : Int32} {r : Int32} (H : fX12_size h v0 = some r) : V Γ d mX12_size 0 [(0, .int v0)] [] h (some (.int r), h) := by
  unfold fX12_size at H
  refine v_iconst (v := 0) (q := 1) dX12_size_0 (by decide) rfl ?_
  refine v_istore_n (L' := [(1, .int (0 : Int32)), (0, .int v0)]) (q := 2) dX12_size_1 rfl (by decide) rfl rfl ?_
  refine v_iconst (v := 0) (q := 3) dX12_size_2 (by decide) rfl ?_
  refine v_istore_n (L' := [(2, .int (0 : Int32)), (1, .int (0 : Int32)), (0, .int v0)]) (q := 4) dX12_size_3 rfl (by decide) rfl rfl ?_
  obtain ⟨e4, e4L, H⟩ := bs H
  refine V.sub [2, 1, 0] rfl ?_
  refine lp_V (P := (fun s4 => V Γ d mX12_size 4 [(0, .int v0), (1, .int s4.1), (2, .int s4.2)] [] h (some (.int r), h))) (E := (fun e => V Γ d mX12_size 24 [(1, .int e)] [] h (some (.int r), h))) (fun s r hb kI kE => sbX12_size_4 hd (s4 := s) (r := r) hb kI kE) FU ((0 : Int32), (0 : Int32)) e4 e4L ?_
  refine v_iload_n (q := 25) 0 dX12_size_24 rfl rfl rfl ?_
  cases H
  exact v_ireturn rfl dX12_size_25
def mX12_leastNow : MI := (yX12_leastNow, cX12_leastNow, 3, some .int)
theorem oX12_leastNow : mOK mX12_leastNow 0 := ⟨by decide +kernel, by decide +kernel, by decide +kernel, by decide, w1984, w0150⟩
def jX12_leastNow_45 (u0 : Nat) (u1 : Int32) (v2 : Int32) (h : Hp) : Option ((Int32 × Hp) ⊕ ((Hp) ⊕ (Int32 × Hp))) :=
(some (v2 + (1 : Int32))).bind fun x8 =>
some (.inl (x8, h))
set_option maxRecDepth 20000 in
set_option maxHeartbeats 4000000 in
theorem sjX12_leastNow_45 {Γ : Gm} {d : Nat} (hd : 10 ≤ d) {u0 : Nat} {u1 : Int32} {v2 : Int32} {h : Hp} {r : (Int32 × Hp) ⊕ ((Hp) ⊕ (Int32 × Hp))} {t : Option Value × Hp} (H : jX12_leastNow_45 u0 u1 v2 h = some r) (kI : ∀ s, r = .inl s → (fun s10 => V Γ d mX12_leastNow 10 [(0, .ref u0), (1, .int u1), (2, .int s10.1)] [] s10.2 t) s) (kE : ∀ e, r = .inr e → (fun e => (match e with | .inl a0 => V Γ d mX12_leastNow 51 [(0, .ref u0), (1, .int u1)] [] a0 t | .inr b0 => V Γ d mX12_leastNow 43 [(2, .int b0.1)] [] b0.2 t)) e) : V Γ d mX12_leastNow 45 [(0, .ref u0), (1, .int u1), (2, .int v2)] [] h t := by
  unfold jX12_leastNow_45 at H
  obtain ⟨x8, x8e, H⟩ := bs H
  refine v_iinc (v := x8) (L' := [(2, .int x8), (0, .ref u0), (1, .int u1)]) (q := 48) 2 dX12_leastNow_45 rfl (Option.some.inj x8e) (by decide) rfl rfl ?_
  refine v_goto (q := 10) dX12_leastNow_48 (by decide) ?_
  exact V.sub [1, 2, 0] rfl (kI (x8, h) (Option.some.inj H).symm)
def bX12_leastNow_10 (u0 : Nat) (u1 : Int32) (s10 : Int32 × Hp) : Option ((Int32 × Hp) ⊕ ((Hp) ⊕ (Int32 × Hp))) :=
(gR s10.2 12 u0 3).bind fun x2 =>
(gI s10.2 12 u0 9).bind fun x3 =>
(lI s10.2 .int x2 x3).bind fun x4 =>
if ((1 : Int32) <<< (x4 &&& 31)) ≤ s10.1 then (
some (.inr (.inl s10.2))) else (
(fX12_size s10.2 s10.1).bind fun x6 =>
if x6 = u1 then (
(gO s10.2 12 u0).bind fun _ =>
(fX12_stuck s10.2 u0 s10.1 (0 : Int32)).bind fun x10 =>
if x10.1 = (1 : Int32) then (
some (.inr (.inr (s10.1, x10.2)))) else (
jX12_leastNow_45 u0 u1 s10.1 x10.2)) else (
jX12_leastNow_45 u0 u1 s10.1 s10.2))
set_option maxRecDepth 20000 in
set_option maxHeartbeats 4000000 in
theorem sbX12_leastNow_10 {Γ : Gm} {d : Nat} (hd : 10 ≤ d) {u0 : Nat} {u1 : Int32} {s10 : Int32 × Hp} {r : (Int32 × Hp) ⊕ ((Hp) ⊕ (Int32 × Hp))} {t : Option Value × Hp} (H : bX12_leastNow_10 u0 u1 s10 = some r) (kI : ∀ s, r = .inl s → (fun s10 => V Γ d mX12_leastNow 10 [(0, .ref u0), (1, .int u1), (2, .int s10.1)] [] s10.2 t) s) (kE : ∀ e, r = .inr e → (fun e => (match e with | .inl a0 => V Γ d mX12_leastNow 51 [(0, .ref u0), (1, .int u1)] [] a0 t | .inr b0 => V Γ d mX12_leastNow 43 [(2, .int b0.1)] [] b0.2 t)) e) : V Γ d mX12_leastNow 10 [(0, .ref u0), (1, .int u1), (2, .int s10.1)] [] s10.2 t := by
  unfold bX12_leastNow_10 at H
  refine v_iload_n (q := 11) 2 dX12_leastNow_10 rfl rfl rfl ?_
  refine v_iconst (v := 1) (q := 12) dX12_leastNow_11 (by decide) rfl ?_
  refine v_aload_n (q := 13) 0 dX12_leastNow_12 rfl rfl rfl ?_
  obtain ⟨x2, x2e, H⟩ := bs H
  refine u_gR (q := 16) (r := (RX12, TX12, 58)) x2e dX12_leastNow_13 w1359 rfl (by decide) rfl rfl ?_
  refine v_aload_n (q := 17) 0 dX12_leastNow_16 rfl rfl rfl ?_
  obtain ⟨x3, x3e, H⟩ := bs H
  refine u_gI (q := 20) (r := (RX12, TX12, 58)) x3e dX12_leastNow_17 w1365 rfl (by decide) rfl rfl ?_
  obtain ⟨x4, x4e, H⟩ := bs H
  refine u_lI (q := 21) x4e dX12_leastNow_20 rfl ?_
  refine v_ishl (q := 22) dX12_leastNow_21 rfl ?_
  refine v_icmp_ge (q1 := 51) (q2 := 25) dX12_leastNow_22 (by decide) rfl (fun c5 => ?_) (fun c5 => ?_)
  · have H := ip c5 H
    exact V.sub [0, 1] rfl (kE (.inl s10.2) (Option.some.inj H).symm)
  · have H := ine c5 H
    refine v_iload_n (q := 26) 2 dX12_leastNow_25 rfl rfl rfl ?_
    obtain ⟨x6, x6e, H⟩ := bs H
    refine u_callS1 (M' := mX12_size) (d' := 1) (As := [.int s10.1]) (st := []) (q := 29) oX12_size dX12_leastNow_26 w1985 w1986 rfl (Nat.le_of_ble_eq_true rfl) (Nat.le_of_ble_eq_true rfl) (Nat.lt_of_lt_of_le (by decide) hd) rfl (sX12_size (Nat.le_refl _) x6e) rfl ?_
    refine v_iload_n (q := 30) 1 dX12_leastNow_29 rfl rfl rfl ?_
    refine v_icmp_ne (q1 := 45) (q2 := 33) dX12_leastNow_30 (by decide) rfl (fun c7 => ?_) (fun c7 => ?_)
    · have H := ine c7 H
      exact V.sub [0, 1, 2] rfl (sjX12_leastNow_45 hd H kI kE)
    · have H := ip c7 H
      refine v_aload_n (q := 34) 0 dX12_leastNow_33 rfl rfl rfl ?_
      refine v_iload_n (q := 35) 2 dX12_leastNow_34 rfl rfl rfl ?_
      refine v_iconst (v := 0) (q := 36) dX12_leastNow_35 (by decide) rfl ?_
      obtain ⟨_, o9, H⟩ := bs H
      obtain ⟨x10, x10e, H⟩ := bs H
      refine u_callV1 (M' := mX12_stuck) (d' := 9) (rc := (RX12, TX12, 58)) (As := [.int s10.1, .int (0 : Int32)]) (st := []) (q := 39) oX12_stuck dX12_leastNow_36 w1838 w1839 w1840 rfl rfl (gO_sp o9).1 (gO_sp o9).2 rfl (Nat.le_of_ble_eq_true rfl) (Nat.le_of_ble_eq_true rfl) (Nat.lt_of_lt_of_le (by decide) hd) rfl (sX12_stuck (Nat.le_refl _) x10e) rfl ?_
      refine v_iconst (v := 1) (q := 40) dX12_leastNow_39 (by decide) rfl ?_
      refine v_icmp_ne (q1 := 45) (q2 := 43) dX12_leastNow_40 (by decide) rfl (fun c11 => ?_) (fun c11 => ?_)
      · have H := ine c11 H
        exact V.sub [0, 1, 2] rfl (sjX12_leastNow_45 hd H kI kE)
      · have H := ip c11 H
        exact V.sub [2] rfl (kE (.inr (s10.1, x10.2)) (Option.some.inj H).symm)
def bX12_leastNow_2 (u0 : Nat) (s2 : Int32 × Hp) : Option ((Int32 × Hp) ⊕ ((Hp) ⊕ (Int32 × Hp))) :=
if (6 : Int32) < s2.1 then (
some (.inr (.inl s2.2))) else (
(lp (bX12_leastNow_10 u0 s2.1) FU ((1 : Int32), s2.2)).bind fun e12 =>
(match e12 with
| .inl e13 => (
(some (s2.1 + (1 : Int32))).bind fun x15 =>
some (.inl (x15, e13)))
| .inr e14 => (
some (.inr (.inr (e14.1, e14.2))))))
set_option maxRecDepth 20000 in
set_option maxHeartbeats 4000000 in
theorem sbX12_leastNow_2 {Γ : Gm} {d : Nat} (hd : 10 ≤ d) {u0 : Nat} {s2 : Int32 × Hp} {r : (Int32 × Hp) ⊕ ((Hp) ⊕ (Int32 × Hp))} {t : Option Value × Hp} (H : bX12_leastNow_2 u0 s2 = some r) (kI : ∀ s, r = .inl s → (fun s2 => V Γ d mX12_leastNow 2 [(0, .ref u0), (1, .int s2.1)] [] s2.2 t) s) (kE : ∀ e, r = .inr e → (fun e => (match e with | .inl a0 => V Γ d mX12_leastNow 57 [] [] a0 t | .inr b0 => V Γ d mX12_leastNow 43 [(2, .int b0.1)] [] b0.2 t)) e) : V Γ d mX12_leastNow 2 [(0, .ref u0), (1, .int s2.1)] [] s2.2 t := by
  unfold bX12_leastNow_2 at H
  refine v_iload_n (q := 3) 1 dX12_leastNow_2 rfl rfl rfl ?_
  refine v_bipush (v := 6) (q := 5) dX12_leastNow_3 (by decide) rfl ?_
  refine v_icmp_gt (q1 := 57) (q2 := 8) dX12_leastNow_5 (by decide) rfl (fun c1 => ?_) (fun c1 => ?_)
  · have H := ip c1 H
    exact V.sub [] rfl (kE (.inl s2.2) (Option.some.inj H).symm)
  · have H := ine c1 H
    refine v_iconst (v := 1) (q := 9) dX12_leastNow_8 (by decide) rfl ?_
    refine v_istore_n (L' := [(2, .int (1 : Int32)), (0, .ref u0), (1, .int s2.1)]) (q := 10) dX12_leastNow_9 rfl (by decide) rfl rfl ?_
    obtain ⟨e12, e12L, H⟩ := bs H
    refine V.sub [1, 2, 0] rfl ?_
    refine lp_V (P := (fun s10 => V Γ d mX12_leastNow 10 [(0, .ref u0), (1, .int s2.1), (2, .int s10.1)] [] s10.2 t)) (E := (fun e => (match e with | .inl a0 => V Γ d mX12_leastNow 51 [(0, .ref u0), (1, .int s2.1)] [] a0 t | .inr b0 => V Γ d mX12_leastNow 43 [(2, .int b0.1)] [] b0.2 t))) (fun s r hb kI kE => sbX12_leastNow_10 hd (s10 := s) (r := r) hb kI kE) FU ((1 : Int32), s2.2) e12 e12L ?_
    rcases e12 with e13 | e14
    · skip
      obtain ⟨x15, x15e, H⟩ := bs H
      refine v_iinc (v := x15) (L' := [(1, .int x15), (0, .ref u0)]) (q := 54) 1 dX12_leastNow_51 rfl (Option.some.inj x15e) (by decide) rfl rfl ?_
      refine v_goto (q := 2) dX12_leastNow_54 (by decide) ?_
      exact V.sub [1, 0] rfl (kI (x15, e13) (Option.some.inj H).symm)
    · skip
      exact V.sub [0] rfl (kE (.inr (e14.1, e14.2)) (Option.some.inj H).symm)
def fX12_leastNow (h : Hp) (v0 : Nat) : Option (Int32 × Hp) :=
(lp (bX12_leastNow_2 v0) FU ((1 : Int32), h)).bind fun e16 =>
(match e16 with
| .inl e17 => (
some (((0 : Int32), e17)))
| .inr e18 => (
some (e18.1, e18.2)))
set_option maxRecDepth 20000 in
set_option maxHeartbeats 4000000 in
theorem sX12_leastNow {Γ : Gm} {d : Nat} (hd : 10 ≤ d) {h : Hp} {v0 : Nat} {r : Int32 × Hp} (H : fX12_leastNow h v0 = some r) : V Γ d mX12_leastNow 0 [(0, .ref v0)] [] h (some (.int r.1), r.2) := by
  unfold fX12_leastNow at H
  refine v_iconst (v := 1) (q := 1) dX12_leastNow_0 (by decide) rfl ?_
  refine v_istore_n (L' := [(1, .int (1 : Int32)), (0, .ref v0)]) (q := 2) dX12_leastNow_1 rfl (by decide) rfl rfl ?_
  obtain ⟨e16, e16L, H⟩ := bs H
  refine V.sub [1, 0] rfl ?_
  refine lp_V (P := (fun s2 => V Γ d mX12_leastNow 2 [(0, .ref v0), (1, .int s2.1)] [] s2.2 (some (.int r.1), r.2))) (E := (fun e => (match e with | .inl a0 => V Γ d mX12_leastNow 57 [] [] a0 (some (.int r.1), r.2) | .inr b0 => V Γ d mX12_leastNow 43 [(2, .int b0.1)] [] b0.2 (some (.int r.1), r.2)))) (fun s r hb kI kE => sbX12_leastNow_2 hd (s2 := s) (r := r) hb kI kE) FU ((1 : Int32), h) e16 e16L ?_
  rcases e16 with e17 | e18
  · skip
    refine v_iconst (v := 0) (q := 58) dX12_leastNow_57 (by decide) rfl ?_
    cases H
    exact v_ireturn rfl dX12_leastNow_58
  · skip
    refine v_iload_n (q := 44) 0 dX12_leastNow_43 rfl rfl rfl ?_
    cases H
    exact v_ireturn rfl dX12_leastNow_44
def mX12_least : MI := (yX12_least, cX12_least, 1, some .int)
theorem oX12_least : mOK mX12_least 0 := ⟨by decide +kernel, by decide +kernel, by decide +kernel, by decide, w1980, w0150⟩
def fX12_least (h : Hp) (v0 : Nat) : Option (Int32 × Hp) :=
(gO h 12 v0).bind fun _ =>
(fX12_leastNow h v0).bind fun x2 =>
some (x2.1, x2.2)
set_option maxRecDepth 20000 in
set_option maxHeartbeats 4000000 in
theorem sX12_least {Γ : Gm} {d : Nat} (hd : 11 ≤ d) {h : Hp} {v0 : Nat} {r : Int32 × Hp} (H : fX12_least h v0 = some r) : V Γ d mX12_least 0 [(0, .ref v0)] [] h (some (.int r.1), r.2) := by
  unfold fX12_least at H
  refine v_aload_n (q := 1) 0 dX12_least_0 rfl rfl rfl ?_
  obtain ⟨_, o1, H⟩ := bs H
  obtain ⟨x2, x2e, H⟩ := bs H
  refine u_callV1 (M' := mX12_leastNow) (d' := 10) (rc := (RX12, TX12, 58)) (As := []) (st := []) (q := 4) oX12_leastNow dX12_least_1 w1981 w1983 w0132 rfl rfl (gO_sp o1).1 (gO_sp o1).2 rfl (Nat.le_of_ble_eq_true rfl) (Nat.le_of_ble_eq_true rfl) (Nat.lt_of_lt_of_le (by decide) hd) rfl (sX12_leastNow (Nat.le_refl _) x2e) rfl ?_
  cases H
  exact v_ireturn rfl dX12_least_4
def mX12_lock : MI := (yX12_lock, cX12_lock, 2, some .int)
theorem oX12_lock : mOK mX12_lock 1 := ⟨by decide +kernel, by decide +kernel, by decide +kernel, by decide, w1761, w0150⟩
def jX12_lock_28 (y0 : Int32) (h : Hp) : Option (Int32) :=
some y0
set_option maxRecDepth 20000 in
set_option maxHeartbeats 4000000 in
theorem sjX12_lock_28 {Γ : Gm} {d : Nat} (hd : 2 ≤ d) {y0 : Int32} {h : Hp} {r : Int32} (H : jX12_lock_28 y0 h = some r) : V Γ d mX12_lock 28 [] [.int y0] h (some (.int r), h) := by
  unfold jX12_lock_28 at H
  cases H
  exact v_ireturn rfl dX12_lock_28
def fX12_lock (h : Hp) (v0 : Nat) (v1 : Int32) : Option (Int32) :=
(gR h 12 v0 2).bind fun x1 =>
(gI h 12 v0 9).bind fun x2 =>
(lI h .int x1 x2).bind fun x3 =>
(fX12_isIn h v1 (0 : Int32) (x3 - (1 : Int32))).bind fun x4 =>
if x4 = 0 then (
jX12_lock_28 (-1 : Int32) h) else (
(gO h 12 v0).bind fun _ =>
(fX12_kind h v0 v1).bind fun x7 =>
jX12_lock_28 x7 h)
set_option maxRecDepth 20000 in
set_option maxHeartbeats 4000000 in
theorem sX12_lock {Γ : Gm} {d : Nat} (hd : 2 ≤ d) {h : Hp} {v0 : Nat} {v1 : Int32} {r : Int32} (H : fX12_lock h v0 v1 = some r) : V Γ d mX12_lock 0 [(0, .ref v0), (1, .int v1)] [] h (some (.int r), h) := by
  unfold fX12_lock at H
  refine v_iload_n (q := 1) 1 dX12_lock_0 rfl rfl rfl ?_
  refine v_iconst (v := 0) (q := 2) dX12_lock_1 (by decide) rfl ?_
  refine v_aload_n (q := 3) 0 dX12_lock_2 rfl rfl rfl ?_
  obtain ⟨x1, x1e, H⟩ := bs H
  refine u_gR (q := 6) (r := (RX12, TX12, 58)) x1e dX12_lock_3 w1358 rfl (by decide) rfl rfl ?_
  refine v_aload_n (q := 7) 0 dX12_lock_6 rfl rfl rfl ?_
  obtain ⟨x2, x2e, H⟩ := bs H
  refine u_gI (q := 10) (r := (RX12, TX12, 58)) x2e dX12_lock_7 w1365 rfl (by decide) rfl rfl ?_
  obtain ⟨x3, x3e, H⟩ := bs H
  refine u_lI (q := 11) x3e dX12_lock_10 rfl ?_
  refine v_iconst (v := 1) (q := 12) dX12_lock_11 (by decide) rfl ?_
  refine v_isub (q := 13) dX12_lock_12 rfl ?_
  obtain ⟨x4, x4e, H⟩ := bs H
  refine u_callS1 (M' := mX12_isIn) (d' := 1) (As := [.int v1, .int (0 : Int32), .int (x3 - (1 : Int32))]) (st := []) (q := 16) oX12_isIn dX12_lock_13 w1618 w1619 rfl (Nat.le_of_ble_eq_true rfl) (Nat.le_of_ble_eq_true rfl) (Nat.lt_of_lt_of_le (by decide) hd) rfl (sX12_isIn (Nat.le_refl _) x4e) rfl ?_
  refine v_if_eq (q1 := 27) (q2 := 19) dX12_lock_16 (by decide) rfl (fun c5 => ?_) (fun c5 => ?_)
  · have H := ip c5 H
    refine v_iconst (v := -1) (q := 28) dX12_lock_27 (by decide) rfl ?_
    exact V.sub [] rfl (sjX12_lock_28 hd H)
  · have H := ine c5 H
    refine v_aload_n (q := 20) 0 dX12_lock_19 rfl rfl rfl ?_
    refine v_iload_n (q := 21) 1 dX12_lock_20 rfl rfl rfl ?_
    obtain ⟨_, o6, H⟩ := bs H
    obtain ⟨x7, x7e, H⟩ := bs H
    refine u_callV1 (M' := mX12_kind) (d' := 1) (rc := (RX12, TX12, 58)) (As := [.int v1]) (st := []) (q := 24) oX12_kind dX12_lock_21 w1673 w1675 w0081 rfl rfl (gO_sp o6).1 (gO_sp o6).2 rfl (Nat.le_of_ble_eq_true rfl) (Nat.le_of_ble_eq_true rfl) (Nat.lt_of_lt_of_le (by decide) hd) rfl (sX12_kind (Nat.le_refl _) x7e) rfl ?_
    refine v_goto (q := 28) dX12_lock_24 (by decide) ?_
    exact V.sub [] rfl (sjX12_lock_28 hd H)
def mX12_mends : MI := (yX12_mends, cX12_mends, 4, some .int)
theorem oX12_mends : mOK mX12_mends 1 := ⟨by decide +kernel, by decide +kernel, by decide +kernel, by decide, w1951, w0150⟩
def jX12_mends_46 (u0 : Nat) (u1 : Int32) (v2 : Int32) (v3 : Int32) (h : Hp) : Option ((Int32 × Int32 × Hp) ⊕ (Int32 × Hp)) :=
(some (v3 + (1 : Int32))).bind fun x10 =>
some (.inl (v2, x10, h))
set_option maxRecDepth 20000 in
set_option maxHeartbeats 4000000 in
theorem sjX12_mends_46 {Γ : Gm} {d : Nat} (hd : 7 ≤ d) {u0 : Nat} {u1 : Int32} {v2 : Int32} {v3 : Int32} {h : Hp} {r : (Int32 × Int32 × Hp) ⊕ (Int32 × Hp)} {t : Option Value × Hp} (H : jX12_mends_46 u0 u1 v2 v3 h = some r) (kI : ∀ s, r = .inl s → (fun s15 => V Γ d mX12_mends 15 [(0, .ref u0), (1, .int u1), (2, .int s15.1), (3, .int s15.2.1)] [] s15.2.2 t) s) (kE : ∀ e, r = .inr e → (fun e => V Γ d mX12_mends 52 [(0, .ref u0), (1, .int u1), (2, .int e.1)] [] e.2 t) e) : V Γ d mX12_mends 46 [(0, .ref u0), (1, .int u1), (2, .int v2), (3, .int v3)] [] h t := by
  unfold jX12_mends_46 at H
  obtain ⟨x10, x10e, H⟩ := bs H
  refine v_iinc (v := x10) (L' := [(3, .int x10), (0, .ref u0), (1, .int u1), (2, .int v2)]) (q := 49) 3 dX12_mends_46 rfl (Option.some.inj x10e) (by decide) rfl rfl ?_
  refine v_goto (q := 15) dX12_mends_49 (by decide) ?_
  exact V.sub [1, 2, 3, 0] rfl (kI (v2, x10, h) (Option.some.inj H).symm)
def bX12_mends_15 (u0 : Nat) (u1 : Int32) (s15 : Int32 × Int32 × Hp) : Option ((Int32 × Int32 × Hp) ⊕ (Int32 × Hp)) :=
if (256 : Int32) ≤ s15.2.1 then (
some (.inr (s15.1, s15.2.2))) else (
(gR s15.2.2 12 u0 0).bind fun x4 =>
(lI s15.2.2 .int x4 ((0 : Int32) + s15.2.1)).bind fun x5 =>
if x5 = 0 then (
jX12_mends_46 u0 u1 s15.1 s15.2.1 s15.2.2) else (
(gR s15.2.2 12 u0 34).bind fun x7 =>
(tI s15.2.2 x7 s15.1 s15.2.1).bind fun h8 =>
(some (s15.1 + (1 : Int32))).bind fun x9 =>
jX12_mends_46 u0 u1 x9 s15.2.1 h8))
set_option maxRecDepth 20000 in
set_option maxHeartbeats 4000000 in
theorem sbX12_mends_15 {Γ : Gm} {d : Nat} (hd : 7 ≤ d) {u0 : Nat} {u1 : Int32} {s15 : Int32 × Int32 × Hp} {r : (Int32 × Int32 × Hp) ⊕ (Int32 × Hp)} {t : Option Value × Hp} (H : bX12_mends_15 u0 u1 s15 = some r) (kI : ∀ s, r = .inl s → (fun s15 => V Γ d mX12_mends 15 [(0, .ref u0), (1, .int u1), (2, .int s15.1), (3, .int s15.2.1)] [] s15.2.2 t) s) (kE : ∀ e, r = .inr e → (fun e => V Γ d mX12_mends 52 [(0, .ref u0), (1, .int u1), (2, .int e.1)] [] e.2 t) e) : V Γ d mX12_mends 15 [(0, .ref u0), (1, .int u1), (2, .int s15.1), (3, .int s15.2.1)] [] s15.2.2 t := by
  unfold bX12_mends_15 at H
  refine v_iload_n (q := 16) 3 dX12_mends_15 rfl rfl rfl ?_
  refine v_sipush (v := 256) (q := 19) dX12_mends_16 (by decide) rfl ?_
  refine v_icmp_ge (q1 := 52) (q2 := 22) dX12_mends_19 (by decide) rfl (fun c3 => ?_) (fun c3 => ?_)
  · have H := ip c3 H
    exact V.sub [0, 1, 2] rfl (kE (s15.1, s15.2.2) (Option.some.inj H).symm)
  · have H := ine c3 H
    refine v_aload_n (q := 23) 0 dX12_mends_22 rfl rfl rfl ?_
    obtain ⟨x4, x4e, H⟩ := bs H
    refine u_gR (q := 26) (r := (RX12, TX12, 58)) x4e dX12_mends_23 w1356 rfl (by decide) rfl rfl ?_
    refine v_iconst (v := 0) (q := 27) dX12_mends_26 (by decide) rfl ?_
    refine v_iload_n (q := 28) 3 dX12_mends_27 rfl rfl rfl ?_
    refine v_iadd (q := 29) dX12_mends_28 rfl ?_
    obtain ⟨x5, x5e, H⟩ := bs H
    refine u_lI (q := 30) x5e dX12_mends_29 rfl ?_
    refine v_if_ne (q1 := 36) (q2 := 33) dX12_mends_30 (by decide) rfl (fun c6 => ?_) (fun c6 => ?_)
    · have H := ine c6 H
      refine v_aload_n (q := 37) 0 dX12_mends_36 rfl rfl rfl ?_
      obtain ⟨x7, x7e, H⟩ := bs H
      refine u_gR (q := 40) (r := (RX12, TX12, 58)) x7e dX12_mends_37 w1390 rfl (by decide) rfl rfl ?_
      refine v_iload_n (q := 41) 2 dX12_mends_40 rfl rfl rfl ?_
      refine v_iload_n (q := 42) 3 dX12_mends_41 rfl rfl rfl ?_
      obtain ⟨h8, h8e, H⟩ := bs H
      refine u_tI (q := 43) h8e dX12_mends_42 rfl ?_
      obtain ⟨x9, x9e, H⟩ := bs H
      refine v_iinc (v := x9) (L' := [(2, .int x9), (0, .ref u0), (1, .int u1), (3, .int s15.2.1)]) (q := 46) 2 dX12_mends_43 rfl (Option.some.inj x9e) (by decide) rfl rfl ?_
      exact V.sub [1, 2, 0, 3] rfl (sjX12_mends_46 hd H kI kE)
    · have H := ip c6 H
      refine v_goto (q := 46) dX12_mends_33 (by decide) ?_
      exact V.sub [0, 1, 2, 3] rfl (sjX12_mends_46 hd H kI kE)
def bX12_mends_54 (u0 : Nat) (u1 : Int32) (u2 : Int32) (s54 : Int32 × Hp) : Option ((Int32 × Hp) ⊕ ((Hp) ⊕ (Int32 × Hp))) :=
if (4 : Int32) ≤ s54.1 then (
some (.inr (.inl s54.2))) else (
(pI s54.2 12 u0 35 (-1 : Int32)).bind fun h13 =>
(gO h13 12 u0).bind fun _ =>
(fX12_canMend h13 u0 s54.1 (0 : Int32) u2).bind fun x15 =>
if x15.1 = 0 then (
(some (s54.1 + (1 : Int32))).bind fun x17 =>
some (.inl (x17, x15.2))) else (
some (.inr (.inr (s54.1, x15.2)))))
set_option maxRecDepth 20000 in
set_option maxHeartbeats 4000000 in
theorem sbX12_mends_54 {Γ : Gm} {d : Nat} (hd : 7 ≤ d) {u0 : Nat} {u1 : Int32} {u2 : Int32} {s54 : Int32 × Hp} {r : (Int32 × Hp) ⊕ ((Hp) ⊕ (Int32 × Hp))} {t : Option Value × Hp} (H : bX12_mends_54 u0 u1 u2 s54 = some r) (kI : ∀ s, r = .inl s → (fun s54 => V Γ d mX12_mends 54 [(0, .ref u0), (1, .int u1), (2, .int u2), (3, .int s54.1)] [] s54.2 t) s) (kE : ∀ e, r = .inr e → (fun e => (match e with | .inl a0 => V Γ d mX12_mends 93 [] [] a0 t | .inr b0 => V Γ d mX12_mends 74 [(0, .ref u0), (1, .int u1), (3, .int b0.1)] [] b0.2 t)) e) : V Γ d mX12_mends 54 [(0, .ref u0), (1, .int u1), (2, .int u2), (3, .int s54.1)] [] s54.2 t := by
  unfold bX12_mends_54 at H
  refine v_iload_n (q := 55) 3 dX12_mends_54 rfl rfl rfl ?_
  refine v_iconst (v := 4) (q := 56) dX12_mends_55 (by decide) rfl ?_
  refine v_icmp_ge (q1 := 93) (q2 := 59) dX12_mends_56 (by decide) rfl (fun c12 => ?_) (fun c12 => ?_)
  · have H := ip c12 H
    exact V.sub [] rfl (kE (.inl s54.2) (Option.some.inj H).symm)
  · have H := ine c12 H
    refine v_aload_n (q := 60) 0 dX12_mends_59 rfl rfl rfl ?_
    refine v_iconst (v := -1) (q := 61) dX12_mends_60 (by decide) rfl ?_
    obtain ⟨h13, h13e, H⟩ := bs H
    refine u_pI (q := 64) (r := (RX12, TX12, 58)) h13e dX12_mends_61 w1391 rfl (by decide) (Or.inl rfl) rfl rfl ?_
    refine v_aload_n (q := 65) 0 dX12_mends_64 rfl rfl rfl ?_
    refine v_iload_n (q := 66) 3 dX12_mends_65 rfl rfl rfl ?_
    refine v_iconst (v := 0) (q := 67) dX12_mends_66 (by decide) rfl ?_
    refine v_iload_n (q := 68) 2 dX12_mends_67 rfl rfl rfl ?_
    obtain ⟨_, o14, H⟩ := bs H
    obtain ⟨x15, x15e, H⟩ := bs H
    refine u_callV1 (M' := mX12_canMend) (d' := 6) (rc := (RX12, TX12, 58)) (As := [.int s54.1, .int (0 : Int32), .int u2]) (st := []) (q := 71) oX12_canMend dX12_mends_68 w1952 w1954 w0129 rfl rfl (gO_sp o14).1 (gO_sp o14).2 rfl (Nat.le_of_ble_eq_true rfl) (Nat.le_of_ble_eq_true rfl) (Nat.lt_of_lt_of_le (by decide) hd) rfl (sX12_canMend (Nat.le_refl _) x15e) rfl ?_
    refine v_if_eq (q1 := 87) (q2 := 74) dX12_mends_71 (by decide) rfl (fun c16 => ?_) (fun c16 => ?_)
    · have H := ip c16 H
      obtain ⟨x17, x17e, H⟩ := bs H
      refine v_iinc (v := x17) (L' := [(3, .int x17), (0, .ref u0), (1, .int u1), (2, .int u2)]) (q := 90) 3 dX12_mends_87 rfl (Option.some.inj x17e) (by decide) rfl rfl ?_
      refine v_goto (q := 54) dX12_mends_90 (by decide) ?_
      exact V.sub [1, 2, 3, 0] rfl (kI (x17, x15.2) (Option.some.inj H).symm)
    · have H := ine c16 H
      exact V.sub [0, 1, 3] rfl (kE (.inr (s54.1, x15.2)) (Option.some.inj H).symm)
def jX12_mends_86 (y0 : Int32) (h : Hp) : Option (Int32 × Hp) :=
some (y0, h)
set_option maxRecDepth 20000 in
set_option maxHeartbeats 4000000 in
theorem sjX12_mends_86 {Γ : Gm} {d : Nat} (hd : 7 ≤ d) {y0 : Int32} {h : Hp} {r : Int32 × Hp} (H : jX12_mends_86 y0 h = some r) : V Γ d mX12_mends 86 [] [.int y0] h (some (.int r.1), r.2) := by
  unfold jX12_mends_86 at H
  cases H
  exact v_ireturn rfl dX12_mends_86
def fX12_mends (h : Hp) (v0 : Nat) (v1 : Int32) : Option (Int32 × Hp) :=
(fX12_isIn h v1 (0 : Int32) (1 : Int32)).bind fun x1 =>
if x1 = 0 then (
some (((-1 : Int32), h))) else (
(lp (bX12_mends_15 v0 v1) FU ((0 : Int32), (0 : Int32), h)).bind fun e11 =>
(lp (bX12_mends_54 v0 v1 e11.1) FU ((0 : Int32), e11.2)).bind fun e18 =>
(match e18 with
| .inl e19 => (
some (((-2 : Int32), e19)))
| .inr e20 => (
if v1 = 0 then (
jX12_mends_86 e20.1 e20.2) else (
(gI e20.2 12 v0 35).bind fun x22 =>
jX12_mends_86 x22 e20.2))))
set_option maxRecDepth 20000 in
set_option maxHeartbeats 4000000 in
theorem sX12_mends {Γ : Gm} {d : Nat} (hd : 7 ≤ d) {h : Hp} {v0 : Nat} {v1 : Int32} {r : Int32 × Hp} (H : fX12_mends h v0 v1 = some r) : V Γ d mX12_mends 0 [(0, .ref v0), (1, .int v1)] [] h (some (.int r.1), r.2) := by
  unfold fX12_mends at H
  refine v_iload_n (q := 1) 1 dX12_mends_0 rfl rfl rfl ?_
  refine v_iconst (v := 0) (q := 2) dX12_mends_1 (by decide) rfl ?_
  refine v_iconst (v := 1) (q := 3) dX12_mends_2 (by decide) rfl ?_
  obtain ⟨x1, x1e, H⟩ := bs H
  refine u_callS1 (M' := mX12_isIn) (d' := 1) (As := [.int v1, .int (0 : Int32), .int (1 : Int32)]) (st := []) (q := 6) oX12_isIn dX12_mends_3 w1618 w1619 rfl (Nat.le_of_ble_eq_true rfl) (Nat.le_of_ble_eq_true rfl) (Nat.lt_of_lt_of_le (by decide) hd) rfl (sX12_isIn (Nat.le_refl _) x1e) rfl ?_
  refine v_if_ne (q1 := 11) (q2 := 9) dX12_mends_6 (by decide) rfl (fun c2 => ?_) (fun c2 => ?_)
  · have H := ine c2 H
    refine v_iconst (v := 0) (q := 12) dX12_mends_11 (by decide) rfl ?_
    refine v_istore_n (L' := [(2, .int (0 : Int32)), (0, .ref v0), (1, .int v1)]) (q := 13) dX12_mends_12 rfl (by decide) rfl rfl ?_
    refine v_iconst (v := 0) (q := 14) dX12_mends_13 (by decide) rfl ?_
    refine v_istore_n (L' := [(3, .int (0 : Int32)), (2, .int (0 : Int32)), (0, .ref v0), (1, .int v1)]) (q := 15) dX12_mends_14 rfl (by decide) rfl rfl ?_
    obtain ⟨e11, e11L, H⟩ := bs H
    refine V.sub [2, 3, 1, 0] rfl ?_
    refine lp_V (P := (fun s15 => V Γ d mX12_mends 15 [(0, .ref v0), (1, .int v1), (2, .int s15.1), (3, .int s15.2.1)] [] s15.2.2 (some (.int r.1), r.2))) (E := (fun e => V Γ d mX12_mends 52 [(0, .ref v0), (1, .int v1), (2, .int e.1)] [] e.2 (some (.int r.1), r.2))) (fun s r hb kI kE => sbX12_mends_15 hd (s15 := s) (r := r) hb kI kE) FU ((0 : Int32), (0 : Int32), h) e11 e11L ?_
    refine v_iconst (v := 0) (q := 53) dX12_mends_52 (by decide) rfl ?_
    refine v_istore_n (L' := [(3, .int (0 : Int32)), (0, .ref v0), (1, .int v1), (2, .int e11.1)]) (q := 54) dX12_mends_53 rfl (by decide) rfl rfl ?_
    obtain ⟨e18, e18L, H⟩ := bs H
    refine V.sub [1, 2, 3, 0] rfl ?_
    refine lp_V (P := (fun s54 => V Γ d mX12_mends 54 [(0, .ref v0), (1, .int v1), (2, .int e11.1), (3, .int s54.1)] [] s54.2 (some (.int r.1), r.2))) (E := (fun e => (match e with | .inl a0 => V Γ d mX12_mends 93 [] [] a0 (some (.int r.1), r.2) | .inr b0 => V Γ d mX12_mends 74 [(0, .ref v0), (1, .int v1), (3, .int b0.1)] [] b0.2 (some (.int r.1), r.2)))) (fun s r hb kI kE => sbX12_mends_54 hd (s54 := s) (r := r) hb kI kE) FU ((0 : Int32), e11.2) e18 e18L ?_
    rcases e18 with e19 | e20
    · skip
      refine v_bipush (v := -2) (q := 95) dX12_mends_93 (by decide) rfl ?_
      cases H
      exact v_ireturn rfl dX12_mends_95
    · skip
      refine v_iload_n (q := 75) 1 dX12_mends_74 rfl rfl rfl ?_
      refine v_if_ne (q1 := 82) (q2 := 78) dX12_mends_75 (by decide) rfl (fun c21 => ?_) (fun c21 => ?_)
      · have H := ine c21 H
        refine v_aload_n (q := 83) 0 dX12_mends_82 rfl rfl rfl ?_
        obtain ⟨x22, x22e, H⟩ := bs H
        refine u_gI (q := 86) (r := (RX12, TX12, 58)) x22e dX12_mends_83 w1391 rfl (by decide) rfl rfl ?_
        exact V.sub [] rfl (sjX12_mends_86 hd H)
      · have H := ip c21 H
        refine v_iload_n (q := 79) 2 dX12_mends_78 rfl rfl rfl ?_
        refine v_goto (q := 86) dX12_mends_79 (by decide) ?_
        exact V.sub [] rfl (sjX12_mends_86 hd H)
  · have H := ip c2 H
    refine v_iconst (v := -1) (q := 10) dX12_mends_9 (by decide) rfl ?_
    cases H
    exact v_ireturn rfl dX12_mends_10
def mX12_missed : MI := (yX12_missed, cX12_missed, 4, some .int)
theorem oX12_missed : mOK mX12_missed 0 := ⟨by decide +kernel, by decide +kernel, by decide +kernel, by decide, w1991, w0150⟩
def jX12_missed_53 (u0 : Nat) (u1 : Int32) (v3 : Int32) (y0 : Int32) (y1 : Int32) (h : Hp) : Option ((Int32 × Int32) ⊕ (Int32)) :=
(some (y1 + y0)).bind fun x11 =>
(some (v3 + (1 : Int32))).bind fun x12 =>
some (.inl (x11, x12))
set_option maxRecDepth 20000 in
set_option maxHeartbeats 4000000 in
theorem sjX12_missed_53 {Γ : Gm} {d : Nat} (hd : 11 ≤ d) {u0 : Nat} {u1 : Int32} {v3 : Int32} {y0 : Int32} {y1 : Int32} {h : Hp} {r : (Int32 × Int32) ⊕ (Int32)} {t : Option Value × Hp} (H : jX12_missed_53 u0 u1 v3 y0 y1 h = some r) (kI : ∀ s, r = .inl s → (fun s18 => V Γ d mX12_missed 18 [(0, .ref u0), (1, .int u1), (2, .int s18.1), (3, .int s18.2)] [] h t) s) (kE : ∀ e, r = .inr e → (fun e => V Γ d mX12_missed 61 [(2, .int e)] [] h t) e) : V Γ d mX12_missed 53 [(0, .ref u0), (1, .int u1), (3, .int v3)] [.int y0, .int y1] h t := by
  unfold jX12_missed_53 at H
  refine v_iadd (q := 54) dX12_missed_53 rfl ?_
  obtain ⟨x11, x11e, H⟩ := bs H
  refine v_topi (Option.some.inj x11e) ?_
  refine v_istore_n (L' := [(2, .int x11), (0, .ref u0), (1, .int u1), (3, .int v3)]) (q := 55) dX12_missed_54 rfl (by decide) rfl rfl ?_
  obtain ⟨x12, x12e, H⟩ := bs H
  refine v_iinc (v := x12) (L' := [(3, .int x12), (2, .int x11), (0, .ref u0), (1, .int u1)]) (q := 58) 3 dX12_missed_55 rfl (Option.some.inj x12e) (by decide) rfl rfl ?_
  refine v_goto (q := 18) dX12_missed_58 (by decide) ?_
  exact V.sub [2, 3, 1, 0] rfl (kI (x11, x12) (Option.some.inj H).symm)
def jX12_missed_52 (u0 : Nat) (u1 : Int32) (v3 : Int32) (y0 : Int32) (h : Hp) : Option ((Int32 × Int32) ⊕ (Int32)) :=
jX12_missed_53 u0 u1 v3 (0 : Int32) y0 h
set_option maxRecDepth 20000 in
set_option maxHeartbeats 4000000 in
theorem sjX12_missed_52 {Γ : Gm} {d : Nat} (hd : 11 ≤ d) {u0 : Nat} {u1 : Int32} {v3 : Int32} {y0 : Int32} {h : Hp} {r : (Int32 × Int32) ⊕ (Int32)} {t : Option Value × Hp} (H : jX12_missed_52 u0 u1 v3 y0 h = some r) (kI : ∀ s, r = .inl s → (fun s18 => V Γ d mX12_missed 18 [(0, .ref u0), (1, .int u1), (2, .int s18.1), (3, .int s18.2)] [] h t) s) (kE : ∀ e, r = .inr e → (fun e => V Γ d mX12_missed 61 [(2, .int e)] [] h t) e) : V Γ d mX12_missed 52 [(0, .ref u0), (1, .int u1), (3, .int v3)] [.int y0] h t := by
  unfold jX12_missed_52 at H
  refine v_iconst (v := 0) (q := 53) dX12_missed_52 (by decide) rfl ?_
  exact V.sub [0, 1, 2] rfl (sjX12_missed_53 hd H kI kE)
def bX12_missed_18 (u0 : Nat) (u1 : Int32) (h : Hp) (s18 : Int32 × Int32) : Option ((Int32 × Int32) ⊕ (Int32)) :=
if (10 : Int32) ≤ s18.2 then (
some (.inr s18.1)) else (
(gO h 12 u0).bind fun _ =>
(fX12_ringLocks h u0).bind fun x8 =>
(fX12_has h x8 s18.2).bind fun x9 =>
if x9 = 0 then (
jX12_missed_52 u0 u1 s18.2 s18.1 h) else (
(gO h 12 u0).bind fun _ =>
(fX12_kind h u0 s18.2).bind fun x14 =>
(fX12_has h u1 x14).bind fun x15 =>
if x15 = 0 then (
jX12_missed_53 u0 u1 s18.2 (1 : Int32) s18.1 h) else (
jX12_missed_52 u0 u1 s18.2 s18.1 h)))
set_option maxRecDepth 20000 in
set_option maxHeartbeats 4000000 in
theorem sbX12_missed_18 {Γ : Gm} {d : Nat} (hd : 11 ≤ d) {u0 : Nat} {u1 : Int32} {h : Hp} {s18 : Int32 × Int32} {r : (Int32 × Int32) ⊕ (Int32)} {t : Option Value × Hp} (H : bX12_missed_18 u0 u1 h s18 = some r) (kI : ∀ s, r = .inl s → (fun s18 => V Γ d mX12_missed 18 [(0, .ref u0), (1, .int u1), (2, .int s18.1), (3, .int s18.2)] [] h t) s) (kE : ∀ e, r = .inr e → (fun e => V Γ d mX12_missed 61 [(2, .int e)] [] h t) e) : V Γ d mX12_missed 18 [(0, .ref u0), (1, .int u1), (2, .int s18.1), (3, .int s18.2)] [] h t := by
  unfold bX12_missed_18 at H
  refine v_iload_n (q := 19) 3 dX12_missed_18 rfl rfl rfl ?_
  refine v_bipush (v := 10) (q := 21) dX12_missed_19 (by decide) rfl ?_
  refine v_icmp_ge (q1 := 61) (q2 := 24) dX12_missed_21 (by decide) rfl (fun c6 => ?_) (fun c6 => ?_)
  · have H := ip c6 H
    exact V.sub [2] rfl (kE s18.1 (Option.some.inj H).symm)
  · have H := ine c6 H
    refine v_iload_n (q := 25) 2 dX12_missed_24 rfl rfl rfl ?_
    refine v_aload_n (q := 26) 0 dX12_missed_25 rfl rfl rfl ?_
    obtain ⟨_, o7, H⟩ := bs H
    obtain ⟨x8, x8e, H⟩ := bs H
    refine u_callV1 (M' := mX12_ringLocks) (d' := 1) (rc := (RX12, TX12, 58)) (As := []) (st := [.int s18.1]) (q := 29) oX12_ringLocks dX12_missed_26 w1925 w1927 w0126 rfl rfl (gO_sp o7).1 (gO_sp o7).2 rfl (Nat.le_of_ble_eq_true rfl) (Nat.le_of_ble_eq_true rfl) (Nat.lt_of_lt_of_le (by decide) hd) rfl (sX12_ringLocks (Nat.le_refl _) x8e) rfl ?_
    refine v_iload_n (q := 30) 3 dX12_missed_29 rfl rfl rfl ?_
    obtain ⟨x9, x9e, H⟩ := bs H
    refine u_callS1 (M' := mX12_has) (d' := 1) (As := [.int x8, .int s18.2]) (st := [.int s18.1]) (q := 33) oX12_has dX12_missed_30 w1846 w1847 rfl (Nat.le_of_ble_eq_true rfl) (Nat.le_of_ble_eq_true rfl) (Nat.lt_of_lt_of_le (by decide) hd) rfl (sX12_has (Nat.le_refl _) x9e) rfl ?_
    refine v_if_eq (q1 := 52) (q2 := 36) dX12_missed_33 (by decide) rfl (fun c10 => ?_) (fun c10 => ?_)
    · have H := ip c10 H
      exact V.sub [0, 1, 3] rfl (sjX12_missed_52 hd H kI kE)
    · have H := ine c10 H
      refine v_iload_n (q := 37) 1 dX12_missed_36 rfl rfl rfl ?_
      refine v_aload_n (q := 38) 0 dX12_missed_37 rfl rfl rfl ?_
      refine v_iload_n (q := 39) 3 dX12_missed_38 rfl rfl rfl ?_
      obtain ⟨_, o13, H⟩ := bs H
      obtain ⟨x14, x14e, H⟩ := bs H
      refine u_callV1 (M' := mX12_kind) (d' := 1) (rc := (RX12, TX12, 58)) (As := [.int s18.2]) (st := [.int u1, .int s18.1]) (q := 42) oX12_kind dX12_missed_39 w1673 w1675 w0081 rfl rfl (gO_sp o13).1 (gO_sp o13).2 rfl (Nat.le_of_ble_eq_true rfl) (Nat.le_of_ble_eq_true rfl) (Nat.lt_of_lt_of_le (by decide) hd) rfl (sX12_kind (Nat.le_refl _) x14e) rfl ?_
      obtain ⟨x15, x15e, H⟩ := bs H
      refine u_callS1 (M' := mX12_has) (d' := 1) (As := [.int u1, .int x14]) (st := [.int s18.1]) (q := 45) oX12_has dX12_missed_42 w1846 w1847 rfl (Nat.le_of_ble_eq_true rfl) (Nat.le_of_ble_eq_true rfl) (Nat.lt_of_lt_of_le (by decide) hd) rfl (sX12_has (Nat.le_refl _) x15e) rfl ?_
      refine v_if_ne (q1 := 52) (q2 := 48) dX12_missed_45 (by decide) rfl (fun c16 => ?_) (fun c16 => ?_)
      · have H := ine c16 H
        exact V.sub [0, 1, 3] rfl (sjX12_missed_52 hd H kI kE)
      · have H := ip c16 H
        refine v_iconst (v := 1) (q := 49) dX12_missed_48 (by decide) rfl ?_
        refine v_goto (q := 53) dX12_missed_49 (by decide) ?_
        exact V.sub [0, 1, 3] rfl (sjX12_missed_53 hd H kI kE)
def fX12_missed (h : Hp) (v0 : Nat) : Option (Int32 × Hp) :=
(gO h 12 v0).bind fun _ =>
(fX12_kindsTold h v0).bind fun x2 =>
(gO x2.2 12 v0).bind fun _ =>
(fX12_leastNow x2.2 v0).bind fun x4 =>
if x4.1 = 0 then (
some (((0 : Int32), x4.2))) else (
(lp (bX12_missed_18 v0 x2.1 x4.2) FU ((0 : Int32), (0 : Int32))).bind fun e17 =>
some (e17, x4.2))
set_option maxRecDepth 20000 in
set_option maxHeartbeats 4000000 in
theorem sX12_missed {Γ : Gm} {d : Nat} (hd : 11 ≤ d) {h : Hp} {v0 : Nat} {r : Int32 × Hp} (H : fX12_missed h v0 = some r) : V Γ d mX12_missed 0 [(0, .ref v0)] [] h (some (.int r.1), r.2) := by
  unfold fX12_missed at H
  refine v_aload_n (q := 1) 0 dX12_missed_0 rfl rfl rfl ?_
  obtain ⟨_, o1, H⟩ := bs H
  obtain ⟨x2, x2e, H⟩ := bs H
  refine u_callV1 (M' := mX12_kindsTold) (d' := 9) (rc := (RX12, TX12, 58)) (As := []) (st := []) (q := 4) oX12_kindsTold dX12_missed_1 w1992 w1994 w0133 rfl rfl (gO_sp o1).1 (gO_sp o1).2 rfl (Nat.le_of_ble_eq_true rfl) (Nat.le_of_ble_eq_true rfl) (Nat.lt_of_lt_of_le (by decide) hd) rfl (sX12_kindsTold (Nat.le_refl _) x2e) rfl ?_
  refine v_istore_n (L' := [(1, .int x2.1), (0, .ref v0)]) (q := 5) dX12_missed_4 rfl (by decide) rfl rfl ?_
  refine v_aload_n (q := 6) 1 dX12_missed_5 rfl rfl rfl ?_
  obtain ⟨_, o3, H⟩ := bs H
  obtain ⟨x4, x4e, H⟩ := bs H
  refine u_callV1 (M' := mX12_leastNow) (d' := 10) (rc := (RX12, TX12, 58)) (As := []) (st := []) (q := 9) oX12_leastNow dX12_missed_6 w1981 w1983 w0132 rfl rfl (gO_sp o3).1 (gO_sp o3).2 rfl (Nat.le_of_ble_eq_true rfl) (Nat.le_of_ble_eq_true rfl) (Nat.lt_of_lt_of_le (by decide) hd) rfl (sX12_leastNow (Nat.le_refl _) x4e) rfl ?_
  refine v_if_ne (q1 := 14) (q2 := 12) dX12_missed_9 (by decide) rfl (fun c5 => ?_) (fun c5 => ?_)
  · have H := ine c5 H
    refine v_iconst (v := 0) (q := 15) dX12_missed_14 (by decide) rfl ?_
    refine v_istore_n (L' := [(2, .int (0 : Int32)), (1, .int x2.1), (0, .ref v0)]) (q := 16) dX12_missed_15 rfl (by decide) rfl rfl ?_
    refine v_iconst (v := 0) (q := 17) dX12_missed_16 (by decide) rfl ?_
    refine v_istore_n (L' := [(3, .int (0 : Int32)), (2, .int (0 : Int32)), (1, .int x2.1), (0, .ref v0)]) (q := 18) dX12_missed_17 rfl (by decide) rfl rfl ?_
    obtain ⟨e17, e17L, H⟩ := bs H
    refine V.sub [3, 2, 1, 0] rfl ?_
    refine lp_V (P := (fun s18 => V Γ d mX12_missed 18 [(0, .ref v0), (1, .int x2.1), (2, .int s18.1), (3, .int s18.2)] [] x4.2 (some (.int r.1), r.2))) (E := (fun e => V Γ d mX12_missed 61 [(2, .int e)] [] x4.2 (some (.int r.1), r.2))) (fun s r hb kI kE => sbX12_missed_18 hd (s18 := s) (r := r) hb kI kE) FU ((0 : Int32), (0 : Int32)) e17 e17L ?_
    refine v_iload_n (q := 62) 0 dX12_missed_61 rfl rfl rfl ?_
    cases H
    exact v_ireturn rfl dX12_missed_62
  · have H := ip c5 H
    refine v_iconst (v := 0) (q := 13) dX12_missed_12 (by decide) rfl ?_
    cases H
    exact v_ireturn rfl dX12_missed_13
def mX12_more : MI := (yX12_more, cX12_more, 2, some .int)
theorem oX12_more : mOK mX12_more 2 := ⟨by decide +kernel, by decide +kernel, by decide +kernel, by decide, w1935, w0150⟩
def jX12_more_10 (y0 : Int32) (h : Hp) : Option (Int32) :=
some y0
set_option maxRecDepth 20000 in
set_option maxHeartbeats 4000000 in
theorem sjX12_more_10 {Γ : Gm} {d : Nat} (hd : 1 ≤ d) {y0 : Int32} {h : Hp} {r : Int32} (H : jX12_more_10 y0 h = some r) : V Γ d mX12_more 10 [] [.int y0] h (some (.int r), h) := by
  unfold jX12_more_10 at H
  cases H
  exact v_ireturn rfl dX12_more_10
def fX12_more (h : Hp) (v0 : Int32) (v1 : Int32) : Option (Int32) :=
if v0 ≤ v1 then (
jX12_more_10 v1 h) else (
jX12_more_10 v0 h)
set_option maxRecDepth 20000 in
set_option maxHeartbeats 4000000 in
theorem sX12_more {Γ : Gm} {d : Nat} (hd : 1 ≤ d) {h : Hp} {v0 : Int32} {v1 : Int32} {r : Int32} (H : fX12_more h v0 v1 = some r) : V Γ d mX12_more 0 [(0, .int v0), (1, .int v1)] [] h (some (.int r), h) := by
  unfold fX12_more at H
  refine v_iload_n (q := 1) 0 dX12_more_0 rfl rfl rfl ?_
  refine v_iload_n (q := 2) 1 dX12_more_1 rfl rfl rfl ?_
  refine v_icmp_le (q1 := 9) (q2 := 5) dX12_more_2 (by decide) rfl (fun c1 => ?_) (fun c1 => ?_)
  · have H := ip c1 H
    refine v_iload_n (q := 10) 1 dX12_more_9 rfl rfl rfl ?_
    exact V.sub [] rfl (sjX12_more_10 hd H)
  · have H := ine c1 H
    refine v_iload_n (q := 6) 0 dX12_more_5 rfl rfl rfl ?_
    refine v_goto (q := 10) dX12_more_6 (by decide) ?_
    exact V.sub [] rfl (sjX12_more_10 hd H)
def mX12_move : MI := (yX12_move, cX12_move, 7, some .int)
theorem oX12_move : mOK mX12_move 3 := ⟨by decide +kernel, by decide +kernel, by decide +kernel, by decide, w1972, w0150⟩
def jX12_move_32 (h : Hp) : Option (Int32 × Hp) :=
some (((-2 : Int32), h))
set_option maxRecDepth 20000 in
set_option maxHeartbeats 4000000 in
theorem sjX12_move_32 {Γ : Gm} {d : Nat} (hd : 9 ≤ d) {h : Hp} {r : Int32 × Hp} (H : jX12_move_32 h = some r) : V Γ d mX12_move 32 [] [] h (some (.int r.1), r.2) := by
  unfold jX12_move_32 at H
  refine v_bipush (v := -2) (q := 34) dX12_move_32 (by decide) rfl ?_
  cases H
  exact v_ireturn rfl dX12_move_34
def bX12_move_72 (u0 : Nat) (u2 : Int32) (u3 : Int32) (h : Hp) (s72 : Int32 × Int32) : Option ((Int32 × Int32) ⊕ (Int32)) :=
if s72.2 ≤ u2 then (
some (.inr s72.1)) else (
(gR h 12 u0 42).bind fun x19 =>
(lI h .int x19 s72.1).bind fun x20 =>
(some (s72.2 + (-1 : Int32))).bind fun x21 =>
some (.inl (x20, x21)))
set_option maxRecDepth 20000 in
set_option maxHeartbeats 4000000 in
theorem sbX12_move_72 {Γ : Gm} {d : Nat} (hd : 9 ≤ d) {u0 : Nat} {u2 : Int32} {u3 : Int32} {h : Hp} {s72 : Int32 × Int32} {r : (Int32 × Int32) ⊕ (Int32)} {t : Option Value × Hp} (H : bX12_move_72 u0 u2 u3 h s72 = some r) (kI : ∀ s, r = .inl s → (fun s72 => V Γ d mX12_move 72 [(0, .ref u0), (2, .int u2), (3, .int u3), (5, .int s72.1), (6, .int s72.2)] [] h t) s) (kE : ∀ e, r = .inr e → (fun e => V Γ d mX12_move 93 [(0, .ref u0), (3, .int u3), (5, .int e)] [] h t) e) : V Γ d mX12_move 72 [(0, .ref u0), (2, .int u2), (3, .int u3), (5, .int s72.1), (6, .int s72.2)] [] h t := by
  unfold bX12_move_72 at H
  refine v_iload (q := 74) 4 dX12_move_72 rfl rfl ?_
  refine v_iload_n (q := 75) 1 dX12_move_74 rfl rfl rfl ?_
  refine v_icmp_le (q1 := 93) (q2 := 78) dX12_move_75 (by decide) rfl (fun c18 => ?_) (fun c18 => ?_)
  · have H := ip c18 H
    exact V.sub [0, 2, 3] rfl (kE s72.1 (Option.some.inj H).symm)
  · have H := ine c18 H
    refine v_aload_n (q := 79) 0 dX12_move_78 rfl rfl rfl ?_
    obtain ⟨x19, x19e, H⟩ := bs H
    refine u_gR (q := 82) (r := (RX12, TX12, 58)) x19e dX12_move_79 w1398 rfl (by decide) rfl rfl ?_
    refine v_iload (q := 84) 3 dX12_move_82 rfl rfl ?_
    obtain ⟨x20, x20e, H⟩ := bs H
    refine u_lI (q := 85) x20e dX12_move_84 rfl ?_
    refine v_istore (L' := [(5, .int x20), (0, .ref u0), (2, .int u2), (3, .int u3), (6, .int s72.2)]) (q := 87) dX12_move_85 (by decide) rfl rfl ?_
    obtain ⟨x21, x21e, H⟩ := bs H
    refine v_iinc (v := x21) (L' := [(6, .int x21), (5, .int x20), (0, .ref u0), (2, .int u2), (3, .int u3)]) (q := 90) 4 dX12_move_87 rfl (Option.some.inj x21e) (by decide) rfl rfl ?_
    refine v_goto (q := 72) dX12_move_90 (by decide) ?_
    exact V.sub [2, 3, 4, 1, 0] rfl (kI (x20, x21) (Option.some.inj H).symm)
def jX12_move_114 (y0 : Int32) (h : Hp) : Option (Int32 × Hp) :=
some (y0, h)
set_option maxRecDepth 20000 in
set_option maxHeartbeats 4000000 in
theorem sjX12_move_114 {Γ : Gm} {d : Nat} (hd : 9 ≤ d) {y0 : Int32} {h : Hp} {r : Int32 × Hp} (H : jX12_move_114 y0 h = some r) : V Γ d mX12_move 114 [] [.int y0] h (some (.int r.1), r.2) := by
  unfold jX12_move_114 at H
  cases H
  exact v_ireturn rfl dX12_move_114
def fX12_move (h : Hp) (v0 : Nat) (v1 : Int32) (v2 : Int32) (v3 : Int32) : Option (Int32 × Hp) :=
(gO h 12 v0).bind fun _ =>
(fX12_isSet h v0 v1).bind fun x2 =>
if x2 = 0 then (
jX12_move_32 h) else (
(fX12_isIn h v3 (0 : Int32) (1 : Int32)).bind fun x4 =>
if x4 = 0 then (
jX12_move_32 h) else (
(gO h 12 v0).bind fun _ =>
(fX12_search h v0 v1).bind fun x7 =>
if x7.1 = 0 then (
jX12_move_32 x7.2) else (
(gI x7.2 12 v0 47).bind fun x9 =>
if 0 ≤ x9 then (
(gI x7.2 12 v0 47).bind fun x11 =>
(gO x7.2 12 v0).bind fun _ =>
(fX12_movesTo x7.2 v0 x11).bind fun x13 =>
(fX12_isIn x7.2 v2 (0 : Int32) (x13 - (1 : Int32))).bind fun x14 =>
if x14 = 0 then (
some (((-2 : Int32), x7.2))) else (
(gI x7.2 12 v0 47).bind fun x16 =>
(some (x13 - (1 : Int32))).bind fun x17 =>
(lp (bX12_move_72 v0 v2 v3 x7.2) FU (x16, x17)).bind fun e22 =>
if v3 = 0 then (
(gR x7.2 12 v0 43).bind fun x26 =>
(lI x7.2 .int x26 e22).bind fun x27 =>
jX12_move_114 x27 x7.2) else (
(gR x7.2 12 v0 44).bind fun x24 =>
(lI x7.2 .int x24 e22).bind fun x25 =>
jX12_move_114 x25 x7.2))) else (
jX12_move_32 x7.2))))
set_option maxRecDepth 20000 in
set_option maxHeartbeats 4000000 in
theorem sX12_move {Γ : Gm} {d : Nat} (hd : 9 ≤ d) {h : Hp} {v0 : Nat} {v1 : Int32} {v2 : Int32} {v3 : Int32} {r : Int32 × Hp} (H : fX12_move h v0 v1 v2 v3 = some r) : V Γ d mX12_move 0 [(0, .ref v0), (1, .int v1), (2, .int v2), (3, .int v3)] [] h (some (.int r.1), r.2) := by
  unfold fX12_move at H
  refine v_aload_n (q := 1) 0 dX12_move_0 rfl rfl rfl ?_
  refine v_iload_n (q := 2) 1 dX12_move_1 rfl rfl rfl ?_
  obtain ⟨_, o1, H⟩ := bs H
  obtain ⟨x2, x2e, H⟩ := bs H
  refine u_callV1 (M' := mX12_isSet) (d' := 3) (rc := (RX12, TX12, 58)) (As := [.int v1]) (st := []) (q := 5) oX12_isSet dX12_move_2 w1842 w1844 w0106 rfl rfl (gO_sp o1).1 (gO_sp o1).2 rfl (Nat.le_of_ble_eq_true rfl) (Nat.le_of_ble_eq_true rfl) (Nat.lt_of_lt_of_le (by decide) hd) rfl (sX12_isSet (Nat.le_refl _) x2e) rfl ?_
  refine v_if_eq (q1 := 32) (q2 := 8) dX12_move_5 (by decide) rfl (fun c3 => ?_) (fun c3 => ?_)
  · have H := ip c3 H
    exact V.sub [] rfl (sjX12_move_32 hd H)
  · have H := ine c3 H
    refine v_iload_n (q := 9) 3 dX12_move_8 rfl rfl rfl ?_
    refine v_iconst (v := 0) (q := 10) dX12_move_9 (by decide) rfl ?_
    refine v_iconst (v := 1) (q := 11) dX12_move_10 (by decide) rfl ?_
    obtain ⟨x4, x4e, H⟩ := bs H
    refine u_callS1 (M' := mX12_isIn) (d' := 1) (As := [.int v3, .int (0 : Int32), .int (1 : Int32)]) (st := []) (q := 14) oX12_isIn dX12_move_11 w1618 w1619 rfl (Nat.le_of_ble_eq_true rfl) (Nat.le_of_ble_eq_true rfl) (Nat.lt_of_lt_of_le (by decide) hd) rfl (sX12_isIn (Nat.le_refl _) x4e) rfl ?_
    refine v_if_eq (q1 := 32) (q2 := 17) dX12_move_14 (by decide) rfl (fun c5 => ?_) (fun c5 => ?_)
    · have H := ip c5 H
      exact V.sub [] rfl (sjX12_move_32 hd H)
    · have H := ine c5 H
      refine v_aload_n (q := 18) 0 dX12_move_17 rfl rfl rfl ?_
      refine v_iload_n (q := 19) 1 dX12_move_18 rfl rfl rfl ?_
      obtain ⟨_, o6, H⟩ := bs H
      obtain ⟨x7, x7e, H⟩ := bs H
      refine u_callV1 (M' := mX12_search) (d' := 8) (rc := (RX12, TX12, 58)) (As := [.int v1]) (st := []) (q := 22) oX12_search dX12_move_19 w1849 w1851 w0107 rfl rfl (gO_sp o6).1 (gO_sp o6).2 rfl (Nat.le_of_ble_eq_true rfl) (Nat.le_of_ble_eq_true rfl) (Nat.lt_of_lt_of_le (by decide) hd) rfl (sX12_search (Nat.le_refl _) x7e) rfl ?_
      refine v_if_eq (q1 := 32) (q2 := 25) dX12_move_22 (by decide) rfl (fun c8 => ?_) (fun c8 => ?_)
      · have H := ip c8 H
        exact V.sub [] rfl (sjX12_move_32 hd H)
      · have H := ine c8 H
        refine v_aload_n (q := 26) 0 dX12_move_25 rfl rfl rfl ?_
        obtain ⟨x9, x9e, H⟩ := bs H
        refine u_gI (q := 29) (r := (RX12, TX12, 58)) x9e dX12_move_26 w1403 rfl (by decide) rfl rfl ?_
        refine v_if_ge (q1 := 35) (q2 := 32) dX12_move_29 (by decide) rfl (fun c10 => ?_) (fun c10 => ?_)
        · have H := ip c10 H
          refine v_aload_n (q := 36) 0 dX12_move_35 rfl rfl rfl ?_
          refine v_aload_n (q := 37) 0 dX12_move_36 rfl rfl rfl ?_
          obtain ⟨x11, x11e, H⟩ := bs H
          refine u_gI (q := 40) (r := (RX12, TX12, 58)) x11e dX12_move_37 w1403 rfl (by decide) rfl rfl ?_
          obtain ⟨_, o12, H⟩ := bs H
          obtain ⟨x13, x13e, H⟩ := bs H
          refine u_callV1 (M' := mX12_movesTo) (d' := 1) (rc := (RX12, TX12, 58)) (As := [.int x11]) (st := []) (q := 43) oX12_movesTo dX12_move_40 w1917 w1919 w0124 rfl rfl (gO_sp o12).1 (gO_sp o12).2 rfl (Nat.le_of_ble_eq_true rfl) (Nat.le_of_ble_eq_true rfl) (Nat.lt_of_lt_of_le (by decide) hd) rfl (sX12_movesTo (Nat.le_refl _) x13e) rfl ?_
          refine v_istore (L' := [(4, .int x13), (0, .ref v0), (1, .int v1), (2, .int v2), (3, .int v3)]) (q := 45) dX12_move_43 (by decide) rfl rfl ?_
          refine v_iload_n (q := 46) 3 dX12_move_45 rfl rfl rfl ?_
          refine v_iconst (v := 0) (q := 47) dX12_move_46 (by decide) rfl ?_
          refine v_iload (q := 49) 0 dX12_move_47 rfl rfl ?_
          refine v_iconst (v := 1) (q := 50) dX12_move_49 (by decide) rfl ?_
          refine v_isub (q := 51) dX12_move_50 rfl ?_
          obtain ⟨x14, x14e, H⟩ := bs H
          refine u_callS1 (M' := mX12_isIn) (d' := 1) (As := [.int v2, .int (0 : Int32), .int (x13 - (1 : Int32))]) (st := []) (q := 54) oX12_isIn dX12_move_51 w1618 w1619 rfl (Nat.le_of_ble_eq_true rfl) (Nat.le_of_ble_eq_true rfl) (Nat.lt_of_lt_of_le (by decide) hd) rfl (sX12_isIn (Nat.le_refl _) x14e) rfl ?_
          refine v_if_ne (q1 := 60) (q2 := 57) dX12_move_54 (by decide) rfl (fun c15 => ?_) (fun c15 => ?_)
          · have H := ine c15 H
            refine v_aload_n (q := 61) 1 dX12_move_60 rfl rfl rfl ?_
            obtain ⟨x16, x16e, H⟩ := bs H
            refine u_gI (q := 64) (r := (RX12, TX12, 58)) x16e dX12_move_61 w1403 rfl (by decide) rfl rfl ?_
            refine v_istore (L' := [(5, .int x16), (4, .int x13), (0, .ref v0), (1, .int v1), (2, .int v2), (3, .int v3)]) (q := 66) dX12_move_64 (by decide) rfl rfl ?_
            refine v_iload (q := 68) 1 dX12_move_66 rfl rfl ?_
            refine v_iconst (v := 1) (q := 69) dX12_move_68 (by decide) rfl ?_
            refine v_isub (q := 70) dX12_move_69 rfl ?_
            obtain ⟨x17, x17e, H⟩ := bs H
            refine v_topi (Option.some.inj x17e) ?_
            refine v_istore (L' := [(6, .int x17), (5, .int x16), (4, .int x13), (0, .ref v0), (1, .int v1), (2, .int v2), (3, .int v3)]) (q := 72) dX12_move_70 (by decide) rfl rfl ?_
            obtain ⟨e22, e22L, H⟩ := bs H
            refine V.sub [3, 5, 6, 1, 0] rfl ?_
            refine lp_V (P := (fun s72 => V Γ d mX12_move 72 [(0, .ref v0), (2, .int v2), (3, .int v3), (5, .int s72.1), (6, .int s72.2)] [] x7.2 (some (.int r.1), r.2))) (E := (fun e => V Γ d mX12_move 93 [(0, .ref v0), (3, .int v3), (5, .int e)] [] x7.2 (some (.int r.1), r.2))) (fun s r hb kI kE => sbX12_move_72 hd (s72 := s) (r := r) hb kI kE) FU (x16, x17) e22 e22L ?_
            refine v_iload_n (q := 94) 1 dX12_move_93 rfl rfl rfl ?_
            refine v_if_ne (q1 := 107) (q2 := 97) dX12_move_94 (by decide) rfl (fun c23 => ?_) (fun c23 => ?_)
            · have H := ine c23 H
              refine v_aload_n (q := 108) 0 dX12_move_107 rfl rfl rfl ?_
              obtain ⟨x24, x24e, H⟩ := bs H
              refine u_gR (q := 111) (r := (RX12, TX12, 58)) x24e dX12_move_108 w1400 rfl (by decide) rfl rfl ?_
              refine v_iload (q := 113) 2 dX12_move_111 rfl rfl ?_
              obtain ⟨x25, x25e, H⟩ := bs H
              refine u_lI (q := 114) x25e dX12_move_113 rfl ?_
              exact V.sub [] rfl (sjX12_move_114 hd H)
            · have H := ip c23 H
              refine v_aload_n (q := 98) 0 dX12_move_97 rfl rfl rfl ?_
              obtain ⟨x26, x26e, H⟩ := bs H
              refine u_gR (q := 101) (r := (RX12, TX12, 58)) x26e dX12_move_98 w1399 rfl (by decide) rfl rfl ?_
              refine v_iload (q := 103) 2 dX12_move_101 rfl rfl ?_
              obtain ⟨x27, x27e, H⟩ := bs H
              refine u_lI (q := 104) x27e dX12_move_103 rfl ?_
              refine v_goto (q := 114) dX12_move_104 (by decide) ?_
              exact V.sub [] rfl (sjX12_move_114 hd H)
          · have H := ip c15 H
            refine v_bipush (v := -2) (q := 59) dX12_move_57 (by decide) rfl ?_
            cases H
            exact v_ireturn rfl dX12_move_59
        · have H := ine c10 H
          exact V.sub [] rfl (sjX12_move_32 hd H)
def mX12_nameHere : MI := (yX12_nameHere, cX12_nameHere, 2, some .int)
theorem oX12_nameHere : mOK mX12_nameHere 0 := ⟨by decide +kernel, by decide +kernel, by decide +kernel, by decide, w1593, w0150⟩
def bX12_nameHere_2 (u0 : Nat) (h : Hp) (s2 : Int32) : Option ((Int32) ⊕ ((Unit) ⊕ (Int32))) :=
(gI h 12 u0 26).bind fun x1 =>
if x1 ≤ s2 then (
some (.inr (.inl ()))) else (
(gO h 12 u0).bind fun _ =>
(fX12_isNamed h u0 s2).bind fun x4 =>
if x4 = 0 then (
(some (s2 + (1 : Int32))).bind fun x6 =>
some (.inl x6)) else (
some (.inr (.inr s2))))
set_option maxRecDepth 20000 in
set_option maxHeartbeats 4000000 in
theorem sbX12_nameHere_2 {Γ : Gm} {d : Nat} (hd : 2 ≤ d) {u0 : Nat} {h : Hp} {s2 : Int32} {r : (Int32) ⊕ ((Unit) ⊕ (Int32))} {t : Option Value × Hp} (H : bX12_nameHere_2 u0 h s2 = some r) (kI : ∀ s, r = .inl s → (fun s2 => V Γ d mX12_nameHere 2 [(0, .ref u0), (1, .int s2)] [] h t) s) (kE : ∀ e, r = .inr e → (fun e => (match e with | .inl a0 => V Γ d mX12_nameHere 26 [] [] h t | .inr b0 => V Γ d mX12_nameHere 18 [(1, .int b0)] [] h t)) e) : V Γ d mX12_nameHere 2 [(0, .ref u0), (1, .int s2)] [] h t := by
  unfold bX12_nameHere_2 at H
  refine v_iload_n (q := 3) 1 dX12_nameHere_2 rfl rfl rfl ?_
  refine v_aload_n (q := 4) 0 dX12_nameHere_3 rfl rfl rfl ?_
  obtain ⟨x1, x1e, H⟩ := bs H
  refine u_gI (q := 7) (r := (RX12, TX12, 58)) x1e dX12_nameHere_4 w1382 rfl (by decide) rfl rfl ?_
  refine v_icmp_ge (q1 := 26) (q2 := 10) dX12_nameHere_7 (by decide) rfl (fun c2 => ?_) (fun c2 => ?_)
  · have H := ip c2 H
    exact V.sub [] rfl (kE (.inl ()) (Option.some.inj H).symm)
  · have H := ine c2 H
    refine v_aload_n (q := 11) 0 dX12_nameHere_10 rfl rfl rfl ?_
    refine v_iload_n (q := 12) 1 dX12_nameHere_11 rfl rfl rfl ?_
    obtain ⟨_, o3, H⟩ := bs H
    obtain ⟨x4, x4e, H⟩ := bs H
    refine u_callV1 (M' := mX12_isNamed) (d' := 1) (rc := (RX12, TX12, 58)) (As := [.int s2]) (st := []) (q := 15) oX12_isNamed dX12_nameHere_12 w1594 w1596 w0065 rfl rfl (gO_sp o3).1 (gO_sp o3).2 rfl (Nat.le_of_ble_eq_true rfl) (Nat.le_of_ble_eq_true rfl) (Nat.lt_of_lt_of_le (by decide) hd) rfl (sX12_isNamed (Nat.le_refl _) x4e) rfl ?_
    refine v_if_eq (q1 := 20) (q2 := 18) dX12_nameHere_15 (by decide) rfl (fun c5 => ?_) (fun c5 => ?_)
    · have H := ip c5 H
      obtain ⟨x6, x6e, H⟩ := bs H
      refine v_iinc (v := x6) (L' := [(1, .int x6), (0, .ref u0)]) (q := 23) 1 dX12_nameHere_20 rfl (Option.some.inj x6e) (by decide) rfl rfl ?_
      refine v_goto (q := 2) dX12_nameHere_23 (by decide) ?_
      exact V.sub [1, 0] rfl (kI x6 (Option.some.inj H).symm)
    · have H := ine c5 H
      exact V.sub [1] rfl (kE (.inr s2) (Option.some.inj H).symm)
def fX12_nameHere (h : Hp) (v0 : Nat) : Option (Int32) :=
(lp (bX12_nameHere_2 v0 h) FU (0 : Int32)).bind fun e7 =>
(match e7 with
| .inl e8 => (
some (-1 : Int32))
| .inr e9 => (
some e9))
set_option maxRecDepth 20000 in
set_option maxHeartbeats 4000000 in
theorem sX12_nameHere {Γ : Gm} {d : Nat} (hd : 2 ≤ d) {h : Hp} {v0 : Nat} {r : Int32} (H : fX12_nameHere h v0 = some r) : V Γ d mX12_nameHere 0 [(0, .ref v0)] [] h (some (.int r), h) := by
  unfold fX12_nameHere at H
  refine v_iconst (v := 0) (q := 1) dX12_nameHere_0 (by decide) rfl ?_
  refine v_istore_n (L' := [(1, .int (0 : Int32)), (0, .ref v0)]) (q := 2) dX12_nameHere_1 rfl (by decide) rfl rfl ?_
  obtain ⟨e7, e7L, H⟩ := bs H
  refine V.sub [1, 0] rfl ?_
  refine lp_V (P := (fun s2 => V Γ d mX12_nameHere 2 [(0, .ref v0), (1, .int s2)] [] h (some (.int r), h))) (E := (fun e => (match e with | .inl a0 => V Γ d mX12_nameHere 26 [] [] h (some (.int r), h) | .inr b0 => V Γ d mX12_nameHere 18 [(1, .int b0)] [] h (some (.int r), h)))) (fun s r hb kI kE => sbX12_nameHere_2 hd (s2 := s) (r := r) hb kI kE) FU (0 : Int32) e7 e7L ?_
  rcases e7 with e8 | e9
  · skip
    refine v_iconst (v := -1) (q := 27) dX12_nameHere_26 (by decide) rfl ?_
    cases H
    exact v_ireturn rfl dX12_nameHere_27
  · skip
    refine v_iload_n (q := 19) 0 dX12_nameHere_18 rfl rfl rfl ?_
    cases H
    exact v_ireturn rfl dX12_nameHere_19
def mX12_signAt : MI := (yX12_signAt, cX12_signAt, 2, some .int)
theorem oX12_signAt : mOK mX12_signAt 1 := ⟨by decide +kernel, by decide +kernel, by decide +kernel, by decide, w1558, w0150⟩
def jX12_signAt_18 (y0 : Int32) (h : Hp) : Option (Int32) :=
some y0
set_option maxRecDepth 20000 in
set_option maxHeartbeats 4000000 in
theorem sjX12_signAt_18 {Γ : Gm} {d : Nat} (hd : 1 ≤ d) {y0 : Int32} {h : Hp} {r : Int32} (H : jX12_signAt_18 y0 h = some r) : V Γ d mX12_signAt 18 [] [.int y0] h (some (.int r), h) := by
  unfold jX12_signAt_18 at H
  cases H
  exact v_ireturn rfl dX12_signAt_18
def fX12_signAt (h : Hp) (v0 : Nat) (v1 : Int32) : Option (Int32) :=
(gI h 12 v0 12).bind fun x1 =>
if x1 ≤ v1 then (
jX12_signAt_18 (0 : Int32) h) else (
(gR h 12 v0 10).bind fun x3 =>
(lI h .byte x3 v1).bind fun x4 =>
jX12_signAt_18 x4 h)
set_option maxRecDepth 20000 in
set_option maxHeartbeats 4000000 in
theorem sX12_signAt {Γ : Gm} {d : Nat} (hd : 1 ≤ d) {h : Hp} {v0 : Nat} {v1 : Int32} {r : Int32} (H : fX12_signAt h v0 v1 = some r) : V Γ d mX12_signAt 0 [(0, .ref v0), (1, .int v1)] [] h (some (.int r), h) := by
  unfold fX12_signAt at H
  refine v_iload_n (q := 1) 1 dX12_signAt_0 rfl rfl rfl ?_
  refine v_aload_n (q := 2) 0 dX12_signAt_1 rfl rfl rfl ?_
  obtain ⟨x1, x1e, H⟩ := bs H
  refine u_gI (q := 5) (r := (RX12, TX12, 58)) x1e dX12_signAt_2 w1368 rfl (by decide) rfl rfl ?_
  refine v_icmp_ge (q1 := 17) (q2 := 8) dX12_signAt_5 (by decide) rfl (fun c2 => ?_) (fun c2 => ?_)
  · have H := ip c2 H
    refine v_iconst (v := 0) (q := 18) dX12_signAt_17 (by decide) rfl ?_
    exact V.sub [] rfl (sjX12_signAt_18 hd H)
  · have H := ine c2 H
    refine v_aload_n (q := 9) 0 dX12_signAt_8 rfl rfl rfl ?_
    obtain ⟨x3, x3e, H⟩ := bs H
    refine u_gR (q := 12) (r := (RX12, TX12, 58)) x3e dX12_signAt_9 w1366 rfl (by decide) rfl rfl ?_
    refine v_iload_n (q := 13) 1 dX12_signAt_12 rfl rfl rfl ?_
    obtain ⟨x4, x4e, H⟩ := bs H
    refine u_lB (q := 14) x4e dX12_signAt_13 rfl ?_
    refine v_goto (q := 18) dX12_signAt_14 (by decide) ?_
    exact V.sub [] rfl (sjX12_signAt_18 hd H)
def mX12_scanWord : MI := (yX12_scanWord, cX12_scanWord, 4, none)
theorem oX12_scanWord : mOK mX12_scanWord 0 := ⟨by decide +kernel, by decide +kernel, by decide +kernel, by decide, w1565, w0150⟩
def bX12_scanWord_13 (u0 : Nat) (s13 : Hp) : Option ((Hp) ⊕ (Hp)) :=
(gI s13 12 u0 13).bind fun x4 =>
(gO s13 12 u0).bind fun _ =>
(fX12_signAt s13 u0 x4).bind fun x6 =>
(fX12_isLetter s13 x6).bind fun x7 =>
if x7 = 0 then (
some (.inr s13)) else (
(gI s13 12 u0 13).bind fun x9 =>
(pI s13 12 u0 13 (x9 + (1 : Int32))).bind fun h10 =>
some (.inl h10))
set_option maxRecDepth 20000 in
set_option maxHeartbeats 4000000 in
theorem sbX12_scanWord_13 {Γ : Gm} {d : Nat} (hd : 2 ≤ d) {u0 : Nat} {s13 : Hp} {r : (Hp) ⊕ (Hp)} {t : Option Value × Hp} (H : bX12_scanWord_13 u0 s13 = some r) (kI : ∀ s, r = .inl s → (fun s13 => V Γ d mX12_scanWord 13 [(0, .ref u0)] [] s13 t) s) (kE : ∀ e, r = .inr e → (fun e => V Γ d mX12_scanWord 40 [(0, .ref u0)] [] e t) e) : V Γ d mX12_scanWord 13 [(0, .ref u0)] [] s13 t := by
  unfold bX12_scanWord_13 at H
  refine v_aload_n (q := 14) 0 dX12_scanWord_13 rfl rfl rfl ?_
  refine v_aload_n (q := 15) 0 dX12_scanWord_14 rfl rfl rfl ?_
  obtain ⟨x4, x4e, H⟩ := bs H
  refine u_gI (q := 18) (r := (RX12, TX12, 58)) x4e dX12_scanWord_15 w1369 rfl (by decide) rfl rfl ?_
  obtain ⟨_, o5, H⟩ := bs H
  obtain ⟨x6, x6e, H⟩ := bs H
  refine u_callV1 (M' := mX12_signAt) (d' := 1) (rc := (RX12, TX12, 58)) (As := [.int x4]) (st := []) (q := 21) oX12_signAt dX12_scanWord_18 w1555 w1557 w0056 rfl rfl (gO_sp o5).1 (gO_sp o5).2 rfl (Nat.le_of_ble_eq_true rfl) (Nat.le_of_ble_eq_true rfl) (Nat.lt_of_lt_of_le (by decide) hd) rfl (sX12_signAt (Nat.le_refl _) x6e) rfl ?_
  obtain ⟨x7, x7e, H⟩ := bs H
  refine u_callS1 (M' := mX12_isLetter) (d' := 1) (As := [.int x6]) (st := []) (q := 24) oX12_isLetter dX12_scanWord_21 w1559 w1560 rfl (Nat.le_of_ble_eq_true rfl) (Nat.le_of_ble_eq_true rfl) (Nat.lt_of_lt_of_le (by decide) hd) rfl (sX12_isLetter (Nat.le_refl _) x7e) rfl ?_
  refine v_if_eq (q1 := 40) (q2 := 27) dX12_scanWord_24 (by decide) rfl (fun c8 => ?_) (fun c8 => ?_)
  · have H := ip c8 H
    exact V.sub [0] rfl (kE s13 (Option.some.inj H).symm)
  · have H := ine c8 H
    refine v_aload_n (q := 28) 0 dX12_scanWord_27 rfl rfl rfl ?_
    refine v_dup (q := 29) dX12_scanWord_28 rfl rfl ?_
    obtain ⟨x9, x9e, H⟩ := bs H
    refine u_gI (q := 32) (r := (RX12, TX12, 58)) x9e dX12_scanWord_29 w1369 rfl (by decide) rfl rfl ?_
    refine v_iconst (v := 1) (q := 33) dX12_scanWord_32 (by decide) rfl ?_
    refine v_iadd (q := 34) dX12_scanWord_33 rfl ?_
    obtain ⟨h10, h10e, H⟩ := bs H
    refine u_pI (q := 37) (r := (RX12, TX12, 58)) h10e dX12_scanWord_34 w1369 rfl (by decide) (Or.inl rfl) rfl rfl ?_
    refine v_goto (q := 13) dX12_scanWord_37 (by decide) ?_
    exact V.sub [0] rfl (kI h10 (Option.some.inj H).symm)
def bX12_scanWord_57 (u0 : Nat) (u1 : Int32) (u2 : Int32) (h : Hp) (s57 : Int32) : Option ((Int32) ⊕ (Int32)) :=
(gR h 12 u0 21).bind fun x14 =>
(lI h .byte x14 s57).bind fun x15 =>
if x15 = (32 : Int32) then (
some (.inr s57)) else (
(some (s57 + (1 : Int32))).bind fun x17 =>
some (.inl x17))
set_option maxRecDepth 20000 in
set_option maxHeartbeats 4000000 in
theorem sbX12_scanWord_57 {Γ : Gm} {d : Nat} (hd : 2 ≤ d) {u0 : Nat} {u1 : Int32} {u2 : Int32} {h : Hp} {s57 : Int32} {r : (Int32) ⊕ (Int32)} {t : Option Value × Hp} (H : bX12_scanWord_57 u0 u1 u2 h s57 = some r) (kI : ∀ s, r = .inl s → (fun s57 => V Γ d mX12_scanWord 57 [(0, .ref u0), (1, .int u1), (2, .int u2), (3, .int s57)] [] h t) s) (kE : ∀ e, r = .inr e → (fun e => V Γ d mX12_scanWord 74 [(0, .ref u0), (1, .int u1), (2, .int u2), (3, .int e)] [] h t) e) : V Γ d mX12_scanWord 57 [(0, .ref u0), (1, .int u1), (2, .int u2), (3, .int s57)] [] h t := by
  unfold bX12_scanWord_57 at H
  refine v_aload_n (q := 58) 0 dX12_scanWord_57 rfl rfl rfl ?_
  obtain ⟨x14, x14e, H⟩ := bs H
  refine u_gR (q := 61) (r := (RX12, TX12, 58)) x14e dX12_scanWord_58 w1377 rfl (by decide) rfl rfl ?_
  refine v_iload_n (q := 62) 3 dX12_scanWord_61 rfl rfl rfl ?_
  obtain ⟨x15, x15e, H⟩ := bs H
  refine u_lB (q := 63) x15e dX12_scanWord_62 rfl ?_
  refine v_bipush (v := 32) (q := 65) dX12_scanWord_63 (by decide) rfl ?_
  refine v_icmp_eq (q1 := 74) (q2 := 68) dX12_scanWord_65 (by decide) rfl (fun c16 => ?_) (fun c16 => ?_)
  · have H := ip c16 H
    exact V.sub [0, 1, 2, 3] rfl (kE s57 (Option.some.inj H).symm)
  · have H := ine c16 H
    obtain ⟨x17, x17e, H⟩ := bs H
    refine v_iinc (v := x17) (L' := [(3, .int x17), (0, .ref u0), (1, .int u1), (2, .int u2)]) (q := 71) 3 dX12_scanWord_68 rfl (Option.some.inj x17e) (by decide) rfl rfl ?_
    refine v_goto (q := 57) dX12_scanWord_71 (by decide) ?_
    exact V.sub [1, 2, 3, 0] rfl (kI x17 (Option.some.inj H).symm)
def jX12_scanWord_88 (u0 : Nat) (v2 : Int32) (v3 : Int32) (h : Hp) : Option ((Int32 × Int32 × Hp) ⊕ (Hp)) :=
(some (v3 + (1 : Int32))).bind fun x22 =>
(some (v2 + (1 : Int32))).bind fun x23 =>
some (.inl (x22, x23, h))
set_option maxRecDepth 20000 in
set_option maxHeartbeats 4000000 in
theorem sjX12_scanWord_88 {Γ : Gm} {d : Nat} (hd : 2 ≤ d) {u0 : Nat} {v2 : Int32} {v3 : Int32} {h : Hp} {r : (Int32 × Int32 × Hp) ⊕ (Hp)} {t : Option Value × Hp} (H : jX12_scanWord_88 u0 v2 v3 h = some r) (kI : ∀ s, r = .inl s → (fun s49 => V Γ d mX12_scanWord 49 [(0, .ref u0), (1, .int s49.1), (2, .int s49.2.1)] [] s49.2.2 t) s) (kE : ∀ e, r = .inr e → (fun e => V Γ d mX12_scanWord 98 [] [] e t) e) : V Γ d mX12_scanWord 88 [(0, .ref u0), (2, .int v2), (3, .int v3)] [] h t := by
  unfold jX12_scanWord_88 at H
  refine v_iload_n (q := 89) 2 dX12_scanWord_88 rfl rfl rfl ?_
  refine v_iconst (v := 1) (q := 90) dX12_scanWord_89 (by decide) rfl ?_
  refine v_iadd (q := 91) dX12_scanWord_90 rfl ?_
  obtain ⟨x22, x22e, H⟩ := bs H
  refine v_topi (Option.some.inj x22e) ?_
  refine v_istore_n (L' := [(1, .int x22), (0, .ref u0), (2, .int v2), (3, .int v3)]) (q := 92) dX12_scanWord_91 rfl (by decide) rfl rfl ?_
  obtain ⟨x23, x23e, H⟩ := bs H
  refine v_iinc (v := x23) (L' := [(2, .int x23), (1, .int x22), (0, .ref u0), (3, .int v3)]) (q := 95) 2 dX12_scanWord_92 rfl (Option.some.inj x23e) (by decide) rfl rfl ?_
  refine v_goto (q := 49) dX12_scanWord_95 (by decide) ?_
  exact V.sub [2, 1, 0] rfl (kI (x22, x23, h) (Option.some.inj H).symm)
def bX12_scanWord_49 (u0 : Nat) (s49 : Int32 × Int32 × Hp) : Option ((Int32 × Int32 × Hp) ⊕ (Hp)) :=
if (15 : Int32) ≤ s49.2.1 then (
some (.inr s49.2.2)) else (
(lp (bX12_scanWord_57 u0 s49.1 s49.2.1 s49.2.2) FU s49.1).bind fun e18 =>
(gO s49.2.2 12 u0).bind fun _ =>
(fX12_isSame s49.2.2 u0 s49.1 e18).bind fun x20 =>
if x20 = 0 then (
jX12_scanWord_88 u0 s49.2.1 e18 s49.2.2) else (
(pI s49.2.2 12 u0 16 s49.2.1).bind fun h24 =>
jX12_scanWord_88 u0 s49.2.1 e18 h24))
set_option maxRecDepth 20000 in
set_option maxHeartbeats 4000000 in
theorem sbX12_scanWord_49 {Γ : Gm} {d : Nat} (hd : 2 ≤ d) {u0 : Nat} {s49 : Int32 × Int32 × Hp} {r : (Int32 × Int32 × Hp) ⊕ (Hp)} {t : Option Value × Hp} (H : bX12_scanWord_49 u0 s49 = some r) (kI : ∀ s, r = .inl s → (fun s49 => V Γ d mX12_scanWord 49 [(0, .ref u0), (1, .int s49.1), (2, .int s49.2.1)] [] s49.2.2 t) s) (kE : ∀ e, r = .inr e → (fun e => V Γ d mX12_scanWord 98 [] [] e t) e) : V Γ d mX12_scanWord 49 [(0, .ref u0), (1, .int s49.1), (2, .int s49.2.1)] [] s49.2.2 t := by
  unfold bX12_scanWord_49 at H
  refine v_iload_n (q := 50) 2 dX12_scanWord_49 rfl rfl rfl ?_
  refine v_bipush (v := 15) (q := 52) dX12_scanWord_50 (by decide) rfl ?_
  refine v_icmp_ge (q1 := 98) (q2 := 55) dX12_scanWord_52 (by decide) rfl (fun c13 => ?_) (fun c13 => ?_)
  · have H := ip c13 H
    exact V.sub [] rfl (kE s49.2.2 (Option.some.inj H).symm)
  · have H := ine c13 H
    refine v_iload_n (q := 56) 1 dX12_scanWord_55 rfl rfl rfl ?_
    refine v_istore_n (L' := [(3, .int s49.1), (0, .ref u0), (1, .int s49.1), (2, .int s49.2.1)]) (q := 57) dX12_scanWord_56 rfl (by decide) rfl rfl ?_
    obtain ⟨e18, e18L, H⟩ := bs H
    refine V.sub [1, 2, 3, 0] rfl ?_
    refine lp_V (P := (fun s57 => V Γ d mX12_scanWord 57 [(0, .ref u0), (1, .int s49.1), (2, .int s49.2.1), (3, .int s57)] [] s49.2.2 t)) (E := (fun e => V Γ d mX12_scanWord 74 [(0, .ref u0), (1, .int s49.1), (2, .int s49.2.1), (3, .int e)] [] s49.2.2 t)) (fun s r hb kI kE => sbX12_scanWord_57 hd (s57 := s) (r := r) hb kI kE) FU s49.1 e18 e18L ?_
    refine v_aload_n (q := 75) 0 dX12_scanWord_74 rfl rfl rfl ?_
    refine v_iload_n (q := 76) 1 dX12_scanWord_75 rfl rfl rfl ?_
    refine v_iload_n (q := 77) 3 dX12_scanWord_76 rfl rfl rfl ?_
    obtain ⟨_, o19, H⟩ := bs H
    obtain ⟨x20, x20e, H⟩ := bs H
    refine u_callV1 (M' := mX12_isSame) (d' := 1) (rc := (RX12, TX12, 58)) (As := [.int s49.1, .int e18]) (st := []) (q := 80) oX12_isSame dX12_scanWord_77 w1566 w1568 w0058 rfl rfl (gO_sp o19).1 (gO_sp o19).2 rfl (Nat.le_of_ble_eq_true rfl) (Nat.le_of_ble_eq_true rfl) (Nat.lt_of_lt_of_le (by decide) hd) rfl (sX12_isSame (Nat.le_refl _) x20e) rfl ?_
    refine v_if_eq (q1 := 88) (q2 := 83) dX12_scanWord_80 (by decide) rfl (fun c21 => ?_) (fun c21 => ?_)
    · have H := ip c21 H
      exact V.sub [0, 2, 3] rfl (sjX12_scanWord_88 hd H kI kE)
    · have H := ine c21 H
      refine v_aload_n (q := 84) 0 dX12_scanWord_83 rfl rfl rfl ?_
      refine v_iload_n (q := 85) 2 dX12_scanWord_84 rfl rfl rfl ?_
      obtain ⟨h24, h24e, H⟩ := bs H
      refine u_pI (q := 88) (r := (RX12, TX12, 58)) h24e dX12_scanWord_85 w1372 rfl (by decide) (Or.inl rfl) rfl rfl ?_
      exact V.sub [0, 2, 3] rfl (sjX12_scanWord_88 hd H kI kE)
def fX12_scanWord (h : Hp) (v0 : Nat) : Option (Hp) :=
(pI h 12 v0 15 (2 : Int32)).bind fun h1 =>
(gI h1 12 v0 14).bind fun x2 =>
(pI h1 12 v0 13 x2).bind fun h3 =>
(lp (bX12_scanWord_13 v0) FU h3).bind fun e11 =>
(pI e11 12 v0 16 (-1 : Int32)).bind fun h12 =>
(lp (bX12_scanWord_49 v0) FU ((0 : Int32), (0 : Int32), h12)).bind fun e25 =>
some e25
set_option maxRecDepth 20000 in
set_option maxHeartbeats 4000000 in
theorem sX12_scanWord {Γ : Gm} {d : Nat} (hd : 2 ≤ d) {h : Hp} {v0 : Nat} {r : Hp} (H : fX12_scanWord h v0 = some r) : V Γ d mX12_scanWord 0 [(0, .ref v0)] [] h (none, r) := by
  unfold fX12_scanWord at H
  refine v_aload_n (q := 1) 0 dX12_scanWord_0 rfl rfl rfl ?_
  refine v_iconst (v := 2) (q := 2) dX12_scanWord_1 (by decide) rfl ?_
  obtain ⟨h1, h1e, H⟩ := bs H
  refine u_pI (q := 5) (r := (RX12, TX12, 58)) h1e dX12_scanWord_2 w1371 rfl (by decide) (Or.inl rfl) rfl rfl ?_
  refine v_aload_n (q := 6) 0 dX12_scanWord_5 rfl rfl rfl ?_
  refine v_aload_n (q := 7) 0 dX12_scanWord_6 rfl rfl rfl ?_
  obtain ⟨x2, x2e, H⟩ := bs H
  refine u_gI (q := 10) (r := (RX12, TX12, 58)) x2e dX12_scanWord_7 w1370 rfl (by decide) rfl rfl ?_
  obtain ⟨h3, h3e, H⟩ := bs H
  refine u_pI (q := 13) (r := (RX12, TX12, 58)) h3e dX12_scanWord_10 w1369 rfl (by decide) (Or.inl rfl) rfl rfl ?_
  obtain ⟨e11, e11L, H⟩ := bs H
  refine V.sub [0] rfl ?_
  refine lp_V (P := (fun s13 => V Γ d mX12_scanWord 13 [(0, .ref v0)] [] s13 (none, r))) (E := (fun e => V Γ d mX12_scanWord 40 [(0, .ref v0)] [] e (none, r))) (fun s r hb kI kE => sbX12_scanWord_13 hd (s13 := s) (r := r) hb kI kE) FU h3 e11 e11L ?_
  refine v_aload_n (q := 41) 0 dX12_scanWord_40 rfl rfl rfl ?_
  refine v_iconst (v := -1) (q := 42) dX12_scanWord_41 (by decide) rfl ?_
  obtain ⟨h12, h12e, H⟩ := bs H
  refine u_pI (q := 45) (r := (RX12, TX12, 58)) h12e dX12_scanWord_42 w1372 rfl (by decide) (Or.inl rfl) rfl rfl ?_
  refine v_iconst (v := 0) (q := 46) dX12_scanWord_45 (by decide) rfl ?_
  refine v_istore_n (L' := [(1, .int (0 : Int32)), (0, .ref v0)]) (q := 47) dX12_scanWord_46 rfl (by decide) rfl rfl ?_
  refine v_iconst (v := 0) (q := 48) dX12_scanWord_47 (by decide) rfl ?_
  refine v_istore_n (L' := [(2, .int (0 : Int32)), (1, .int (0 : Int32)), (0, .ref v0)]) (q := 49) dX12_scanWord_48 rfl (by decide) rfl rfl ?_
  obtain ⟨e25, e25L, H⟩ := bs H
  refine V.sub [2, 1, 0] rfl ?_
  refine lp_V (P := (fun s49 => V Γ d mX12_scanWord 49 [(0, .ref v0), (1, .int s49.1), (2, .int s49.2.1)] [] s49.2.2 (none, r))) (E := (fun e => V Γ d mX12_scanWord 98 [] [] e (none, r))) (fun s r hb kI kE => sbX12_scanWord_49 hd (s49 := s) (r := r) hb kI kE) FU ((0 : Int32), (0 : Int32), h12) e25 e25L ?_
  cases H
  exact v_return rfl dX12_scanWord_98
def mX12_scan : MI := (yX12_scan, cX12_scan, 1, none)
theorem oX12_scan : mOK mX12_scan 0 := ⟨by decide +kernel, by decide +kernel, by decide +kernel, by decide, w1550, w0150⟩
def bX12_scan_8 (u0 : Nat) (s8 : Hp) : Option ((Hp) ⊕ (Hp)) :=
(gI s8 12 u0 14).bind fun x3 =>
(gO s8 12 u0).bind fun _ =>
(fX12_isBlank s8 u0 x3).bind fun x5 =>
if x5 = 0 then (
some (.inr s8)) else (
(gI s8 12 u0 14).bind fun x7 =>
(pI s8 12 u0 14 (x7 + (1 : Int32))).bind fun h8 =>
some (.inl h8))
set_option maxRecDepth 20000 in
set_option maxHeartbeats 4000000 in
theorem sbX12_scan_8 {Γ : Gm} {d : Nat} (hd : 3 ≤ d) {u0 : Nat} {s8 : Hp} {r : (Hp) ⊕ (Hp)} {t : Option Value × Hp} (H : bX12_scan_8 u0 s8 = some r) (kI : ∀ s, r = .inl s → (fun s8 => V Γ d mX12_scan 8 [(0, .ref u0)] [] s8 t) s) (kE : ∀ e, r = .inr e → (fun e => V Γ d mX12_scan 32 [(0, .ref u0)] [] e t) e) : V Γ d mX12_scan 8 [(0, .ref u0)] [] s8 t := by
  unfold bX12_scan_8 at H
  refine v_aload_n (q := 9) 0 dX12_scan_8 rfl rfl rfl ?_
  refine v_aload_n (q := 10) 0 dX12_scan_9 rfl rfl rfl ?_
  obtain ⟨x3, x3e, H⟩ := bs H
  refine u_gI (q := 13) (r := (RX12, TX12, 58)) x3e dX12_scan_10 w1370 rfl (by decide) rfl rfl ?_
  obtain ⟨_, o4, H⟩ := bs H
  obtain ⟨x5, x5e, H⟩ := bs H
  refine u_callV1 (M' := mX12_isBlank) (d' := 1) (rc := (RX12, TX12, 58)) (As := [.int x3]) (st := []) (q := 16) oX12_isBlank dX12_scan_13 w1551 w1553 w0055 rfl rfl (gO_sp o4).1 (gO_sp o4).2 rfl (Nat.le_of_ble_eq_true rfl) (Nat.le_of_ble_eq_true rfl) (Nat.lt_of_lt_of_le (by decide) hd) rfl (sX12_isBlank (Nat.le_refl _) x5e) rfl ?_
  refine v_if_eq (q1 := 32) (q2 := 19) dX12_scan_16 (by decide) rfl (fun c6 => ?_) (fun c6 => ?_)
  · have H := ip c6 H
    exact V.sub [0] rfl (kE s8 (Option.some.inj H).symm)
  · have H := ine c6 H
    refine v_aload_n (q := 20) 0 dX12_scan_19 rfl rfl rfl ?_
    refine v_dup (q := 21) dX12_scan_20 rfl rfl ?_
    obtain ⟨x7, x7e, H⟩ := bs H
    refine u_gI (q := 24) (r := (RX12, TX12, 58)) x7e dX12_scan_21 w1370 rfl (by decide) rfl rfl ?_
    refine v_iconst (v := 1) (q := 25) dX12_scan_24 (by decide) rfl ?_
    refine v_iadd (q := 26) dX12_scan_25 rfl ?_
    obtain ⟨h8, h8e, H⟩ := bs H
    refine u_pI (q := 29) (r := (RX12, TX12, 58)) h8e dX12_scan_26 w1370 rfl (by decide) (Or.inl rfl) rfl rfl ?_
    refine v_goto (q := 8) dX12_scan_29 (by decide) ?_
    exact V.sub [0] rfl (kI h8 (Option.some.inj H).symm)
def jX12_scan_112 (h : Hp) : Option (Hp) :=
some h
set_option maxRecDepth 20000 in
set_option maxHeartbeats 4000000 in
theorem sjX12_scan_112 {Γ : Gm} {d : Nat} (hd : 3 ≤ d) {h : Hp} {r : Hp} (H : jX12_scan_112 h = some r) : V Γ d mX12_scan 112 [] [] h (none, r) := by
  unfold jX12_scan_112 at H
  cases H
  exact v_return rfl dX12_scan_112
def jX12_scan_109 (y0 : Int32) (y1 : Nat) (h : Hp) : Option (Hp) :=
(pI h 12 y1 15 y0).bind fun h24 =>
jX12_scan_112 h24
set_option maxRecDepth 20000 in
set_option maxHeartbeats 4000000 in
theorem sjX12_scan_109 {Γ : Gm} {d : Nat} (hd : 3 ≤ d) {y0 : Int32} {y1 : Nat} {h : Hp} {r : Hp} (H : jX12_scan_109 y0 y1 h = some r) : V Γ d mX12_scan 109 [] [.int y0, .ref y1] h (none, r) := by
  unfold jX12_scan_109 at H
  obtain ⟨h24, h24e, H⟩ := bs H
  refine u_pI (q := 112) (r := (RX12, TX12, 58)) h24e dX12_scan_109 w1371 rfl (by decide) (Or.inl rfl) rfl rfl ?_
  exact V.sub [] rfl (sjX12_scan_112 hd H)
def fX12_scan (h : Hp) (v0 : Nat) : Option (Hp) :=
(gI h 12 v0 13).bind fun x1 =>
(pI h 12 v0 14 x1).bind fun h2 =>
(lp (bX12_scan_8 v0) FU h2).bind fun e9 =>
(gI e9 12 v0 14).bind fun x10 =>
(pI e9 12 v0 13 (x10 + (1 : Int32))).bind fun h11 =>
(gI h11 12 v0 14).bind fun x12 =>
(gI h11 12 v0 12).bind fun x13 =>
if x12 < x13 then (
(gI h11 12 v0 14).bind fun x15 =>
(gO h11 12 v0).bind fun _ =>
(fX12_signAt h11 v0 x15).bind fun x17 =>
(fX12_isLetter h11 x17).bind fun x18 =>
if x18 = 0 then (
(gI h11 12 v0 14).bind fun x20 =>
(gO h11 12 v0).bind fun _ =>
(fX12_signAt h11 v0 x20).bind fun x22 =>
if x22 = (59 : Int32) then (
jX12_scan_109 (3 : Int32) v0 h11) else (
jX12_scan_109 (1 : Int32) v0 h11)) else (
(gO h11 12 v0).bind fun _ =>
(fX12_scanWord h11 v0).bind fun x26 =>
jX12_scan_112 x26)) else (
(gI h11 12 v0 14).bind fun x27 =>
(pI h11 12 v0 13 x27).bind fun h28 =>
(pI h28 12 v0 15 (0 : Int32)).bind fun h29 =>
jX12_scan_112 h29)
set_option maxRecDepth 20000 in
set_option maxHeartbeats 4000000 in
theorem sX12_scan {Γ : Gm} {d : Nat} (hd : 3 ≤ d) {h : Hp} {v0 : Nat} {r : Hp} (H : fX12_scan h v0 = some r) : V Γ d mX12_scan 0 [(0, .ref v0)] [] h (none, r) := by
  unfold fX12_scan at H
  refine v_aload_n (q := 1) 0 dX12_scan_0 rfl rfl rfl ?_
  refine v_aload_n (q := 2) 0 dX12_scan_1 rfl rfl rfl ?_
  obtain ⟨x1, x1e, H⟩ := bs H
  refine u_gI (q := 5) (r := (RX12, TX12, 58)) x1e dX12_scan_2 w1369 rfl (by decide) rfl rfl ?_
  obtain ⟨h2, h2e, H⟩ := bs H
  refine u_pI (q := 8) (r := (RX12, TX12, 58)) h2e dX12_scan_5 w1370 rfl (by decide) (Or.inl rfl) rfl rfl ?_
  obtain ⟨e9, e9L, H⟩ := bs H
  refine V.sub [0] rfl ?_
  refine lp_V (P := (fun s8 => V Γ d mX12_scan 8 [(0, .ref v0)] [] s8 (none, r))) (E := (fun e => V Γ d mX12_scan 32 [(0, .ref v0)] [] e (none, r))) (fun s r hb kI kE => sbX12_scan_8 hd (s8 := s) (r := r) hb kI kE) FU h2 e9 e9L ?_
  refine v_aload_n (q := 33) 0 dX12_scan_32 rfl rfl rfl ?_
  refine v_aload_n (q := 34) 0 dX12_scan_33 rfl rfl rfl ?_
  obtain ⟨x10, x10e, H⟩ := bs H
  refine u_gI (q := 37) (r := (RX12, TX12, 58)) x10e dX12_scan_34 w1370 rfl (by decide) rfl rfl ?_
  refine v_iconst (v := 1) (q := 38) dX12_scan_37 (by decide) rfl ?_
  refine v_iadd (q := 39) dX12_scan_38 rfl ?_
  obtain ⟨h11, h11e, H⟩ := bs H
  refine u_pI (q := 42) (r := (RX12, TX12, 58)) h11e dX12_scan_39 w1369 rfl (by decide) (Or.inl rfl) rfl rfl ?_
  refine v_aload_n (q := 43) 0 dX12_scan_42 rfl rfl rfl ?_
  obtain ⟨x12, x12e, H⟩ := bs H
  refine u_gI (q := 46) (r := (RX12, TX12, 58)) x12e dX12_scan_43 w1370 rfl (by decide) rfl rfl ?_
  refine v_aload_n (q := 47) 0 dX12_scan_46 rfl rfl rfl ?_
  obtain ⟨x13, x13e, H⟩ := bs H
  refine u_gI (q := 50) (r := (RX12, TX12, 58)) x13e dX12_scan_47 w1368 rfl (by decide) rfl rfl ?_
  refine v_icmp_lt (q1 := 69) (q2 := 53) dX12_scan_50 (by decide) rfl (fun c14 => ?_) (fun c14 => ?_)
  · have H := ip c14 H
    refine v_aload_n (q := 70) 0 dX12_scan_69 rfl rfl rfl ?_
    refine v_aload_n (q := 71) 0 dX12_scan_70 rfl rfl rfl ?_
    obtain ⟨x15, x15e, H⟩ := bs H
    refine u_gI (q := 74) (r := (RX12, TX12, 58)) x15e dX12_scan_71 w1370 rfl (by decide) rfl rfl ?_
    obtain ⟨_, o16, H⟩ := bs H
    obtain ⟨x17, x17e, H⟩ := bs H
    refine u_callV1 (M' := mX12_signAt) (d' := 1) (rc := (RX12, TX12, 58)) (As := [.int x15]) (st := []) (q := 77) oX12_signAt dX12_scan_74 w1555 w1557 w0056 rfl rfl (gO_sp o16).1 (gO_sp o16).2 rfl (Nat.le_of_ble_eq_true rfl) (Nat.le_of_ble_eq_true rfl) (Nat.lt_of_lt_of_le (by decide) hd) rfl (sX12_signAt (Nat.le_refl _) x17e) rfl ?_
    obtain ⟨x18, x18e, H⟩ := bs H
    refine u_callS1 (M' := mX12_isLetter) (d' := 1) (As := [.int x17]) (st := []) (q := 80) oX12_isLetter dX12_scan_77 w1559 w1560 rfl (Nat.le_of_ble_eq_true rfl) (Nat.le_of_ble_eq_true rfl) (Nat.lt_of_lt_of_le (by decide) hd) rfl (sX12_isLetter (Nat.le_refl _) x18e) rfl ?_
    refine v_if_eq (q1 := 90) (q2 := 83) dX12_scan_80 (by decide) rfl (fun c19 => ?_) (fun c19 => ?_)
    · have H := ip c19 H
      refine v_aload_n (q := 91) 0 dX12_scan_90 rfl rfl rfl ?_
      refine v_aload_n (q := 92) 0 dX12_scan_91 rfl rfl rfl ?_
      refine v_aload_n (q := 93) 0 dX12_scan_92 rfl rfl rfl ?_
      obtain ⟨x20, x20e, H⟩ := bs H
      refine u_gI (q := 96) (r := (RX12, TX12, 58)) x20e dX12_scan_93 w1370 rfl (by decide) rfl rfl ?_
      obtain ⟨_, o21, H⟩ := bs H
      obtain ⟨x22, x22e, H⟩ := bs H
      refine u_callV1 (M' := mX12_signAt) (d' := 1) (rc := (RX12, TX12, 58)) (As := [.int x20]) (st := [.ref v0]) (q := 99) oX12_signAt dX12_scan_96 w1555 w1557 w0056 rfl rfl (gO_sp o21).1 (gO_sp o21).2 rfl (Nat.le_of_ble_eq_true rfl) (Nat.le_of_ble_eq_true rfl) (Nat.lt_of_lt_of_le (by decide) hd) rfl (sX12_signAt (Nat.le_refl _) x22e) rfl ?_
      refine v_bipush (v := 59) (q := 101) dX12_scan_99 (by decide) rfl ?_
      refine v_icmp_ne (q1 := 108) (q2 := 104) dX12_scan_101 (by decide) rfl (fun c23 => ?_) (fun c23 => ?_)
      · have H := ine c23 H
        refine v_iconst (v := 1) (q := 109) dX12_scan_108 (by decide) rfl ?_
        exact V.sub [] rfl (sjX12_scan_109 hd H)
      · have H := ip c23 H
        refine v_iconst (v := 3) (q := 105) dX12_scan_104 (by decide) rfl ?_
        refine v_goto (q := 109) dX12_scan_105 (by decide) ?_
        exact V.sub [] rfl (sjX12_scan_109 hd H)
    · have H := ine c19 H
      refine v_aload_n (q := 84) 0 dX12_scan_83 rfl rfl rfl ?_
      obtain ⟨_, o25, H⟩ := bs H
      obtain ⟨x26, x26e, H⟩ := bs H
      refine u_callV0 (M' := mX12_scanWord) (d' := 2) (rc := (RX12, TX12, 58)) (As := []) (st := []) (q := 87) oX12_scanWord dX12_scan_84 w1562 w1564 w0057 rfl rfl (gO_sp o25).1 (gO_sp o25).2 rfl (Nat.le_of_ble_eq_true rfl) (Nat.le_of_ble_eq_true rfl) (Nat.lt_of_lt_of_le (by decide) hd) rfl (sX12_scanWord (Nat.le_refl _) x26e) rfl ?_
      refine v_goto (q := 112) dX12_scan_87 (by decide) ?_
      exact V.sub [] rfl (sjX12_scan_112 hd H)
  · have H := ine c14 H
    refine v_aload_n (q := 54) 0 dX12_scan_53 rfl rfl rfl ?_
    refine v_aload_n (q := 55) 0 dX12_scan_54 rfl rfl rfl ?_
    obtain ⟨x27, x27e, H⟩ := bs H
    refine u_gI (q := 58) (r := (RX12, TX12, 58)) x27e dX12_scan_55 w1370 rfl (by decide) rfl rfl ?_
    obtain ⟨h28, h28e, H⟩ := bs H
    refine u_pI (q := 61) (r := (RX12, TX12, 58)) h28e dX12_scan_58 w1369 rfl (by decide) (Or.inl rfl) rfl rfl ?_
    refine v_aload_n (q := 62) 0 dX12_scan_61 rfl rfl rfl ?_
    refine v_iconst (v := 0) (q := 63) dX12_scan_62 (by decide) rfl ?_
    obtain ⟨h29, h29e, H⟩ := bs H
    refine u_pI (q := 66) (r := (RX12, TX12, 58)) h29e dX12_scan_63 w1371 rfl (by decide) (Or.inl rfl) rfl rfl ?_
    refine v_goto (q := 112) dX12_scan_66 (by decide) ?_
    exact V.sub [] rfl (sjX12_scan_112 hd H)
def mX12_newName : MI := (yX12_newName, cX12_newName, 3, none)
theorem oX12_newName : mOK mX12_newName 2 := ⟨by decide +kernel, by decide +kernel, by decide +kernel, by decide, w1585, w0150⟩
def jX12_newName_27 (v0 : Nat) (v1 : Int32) (v2 : Int32) (h : Hp) : Option (Hp) :=
(gI h 12 v0 17).bind fun x7 =>
if x7 ≤ 0 then (
(gR h 12 v0 22).bind fun x9 =>
(gI h 12 v0 26).bind fun x10 =>
(gI h 12 v0 14).bind fun x11 =>
(tI h x9 x10 x11).bind fun h12 =>
(gR h12 12 v0 23).bind fun x13 =>
(gI h12 12 v0 26).bind fun x14 =>
(gI h12 12 v0 13).bind fun x15 =>
(gI h12 12 v0 14).bind fun x16 =>
(tI h12 x13 x14 (x15 - x16)).bind fun h17 =>
(gR h17 12 v0 24).bind fun x18 =>
(gI h17 12 v0 26).bind fun x19 =>
(tI h17 x18 x19 v1).bind fun h20 =>
(gR h20 12 v0 25).bind fun x21 =>
(gI h20 12 v0 26).bind fun x22 =>
(tI h20 x21 x22 v2).bind fun h23 =>
(gI h23 12 v0 26).bind fun x24 =>
(pI h23 12 v0 26 (x24 + (1 : Int32))).bind fun h25 =>
(gO h25 12 v0).bind fun _ =>
(fX12_scan h25 v0).bind fun x27 =>
some x27) else (
some h)
set_option maxRecDepth 20000 in
set_option maxHeartbeats 4000000 in
theorem sjX12_newName_27 {Γ : Gm} {d : Nat} (hd : 4 ≤ d) {v0 : Nat} {v1 : Int32} {v2 : Int32} {h : Hp} {r : Hp} (H : jX12_newName_27 v0 v1 v2 h = some r) : V Γ d mX12_newName 27 [(0, .ref v0), (1, .int v1), (2, .int v2)] [] h (none, r) := by
  unfold jX12_newName_27 at H
  refine v_aload_n (q := 28) 0 dX12_newName_27 rfl rfl rfl ?_
  obtain ⟨x7, x7e, H⟩ := bs H
  refine u_gI (q := 31) (r := (RX12, TX12, 58)) x7e dX12_newName_28 w1373 rfl (by decide) rfl rfl ?_
  refine v_if_le (q1 := 35) (q2 := 34) dX12_newName_31 (by decide) rfl (fun c8 => ?_) (fun c8 => ?_)
  · have H := ip c8 H
    refine v_aload_n (q := 36) 0 dX12_newName_35 rfl rfl rfl ?_
    obtain ⟨x9, x9e, H⟩ := bs H
    refine u_gR (q := 39) (r := (RX12, TX12, 58)) x9e dX12_newName_36 w1378 rfl (by decide) rfl rfl ?_
    refine v_aload_n (q := 40) 0 dX12_newName_39 rfl rfl rfl ?_
    obtain ⟨x10, x10e, H⟩ := bs H
    refine u_gI (q := 43) (r := (RX12, TX12, 58)) x10e dX12_newName_40 w1382 rfl (by decide) rfl rfl ?_
    refine v_aload_n (q := 44) 0 dX12_newName_43 rfl rfl rfl ?_
    obtain ⟨x11, x11e, H⟩ := bs H
    refine u_gI (q := 47) (r := (RX12, TX12, 58)) x11e dX12_newName_44 w1370 rfl (by decide) rfl rfl ?_
    obtain ⟨h12, h12e, H⟩ := bs H
    refine u_tI (q := 48) h12e dX12_newName_47 rfl ?_
    refine v_aload_n (q := 49) 0 dX12_newName_48 rfl rfl rfl ?_
    obtain ⟨x13, x13e, H⟩ := bs H
    refine u_gR (q := 52) (r := (RX12, TX12, 58)) x13e dX12_newName_49 w1379 rfl (by decide) rfl rfl ?_
    refine v_aload_n (q := 53) 0 dX12_newName_52 rfl rfl rfl ?_
    obtain ⟨x14, x14e, H⟩ := bs H
    refine u_gI (q := 56) (r := (RX12, TX12, 58)) x14e dX12_newName_53 w1382 rfl (by decide) rfl rfl ?_
    refine v_aload_n (q := 57) 0 dX12_newName_56 rfl rfl rfl ?_
    obtain ⟨x15, x15e, H⟩ := bs H
    refine u_gI (q := 60) (r := (RX12, TX12, 58)) x15e dX12_newName_57 w1369 rfl (by decide) rfl rfl ?_
    refine v_aload_n (q := 61) 0 dX12_newName_60 rfl rfl rfl ?_
    obtain ⟨x16, x16e, H⟩ := bs H
    refine u_gI (q := 64) (r := (RX12, TX12, 58)) x16e dX12_newName_61 w1370 rfl (by decide) rfl rfl ?_
    refine v_isub (q := 65) dX12_newName_64 rfl ?_
    obtain ⟨h17, h17e, H⟩ := bs H
    refine u_tI (q := 66) h17e dX12_newName_65 rfl ?_
    refine v_aload_n (q := 67) 0 dX12_newName_66 rfl rfl rfl ?_
    obtain ⟨x18, x18e, H⟩ := bs H
    refine u_gR (q := 70) (r := (RX12, TX12, 58)) x18e dX12_newName_67 w1380 rfl (by decide) rfl rfl ?_
    refine v_aload_n (q := 71) 0 dX12_newName_70 rfl rfl rfl ?_
    obtain ⟨x19, x19e, H⟩ := bs H
    refine u_gI (q := 74) (r := (RX12, TX12, 58)) x19e dX12_newName_71 w1382 rfl (by decide) rfl rfl ?_
    refine v_iload_n (q := 75) 1 dX12_newName_74 rfl rfl rfl ?_
    obtain ⟨h20, h20e, H⟩ := bs H
    refine u_tI (q := 76) h20e dX12_newName_75 rfl ?_
    refine v_aload_n (q := 77) 0 dX12_newName_76 rfl rfl rfl ?_
    obtain ⟨x21, x21e, H⟩ := bs H
    refine u_gR (q := 80) (r := (RX12, TX12, 58)) x21e dX12_newName_77 w1381 rfl (by decide) rfl rfl ?_
    refine v_aload_n (q := 81) 0 dX12_newName_80 rfl rfl rfl ?_
    obtain ⟨x22, x22e, H⟩ := bs H
    refine u_gI (q := 84) (r := (RX12, TX12, 58)) x22e dX12_newName_81 w1382 rfl (by decide) rfl rfl ?_
    refine v_iload_n (q := 85) 2 dX12_newName_84 rfl rfl rfl ?_
    obtain ⟨h23, h23e, H⟩ := bs H
    refine u_tI (q := 86) h23e dX12_newName_85 rfl ?_
    refine v_aload_n (q := 87) 0 dX12_newName_86 rfl rfl rfl ?_
    refine v_dup (q := 88) dX12_newName_87 rfl rfl ?_
    obtain ⟨x24, x24e, H⟩ := bs H
    refine u_gI (q := 91) (r := (RX12, TX12, 58)) x24e dX12_newName_88 w1382 rfl (by decide) rfl rfl ?_
    refine v_iconst (v := 1) (q := 92) dX12_newName_91 (by decide) rfl ?_
    refine v_iadd (q := 93) dX12_newName_92 rfl ?_
    obtain ⟨h25, h25e, H⟩ := bs H
    refine u_pI (q := 96) (r := (RX12, TX12, 58)) h25e dX12_newName_93 w1382 rfl (by decide) (Or.inl rfl) rfl rfl ?_
    refine v_aload_n (q := 97) 0 dX12_newName_96 rfl rfl rfl ?_
    obtain ⟨_, o26, H⟩ := bs H
    obtain ⟨x27, x27e, H⟩ := bs H
    refine u_callV0 (M' := mX12_scan) (d' := 3) (rc := (RX12, TX12, 58)) (As := []) (st := []) (q := 100) oX12_scan dX12_newName_97 w1547 w1549 w0054 rfl rfl (gO_sp o26).1 (gO_sp o26).2 rfl (Nat.le_of_ble_eq_true rfl) (Nat.le_of_ble_eq_true rfl) (Nat.lt_of_lt_of_le (by decide) hd) rfl (sX12_scan (Nat.le_refl _) x27e) rfl ?_
    cases H
    exact v_return rfl dX12_newName_100
  · have H := ine c8 H
    cases H
    exact v_return rfl dX12_newName_34
def fX12_newName (h : Hp) (v0 : Nat) (v1 : Int32) (v2 : Int32) : Option (Hp) :=
(gO h 12 v0).bind fun _ =>
(fX12_isName h v0).bind fun x2 =>
if x2 = 0 then (
(gO h 12 v0).bind fun _ =>
(fX12_fail h v0 (1 : Int32)).bind fun x31 =>
jX12_newName_27 v0 v1 v2 x31) else (
(gO h 12 v0).bind fun _ =>
(fX12_nameHere h v0).bind fun x5 =>
if x5 < 0 then (
jX12_newName_27 v0 v1 v2 h) else (
(gO h 12 v0).bind fun _ =>
(fX12_fail h v0 (2 : Int32)).bind fun x29 =>
jX12_newName_27 v0 v1 v2 x29))
set_option maxRecDepth 20000 in
set_option maxHeartbeats 4000000 in
theorem sX12_newName {Γ : Gm} {d : Nat} (hd : 4 ≤ d) {h : Hp} {v0 : Nat} {v1 : Int32} {v2 : Int32} {r : Hp} (H : fX12_newName h v0 v1 v2 = some r) : V Γ d mX12_newName 0 [(0, .ref v0), (1, .int v1), (2, .int v2)] [] h (none, r) := by
  unfold fX12_newName at H
  refine v_aload_n (q := 1) 0 dX12_newName_0 rfl rfl rfl ?_
  obtain ⟨_, o1, H⟩ := bs H
  obtain ⟨x2, x2e, H⟩ := bs H
  refine u_callV1 (M' := mX12_isName) (d' := 1) (rc := (RX12, TX12, 58)) (As := []) (st := []) (q := 4) oX12_isName dX12_newName_1 w1586 w1588 w0063 rfl rfl (gO_sp o1).1 (gO_sp o1).2 rfl (Nat.le_of_ble_eq_true rfl) (Nat.le_of_ble_eq_true rfl) (Nat.lt_of_lt_of_le (by decide) hd) rfl (sX12_isName (Nat.le_refl _) x2e) rfl ?_
  refine v_if_ne (q1 := 15) (q2 := 7) dX12_newName_4 (by decide) rfl (fun c3 => ?_) (fun c3 => ?_)
  · have H := ine c3 H
    refine v_aload_n (q := 16) 0 dX12_newName_15 rfl rfl rfl ?_
    obtain ⟨_, o4, H⟩ := bs H
    obtain ⟨x5, x5e, H⟩ := bs H
    refine u_callV1 (M' := mX12_nameHere) (d' := 2) (rc := (RX12, TX12, 58)) (As := []) (st := []) (q := 19) oX12_nameHere dX12_newName_16 w1590 w1592 w0064 rfl rfl (gO_sp o4).1 (gO_sp o4).2 rfl (Nat.le_of_ble_eq_true rfl) (Nat.le_of_ble_eq_true rfl) (Nat.lt_of_lt_of_le (by decide) hd) rfl (sX12_nameHere (Nat.le_refl _) x5e) rfl ?_
    refine v_if_lt (q1 := 27) (q2 := 22) dX12_newName_19 (by decide) rfl (fun c6 => ?_) (fun c6 => ?_)
    · have H := ip c6 H
      exact V.sub [0, 1, 2] rfl (sjX12_newName_27 hd H)
    · have H := ine c6 H
      refine v_aload_n (q := 23) 0 dX12_newName_22 rfl rfl rfl ?_
      refine v_iconst (v := 2) (q := 24) dX12_newName_23 (by decide) rfl ?_
      obtain ⟨_, o28, H⟩ := bs H
      obtain ⟨x29, x29e, H⟩ := bs H
      refine u_callV0 (M' := mX12_fail) (d' := 1) (rc := (RX12, TX12, 58)) (As := [.int (2 : Int32)]) (st := []) (q := 27) oX12_fail dX12_newName_24 w1578 w1580 w0061 rfl rfl (gO_sp o28).1 (gO_sp o28).2 rfl (Nat.le_of_ble_eq_true rfl) (Nat.le_of_ble_eq_true rfl) (Nat.lt_of_lt_of_le (by decide) hd) rfl (sX12_fail (Nat.le_refl _) x29e) rfl ?_
      exact V.sub [0, 1, 2] rfl (sjX12_newName_27 hd H)
  · have H := ip c3 H
    refine v_aload_n (q := 8) 0 dX12_newName_7 rfl rfl rfl ?_
    refine v_iconst (v := 1) (q := 9) dX12_newName_8 (by decide) rfl ?_
    obtain ⟨_, o30, H⟩ := bs H
    obtain ⟨x31, x31e, H⟩ := bs H
    refine u_callV0 (M' := mX12_fail) (d' := 1) (rc := (RX12, TX12, 58)) (As := [.int (1 : Int32)]) (st := []) (q := 12) oX12_fail dX12_newName_9 w1578 w1580 w0061 rfl rfl (gO_sp o30).1 (gO_sp o30).2 rfl (Nat.le_of_ble_eq_true rfl) (Nat.le_of_ble_eq_true rfl) (Nat.lt_of_lt_of_le (by decide) hd) rfl (sX12_fail (Nat.le_refl _) x31e) rfl ?_
    refine v_goto (q := 27) dX12_newName_12 (by decide) ?_
    exact V.sub [0, 1, 2] rfl (sjX12_newName_27 hd H)
def mX12_oldName : MI := (yX12_oldName, cX12_oldName, 3, some .int)
theorem oX12_oldName : mOK mX12_oldName 1 := ⟨by decide +kernel, by decide +kernel, by decide +kernel, by decide, w1605, w0150⟩
def jX12_oldName_50 (v0 : Nat) (v2 : Int32) (h : Hp) : Option (Int32 × Hp) :=
(gI h 12 v0 17).bind fun x10 =>
if x10 ≤ 0 then (
(gO h 12 v0).bind fun _ =>
(fX12_scan h v0).bind fun x13 =>
(gR x13 12 v0 25).bind fun x14 =>
(lI x13 .int x14 v2).bind fun x15 =>
some (x15, x13)) else (
some (((0 : Int32), h)))
set_option maxRecDepth 20000 in
set_option maxHeartbeats 4000000 in
theorem sjX12_oldName_50 {Γ : Gm} {d : Nat} (hd : 4 ≤ d) {v0 : Nat} {v2 : Int32} {h : Hp} {r : Int32 × Hp} (H : jX12_oldName_50 v0 v2 h = some r) : V Γ d mX12_oldName 50 [(0, .ref v0), (2, .int v2)] [] h (some (.int r.1), r.2) := by
  unfold jX12_oldName_50 at H
  refine v_aload_n (q := 51) 0 dX12_oldName_50 rfl rfl rfl ?_
  obtain ⟨x10, x10e, H⟩ := bs H
  refine u_gI (q := 54) (r := (RX12, TX12, 58)) x10e dX12_oldName_51 w1373 rfl (by decide) rfl rfl ?_
  refine v_if_le (q1 := 59) (q2 := 57) dX12_oldName_54 (by decide) rfl (fun c11 => ?_) (fun c11 => ?_)
  · have H := ip c11 H
    refine v_aload_n (q := 60) 0 dX12_oldName_59 rfl rfl rfl ?_
    obtain ⟨_, o12, H⟩ := bs H
    obtain ⟨x13, x13e, H⟩ := bs H
    refine u_callV0 (M' := mX12_scan) (d' := 3) (rc := (RX12, TX12, 58)) (As := []) (st := []) (q := 63) oX12_scan dX12_oldName_60 w1547 w1549 w0054 rfl rfl (gO_sp o12).1 (gO_sp o12).2 rfl (Nat.le_of_ble_eq_true rfl) (Nat.le_of_ble_eq_true rfl) (Nat.lt_of_lt_of_le (by decide) hd) rfl (sX12_scan (Nat.le_refl _) x13e) rfl ?_
    refine v_aload_n (q := 64) 0 dX12_oldName_63 rfl rfl rfl ?_
    obtain ⟨x14, x14e, H⟩ := bs H
    refine u_gR (q := 67) (r := (RX12, TX12, 58)) x14e dX12_oldName_64 w1381 rfl (by decide) rfl rfl ?_
    refine v_iload_n (q := 68) 1 dX12_oldName_67 rfl rfl rfl ?_
    obtain ⟨x15, x15e, H⟩ := bs H
    refine u_lI (q := 69) x15e dX12_oldName_68 rfl ?_
    cases H
    exact v_ireturn rfl dX12_oldName_69
  · have H := ine c11 H
    refine v_iconst (v := 0) (q := 58) dX12_oldName_57 (by decide) rfl ?_
    cases H
    exact v_ireturn rfl dX12_oldName_58
def jX12_oldName_45 (v0 : Nat) (v2 : Int32) (h : Hp) : Option (Int32 × Hp) :=
(gO h 12 v0).bind fun _ =>
(fX12_fail h v0 (3 : Int32)).bind fun x9 =>
jX12_oldName_50 v0 v2 x9
set_option maxRecDepth 20000 in
set_option maxHeartbeats 4000000 in
theorem sjX12_oldName_45 {Γ : Gm} {d : Nat} (hd : 4 ≤ d) {v0 : Nat} {v2 : Int32} {h : Hp} {r : Int32 × Hp} (H : jX12_oldName_45 v0 v2 h = some r) : V Γ d mX12_oldName 45 [(0, .ref v0), (2, .int v2)] [] h (some (.int r.1), r.2) := by
  unfold jX12_oldName_45 at H
  refine v_aload_n (q := 46) 0 dX12_oldName_45 rfl rfl rfl ?_
  refine v_iconst (v := 3) (q := 47) dX12_oldName_46 (by decide) rfl ?_
  obtain ⟨_, o8, H⟩ := bs H
  obtain ⟨x9, x9e, H⟩ := bs H
  refine u_callV0 (M' := mX12_fail) (d' := 1) (rc := (RX12, TX12, 58)) (As := [.int (3 : Int32)]) (st := []) (q := 50) oX12_fail dX12_oldName_47 w1578 w1580 w0061 rfl rfl (gO_sp o8).1 (gO_sp o8).2 rfl (Nat.le_of_ble_eq_true rfl) (Nat.le_of_ble_eq_true rfl) (Nat.lt_of_lt_of_le (by decide) hd) rfl (sX12_fail (Nat.le_refl _) x9e) rfl ?_
  exact V.sub [0, 1] rfl (sjX12_oldName_50 hd H)
def jX12_oldName_15 (v0 : Nat) (v1 : Int32) (y0 : Int32) (h : Hp) : Option (Int32 × Hp) :=
(gO h 12 v0).bind fun _ =>
(fX12_isName h v0).bind fun x5 =>
if x5 = 0 then (
(gO h 12 v0).bind fun _ =>
(fX12_fail h v0 (1 : Int32)).bind fun x20 =>
jX12_oldName_50 v0 y0 x20) else (
if y0 < 0 then (
jX12_oldName_45 v0 y0 h) else (
(gR h 12 v0 24).bind fun x16 =>
(lI h .int x16 y0).bind fun x17 =>
if x17 = v1 then (
jX12_oldName_50 v0 y0 h) else (
jX12_oldName_45 v0 y0 h)))
set_option maxRecDepth 20000 in
set_option maxHeartbeats 4000000 in
theorem sjX12_oldName_15 {Γ : Gm} {d : Nat} (hd : 4 ≤ d) {v0 : Nat} {v1 : Int32} {y0 : Int32} {h : Hp} {r : Int32 × Hp} (H : jX12_oldName_15 v0 v1 y0 h = some r) : V Γ d mX12_oldName 15 [(0, .ref v0), (1, .int v1)] [.int y0] h (some (.int r.1), r.2) := by
  unfold jX12_oldName_15 at H
  refine v_istore_n (L' := [(2, .int y0), (0, .ref v0), (1, .int v1)]) (q := 16) dX12_oldName_15 rfl (by decide) rfl rfl ?_
  refine v_aload_n (q := 17) 1 dX12_oldName_16 rfl rfl rfl ?_
  obtain ⟨_, o4, H⟩ := bs H
  obtain ⟨x5, x5e, H⟩ := bs H
  refine u_callV1 (M' := mX12_isName) (d' := 1) (rc := (RX12, TX12, 58)) (As := []) (st := []) (q := 20) oX12_isName dX12_oldName_17 w1586 w1588 w0063 rfl rfl (gO_sp o4).1 (gO_sp o4).2 rfl (Nat.le_of_ble_eq_true rfl) (Nat.le_of_ble_eq_true rfl) (Nat.lt_of_lt_of_le (by decide) hd) rfl (sX12_isName (Nat.le_refl _) x5e) rfl ?_
  refine v_if_ne (q1 := 31) (q2 := 23) dX12_oldName_20 (by decide) rfl (fun c6 => ?_) (fun c6 => ?_)
  · have H := ine c6 H
    refine v_iload_n (q := 32) 0 dX12_oldName_31 rfl rfl rfl ?_
    refine v_if_lt (q1 := 45) (q2 := 35) dX12_oldName_32 (by decide) rfl (fun c7 => ?_) (fun c7 => ?_)
    · have H := ip c7 H
      exact V.sub [1, 0] rfl (sjX12_oldName_45 hd H)
    · have H := ine c7 H
      refine v_aload_n (q := 36) 1 dX12_oldName_35 rfl rfl rfl ?_
      obtain ⟨x16, x16e, H⟩ := bs H
      refine u_gR (q := 39) (r := (RX12, TX12, 58)) x16e dX12_oldName_36 w1380 rfl (by decide) rfl rfl ?_
      refine v_iload_n (q := 40) 0 dX12_oldName_39 rfl rfl rfl ?_
      obtain ⟨x17, x17e, H⟩ := bs H
      refine u_lI (q := 41) x17e dX12_oldName_40 rfl ?_
      refine v_iload_n (q := 42) 2 dX12_oldName_41 rfl rfl rfl ?_
      refine v_icmp_eq (q1 := 50) (q2 := 45) dX12_oldName_42 (by decide) rfl (fun c18 => ?_) (fun c18 => ?_)
      · have H := ip c18 H
        exact V.sub [1, 0] rfl (sjX12_oldName_50 hd H)
      · have H := ine c18 H
        exact V.sub [1, 0] rfl (sjX12_oldName_45 hd H)
  · have H := ip c6 H
    refine v_aload_n (q := 24) 1 dX12_oldName_23 rfl rfl rfl ?_
    refine v_iconst (v := 1) (q := 25) dX12_oldName_24 (by decide) rfl ?_
    obtain ⟨_, o19, H⟩ := bs H
    obtain ⟨x20, x20e, H⟩ := bs H
    refine u_callV0 (M' := mX12_fail) (d' := 1) (rc := (RX12, TX12, 58)) (As := [.int (1 : Int32)]) (st := []) (q := 28) oX12_fail dX12_oldName_25 w1578 w1580 w0061 rfl rfl (gO_sp o19).1 (gO_sp o19).2 rfl (Nat.le_of_ble_eq_true rfl) (Nat.le_of_ble_eq_true rfl) (Nat.lt_of_lt_of_le (by decide) hd) rfl (sX12_fail (Nat.le_refl _) x20e) rfl ?_
    refine v_goto (q := 50) dX12_oldName_28 (by decide) ?_
    exact V.sub [1, 0] rfl (sjX12_oldName_50 hd H)
def fX12_oldName (h : Hp) (v0 : Nat) (v1 : Int32) : Option (Int32 × Hp) :=
(gO h 12 v0).bind fun _ =>
(fX12_isName h v0).bind fun x2 =>
if x2 = 0 then (
jX12_oldName_15 v0 v1 (-1 : Int32) h) else (
(gO h 12 v0).bind fun _ =>
(fX12_nameHere h v0).bind fun x22 =>
jX12_oldName_15 v0 v1 x22 h)
set_option maxRecDepth 20000 in
set_option maxHeartbeats 4000000 in
theorem sX12_oldName {Γ : Gm} {d : Nat} (hd : 4 ≤ d) {h : Hp} {v0 : Nat} {v1 : Int32} {r : Int32 × Hp} (H : fX12_oldName h v0 v1 = some r) : V Γ d mX12_oldName 0 [(0, .ref v0), (1, .int v1)] [] h (some (.int r.1), r.2) := by
  unfold fX12_oldName at H
  refine v_aload_n (q := 1) 0 dX12_oldName_0 rfl rfl rfl ?_
  obtain ⟨_, o1, H⟩ := bs H
  obtain ⟨x2, x2e, H⟩ := bs H
  refine u_callV1 (M' := mX12_isName) (d' := 1) (rc := (RX12, TX12, 58)) (As := []) (st := []) (q := 4) oX12_isName dX12_oldName_1 w1586 w1588 w0063 rfl rfl (gO_sp o1).1 (gO_sp o1).2 rfl (Nat.le_of_ble_eq_true rfl) (Nat.le_of_ble_eq_true rfl) (Nat.lt_of_lt_of_le (by decide) hd) rfl (sX12_isName (Nat.le_refl _) x2e) rfl ?_
  refine v_if_eq (q1 := 14) (q2 := 7) dX12_oldName_4 (by decide) rfl (fun c3 => ?_) (fun c3 => ?_)
  · have H := ip c3 H
    refine v_iconst (v := -1) (q := 15) dX12_oldName_14 (by decide) rfl ?_
    exact V.sub [0, 1] rfl (sjX12_oldName_15 hd H)
  · have H := ine c3 H
    refine v_aload_n (q := 8) 0 dX12_oldName_7 rfl rfl rfl ?_
    obtain ⟨_, o21, H⟩ := bs H
    obtain ⟨x22, x22e, H⟩ := bs H
    refine u_callV1 (M' := mX12_nameHere) (d' := 2) (rc := (RX12, TX12, 58)) (As := []) (st := []) (q := 11) oX12_nameHere dX12_oldName_8 w1590 w1592 w0064 rfl rfl (gO_sp o21).1 (gO_sp o21).2 rfl (Nat.le_of_ble_eq_true rfl) (Nat.le_of_ble_eq_true rfl) (Nat.lt_of_lt_of_le (by decide) hd) rfl (sX12_nameHere (Nat.le_refl _) x22e) rfl ?_
    refine v_goto (q := 15) dX12_oldName_11 (by decide) ?_
    exact V.sub [0, 1] rfl (sjX12_oldName_15 hd H)
def mX12_order : MI := (yX12_order, cX12_order, 3, some .int)
theorem oX12_order : mOK mX12_order 1 := ⟨by decide +kernel, by decide +kernel, by decide +kernel, by decide, w1939, w0150⟩
def jX12_order_26 (y0 : Int32) (h : Hp) : Option (Int32 × Hp) :=
some (y0, h)
set_option maxRecDepth 20000 in
set_option maxHeartbeats 4000000 in
theorem sjX12_order_26 {Γ : Gm} {d : Nat} (hd : 4 ≤ d) {y0 : Int32} {h : Hp} {r : Int32 × Hp} (H : jX12_order_26 y0 h = some r) : V Γ d mX12_order 26 [] [.int y0] h (some (.int r.1), r.2) := by
  unfold jX12_order_26 at H
  cases H
  exact v_ireturn rfl dX12_order_26
def fX12_order (h : Hp) (v0 : Nat) (v1 : Int32) : Option (Int32 × Hp) :=
(gO h 12 v0).bind fun _ =>
(fX12_layOrder h v0).bind fun x2 =>
(fX12_isIn x2.2 v1 (0 : Int32) (x2.1 - (1 : Int32))).bind fun x3 =>
if x3 = 0 then (
jX12_order_26 (-1 : Int32) x2.2) else (
(gR x2.2 12 v0 33).bind fun x5 =>
(lI x2.2 .int x5 v1).bind fun x6 =>
jX12_order_26 x6 x2.2)
set_option maxRecDepth 20000 in
set_option maxHeartbeats 4000000 in
theorem sX12_order {Γ : Gm} {d : Nat} (hd : 4 ≤ d) {h : Hp} {v0 : Nat} {v1 : Int32} {r : Int32 × Hp} (H : fX12_order h v0 v1 = some r) : V Γ d mX12_order 0 [(0, .ref v0), (1, .int v1)] [] h (some (.int r.1), r.2) := by
  unfold fX12_order at H
  refine v_aload_n (q := 1) 0 dX12_order_0 rfl rfl rfl ?_
  obtain ⟨_, o1, H⟩ := bs H
  obtain ⟨x2, x2e, H⟩ := bs H
  refine u_callV1 (M' := mX12_layOrder) (d' := 3) (rc := (RX12, TX12, 58)) (As := []) (st := []) (q := 4) oX12_layOrder dX12_order_1 w1940 w1942 w0127 rfl rfl (gO_sp o1).1 (gO_sp o1).2 rfl (Nat.le_of_ble_eq_true rfl) (Nat.le_of_ble_eq_true rfl) (Nat.lt_of_lt_of_le (by decide) hd) rfl (sX12_layOrder (Nat.le_refl _) x2e) rfl ?_
  refine v_istore_n (L' := [(2, .int x2.1), (0, .ref v0), (1, .int v1)]) (q := 5) dX12_order_4 rfl (by decide) rfl rfl ?_
  refine v_iload_n (q := 6) 2 dX12_order_5 rfl rfl rfl ?_
  refine v_iconst (v := 0) (q := 7) dX12_order_6 (by decide) rfl ?_
  refine v_iload_n (q := 8) 0 dX12_order_7 rfl rfl rfl ?_
  refine v_iconst (v := 1) (q := 9) dX12_order_8 (by decide) rfl ?_
  refine v_isub (q := 10) dX12_order_9 rfl ?_
  obtain ⟨x3, x3e, H⟩ := bs H
  refine u_callS1 (M' := mX12_isIn) (d' := 1) (As := [.int v1, .int (0 : Int32), .int (x2.1 - (1 : Int32))]) (st := []) (q := 13) oX12_isIn dX12_order_10 w1618 w1619 rfl (Nat.le_of_ble_eq_true rfl) (Nat.le_of_ble_eq_true rfl) (Nat.lt_of_lt_of_le (by decide) hd) rfl (sX12_isIn (Nat.le_refl _) x3e) rfl ?_
  refine v_if_eq (q1 := 25) (q2 := 16) dX12_order_13 (by decide) rfl (fun c4 => ?_) (fun c4 => ?_)
  · have H := ip c4 H
    refine v_iconst (v := -1) (q := 26) dX12_order_25 (by decide) rfl ?_
    exact V.sub [] rfl (sjX12_order_26 hd H)
  · have H := ine c4 H
    refine v_aload_n (q := 17) 1 dX12_order_16 rfl rfl rfl ?_
    obtain ⟨x5, x5e, H⟩ := bs H
    refine u_gR (q := 20) (r := (RX12, TX12, 58)) x5e dX12_order_17 w1389 rfl (by decide) rfl rfl ?_
    refine v_iload_n (q := 21) 2 dX12_order_20 rfl rfl rfl ?_
    obtain ⟨x6, x6e, H⟩ := bs H
    refine u_lI (q := 22) x6e dX12_order_21 rfl ?_
    refine v_goto (q := 26) dX12_order_22 (by decide) ?_
    exact V.sub [] rfl (sjX12_order_26 hd H)

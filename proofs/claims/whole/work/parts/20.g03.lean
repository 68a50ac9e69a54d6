def mX9_learnUse : MI := (yX9_learnUse, cX9_learnUse, 5, none)
theorem oX9_learnUse : mOK mX9_learnUse 1 := ⟨by decide +kernel, by decide +kernel, by decide +kernel, by decide, w0874, w0147⟩
def jX9_learnUse_151 (h : Hp) : Option (Hp) :=
some h
set_option maxRecDepth 20000 in
set_option maxHeartbeats 4000000 in
theorem sjX9_learnUse_151 {Γ : Gm} {d : Nat} (hd : 4 ≤ d) {h : Hp} {r : Hp} (H : jX9_learnUse_151 h = some r) : V Γ d mX9_learnUse 151 [] [] h (none, r) := by
  unfold jX9_learnUse_151 at H
  cases H
  exact v_return rfl dX9_learnUse_151
def jX9_learnUse_130 (v0 : Nat) (v1 : Int32) (v4 : Int32) (h : Hp) : Option (Hp) :=
if (v4 &&& (2 : Int32)) = 0 then (
jX9_learnUse_151 h) else (
if (v4 &&& (8 : Int32)) = 0 then (
jX9_learnUse_151 h) else (
(gO h 9 v0).bind fun _ =>
(fX9_tellOnce h v0 (5 : Int32) v1).bind fun x27 =>
jX9_learnUse_151 x27))
set_option maxRecDepth 20000 in
set_option maxHeartbeats 4000000 in
theorem sjX9_learnUse_130 {Γ : Gm} {d : Nat} (hd : 4 ≤ d) {v0 : Nat} {v1 : Int32} {v4 : Int32} {h : Hp} {r : Hp} (H : jX9_learnUse_130 v0 v1 v4 h = some r) : V Γ d mX9_learnUse 130 [(0, .ref v0), (1, .int v1), (4, .int v4)] [] h (none, r) := by
  unfold jX9_learnUse_130 at H
  refine v_iload (q := 132) 2 dX9_learnUse_130 rfl rfl ?_
  refine v_iconst (v := 2) (q := 133) dX9_learnUse_132 (by decide) rfl ?_
  refine v_iand (q := 134) dX9_learnUse_133 rfl ?_
  refine v_if_eq (q1 := 151) (q2 := 137) dX9_learnUse_134 (by decide) rfl (fun c24 => ?_) (fun c24 => ?_)
  · replace H := ip c24 H
    exact V.sub [] rfl (sjX9_learnUse_151 hd H)
  · replace H := ine c24 H
    refine v_iload (q := 139) 2 dX9_learnUse_137 rfl rfl ?_
    refine v_bipush (v := 8) (q := 141) dX9_learnUse_139 (by decide) rfl ?_
    refine v_iand (q := 142) dX9_learnUse_141 rfl ?_
    refine v_if_eq (q1 := 151) (q2 := 145) dX9_learnUse_142 (by decide) rfl (fun c25 => ?_) (fun c25 => ?_)
    · replace H := ip c25 H
      exact V.sub [] rfl (sjX9_learnUse_151 hd H)
    · replace H := ine c25 H
      refine v_aload_n (q := 146) 0 dX9_learnUse_145 rfl rfl rfl ?_
      refine v_iconst (v := 5) (q := 147) dX9_learnUse_146 (by decide) rfl ?_
      refine v_iload_n (q := 148) 1 dX9_learnUse_147 rfl rfl rfl ?_
      replace H := bs H; obtain ⟨_, o26, H⟩ := H
      replace H := bs H; obtain ⟨x27, x27e, H⟩ := H
      refine u_callV0 (M' := mX9_tellOnce) (d' := 3) (rc := (RX9, TX9, 10)) (As := [.int (5 : Int32), .int v1]) (st := []) (q := 151) oX9_tellOnce dX9_learnUse_148 w0837 w0839 w0021 rfl rfl (gO_sp o26).1 (gO_sp o26).2 rfl (Nat.le_of_ble_eq_true rfl) (Nat.le_of_ble_eq_true rfl) (Nat.lt_of_lt_of_le (by decide) hd) rfl (sX9_tellOnce (Nat.le_refl _) x27e) rfl ?_
      exact V.sub [] rfl (sjX9_learnUse_151 hd H)
def jX9_learnUse_96 (v0 : Nat) (v1 : Int32) (y0 : Int32) (y1 : Int32) (h : Hp) : Option (Hp) :=
(some (y1 ||| y0)).bind fun x19 =>
(gR h 9 v0 2).bind fun x20 =>
(gR h 3 x20 2).bind fun x21 =>
(tI h x21 v1 x19).bind fun h22 =>
if (x19 &&& (1 : Int32)) = 0 then (
jX9_learnUse_130 v0 v1 x19 h22) else (
if (x19 &&& (4 : Int32)) = 0 then (
jX9_learnUse_130 v0 v1 x19 h22) else (
(gO h22 9 v0).bind fun _ =>
(fX9_tellOnce h22 v0 (4 : Int32) v1).bind fun x30 =>
jX9_learnUse_130 v0 v1 x19 x30))
set_option maxRecDepth 20000 in
set_option maxHeartbeats 4000000 in
theorem sjX9_learnUse_96 {Γ : Gm} {d : Nat} (hd : 4 ≤ d) {v0 : Nat} {v1 : Int32} {y0 : Int32} {y1 : Int32} {h : Hp} {r : Hp} (H : jX9_learnUse_96 v0 v1 y0 y1 h = some r) : V Γ d mX9_learnUse 96 [(0, .ref v0), (1, .int v1)] [.int y0, .int y1] h (none, r) := by
  unfold jX9_learnUse_96 at H
  refine v_ior (q := 97) dX9_learnUse_96 rfl ?_
  replace H := bs H; obtain ⟨x19, x19e, H⟩ := H
  refine v_topi (Option.some.inj x19e) ?_
  refine v_istore (L' := [(4, .int x19), (0, .ref v0), (1, .int v1)]) (q := 99) dX9_learnUse_97 (by decide) rfl rfl ?_
  refine v_aload_n (q := 100) 1 dX9_learnUse_99 rfl rfl rfl ?_
  replace H := bs H; obtain ⟨x20, x20e, H⟩ := H
  refine u_gR (q := 103) (r := (RX9, TX9, 10)) x20e dX9_learnUse_100 w0425 rfl (by decide) rfl rfl ?_
  replace H := bs H; obtain ⟨x21, x21e, H⟩ := H
  refine u_gR (q := 106) (r := (RX3, TX3, 8)) x21e dX9_learnUse_103 w0346 rfl (by decide) rfl rfl ?_
  refine v_iload_n (q := 107) 2 dX9_learnUse_106 rfl rfl rfl ?_
  refine v_iload (q := 109) 0 dX9_learnUse_107 rfl rfl ?_
  replace H := bs H; obtain ⟨h22, h22e, H⟩ := H
  refine u_tI (q := 110) h22e dX9_learnUse_109 rfl ?_
  refine v_iload (q := 112) 0 dX9_learnUse_110 rfl rfl ?_
  refine v_iconst (v := 1) (q := 113) dX9_learnUse_112 (by decide) rfl ?_
  refine v_iand (q := 114) dX9_learnUse_113 rfl ?_
  refine v_if_eq (q1 := 130) (q2 := 117) dX9_learnUse_114 (by decide) rfl (fun c23 => ?_) (fun c23 => ?_)
  · replace H := ip c23 H
    exact V.sub [1, 2, 0] rfl (sjX9_learnUse_130 hd H)
  · replace H := ine c23 H
    refine v_iload (q := 119) 0 dX9_learnUse_117 rfl rfl ?_
    refine v_iconst (v := 4) (q := 120) dX9_learnUse_119 (by decide) rfl ?_
    refine v_iand (q := 121) dX9_learnUse_120 rfl ?_
    refine v_if_eq (q1 := 130) (q2 := 124) dX9_learnUse_121 (by decide) rfl (fun c28 => ?_) (fun c28 => ?_)
    · replace H := ip c28 H
      exact V.sub [1, 2, 0] rfl (sjX9_learnUse_130 hd H)
    · replace H := ine c28 H
      refine v_aload_n (q := 125) 1 dX9_learnUse_124 rfl rfl rfl ?_
      refine v_iconst (v := 4) (q := 126) dX9_learnUse_125 (by decide) rfl ?_
      refine v_iload_n (q := 127) 2 dX9_learnUse_126 rfl rfl rfl ?_
      replace H := bs H; obtain ⟨_, o29, H⟩ := H
      replace H := bs H; obtain ⟨x30, x30e, H⟩ := H
      refine u_callV0 (M' := mX9_tellOnce) (d' := 3) (rc := (RX9, TX9, 10)) (As := [.int (4 : Int32), .int v1]) (st := []) (q := 130) oX9_tellOnce dX9_learnUse_127 w0837 w0839 w0021 rfl rfl (gO_sp o29).1 (gO_sp o29).2 rfl (Nat.le_of_ble_eq_true rfl) (Nat.le_of_ble_eq_true rfl) (Nat.lt_of_lt_of_le (by decide) hd) rfl (sX9_tellOnce (Nat.le_refl _) x30e) rfl ?_
      exact V.sub [1, 2, 0] rfl (sjX9_learnUse_130 hd H)
def jX9_learnUse_77 (v0 : Nat) (v1 : Int32) (v3 : Int32) (y0 : Int32) (y1 : Int32) (h : Hp) : Option (Hp) :=
(some (y1 ||| y0)).bind fun x16 =>
(fX11_has h v3 (1 : Int32)).bind fun x17 =>
if x17 = 0 then (
jX9_learnUse_96 v0 v1 (0 : Int32) x16 h) else (
jX9_learnUse_96 v0 v1 (8 : Int32) x16 h)
set_option maxRecDepth 20000 in
set_option maxHeartbeats 4000000 in
theorem sjX9_learnUse_77 {Γ : Gm} {d : Nat} (hd : 4 ≤ d) {v0 : Nat} {v1 : Int32} {v3 : Int32} {y0 : Int32} {y1 : Int32} {h : Hp} {r : Hp} (H : jX9_learnUse_77 v0 v1 v3 y0 y1 h = some r) : V Γ d mX9_learnUse 77 [(0, .ref v0), (1, .int v1), (3, .int v3)] [.int y0, .int y1] h (none, r) := by
  unfold jX9_learnUse_77 at H
  refine v_ior (q := 78) dX9_learnUse_77 rfl ?_
  replace H := bs H; obtain ⟨x16, x16e, H⟩ := H
  refine v_topi (Option.some.inj x16e) ?_
  refine v_istore (L' := [(4, .int x16), (0, .ref v0), (1, .int v1), (3, .int v3)]) (q := 80) dX9_learnUse_78 (by decide) rfl rfl ?_
  refine v_iload (q := 82) 0 dX9_learnUse_80 rfl rfl ?_
  refine v_iload_n (q := 83) 3 dX9_learnUse_82 rfl rfl rfl ?_
  refine v_iconst (v := 1) (q := 84) dX9_learnUse_83 (by decide) rfl ?_
  replace H := bs H; obtain ⟨x17, x17e, H⟩ := H
  refine u_callSN1 (M' := mX11_has) (d' := 1) (As := [.int v3, .int (1 : Int32)]) (st := [.int x16]) (q := 87) oX11_has dX9_learnUse_84 w0782 w0783 rfl (Nat.le_of_ble_eq_true rfl) (Nat.le_of_ble_eq_true rfl) (Nat.lt_of_lt_of_le (by decide) hd) rfl (sX11_has (Nat.le_refl _) x17e) rfl ?_
  refine v_if_eq (q1 := 95) (q2 := 90) dX9_learnUse_87 (by decide) rfl (fun c18 => ?_) (fun c18 => ?_)
  · replace H := ip c18 H
    refine v_iconst (v := 0) (q := 96) dX9_learnUse_95 (by decide) rfl ?_
    exact V.sub [1, 2] rfl (sjX9_learnUse_96 hd H)
  · replace H := ine c18 H
    refine v_bipush (v := 8) (q := 92) dX9_learnUse_90 (by decide) rfl ?_
    refine v_goto (q := 96) dX9_learnUse_92 (by decide) ?_
    exact V.sub [1, 2] rfl (sjX9_learnUse_96 hd H)
def jX9_learnUse_59 (v0 : Nat) (v1 : Int32) (v3 : Int32) (y0 : Int32) (y1 : Int32) (h : Hp) : Option (Hp) :=
(some (y1 ||| y0)).bind fun x13 =>
(fX11_has h v3 (2 : Int32)).bind fun x14 =>
if x14 = 0 then (
jX9_learnUse_77 v0 v1 v3 (0 : Int32) x13 h) else (
jX9_learnUse_77 v0 v1 v3 (4 : Int32) x13 h)
set_option maxRecDepth 20000 in
set_option maxHeartbeats 4000000 in
theorem sjX9_learnUse_59 {Γ : Gm} {d : Nat} (hd : 4 ≤ d) {v0 : Nat} {v1 : Int32} {v3 : Int32} {y0 : Int32} {y1 : Int32} {h : Hp} {r : Hp} (H : jX9_learnUse_59 v0 v1 v3 y0 y1 h = some r) : V Γ d mX9_learnUse 59 [(0, .ref v0), (1, .int v1), (3, .int v3)] [.int y0, .int y1] h (none, r) := by
  unfold jX9_learnUse_59 at H
  refine v_ior (q := 60) dX9_learnUse_59 rfl ?_
  replace H := bs H; obtain ⟨x13, x13e, H⟩ := H
  refine v_topi (Option.some.inj x13e) ?_
  refine v_istore (L' := [(4, .int x13), (0, .ref v0), (1, .int v1), (3, .int v3)]) (q := 62) dX9_learnUse_60 (by decide) rfl rfl ?_
  refine v_iload (q := 64) 0 dX9_learnUse_62 rfl rfl ?_
  refine v_iload_n (q := 65) 3 dX9_learnUse_64 rfl rfl rfl ?_
  refine v_iconst (v := 2) (q := 66) dX9_learnUse_65 (by decide) rfl ?_
  replace H := bs H; obtain ⟨x14, x14e, H⟩ := H
  refine u_callSN1 (M' := mX11_has) (d' := 1) (As := [.int v3, .int (2 : Int32)]) (st := [.int x13]) (q := 69) oX11_has dX9_learnUse_66 w0782 w0783 rfl (Nat.le_of_ble_eq_true rfl) (Nat.le_of_ble_eq_true rfl) (Nat.lt_of_lt_of_le (by decide) hd) rfl (sX11_has (Nat.le_refl _) x14e) rfl ?_
  refine v_if_eq (q1 := 76) (q2 := 72) dX9_learnUse_69 (by decide) rfl (fun c15 => ?_) (fun c15 => ?_)
  · replace H := ip c15 H
    refine v_iconst (v := 0) (q := 77) dX9_learnUse_76 (by decide) rfl ?_
    exact V.sub [1, 2, 3] rfl (sjX9_learnUse_77 hd H)
  · replace H := ine c15 H
    refine v_iconst (v := 4) (q := 73) dX9_learnUse_72 (by decide) rfl ?_
    refine v_goto (q := 77) dX9_learnUse_73 (by decide) ?_
    exact V.sub [1, 2, 3] rfl (sjX9_learnUse_77 hd H)
def jX9_learnUse_44 (v0 : Nat) (v1 : Int32) (v2 : Int32) (v3 : Int32) (y0 : Int32) (y1 : Int32) (h : Hp) : Option (Hp) :=
(some (y1 ||| y0)).bind fun x11 =>
if v2 = (1 : Int32) then (
jX9_learnUse_59 v0 v1 v3 (2 : Int32) x11 h) else (
jX9_learnUse_59 v0 v1 v3 (0 : Int32) x11 h)
set_option maxRecDepth 20000 in
set_option maxHeartbeats 4000000 in
theorem sjX9_learnUse_44 {Γ : Gm} {d : Nat} (hd : 4 ≤ d) {v0 : Nat} {v1 : Int32} {v2 : Int32} {v3 : Int32} {y0 : Int32} {y1 : Int32} {h : Hp} {r : Hp} (H : jX9_learnUse_44 v0 v1 v2 v3 y0 y1 h = some r) : V Γ d mX9_learnUse 44 [(0, .ref v0), (1, .int v1), (2, .int v2), (3, .int v3)] [.int y0, .int y1] h (none, r) := by
  unfold jX9_learnUse_44 at H
  refine v_ior (q := 45) dX9_learnUse_44 rfl ?_
  replace H := bs H; obtain ⟨x11, x11e, H⟩ := H
  refine v_topi (Option.some.inj x11e) ?_
  refine v_istore (L' := [(4, .int x11), (0, .ref v0), (1, .int v1), (2, .int v2), (3, .int v3)]) (q := 47) dX9_learnUse_45 (by decide) rfl rfl ?_
  refine v_iload (q := 49) 0 dX9_learnUse_47 rfl rfl ?_
  refine v_iload_n (q := 50) 3 dX9_learnUse_49 rfl rfl rfl ?_
  refine v_iconst (v := 1) (q := 51) dX9_learnUse_50 (by decide) rfl ?_
  refine v_icmp_ne (q1 := 58) (q2 := 54) dX9_learnUse_51 (by decide) rfl (fun c12 => ?_) (fun c12 => ?_)
  · replace H := ine c12 H
    refine v_iconst (v := 0) (q := 59) dX9_learnUse_58 (by decide) rfl ?_
    exact V.sub [1, 2, 4] rfl (sjX9_learnUse_59 hd H)
  · replace H := ip c12 H
    refine v_iconst (v := 2) (q := 55) dX9_learnUse_54 (by decide) rfl ?_
    refine v_goto (q := 59) dX9_learnUse_55 (by decide) ?_
    exact V.sub [1, 2, 4] rfl (sjX9_learnUse_59 hd H)
def fX9_learnUse (h : Hp) (v0 : Nat) (v1 : Int32) : Option (Hp) :=
(gR h 9 v0 1).bind fun x1 =>
(gR h 5 x1 4).bind fun x2 =>
(gI h 9 v0 3).bind fun x3 =>
(lI h .int x2 x3).bind fun x4 =>
(gI h 9 v0 5).bind fun x5 =>
(fX11_whatCanCome h x5).bind fun x6 =>
(gR h 9 v0 2).bind fun x7 =>
(gR h 3 x7 2).bind fun x8 =>
(lI h .int x8 v1).bind fun x9 =>
if x4 = (2 : Int32) then (
jX9_learnUse_44 v0 v1 x4 x6 (1 : Int32) x9 h) else (
jX9_learnUse_44 v0 v1 x4 x6 (0 : Int32) x9 h)
set_option maxRecDepth 20000 in
set_option maxHeartbeats 4000000 in
theorem sX9_learnUse {Γ : Gm} {d : Nat} (hd : 4 ≤ d) {h : Hp} {v0 : Nat} {v1 : Int32} {r : Hp} (H : fX9_learnUse h v0 v1 = some r) : V Γ d mX9_learnUse 0 [(0, .ref v0), (1, .int v1)] [] h (none, r) := by
  unfold fX9_learnUse at H
  refine v_aload_n (q := 1) 0 dX9_learnUse_0 rfl rfl rfl ?_
  replace H := bs H; obtain ⟨x1, x1e, H⟩ := H
  refine u_gR (q := 4) (r := (RX9, TX9, 10)) x1e dX9_learnUse_1 w0424 rfl (by decide) rfl rfl ?_
  replace H := bs H; obtain ⟨x2, x2e, H⟩ := H
  refine u_gR (q := 7) (r := (RX5, TX5, 7)) x2e dX9_learnUse_4 w0241 rfl (by decide) rfl rfl ?_
  refine v_aload_n (q := 8) 0 dX9_learnUse_7 rfl rfl rfl ?_
  replace H := bs H; obtain ⟨x3, x3e, H⟩ := H
  refine u_gI (q := 11) (r := (RX9, TX9, 10)) x3e dX9_learnUse_8 w0426 rfl (by decide) rfl rfl ?_
  replace H := bs H; obtain ⟨x4, x4e, H⟩ := H
  refine u_lI (q := 12) x4e dX9_learnUse_11 rfl ?_
  refine v_istore_n (L' := [(2, .int x4), (0, .ref v0), (1, .int v1)]) (q := 13) dX9_learnUse_12 rfl (by decide) rfl rfl ?_
  refine v_aload_n (q := 14) 1 dX9_learnUse_13 rfl rfl rfl ?_
  replace H := bs H; obtain ⟨x5, x5e, H⟩ := H
  refine u_gI (q := 17) (r := (RX9, TX9, 10)) x5e dX9_learnUse_14 w0428 rfl (by decide) rfl rfl ?_
  replace H := bs H; obtain ⟨x6, x6e, H⟩ := H
  refine u_callSN1 (M' := mX11_whatCanCome) (d' := 1) (As := [.int x5]) (st := []) (q := 20) oX11_whatCanCome dX9_learnUse_17 w0875 w0876 rfl (Nat.le_of_ble_eq_true rfl) (Nat.le_of_ble_eq_true rfl) (Nat.lt_of_lt_of_le (by decide) hd) rfl (sX11_whatCanCome (Nat.le_refl _) x6e) rfl ?_
  refine v_istore_n (L' := [(3, .int x6), (2, .int x4), (0, .ref v0), (1, .int v1)]) (q := 21) dX9_learnUse_20 rfl (by decide) rfl rfl ?_
  refine v_aload_n (q := 22) 2 dX9_learnUse_21 rfl rfl rfl ?_
  replace H := bs H; obtain ⟨x7, x7e, H⟩ := H
  refine u_gR (q := 25) (r := (RX9, TX9, 10)) x7e dX9_learnUse_22 w0425 rfl (by decide) rfl rfl ?_
  replace H := bs H; obtain ⟨x8, x8e, H⟩ := H
  refine u_gR (q := 28) (r := (RX3, TX3, 8)) x8e dX9_learnUse_25 w0346 rfl (by decide) rfl rfl ?_
  refine v_iload_n (q := 29) 3 dX9_learnUse_28 rfl rfl rfl ?_
  replace H := bs H; obtain ⟨x9, x9e, H⟩ := H
  refine u_lI (q := 30) x9e dX9_learnUse_29 rfl ?_
  refine v_istore (L' := [(4, .int x9), (3, .int x6), (2, .int x4), (0, .ref v0), (1, .int v1)]) (q := 32) dX9_learnUse_30 (by decide) rfl rfl ?_
  refine v_iload (q := 34) 0 dX9_learnUse_32 rfl rfl ?_
  refine v_iload_n (q := 35) 2 dX9_learnUse_34 rfl rfl rfl ?_
  refine v_iconst (v := 2) (q := 36) dX9_learnUse_35 (by decide) rfl ?_
  refine v_icmp_ne (q1 := 43) (q2 := 39) dX9_learnUse_36 (by decide) rfl (fun c10 => ?_) (fun c10 => ?_)
  · replace H := ine c10 H
    refine v_iconst (v := 0) (q := 44) dX9_learnUse_43 (by decide) rfl ?_
    exact V.sub [3, 4, 2, 1] rfl (sjX9_learnUse_44 hd H)
  · replace H := ip c10 H
    refine v_iconst (v := 1) (q := 40) dX9_learnUse_39 (by decide) rfl ?_
    refine v_goto (q := 44) dX9_learnUse_40 (by decide) ?_
    exact V.sub [3, 4, 2, 1] rfl (sjX9_learnUse_44 hd H)
def mX3_nodesWith : MI := (yX3_nodesWith, cX3_nodesWith, 4, some .int)
theorem oX3_nodesWith : mOK mX3_nodesWith 1 := ⟨by decide +kernel, by decide +kernel, by decide +kernel, by decide, w0885, w0143⟩
def jX3_nodesWith_27 (u0 : Nat) (u1 : Int32) (v2 : Int32) (v3 : Int32) (h : Hp) : Option ((Int32 × Int32) ⊕ (Int32)) :=
(some (v3 + (1 : Int32))).bind fun x5 =>
some (.inl (v2, x5))
set_option maxRecDepth 20000 in
set_option maxHeartbeats 4000000 in
theorem sjX3_nodesWith_27 {Γ : Gm} {d : Nat} (hd : 1 ≤ d) {u0 : Nat} {u1 : Int32} {v2 : Int32} {v3 : Int32} {h : Hp} {r : (Int32 × Int32) ⊕ (Int32)} {t : Option Value × Hp} (H : jX3_nodesWith_27 u0 u1 v2 v3 h = some r) (kI : ∀ s, r = .inl s → (fun s4 => V Γ d mX3_nodesWith 4 [(0, .ref u0), (1, .int u1), (2, .int s4.1), (3, .int s4.2)] [] h t) s) (kE : ∀ e, r = .inr e → (fun e => V Γ d mX3_nodesWith 33 [(2, .int e)] [] h t) e) : V Γ d mX3_nodesWith 27 [(0, .ref u0), (1, .int u1), (2, .int v2), (3, .int v3)] [] h t := by
  unfold jX3_nodesWith_27 at H
  replace H := bs H; obtain ⟨x5, x5e, H⟩ := H
  refine v_iinc (v := x5) (L' := [(3, .int x5), (0, .ref u0), (1, .int u1), (2, .int v2)]) (q := 30) 3 dX3_nodesWith_27 rfl (Option.some.inj x5e) (by decide) rfl rfl ?_
  refine v_goto (q := 4) dX3_nodesWith_30 (by decide) ?_
  exact V.sub [1, 2, 3, 0] rfl (kI (v2, x5) (Option.some.inj H).symm)
def bX3_nodesWith_4 (u0 : Nat) (u1 : Int32) (h : Hp) (s4 : Int32 × Int32) : Option ((Int32 × Int32) ⊕ (Int32)) :=
if (16 : Int32) ≤ s4.2 then (
some (.inr s4.1)) else (
(gR h 3 u0 2).bind fun x2 =>
(lI h .int x2 s4.2).bind fun x3 =>
if (x3 &&& u1) = 0 then (
jX3_nodesWith_27 u0 u1 s4.1 s4.2 h) else (
(some (s4.1 ||| ((1 : Int32) <<< (s4.2 &&& 31)))).bind fun x6 =>
jX3_nodesWith_27 u0 u1 x6 s4.2 h))
set_option maxRecDepth 20000 in
set_option maxHeartbeats 4000000 in
theorem sbX3_nodesWith_4 {Γ : Gm} {d : Nat} (hd : 1 ≤ d) {u0 : Nat} {u1 : Int32} {h : Hp} {s4 : Int32 × Int32} {r : (Int32 × Int32) ⊕ (Int32)} {t : Option Value × Hp} (H : bX3_nodesWith_4 u0 u1 h s4 = some r) (kI : ∀ s, r = .inl s → (fun s4 => V Γ d mX3_nodesWith 4 [(0, .ref u0), (1, .int u1), (2, .int s4.1), (3, .int s4.2)] [] h t) s) (kE : ∀ e, r = .inr e → (fun e => V Γ d mX3_nodesWith 33 [(2, .int e)] [] h t) e) : V Γ d mX3_nodesWith 4 [(0, .ref u0), (1, .int u1), (2, .int s4.1), (3, .int s4.2)] [] h t := by
  unfold bX3_nodesWith_4 at H
  refine v_iload_n (q := 5) 3 dX3_nodesWith_4 rfl rfl rfl ?_
  refine v_bipush (v := 16) (q := 7) dX3_nodesWith_5 (by decide) rfl ?_
  refine v_icmp_ge (q1 := 33) (q2 := 10) dX3_nodesWith_7 (by decide) rfl (fun c1 => ?_) (fun c1 => ?_)
  · replace H := ip c1 H
    exact V.sub [2] rfl (kE s4.1 (Option.some.inj H).symm)
  · replace H := ine c1 H
    refine v_aload_n (q := 11) 0 dX3_nodesWith_10 rfl rfl rfl ?_
    replace H := bs H; obtain ⟨x2, x2e, H⟩ := H
    refine u_gR (q := 14) (r := (RX3, TX3, 8)) x2e dX3_nodesWith_11 w0345 rfl (by decide) rfl rfl ?_
    refine v_iload_n (q := 15) 3 dX3_nodesWith_14 rfl rfl rfl ?_
    replace H := bs H; obtain ⟨x3, x3e, H⟩ := H
    refine u_lI (q := 16) x3e dX3_nodesWith_15 rfl ?_
    refine v_iload_n (q := 17) 1 dX3_nodesWith_16 rfl rfl rfl ?_
    refine v_iand (q := 18) dX3_nodesWith_17 rfl ?_
    refine v_if_eq (q1 := 27) (q2 := 21) dX3_nodesWith_18 (by decide) rfl (fun c4 => ?_) (fun c4 => ?_)
    · replace H := ip c4 H
      exact V.sub [0, 1, 2, 3] rfl (sjX3_nodesWith_27 hd H kI kE)
    · replace H := ine c4 H
      refine v_iload_n (q := 22) 2 dX3_nodesWith_21 rfl rfl rfl ?_
      refine v_iconst (v := 1) (q := 23) dX3_nodesWith_22 (by decide) rfl ?_
      refine v_iload_n (q := 24) 3 dX3_nodesWith_23 rfl rfl rfl ?_
      refine v_ishl (q := 25) dX3_nodesWith_24 rfl ?_
      refine v_ior (q := 26) dX3_nodesWith_25 rfl ?_
      replace H := bs H; obtain ⟨x6, x6e, H⟩ := H
      refine v_topi (Option.some.inj x6e) ?_
      refine v_istore_n (L' := [(2, .int x6), (0, .ref u0), (1, .int u1), (3, .int s4.2)]) (q := 27) dX3_nodesWith_26 rfl (by decide) rfl rfl ?_
      exact V.sub [1, 2, 0, 3] rfl (sjX3_nodesWith_27 hd H kI kE)
def fX3_nodesWith (h : Hp) (v0 : Nat) (v1 : Int32) : Option (Int32) :=
(lp (bX3_nodesWith_4 v0 v1 h) FU ((0 : Int32), (0 : Int32))).bind fun e7 =>
some e7
set_option maxRecDepth 20000 in
set_option maxHeartbeats 4000000 in
theorem sX3_nodesWith {Γ : Gm} {d : Nat} (hd : 1 ≤ d) {h : Hp} {v0 : Nat} {v1 : Int32} {r : Int32} (H : fX3_nodesWith h v0 v1 = some r) : V Γ d mX3_nodesWith 0 [(0, .ref v0), (1, .int v1)] [] h (some (.int r), h) := by
  unfold fX3_nodesWith at H
  refine v_iconst (v := 0) (q := 1) dX3_nodesWith_0 (by decide) rfl ?_
  refine v_istore_n (L' := [(2, .int (0 : Int32)), (0, .ref v0), (1, .int v1)]) (q := 2) dX3_nodesWith_1 rfl (by decide) rfl rfl ?_
  refine v_iconst (v := 0) (q := 3) dX3_nodesWith_2 (by decide) rfl ?_
  refine v_istore_n (L' := [(3, .int (0 : Int32)), (2, .int (0 : Int32)), (0, .ref v0), (1, .int v1)]) (q := 4) dX3_nodesWith_3 rfl (by decide) rfl rfl ?_
  replace H := bs H; obtain ⟨e7, e7L, H⟩ := H
  refine V.sub [2, 3, 1, 0] rfl ?_
  refine lp_V (P := (fun s4 => V Γ d mX3_nodesWith 4 [(0, .ref v0), (1, .int v1), (2, .int s4.1), (3, .int s4.2)] [] h (some (.int r), h))) (E := (fun e => V Γ d mX3_nodesWith 33 [(2, .int e)] [] h (some (.int r), h))) (fun s r hb kI kE => sbX3_nodesWith_4 hd (s4 := s) (r := r) hb kI kE) FU ((0 : Int32), (0 : Int32)) e7 e7L ?_
  refine v_iload_n (q := 34) 0 dX3_nodesWith_33 rfl rfl rfl ?_
  cases H
  exact v_ireturn rfl dX3_nodesWith_34
def mX7_isFull : MI := (yX7_isFull, cX7_isFull, 1, some .boolean)
theorem oX7_isFull : mOK mX7_isFull 0 := ⟨by decide +kernel, by decide +kernel, by decide +kernel, by decide, w0889, w0145⟩
def jX7_isFull_14 (y0 : Int32) (h : Hp) : Option (Int32) :=
(bz y0).bind fun x3 =>
some x3
set_option maxRecDepth 20000 in
set_option maxHeartbeats 4000000 in
theorem sjX7_isFull_14 {Γ : Gm} {d : Nat} (hd : 1 ≤ d) {y0 : Int32} {h : Hp} {r : Int32} (H : jX7_isFull_14 y0 h = some r) : V Γ d mX7_isFull 14 [] [.int y0] h (some (.int r), h) := by
  unfold jX7_isFull_14 at H
  replace H := bs H; obtain ⟨x3, x3e, H⟩ := H
  obtain ⟨x3q, x3z⟩ := bz_sp x3e
  refine v_topi x3q.symm ?_
  cases H
  exact v_zreturn rfl (by rw [x3q]; exact x3z) dX7_isFull_14
def fX7_isFull (h : Hp) (v0 : Nat) : Option (Int32) :=
(gI h 7 v0 0).bind fun x1 =>
if x1 < (60 : Int32) then (
jX7_isFull_14 (0 : Int32) h) else (
jX7_isFull_14 (1 : Int32) h)
set_option maxRecDepth 20000 in
set_option maxHeartbeats 4000000 in
theorem sX7_isFull {Γ : Gm} {d : Nat} (hd : 1 ≤ d) {h : Hp} {v0 : Nat} {r : Int32} (H : fX7_isFull h v0 = some r) : V Γ d mX7_isFull 0 [(0, .ref v0)] [] h (some (.int r), h) := by
  unfold fX7_isFull at H
  refine v_aload_n (q := 1) 0 dX7_isFull_0 rfl rfl rfl ?_
  replace H := bs H; obtain ⟨x1, x1e, H⟩ := H
  refine u_gI (q := 4) (r := (RX7, TX7, 7)) x1e dX7_isFull_1 w0311 rfl (by decide) rfl rfl ?_
  refine v_bipush (v := 60) (q := 6) dX7_isFull_4 (by decide) rfl ?_
  refine v_icmp_lt (q1 := 13) (q2 := 9) dX7_isFull_6 (by decide) rfl (fun c2 => ?_) (fun c2 => ?_)
  · replace H := ip c2 H
    refine v_iconst (v := 0) (q := 14) dX7_isFull_13 (by decide) rfl ?_
    exact V.sub [] rfl (sjX7_isFull_14 hd H)
  · replace H := ine c2 H
    refine v_iconst (v := 1) (q := 10) dX7_isFull_9 (by decide) rfl ?_
    refine v_goto (q := 14) dX7_isFull_10 (by decide) ?_
    exact V.sub [] rfl (sjX7_isFull_14 hd H)
def mX9_tellUnsafe : MI := (yX9_tellUnsafe, cX9_tellUnsafe, 9, none)
theorem oX9_tellUnsafe : mOK mX9_tellUnsafe 3 := ⟨by decide +kernel, by decide +kernel, by decide +kernel, by decide, w0881, w0147⟩
def jX9_tellUnsafe_156 (u0 : Nat) (u1 : Int32) (u4 : Int32) (u5 : Int32) (v6 : Int32) (h : Hp) : Option ((Int32 × Hp) ⊕ (Hp)) :=
(some (v6 + (1 : Int32))).bind fun x10 =>
some (.inl (x10, h))
set_option maxRecDepth 20000 in
set_option maxHeartbeats 4000000 in
theorem sjX9_tellUnsafe_156 {Γ : Gm} {d : Nat} (hd : 4 ≤ d) {u0 : Nat} {u1 : Int32} {u4 : Int32} {u5 : Int32} {v6 : Int32} {h : Hp} {r : (Int32 × Hp) ⊕ (Hp)} {t : Option Value × Hp} (H : jX9_tellUnsafe_156 u0 u1 u4 u5 v6 h = some r) (kI : ∀ s, r = .inl s → (fun s23 => V Γ d mX9_tellUnsafe 23 [(0, .ref u0), (1, .int u1), (4, .int u4), (5, .int u5), (6, .int s23.1)] [] s23.2 t) s) (kE : ∀ e, r = .inr e → (fun e => V Γ d mX9_tellUnsafe 162 [] [] e t) e) : V Γ d mX9_tellUnsafe 156 [(0, .ref u0), (1, .int u1), (4, .int u4), (5, .int u5), (6, .int v6)] [] h t := by
  unfold jX9_tellUnsafe_156 at H
  replace H := bs H; obtain ⟨x10, x10e, H⟩ := H
  refine v_iinc (v := x10) (L' := [(6, .int x10), (0, .ref u0), (1, .int u1), (4, .int u4), (5, .int u5)]) (q := 159) 4 dX9_tellUnsafe_156 rfl (Option.some.inj x10e) (by decide) rfl rfl ?_
  refine v_goto (q := 23) dX9_tellUnsafe_159 (by decide) ?_
  exact V.sub [1, 2, 3, 4, 0] rfl (kI (x10, h) (Option.some.inj H).symm)
def jX9_tellUnsafe_150 (u0 : Nat) (u1 : Int32) (u4 : Int32) (u5 : Int32) (u6 : Int32) (u7 : Int32) (v8 : Int32) (h : Hp) : Option ((Int32 × Hp) ⊕ (Hp)) :=
(some (v8 + (1 : Int32))).bind fun x30 =>
some (.inl (x30, h))
set_option maxRecDepth 20000 in
set_option maxHeartbeats 4000000 in
theorem sjX9_tellUnsafe_150 {Γ : Gm} {d : Nat} (hd : 4 ≤ d) {u0 : Nat} {u1 : Int32} {u4 : Int32} {u5 : Int32} {u6 : Int32} {u7 : Int32} {v8 : Int32} {h : Hp} {r : (Int32 × Hp) ⊕ (Hp)} {t : Option Value × Hp} (H : jX9_tellUnsafe_150 u0 u1 u4 u5 u6 u7 v8 h = some r) (kI : ∀ s, r = .inl s → (fun s88 => V Γ d mX9_tellUnsafe 88 [(0, .ref u0), (1, .int u1), (4, .int u4), (5, .int u5), (6, .int u6), (7, .int u7), (8, .int s88.1)] [] s88.2 t) s) (kE : ∀ e, r = .inr e → (fun e => V Γ d mX9_tellUnsafe 156 [(0, .ref u0), (1, .int u1), (4, .int u4), (5, .int u5), (6, .int u6)] [] e t) e) : V Γ d mX9_tellUnsafe 150 [(0, .ref u0), (1, .int u1), (4, .int u4), (5, .int u5), (6, .int u6), (7, .int u7), (8, .int v8)] [] h t := by
  unfold jX9_tellUnsafe_150 at H
  replace H := bs H; obtain ⟨x30, x30e, H⟩ := H
  refine v_iinc (v := x30) (L' := [(8, .int x30), (0, .ref u0), (1, .int u1), (4, .int u4), (5, .int u5), (6, .int u6), (7, .int u7)]) (q := 153) 6 dX9_tellUnsafe_150 rfl (Option.some.inj x30e) (by decide) rfl rfl ?_
  refine v_goto (q := 88) dX9_tellUnsafe_153 (by decide) ?_
  exact V.sub [1, 2, 3, 4, 5, 6, 0] rfl (kI (x30, h) (Option.some.inj H).symm)
def bX9_tellUnsafe_88 (u0 : Nat) (u1 : Int32) (u4 : Int32) (u5 : Int32) (u6 : Int32) (u7 : Int32) (s88 : Int32 × Hp) : Option ((Int32 × Hp) ⊕ (Hp)) :=
if (16 : Int32) ≤ s88.1 then (
some (.inr s88.2)) else (
if u7 = 0 then (
some (.inr s88.2)) else (
(gR s88.2 9 u0 2).bind fun x23 =>
(gR s88.2 3 x23 4).bind fun x24 =>
(gO s88.2 7 x24).bind fun _ =>
(fX7_isFull s88.2 x24).bind fun x26 =>
if x26 = 0 then (
(fX11_has s88.2 u7 s88.1).bind fun x28 =>
if x28 = 0 then (
jX9_tellUnsafe_150 u0 u1 u4 u5 u6 u7 s88.1 s88.2) else (
(gR s88.2 9 u0 2).bind fun x31 =>
(gR s88.2 3 x31 4).bind fun x32 =>
(gI s88.2 9 u0 3).bind fun x33 =>
(gI s88.2 9 u0 4).bind fun x34 =>
(gO s88.2 7 x32).bind fun _ =>
(fX7_open s88.2 x32 u1 x33 x34).bind fun x36 =>
(gO x36 9 u0).bind fun _ =>
(fX9_tellWay x36 u0 u6 s88.1).bind fun x38 =>
jX9_tellUnsafe_150 u0 u1 u4 u5 u6 u7 s88.1 x38)) else (
some (.inr s88.2))))
set_option maxRecDepth 20000 in
set_option maxHeartbeats 4000000 in
theorem sbX9_tellUnsafe_88 {Γ : Gm} {d : Nat} (hd : 4 ≤ d) {u0 : Nat} {u1 : Int32} {u4 : Int32} {u5 : Int32} {u6 : Int32} {u7 : Int32} {s88 : Int32 × Hp} {r : (Int32 × Hp) ⊕ (Hp)} {t : Option Value × Hp} (H : bX9_tellUnsafe_88 u0 u1 u4 u5 u6 u7 s88 = some r) (kI : ∀ s, r = .inl s → (fun s88 => V Γ d mX9_tellUnsafe 88 [(0, .ref u0), (1, .int u1), (4, .int u4), (5, .int u5), (6, .int u6), (7, .int u7), (8, .int s88.1)] [] s88.2 t) s) (kE : ∀ e, r = .inr e → (fun e => V Γ d mX9_tellUnsafe 156 [(0, .ref u0), (1, .int u1), (4, .int u4), (5, .int u5), (6, .int u6)] [] e t) e) : V Γ d mX9_tellUnsafe 88 [(0, .ref u0), (1, .int u1), (4, .int u4), (5, .int u5), (6, .int u6), (7, .int u7), (8, .int s88.1)] [] s88.2 t := by
  unfold bX9_tellUnsafe_88 at H
  refine v_iload (q := 90) 6 dX9_tellUnsafe_88 rfl rfl ?_
  refine v_bipush (v := 16) (q := 92) dX9_tellUnsafe_90 (by decide) rfl ?_
  refine v_icmp_ge (q1 := 156) (q2 := 95) dX9_tellUnsafe_92 (by decide) rfl (fun c21 => ?_) (fun c21 => ?_)
  · replace H := ip c21 H
    exact V.sub [0, 1, 2, 3, 4] rfl (kE s88.2 (Option.some.inj H).symm)
  · replace H := ine c21 H
    refine v_iload (q := 97) 5 dX9_tellUnsafe_95 rfl rfl ?_
    refine v_if_eq (q1 := 156) (q2 := 100) dX9_tellUnsafe_97 (by decide) rfl (fun c22 => ?_) (fun c22 => ?_)
    · replace H := ip c22 H
      exact V.sub [0, 1, 2, 3, 4] rfl (kE s88.2 (Option.some.inj H).symm)
    · replace H := ine c22 H
      refine v_aload_n (q := 101) 0 dX9_tellUnsafe_100 rfl rfl rfl ?_
      replace H := bs H; obtain ⟨x23, x23e, H⟩ := H
      refine u_gR (q := 104) (r := (RX9, TX9, 10)) x23e dX9_tellUnsafe_101 w0425 rfl (by decide) rfl rfl ?_
      replace H := bs H; obtain ⟨x24, x24e, H⟩ := H
      refine u_gR (q := 107) (r := (RX3, TX3, 8)) x24e dX9_tellUnsafe_104 w0352 rfl (by decide) rfl rfl ?_
      replace H := bs H; obtain ⟨_, o25, H⟩ := H
      replace H := bs H; obtain ⟨x26, x26e, H⟩ := H
      refine u_callV1 (M' := mX7_isFull) (d' := 1) (rc := (RX7, TX7, 7)) (As := []) (st := []) (q := 110) oX7_isFull dX9_tellUnsafe_107 w0886 w0887 w0888 rfl rfl (gO_sp o25).1 (gO_sp o25).2 rfl (Nat.le_of_ble_eq_true rfl) (Nat.le_of_ble_eq_true rfl) (Nat.lt_of_lt_of_le (by decide) hd) rfl (sX7_isFull (Nat.le_refl _) x26e) rfl ?_
      refine v_if_ne (q1 := 156) (q2 := 113) dX9_tellUnsafe_110 (by decide) rfl (fun c27 => ?_) (fun c27 => ?_)
      · replace H := ine c27 H
        exact V.sub [0, 1, 2, 3, 4] rfl (kE s88.2 (Option.some.inj H).symm)
      · replace H := ip c27 H
        refine v_iload (q := 115) 5 dX9_tellUnsafe_113 rfl rfl ?_
        refine v_iload (q := 117) 6 dX9_tellUnsafe_115 rfl rfl ?_
        replace H := bs H; obtain ⟨x28, x28e, H⟩ := H
        refine u_callSN1 (M' := mX11_has) (d' := 1) (As := [.int u7, .int s88.1]) (st := []) (q := 120) oX11_has dX9_tellUnsafe_117 w0782 w0783 rfl (Nat.le_of_ble_eq_true rfl) (Nat.le_of_ble_eq_true rfl) (Nat.lt_of_lt_of_le (by decide) hd) rfl (sX11_has (Nat.le_refl _) x28e) rfl ?_
        refine v_if_eq (q1 := 150) (q2 := 123) dX9_tellUnsafe_120 (by decide) rfl (fun c29 => ?_) (fun c29 => ?_)
        · replace H := ip c29 H
          exact V.sub [0, 1, 2, 3, 4, 5, 6] rfl (sjX9_tellUnsafe_150 hd H kI kE)
        · replace H := ine c29 H
          refine v_aload_n (q := 124) 0 dX9_tellUnsafe_123 rfl rfl rfl ?_
          replace H := bs H; obtain ⟨x31, x31e, H⟩ := H
          refine u_gR (q := 127) (r := (RX9, TX9, 10)) x31e dX9_tellUnsafe_124 w0425 rfl (by decide) rfl rfl ?_
          replace H := bs H; obtain ⟨x32, x32e, H⟩ := H
          refine u_gR (q := 130) (r := (RX3, TX3, 8)) x32e dX9_tellUnsafe_127 w0352 rfl (by decide) rfl rfl ?_
          refine v_iload_n (q := 131) 1 dX9_tellUnsafe_130 rfl rfl rfl ?_
          refine v_aload_n (q := 132) 0 dX9_tellUnsafe_131 rfl rfl rfl ?_
          replace H := bs H; obtain ⟨x33, x33e, H⟩ := H
          refine u_gI (q := 135) (r := (RX9, TX9, 10)) x33e dX9_tellUnsafe_132 w0426 rfl (by decide) rfl rfl ?_
          refine v_aload_n (q := 136) 0 dX9_tellUnsafe_135 rfl rfl rfl ?_
          replace H := bs H; obtain ⟨x34, x34e, H⟩ := H
          refine u_gI (q := 139) (r := (RX9, TX9, 10)) x34e dX9_tellUnsafe_136 w0427 rfl (by decide) rfl rfl ?_
          replace H := bs H; obtain ⟨_, o35, H⟩ := H
          replace H := bs H; obtain ⟨x36, x36e, H⟩ := H
          refine u_callV0 (M' := mX7_open) (d' := 1) (rc := (RX7, TX7, 7)) (As := [.int u1, .int x33, .int x34]) (st := []) (q := 142) oX7_open dX9_tellUnsafe_139 w0793 w0794 w0795 rfl rfl (gO_sp o35).1 (gO_sp o35).2 rfl (Nat.le_of_ble_eq_true rfl) (Nat.le_of_ble_eq_true rfl) (Nat.lt_of_lt_of_le (by decide) hd) rfl (sX7_open (Nat.le_refl _) x36e) rfl ?_
          refine v_aload_n (q := 143) 0 dX9_tellUnsafe_142 rfl rfl rfl ?_
          refine v_iload (q := 145) 4 dX9_tellUnsafe_143 rfl rfl ?_
          refine v_iload (q := 147) 6 dX9_tellUnsafe_145 rfl rfl ?_
          replace H := bs H; obtain ⟨_, o37, H⟩ := H
          replace H := bs H; obtain ⟨x38, x38e, H⟩ := H
          refine u_callV0 (M' := mX9_tellWay) (d' := 3) (rc := (RX9, TX9, 10)) (As := [.int u6, .int s88.1]) (st := []) (q := 150) oX9_tellWay dX9_tellUnsafe_147 w0854 w0856 w0022 rfl rfl (gO_sp o37).1 (gO_sp o37).2 rfl (Nat.le_of_ble_eq_true rfl) (Nat.le_of_ble_eq_true rfl) (Nat.lt_of_lt_of_le (by decide) hd) rfl (sX9_tellWay (Nat.le_refl _) x38e) rfl ?_
          exact V.sub [0, 1, 2, 3, 4, 5, 6] rfl (sjX9_tellUnsafe_150 hd H kI kE)
def bX9_tellUnsafe_23 (u0 : Nat) (u1 : Int32) (u4 : Int32) (u5 : Int32) (s23 : Int32 × Hp) : Option ((Int32 × Hp) ⊕ (Hp)) :=
if (16 : Int32) ≤ s23.1 then (
some (.inr s23.2)) else (
(fX11_has s23.2 u4 s23.1).bind fun x8 =>
if x8 = 0 then (
jX9_tellUnsafe_156 u0 u1 u4 u5 s23.1 s23.2) else (
(gR s23.2 9 u0 2).bind fun x11 =>
(gR s23.2 3 x11 3).bind fun x12 =>
(gR s23.2 1 x12 2).bind fun x13 =>
(lI s23.2 .int x13 s23.1).bind fun x14 =>
(some ((x14 &&& u5) &&& (((1 : Int32) <<< (s23.1 &&& 31)) ^^^ (-1 : Int32)))).bind fun x15 =>
(gR s23.2 9 u0 2).bind fun x16 =>
(gR s23.2 3 x16 4).bind fun x17 =>
(gO s23.2 7 x17).bind fun _ =>
(fX7_toldBehind s23.2 x17 u1 s23.1).bind fun x19 =>
(some (x15 &&& (x19 ^^^ (-1 : Int32)))).bind fun x20 =>
(lp (bX9_tellUnsafe_88 u0 u1 u4 u5 s23.1 x20) FU ((0 : Int32), s23.2)).bind fun e39 =>
jX9_tellUnsafe_156 u0 u1 u4 u5 s23.1 e39))
set_option maxRecDepth 20000 in
set_option maxHeartbeats 4000000 in
theorem sbX9_tellUnsafe_23 {Γ : Gm} {d : Nat} (hd : 4 ≤ d) {u0 : Nat} {u1 : Int32} {u4 : Int32} {u5 : Int32} {s23 : Int32 × Hp} {r : (Int32 × Hp) ⊕ (Hp)} {t : Option Value × Hp} (H : bX9_tellUnsafe_23 u0 u1 u4 u5 s23 = some r) (kI : ∀ s, r = .inl s → (fun s23 => V Γ d mX9_tellUnsafe 23 [(0, .ref u0), (1, .int u1), (4, .int u4), (5, .int u5), (6, .int s23.1)] [] s23.2 t) s) (kE : ∀ e, r = .inr e → (fun e => V Γ d mX9_tellUnsafe 162 [] [] e t) e) : V Γ d mX9_tellUnsafe 23 [(0, .ref u0), (1, .int u1), (4, .int u4), (5, .int u5), (6, .int s23.1)] [] s23.2 t := by
  unfold bX9_tellUnsafe_23 at H
  refine v_iload (q := 25) 4 dX9_tellUnsafe_23 rfl rfl ?_
  refine v_bipush (v := 16) (q := 27) dX9_tellUnsafe_25 (by decide) rfl ?_
  refine v_icmp_ge (q1 := 162) (q2 := 30) dX9_tellUnsafe_27 (by decide) rfl (fun c7 => ?_) (fun c7 => ?_)
  · replace H := ip c7 H
    exact V.sub [] rfl (kE s23.2 (Option.some.inj H).symm)
  · replace H := ine c7 H
    refine v_iload (q := 32) 2 dX9_tellUnsafe_30 rfl rfl ?_
    refine v_iload (q := 34) 4 dX9_tellUnsafe_32 rfl rfl ?_
    replace H := bs H; obtain ⟨x8, x8e, H⟩ := H
    refine u_callSN1 (M' := mX11_has) (d' := 1) (As := [.int u4, .int s23.1]) (st := []) (q := 37) oX11_has dX9_tellUnsafe_34 w0782 w0783 rfl (Nat.le_of_ble_eq_true rfl) (Nat.le_of_ble_eq_true rfl) (Nat.lt_of_lt_of_le (by decide) hd) rfl (sX11_has (Nat.le_refl _) x8e) rfl ?_
    refine v_if_eq (q1 := 156) (q2 := 40) dX9_tellUnsafe_37 (by decide) rfl (fun c9 => ?_) (fun c9 => ?_)
    · replace H := ip c9 H
      exact V.sub [0, 1, 2, 3, 4] rfl (sjX9_tellUnsafe_156 hd H kI kE)
    · replace H := ine c9 H
      refine v_aload_n (q := 41) 0 dX9_tellUnsafe_40 rfl rfl rfl ?_
      replace H := bs H; obtain ⟨x11, x11e, H⟩ := H
      refine u_gR (q := 44) (r := (RX9, TX9, 10)) x11e dX9_tellUnsafe_41 w0425 rfl (by decide) rfl rfl ?_
      replace H := bs H; obtain ⟨x12, x12e, H⟩ := H
      refine u_gR (q := 47) (r := (RX3, TX3, 8)) x12e dX9_tellUnsafe_44 w0349 rfl (by decide) rfl rfl ?_
      replace H := bs H; obtain ⟨x13, x13e, H⟩ := H
      refine u_gR (q := 50) (r := (RX1, TX1, 4)) x13e dX9_tellUnsafe_47 w0292 rfl (by decide) rfl rfl ?_
      refine v_iload (q := 52) 4 dX9_tellUnsafe_50 rfl rfl ?_
      replace H := bs H; obtain ⟨x14, x14e, H⟩ := H
      refine u_lI (q := 53) x14e dX9_tellUnsafe_52 rfl ?_
      refine v_iload (q := 55) 3 dX9_tellUnsafe_53 rfl rfl ?_
      refine v_iand (q := 56) dX9_tellUnsafe_55 rfl ?_
      refine v_iconst (v := 1) (q := 57) dX9_tellUnsafe_56 (by decide) rfl ?_
      refine v_iload (q := 59) 4 dX9_tellUnsafe_57 rfl rfl ?_
      refine v_ishl (q := 60) dX9_tellUnsafe_59 rfl ?_
      refine v_iconst (v := -1) (q := 61) dX9_tellUnsafe_60 (by decide) rfl ?_
      refine v_ixor (q := 62) dX9_tellUnsafe_61 rfl ?_
      refine v_iand (q := 63) dX9_tellUnsafe_62 rfl ?_
      replace H := bs H; obtain ⟨x15, x15e, H⟩ := H
      refine v_topi (Option.some.inj x15e) ?_
      refine v_istore (L' := [(7, .int x15), (0, .ref u0), (1, .int u1), (4, .int u4), (5, .int u5), (6, .int s23.1)]) (q := 65) dX9_tellUnsafe_63 (by decide) rfl rfl ?_
      refine v_iload (q := 67) 0 dX9_tellUnsafe_65 rfl rfl ?_
      refine v_aload_n (q := 68) 1 dX9_tellUnsafe_67 rfl rfl rfl ?_
      replace H := bs H; obtain ⟨x16, x16e, H⟩ := H
      refine u_gR (q := 71) (r := (RX9, TX9, 10)) x16e dX9_tellUnsafe_68 w0425 rfl (by decide) rfl rfl ?_
      replace H := bs H; obtain ⟨x17, x17e, H⟩ := H
      refine u_gR (q := 74) (r := (RX3, TX3, 8)) x17e dX9_tellUnsafe_71 w0352 rfl (by decide) rfl rfl ?_
      refine v_iload_n (q := 75) 2 dX9_tellUnsafe_74 rfl rfl rfl ?_
      refine v_iload (q := 77) 5 dX9_tellUnsafe_75 rfl rfl ?_
      replace H := bs H; obtain ⟨_, o18, H⟩ := H
      replace H := bs H; obtain ⟨x19, x19e, H⟩ := H
      refine u_callV1 (M' := mX7_toldBehind) (d' := 1) (rc := (RX7, TX7, 7)) (As := [.int u1, .int s23.1]) (st := [.int x15]) (q := 80) oX7_toldBehind dX9_tellUnsafe_77 w0841 w0842 w0843 rfl rfl (gO_sp o18).1 (gO_sp o18).2 rfl (Nat.le_of_ble_eq_true rfl) (Nat.le_of_ble_eq_true rfl) (Nat.lt_of_lt_of_le (by decide) hd) rfl (sX7_toldBehind (Nat.le_refl _) x19e) rfl ?_
      refine v_iconst (v := -1) (q := 81) dX9_tellUnsafe_80 (by decide) rfl ?_
      refine v_ixor (q := 82) dX9_tellUnsafe_81 rfl ?_
      refine v_iand (q := 83) dX9_tellUnsafe_82 rfl ?_
      replace H := bs H; obtain ⟨x20, x20e, H⟩ := H
      refine v_topi (Option.some.inj x20e) ?_
      refine v_istore (L' := [(7, .int x20), (0, .ref u0), (1, .int u1), (4, .int u4), (5, .int u5), (6, .int s23.1)]) (q := 85) dX9_tellUnsafe_83 (by decide) rfl rfl ?_
      refine v_iconst (v := 0) (q := 86) dX9_tellUnsafe_85 (by decide) rfl ?_
      refine v_istore (L' := [(8, .int (0 : Int32)), (7, .int x20), (0, .ref u0), (1, .int u1), (4, .int u4), (5, .int u5), (6, .int s23.1)]) (q := 88) dX9_tellUnsafe_86 (by decide) rfl rfl ?_
      replace H := bs H; obtain ⟨e39, e39L, H⟩ := H
      refine V.sub [2, 3, 4, 5, 6, 1, 0] rfl ?_
      refine lp_V (P := (fun s88 => V Γ d mX9_tellUnsafe 88 [(0, .ref u0), (1, .int u1), (4, .int u4), (5, .int u5), (6, .int s23.1), (7, .int x20), (8, .int s88.1)] [] s88.2 t)) (E := (fun e => V Γ d mX9_tellUnsafe 156 [(0, .ref u0), (1, .int u1), (4, .int u4), (5, .int u5), (6, .int s23.1)] [] e t)) (fun s r hb kI kE => sbX9_tellUnsafe_88 hd (s88 := s) (r := r) hb kI kE) FU ((0 : Int32), s23.2) e39 e39L ?_
      exact V.sub [0, 1, 2, 3, 4] rfl (sjX9_tellUnsafe_156 hd H kI kE)
def fX9_tellUnsafe (h : Hp) (v0 : Nat) (v1 : Int32) (v2 : Int32) (v3 : Int32) : Option (Hp) :=
(gR h 9 v0 2).bind fun x1 =>
(gO h 3 x1).bind fun _ =>
(fX3_nodesWith h x1 v2).bind fun x3 =>
(gR h 9 v0 2).bind fun x4 =>
(gO h 3 x4).bind fun _ =>
(fX3_nodesWith h x4 v3).bind fun x6 =>
(lp (bX9_tellUnsafe_23 v0 v1 x3 x6) FU ((0 : Int32), h)).bind fun e40 =>
some e40
set_option maxRecDepth 20000 in
set_option maxHeartbeats 4000000 in
theorem sX9_tellUnsafe {Γ : Gm} {d : Nat} (hd : 4 ≤ d) {h : Hp} {v0 : Nat} {v1 : Int32} {v2 : Int32} {v3 : Int32} {r : Hp} (H : fX9_tellUnsafe h v0 v1 v2 v3 = some r) : V Γ d mX9_tellUnsafe 0 [(0, .ref v0), (1, .int v1), (2, .int v2), (3, .int v3)] [] h (none, r) := by
  unfold fX9_tellUnsafe at H
  refine v_aload_n (q := 1) 0 dX9_tellUnsafe_0 rfl rfl rfl ?_
  replace H := bs H; obtain ⟨x1, x1e, H⟩ := H
  refine u_gR (q := 4) (r := (RX9, TX9, 10)) x1e dX9_tellUnsafe_1 w0425 rfl (by decide) rfl rfl ?_
  refine v_iload_n (q := 5) 2 dX9_tellUnsafe_4 rfl rfl rfl ?_
  replace H := bs H; obtain ⟨_, o2, H⟩ := H
  replace H := bs H; obtain ⟨x3, x3e, H⟩ := H
  refine u_callV1 (M' := mX3_nodesWith) (d' := 1) (rc := (RX3, TX3, 8)) (As := [.int v2]) (st := []) (q := 8) oX3_nodesWith dX9_tellUnsafe_5 w0882 w0883 w0884 rfl rfl (gO_sp o2).1 (gO_sp o2).2 rfl (Nat.le_of_ble_eq_true rfl) (Nat.le_of_ble_eq_true rfl) (Nat.lt_of_lt_of_le (by decide) hd) rfl (sX3_nodesWith (Nat.le_refl _) x3e) rfl ?_
  refine v_istore (L' := [(4, .int x3), (0, .ref v0), (1, .int v1), (2, .int v2), (3, .int v3)]) (q := 10) dX9_tellUnsafe_8 (by decide) rfl rfl ?_
  refine v_aload_n (q := 11) 1 dX9_tellUnsafe_10 rfl rfl rfl ?_
  replace H := bs H; obtain ⟨x4, x4e, H⟩ := H
  refine u_gR (q := 14) (r := (RX9, TX9, 10)) x4e dX9_tellUnsafe_11 w0425 rfl (by decide) rfl rfl ?_
  refine v_iload_n (q := 15) 4 dX9_tellUnsafe_14 rfl rfl rfl ?_
  replace H := bs H; obtain ⟨_, o5, H⟩ := H
  replace H := bs H; obtain ⟨x6, x6e, H⟩ := H
  refine u_callV1 (M' := mX3_nodesWith) (d' := 1) (rc := (RX3, TX3, 8)) (As := [.int v3]) (st := []) (q := 18) oX3_nodesWith dX9_tellUnsafe_15 w0882 w0883 w0884 rfl rfl (gO_sp o5).1 (gO_sp o5).2 rfl (Nat.le_of_ble_eq_true rfl) (Nat.le_of_ble_eq_true rfl) (Nat.lt_of_lt_of_le (by decide) hd) rfl (sX3_nodesWith (Nat.le_refl _) x6e) rfl ?_
  refine v_istore (L' := [(5, .int x6), (4, .int x3), (0, .ref v0), (1, .int v1), (2, .int v2), (3, .int v3)]) (q := 20) dX9_tellUnsafe_18 (by decide) rfl rfl ?_
  refine v_iconst (v := 0) (q := 21) dX9_tellUnsafe_20 (by decide) rfl ?_
  refine v_istore (L' := [(6, .int (0 : Int32)), (5, .int x6), (4, .int x3), (0, .ref v0), (1, .int v1), (2, .int v2), (3, .int v3)]) (q := 23) dX9_tellUnsafe_21 (by decide) rfl rfl ?_
  replace H := bs H; obtain ⟨e40, e40L, H⟩ := H
  refine V.sub [3, 4, 2, 1, 0] rfl ?_
  refine lp_V (P := (fun s23 => V Γ d mX9_tellUnsafe 23 [(0, .ref v0), (1, .int v1), (4, .int x3), (5, .int x6), (6, .int s23.1)] [] s23.2 (none, r))) (E := (fun e => V Γ d mX9_tellUnsafe 162 [] [] e (none, r))) (fun s r hb kI kE => sbX9_tellUnsafe_23 hd (s23 := s) (r := r) hb kI kE) FU ((0 : Int32), h) e40 e40L ?_
  cases H
  exact v_return rfl dX9_tellUnsafe_162
def mX9_hold : MI := (yX9_hold, cX9_hold, 3, none)
theorem oX9_hold : mOK mX9_hold 2 := ⟨by decide +kernel, by decide +kernel, by decide +kernel, by decide, w0893, w0147⟩
def jX9_hold_62 (h : Hp) : Option (Hp) :=
some h
set_option maxRecDepth 20000 in
set_option maxHeartbeats 4000000 in
theorem sjX9_hold_62 {Γ : Gm} {d : Nat} (hd : 2 ≤ d) {h : Hp} {r : Hp} (H : jX9_hold_62 h = some r) : V Γ d mX9_hold 62 [] [] h (none, r) := by
  unfold jX9_hold_62 at H
  cases H
  exact v_return rfl dX9_hold_62
def fX9_hold (h : Hp) (v0 : Nat) (v1 : Int32) (v2 : Int32) : Option (Hp) :=
(gI h 9 v0 6).bind fun x1 =>
if (10 : Int32) ≤ x1 then (
jX9_hold_62 h) else (
(gI h 9 v0 7).bind fun x3 =>
(fX11_has h x3 v1).bind fun x4 =>
if x4 = 0 then (
(gR h 9 v0 8).bind fun x6 =>
(gI h 9 v0 6).bind fun x7 =>
(tI h x6 x7 v1).bind fun h8 =>
(gR h8 9 v0 9).bind fun x9 =>
(gI h8 9 v0 6).bind fun x10 =>
(tI h8 x9 x10 v2).bind fun h11 =>
(gI h11 9 v0 6).bind fun x12 =>
(pI h11 9 v0 6 (x12 + (1 : Int32))).bind fun h13 =>
(gI h13 9 v0 7).bind fun x14 =>
(pI h13 9 v0 7 (x14 ||| ((1 : Int32) <<< (v1 &&& 31)))).bind fun h15 =>
jX9_hold_62 h15) else (
jX9_hold_62 h))
set_option maxRecDepth 20000 in
set_option maxHeartbeats 4000000 in
theorem sX9_hold {Γ : Gm} {d : Nat} (hd : 2 ≤ d) {h : Hp} {v0 : Nat} {v1 : Int32} {v2 : Int32} {r : Hp} (H : fX9_hold h v0 v1 v2 = some r) : V Γ d mX9_hold 0 [(0, .ref v0), (1, .int v1), (2, .int v2)] [] h (none, r) := by
  unfold fX9_hold at H
  refine v_aload_n (q := 1) 0 dX9_hold_0 rfl rfl rfl ?_
  replace H := bs H; obtain ⟨x1, x1e, H⟩ := H
  refine u_gI (q := 4) (r := (RX9, TX9, 10)) x1e dX9_hold_1 w0429 rfl (by decide) rfl rfl ?_
  refine v_bipush (v := 10) (q := 6) dX9_hold_4 (by decide) rfl ?_
  refine v_icmp_ge (q1 := 62) (q2 := 9) dX9_hold_6 (by decide) rfl (fun c2 => ?_) (fun c2 => ?_)
  · replace H := ip c2 H
    exact V.sub [] rfl (sjX9_hold_62 hd H)
  · replace H := ine c2 H
    refine v_aload_n (q := 10) 0 dX9_hold_9 rfl rfl rfl ?_
    replace H := bs H; obtain ⟨x3, x3e, H⟩ := H
    refine u_gI (q := 13) (r := (RX9, TX9, 10)) x3e dX9_hold_10 w0430 rfl (by decide) rfl rfl ?_
    refine v_iload_n (q := 14) 1 dX9_hold_13 rfl rfl rfl ?_
    replace H := bs H; obtain ⟨x4, x4e, H⟩ := H
    refine u_callSN1 (M' := mX11_has) (d' := 1) (As := [.int x3, .int v1]) (st := []) (q := 17) oX11_has dX9_hold_14 w0782 w0783 rfl (Nat.le_of_ble_eq_true rfl) (Nat.le_of_ble_eq_true rfl) (Nat.lt_of_lt_of_le (by decide) hd) rfl (sX11_has (Nat.le_refl _) x4e) rfl ?_
    refine v_if_ne (q1 := 62) (q2 := 20) dX9_hold_17 (by decide) rfl (fun c5 => ?_) (fun c5 => ?_)
    · replace H := ine c5 H
      exact V.sub [] rfl (sjX9_hold_62 hd H)
    · replace H := ip c5 H
      refine v_aload_n (q := 21) 0 dX9_hold_20 rfl rfl rfl ?_
      replace H := bs H; obtain ⟨x6, x6e, H⟩ := H
      refine u_gR (q := 24) (r := (RX9, TX9, 10)) x6e dX9_hold_21 w0431 rfl (by decide) rfl rfl ?_
      refine v_aload_n (q := 25) 0 dX9_hold_24 rfl rfl rfl ?_
      replace H := bs H; obtain ⟨x7, x7e, H⟩ := H
      refine u_gI (q := 28) (r := (RX9, TX9, 10)) x7e dX9_hold_25 w0429 rfl (by decide) rfl rfl ?_
      refine v_iload_n (q := 29) 1 dX9_hold_28 rfl rfl rfl ?_
      replace H := bs H; obtain ⟨h8, h8e, H⟩ := H
      refine u_tI (q := 30) h8e dX9_hold_29 rfl ?_
      refine v_aload_n (q := 31) 0 dX9_hold_30 rfl rfl rfl ?_
      replace H := bs H; obtain ⟨x9, x9e, H⟩ := H
      refine u_gR (q := 34) (r := (RX9, TX9, 10)) x9e dX9_hold_31 w0432 rfl (by decide) rfl rfl ?_
      refine v_aload_n (q := 35) 0 dX9_hold_34 rfl rfl rfl ?_
      replace H := bs H; obtain ⟨x10, x10e, H⟩ := H
      refine u_gI (q := 38) (r := (RX9, TX9, 10)) x10e dX9_hold_35 w0429 rfl (by decide) rfl rfl ?_
      refine v_iload_n (q := 39) 2 dX9_hold_38 rfl rfl rfl ?_
      replace H := bs H; obtain ⟨h11, h11e, H⟩ := H
      refine u_tI (q := 40) h11e dX9_hold_39 rfl ?_
      refine v_aload_n (q := 41) 0 dX9_hold_40 rfl rfl rfl ?_
      refine v_dup (q := 42) dX9_hold_41 rfl rfl ?_
      replace H := bs H; obtain ⟨x12, x12e, H⟩ := H
      refine u_gI (q := 45) (r := (RX9, TX9, 10)) x12e dX9_hold_42 w0429 rfl (by decide) rfl rfl ?_
      refine v_iconst (v := 1) (q := 46) dX9_hold_45 (by decide) rfl ?_
      refine v_iadd (q := 47) dX9_hold_46 rfl ?_
      replace H := bs H; obtain ⟨h13, h13e, H⟩ := H
      refine u_pI (q := 50) (r := (RX9, TX9, 10)) h13e dX9_hold_47 w0429 rfl (by decide) (Or.inl rfl) rfl rfl ?_
      refine v_aload_n (q := 51) 0 dX9_hold_50 rfl rfl rfl ?_
      refine v_dup (q := 52) dX9_hold_51 rfl rfl ?_
      replace H := bs H; obtain ⟨x14, x14e, H⟩ := H
      refine u_gI (q := 55) (r := (RX9, TX9, 10)) x14e dX9_hold_52 w0430 rfl (by decide) rfl rfl ?_
      refine v_iconst (v := 1) (q := 56) dX9_hold_55 (by decide) rfl ?_
      refine v_iload_n (q := 57) 1 dX9_hold_56 rfl rfl rfl ?_
      refine v_ishl (q := 58) dX9_hold_57 rfl ?_
      refine v_ior (q := 59) dX9_hold_58 rfl ?_
      replace H := bs H; obtain ⟨h15, h15e, H⟩ := H
      refine u_pI (q := 62) (r := (RX9, TX9, 10)) h15e dX9_hold_59 w0430 rfl (by decide) (Or.inl rfl) rfl rfl ?_
      exact V.sub [] rfl (sjX9_hold_62 hd H)
def mX9_takeUp : MI := (yX9_takeUp, cX9_takeUp, 5, none)
theorem oX9_takeUp : mOK mX9_takeUp 2 := ⟨by decide +kernel, by decide +kernel, by decide +kernel, by decide, w0808, w0147⟩
def jX9_takeUp_54 (v0 : Nat) (v1 : Int32) (v3 : Int32) (h : Hp) : Option (Hp) :=
(gO h 9 v0).bind fun _ =>
(fX9_learnUse h v0 v3).bind fun x10 =>
(gO x10 9 v0).bind fun _ =>
(fX9_tellUnsafe x10 v0 (6 : Int32) (1 : Int32) (4 : Int32)).bind fun x12 =>
(gO x12 9 v0).bind fun _ =>
(fX9_tellUnsafe x12 v0 (7 : Int32) (2 : Int32) (8 : Int32)).bind fun x14 =>
(gO x14 9 v0).bind fun _ =>
(fX9_hold x14 v0 v1 v3).bind fun x16 =>
some x16
set_option maxRecDepth 20000 in
set_option maxHeartbeats 4000000 in
theorem sjX9_takeUp_54 {Γ : Gm} {d : Nat} (hd : 5 ≤ d) {v0 : Nat} {v1 : Int32} {v3 : Int32} {h : Hp} {r : Hp} (H : jX9_takeUp_54 v0 v1 v3 h = some r) : V Γ d mX9_takeUp 54 [(0, .ref v0), (1, .int v1), (3, .int v3)] [] h (none, r) := by
  unfold jX9_takeUp_54 at H
  refine v_aload_n (q := 55) 0 dX9_takeUp_54 rfl rfl rfl ?_
  refine v_iload_n (q := 56) 2 dX9_takeUp_55 rfl rfl rfl ?_
  replace H := bs H; obtain ⟨_, o9, H⟩ := H
  replace H := bs H; obtain ⟨x10, x10e, H⟩ := H
  refine u_callV0 (M' := mX9_learnUse) (d' := 4) (rc := (RX9, TX9, 10)) (As := [.int v3]) (st := []) (q := 59) oX9_learnUse dX9_takeUp_56 w0871 w0873 w0023 rfl rfl (gO_sp o9).1 (gO_sp o9).2 rfl (Nat.le_of_ble_eq_true rfl) (Nat.le_of_ble_eq_true rfl) (Nat.lt_of_lt_of_le (by decide) hd) rfl (sX9_learnUse (Nat.le_refl _) x10e) rfl ?_
  refine v_aload_n (q := 60) 0 dX9_takeUp_59 rfl rfl rfl ?_
  refine v_bipush (v := 6) (q := 62) dX9_takeUp_60 (by decide) rfl ?_
  refine v_iconst (v := 1) (q := 63) dX9_takeUp_62 (by decide) rfl ?_
  refine v_iconst (v := 4) (q := 64) dX9_takeUp_63 (by decide) rfl ?_
  replace H := bs H; obtain ⟨_, o11, H⟩ := H
  replace H := bs H; obtain ⟨x12, x12e, H⟩ := H
  refine u_callV0 (M' := mX9_tellUnsafe) (d' := 4) (rc := (RX9, TX9, 10)) (As := [.int (6 : Int32), .int (1 : Int32), .int (4 : Int32)]) (st := []) (q := 67) oX9_tellUnsafe dX9_takeUp_64 w0878 w0880 w0024 rfl rfl (gO_sp o11).1 (gO_sp o11).2 rfl (Nat.le_of_ble_eq_true rfl) (Nat.le_of_ble_eq_true rfl) (Nat.lt_of_lt_of_le (by decide) hd) rfl (sX9_tellUnsafe (Nat.le_refl _) x12e) rfl ?_
  refine v_aload_n (q := 68) 0 dX9_takeUp_67 rfl rfl rfl ?_
  refine v_bipush (v := 7) (q := 70) dX9_takeUp_68 (by decide) rfl ?_
  refine v_iconst (v := 2) (q := 71) dX9_takeUp_70 (by decide) rfl ?_
  refine v_bipush (v := 8) (q := 73) dX9_takeUp_71 (by decide) rfl ?_
  replace H := bs H; obtain ⟨_, o13, H⟩ := H
  replace H := bs H; obtain ⟨x14, x14e, H⟩ := H
  refine u_callV0 (M' := mX9_tellUnsafe) (d' := 4) (rc := (RX9, TX9, 10)) (As := [.int (7 : Int32), .int (2 : Int32), .int (8 : Int32)]) (st := []) (q := 76) oX9_tellUnsafe dX9_takeUp_73 w0878 w0880 w0024 rfl rfl (gO_sp o13).1 (gO_sp o13).2 rfl (Nat.le_of_ble_eq_true rfl) (Nat.le_of_ble_eq_true rfl) (Nat.lt_of_lt_of_le (by decide) hd) rfl (sX9_tellUnsafe (Nat.le_refl _) x14e) rfl ?_
  refine v_aload_n (q := 77) 0 dX9_takeUp_76 rfl rfl rfl ?_
  refine v_iload_n (q := 78) 1 dX9_takeUp_77 rfl rfl rfl ?_
  refine v_iload_n (q := 79) 2 dX9_takeUp_78 rfl rfl rfl ?_
  replace H := bs H; obtain ⟨_, o15, H⟩ := H
  replace H := bs H; obtain ⟨x16, x16e, H⟩ := H
  refine u_callV0 (M' := mX9_hold) (d' := 2) (rc := (RX9, TX9, 10)) (As := [.int v1, .int v3]) (st := []) (q := 82) oX9_hold dX9_takeUp_79 w0890 w0892 w0025 rfl rfl (gO_sp o15).1 (gO_sp o15).2 rfl (Nat.le_of_ble_eq_true rfl) (Nat.le_of_ble_eq_true rfl) (Nat.lt_of_lt_of_le (by decide) hd) rfl (sX9_hold (Nat.le_refl _) x16e) rfl ?_
  cases H
  exact v_return rfl dX9_takeUp_82
def bX9_takeUp_27 (u0 : Nat) (u1 : Int32) (u3 : Int32) (s27 : Int32 × Hp) : Option ((Int32 × Hp) ⊕ (Hp)) :=
(gI s27.2 9 u0 6).bind fun x17 =>
if x17 ≤ s27.1 then (
some (.inr s27.2)) else (
(gR s27.2 9 u0 9).bind fun x19 =>
(lI s27.2 .int x19 s27.1).bind fun x20 =>
(gO s27.2 9 u0).bind fun _ =>
(fX9_learnOrder s27.2 u0 x20 u3).bind fun x22 =>
(some (s27.1 + (1 : Int32))).bind fun x23 =>
some (.inl (x23, x22)))
set_option maxRecDepth 20000 in
set_option maxHeartbeats 4000000 in
theorem sbX9_takeUp_27 {Γ : Gm} {d : Nat} (hd : 5 ≤ d) {u0 : Nat} {u1 : Int32} {u3 : Int32} {s27 : Int32 × Hp} {r : (Int32 × Hp) ⊕ (Hp)} {t : Option Value × Hp} (H : bX9_takeUp_27 u0 u1 u3 s27 = some r) (kI : ∀ s, r = .inl s → (fun s27 => V Γ d mX9_takeUp 27 [(0, .ref u0), (1, .int u1), (3, .int u3), (4, .int s27.1)] [] s27.2 t) s) (kE : ∀ e, r = .inr e → (fun e => V Γ d mX9_takeUp 54 [(0, .ref u0), (1, .int u1), (3, .int u3)] [] e t) e) : V Γ d mX9_takeUp 27 [(0, .ref u0), (1, .int u1), (3, .int u3), (4, .int s27.1)] [] s27.2 t := by
  unfold bX9_takeUp_27 at H
  refine v_iload (q := 29) 3 dX9_takeUp_27 rfl rfl ?_
  refine v_aload_n (q := 30) 0 dX9_takeUp_29 rfl rfl rfl ?_
  replace H := bs H; obtain ⟨x17, x17e, H⟩ := H
  refine u_gI (q := 33) (r := (RX9, TX9, 10)) x17e dX9_takeUp_30 w0429 rfl (by decide) rfl rfl ?_
  refine v_icmp_ge (q1 := 54) (q2 := 36) dX9_takeUp_33 (by decide) rfl (fun c18 => ?_) (fun c18 => ?_)
  · replace H := ip c18 H
    exact V.sub [0, 1, 2] rfl (kE s27.2 (Option.some.inj H).symm)
  · replace H := ine c18 H
    refine v_aload_n (q := 37) 0 dX9_takeUp_36 rfl rfl rfl ?_
    refine v_aload_n (q := 38) 0 dX9_takeUp_37 rfl rfl rfl ?_
    replace H := bs H; obtain ⟨x19, x19e, H⟩ := H
    refine u_gR (q := 41) (r := (RX9, TX9, 10)) x19e dX9_takeUp_38 w0432 rfl (by decide) rfl rfl ?_
    refine v_iload (q := 43) 3 dX9_takeUp_41 rfl rfl ?_
    replace H := bs H; obtain ⟨x20, x20e, H⟩ := H
    refine u_lI (q := 44) x20e dX9_takeUp_43 rfl ?_
    refine v_iload_n (q := 45) 2 dX9_takeUp_44 rfl rfl rfl ?_
    replace H := bs H; obtain ⟨_, o21, H⟩ := H
    replace H := bs H; obtain ⟨x22, x22e, H⟩ := H
    refine u_callV0 (M' := mX9_learnOrder) (d' := 4) (rc := (RX9, TX9, 10)) (As := [.int x20, .int u3]) (st := []) (q := 48) oX9_learnOrder dX9_takeUp_45 w0833 w0835 w0020 rfl rfl (gO_sp o21).1 (gO_sp o21).2 rfl (Nat.le_of_ble_eq_true rfl) (Nat.le_of_ble_eq_true rfl) (Nat.lt_of_lt_of_le (by decide) hd) rfl (sX9_learnOrder (Nat.le_refl _) x22e) rfl ?_
    replace H := bs H; obtain ⟨x23, x23e, H⟩ := H
    refine v_iinc (v := x23) (L' := [(4, .int x23), (0, .ref u0), (1, .int u1), (3, .int u3)]) (q := 51) 3 dX9_takeUp_48 rfl (Option.some.inj x23e) (by decide) rfl rfl ?_
    refine v_goto (q := 27) dX9_takeUp_51 (by decide) ?_
    exact V.sub [1, 2, 3, 0] rfl (kI (x23, x22) (Option.some.inj H).symm)
def fX9_takeUp (h : Hp) (v0 : Nat) (v1 : Int32) (v2 : Int32) : Option (Hp) :=
(gO h 9 v0).bind fun _ =>
(fX9_nodeOf h v0 v1 v2).bind fun x2 =>
(gR h 9 v0 2).bind fun x3 =>
(gO h 9 v0).bind fun _ =>
(fX9_rowWith h v0 x2).bind fun x5 =>
(gO h 3 x3).bind fun _ =>
(fX3_addRow h x3 x5).bind fun x7 =>
if v2 = (3 : Int32) then (
jX9_takeUp_54 v0 v1 x2 x7) else (
(lp (bX9_takeUp_27 v0 v1 x2) FU ((0 : Int32), x7)).bind fun e24 =>
jX9_takeUp_54 v0 v1 x2 e24)
set_option maxRecDepth 20000 in
set_option maxHeartbeats 4000000 in
theorem sX9_takeUp {Γ : Gm} {d : Nat} (hd : 5 ≤ d) {h : Hp} {v0 : Nat} {v1 : Int32} {v2 : Int32} {r : Hp} (H : fX9_takeUp h v0 v1 v2 = some r) : V Γ d mX9_takeUp 0 [(0, .ref v0), (1, .int v1), (2, .int v2)] [] h (none, r) := by
  unfold fX9_takeUp at H
  refine v_aload_n (q := 1) 0 dX9_takeUp_0 rfl rfl rfl ?_
  refine v_iload_n (q := 2) 1 dX9_takeUp_1 rfl rfl rfl ?_
  refine v_iload_n (q := 3) 2 dX9_takeUp_2 rfl rfl rfl ?_
  replace H := bs H; obtain ⟨_, o1, H⟩ := H
  replace H := bs H; obtain ⟨x2, x2e, H⟩ := H
  refine u_callV1 (M' := mX9_nodeOf) (d' := 1) (rc := (RX9, TX9, 10)) (As := [.int v1, .int v2]) (st := []) (q := 6) oX9_nodeOf dX9_takeUp_3 w0809 w0811 w0018 rfl rfl (gO_sp o1).1 (gO_sp o1).2 rfl (Nat.le_of_ble_eq_true rfl) (Nat.le_of_ble_eq_true rfl) (Nat.lt_of_lt_of_le (by decide) hd) rfl (sX9_nodeOf (Nat.le_refl _) x2e) rfl ?_
  refine v_istore_n (L' := [(3, .int x2), (0, .ref v0), (1, .int v1), (2, .int v2)]) (q := 7) dX9_takeUp_6 rfl (by decide) rfl rfl ?_
  refine v_aload_n (q := 8) 1 dX9_takeUp_7 rfl rfl rfl ?_
  replace H := bs H; obtain ⟨x3, x3e, H⟩ := H
  refine u_gR (q := 11) (r := (RX9, TX9, 10)) x3e dX9_takeUp_8 w0425 rfl (by decide) rfl rfl ?_
  refine v_aload_n (q := 12) 1 dX9_takeUp_11 rfl rfl rfl ?_
  refine v_iload_n (q := 13) 0 dX9_takeUp_12 rfl rfl rfl ?_
  replace H := bs H; obtain ⟨_, o4, H⟩ := H
  replace H := bs H; obtain ⟨x5, x5e, H⟩ := H
  refine u_callV1 (M' := mX9_rowWith) (d' := 1) (rc := (RX9, TX9, 10)) (As := [.int x2]) (st := [.ref x3]) (q := 16) oX9_rowWith dX9_takeUp_13 w0813 w0815 w0019 rfl rfl (gO_sp o4).1 (gO_sp o4).2 rfl (Nat.le_of_ble_eq_true rfl) (Nat.le_of_ble_eq_true rfl) (Nat.lt_of_lt_of_le (by decide) hd) rfl (sX9_rowWith (Nat.le_refl _) x5e) rfl ?_
  replace H := bs H; obtain ⟨_, o6, H⟩ := H
  replace H := bs H; obtain ⟨x7, x7e, H⟩ := H
  refine u_callV0 (M' := mX3_addRow) (d' := 3) (rc := (RX3, TX3, 8)) (As := [.long x5]) (st := []) (q := 19) oX3_addRow dX9_takeUp_16 w0817 w0818 w0819 rfl rfl (gO_sp o6).1 (gO_sp o6).2 rfl (Nat.le_of_ble_eq_true rfl) (Nat.le_of_ble_eq_true rfl) (Nat.lt_of_lt_of_le (by decide) hd) rfl (sX3_addRow (Nat.le_refl _) x7e) rfl ?_
  refine v_iload_n (q := 20) 3 dX9_takeUp_19 rfl rfl rfl ?_
  refine v_iconst (v := 3) (q := 21) dX9_takeUp_20 (by decide) rfl ?_
  refine v_icmp_eq (q1 := 54) (q2 := 24) dX9_takeUp_21 (by decide) rfl (fun c8 => ?_) (fun c8 => ?_)
  · replace H := ip c8 H
    exact V.sub [1, 2, 0] rfl (sjX9_takeUp_54 hd H)
  · replace H := ine c8 H
    refine v_iconst (v := 0) (q := 25) dX9_takeUp_24 (by decide) rfl ?_
    refine v_istore (L' := [(4, .int (0 : Int32)), (3, .int x2), (0, .ref v0), (1, .int v1), (2, .int v2)]) (q := 27) dX9_takeUp_25 (by decide) rfl rfl ?_
    replace H := bs H; obtain ⟨e24, e24L, H⟩ := H
    refine V.sub [2, 3, 1, 0] rfl ?_
    refine lp_V (P := (fun s27 => V Γ d mX9_takeUp 27 [(0, .ref v0), (1, .int v1), (3, .int x2), (4, .int s27.1)] [] s27.2 (none, r))) (E := (fun e => V Γ d mX9_takeUp 54 [(0, .ref v0), (1, .int v1), (3, .int x2)] [] e (none, r))) (fun s r hb kI kE => sbX9_takeUp_27 hd (s27 := s) (r := r) hb kI kE) FU ((0 : Int32), x7) e24 e24L ?_
    exact V.sub [0, 1, 2] rfl (sjX9_takeUp_54 hd H)
def mX9_letGo : MI := (yX9_letGo, cX9_letGo, 4, none)
theorem oX9_letGo : mOK mX9_letGo 1 := ⟨by decide +kernel, by decide +kernel, by decide +kernel, by decide, w0901, w0147⟩
def jX9_letGo_49 (u0 : Nat) (u1 : Int32) (v2 : Int32) (v3 : Int32) (h : Hp) : Option ((Int32 × Int32 × Hp) ⊕ (Int32 × Hp)) :=
(some (v3 + (1 : Int32))).bind fun x6 =>
some (.inl (v2, x6, h))
set_option maxRecDepth 20000 in
set_option maxHeartbeats 4000000 in
theorem sjX9_letGo_49 {Γ : Gm} {d : Nat} (hd : 1 ≤ d) {u0 : Nat} {u1 : Int32} {v2 : Int32} {v3 : Int32} {h : Hp} {r : (Int32 × Int32 × Hp) ⊕ (Int32 × Hp)} {t : Option Value × Hp} (H : jX9_letGo_49 u0 u1 v2 v3 h = some r) (kI : ∀ s, r = .inl s → (fun s4 => V Γ d mX9_letGo 4 [(0, .ref u0), (1, .int u1), (2, .int s4.1), (3, .int s4.2.1)] [] s4.2.2 t) s) (kE : ∀ e, r = .inr e → (fun e => V Γ d mX9_letGo 55 [(0, .ref u0), (1, .int u1), (2, .int e.1)] [] e.2 t) e) : V Γ d mX9_letGo 49 [(0, .ref u0), (1, .int u1), (2, .int v2), (3, .int v3)] [] h t := by
  unfold jX9_letGo_49 at H
  replace H := bs H; obtain ⟨x6, x6e, H⟩ := H
  refine v_iinc (v := x6) (L' := [(3, .int x6), (0, .ref u0), (1, .int u1), (2, .int v2)]) (q := 52) 3 dX9_letGo_49 rfl (Option.some.inj x6e) (by decide) rfl rfl ?_
  refine v_goto (q := 4) dX9_letGo_52 (by decide) ?_
  exact V.sub [1, 2, 3, 0] rfl (kI (v2, x6, h) (Option.some.inj H).symm)
def bX9_letGo_4 (u0 : Nat) (u1 : Int32) (s4 : Int32 × Int32 × Hp) : Option ((Int32 × Int32 × Hp) ⊕ (Int32 × Hp)) :=
(gI s4.2.2 9 u0 6).bind fun x1 =>
if x1 ≤ s4.2.1 then (
some (.inr (s4.1, s4.2.2))) else (
(gR s4.2.2 9 u0 8).bind fun x3 =>
(lI s4.2.2 .int x3 s4.2.1).bind fun x4 =>
if x4 = u1 then (
jX9_letGo_49 u0 u1 s4.1 s4.2.1 s4.2.2) else (
(gR s4.2.2 9 u0 8).bind fun x7 =>
(gR s4.2.2 9 u0 8).bind fun x8 =>
(lI s4.2.2 .int x8 s4.2.1).bind fun x9 =>
(tI s4.2.2 x7 s4.1 x9).bind fun h10 =>
(gR h10 9 u0 9).bind fun x11 =>
(gR h10 9 u0 9).bind fun x12 =>
(lI h10 .int x12 s4.2.1).bind fun x13 =>
(tI h10 x11 s4.1 x13).bind fun h14 =>
(some (s4.1 + (1 : Int32))).bind fun x15 =>
jX9_letGo_49 u0 u1 x15 s4.2.1 h14))
set_option maxRecDepth 20000 in
set_option maxHeartbeats 4000000 in
theorem sbX9_letGo_4 {Γ : Gm} {d : Nat} (hd : 1 ≤ d) {u0 : Nat} {u1 : Int32} {s4 : Int32 × Int32 × Hp} {r : (Int32 × Int32 × Hp) ⊕ (Int32 × Hp)} {t : Option Value × Hp} (H : bX9_letGo_4 u0 u1 s4 = some r) (kI : ∀ s, r = .inl s → (fun s4 => V Γ d mX9_letGo 4 [(0, .ref u0), (1, .int u1), (2, .int s4.1), (3, .int s4.2.1)] [] s4.2.2 t) s) (kE : ∀ e, r = .inr e → (fun e => V Γ d mX9_letGo 55 [(0, .ref u0), (1, .int u1), (2, .int e.1)] [] e.2 t) e) : V Γ d mX9_letGo 4 [(0, .ref u0), (1, .int u1), (2, .int s4.1), (3, .int s4.2.1)] [] s4.2.2 t := by
  unfold bX9_letGo_4 at H
  refine v_iload_n (q := 5) 3 dX9_letGo_4 rfl rfl rfl ?_
  refine v_aload_n (q := 6) 0 dX9_letGo_5 rfl rfl rfl ?_
  replace H := bs H; obtain ⟨x1, x1e, H⟩ := H
  refine u_gI (q := 9) (r := (RX9, TX9, 10)) x1e dX9_letGo_6 w0429 rfl (by decide) rfl rfl ?_
  refine v_icmp_ge (q1 := 55) (q2 := 12) dX9_letGo_9 (by decide) rfl (fun c2 => ?_) (fun c2 => ?_)
  · replace H := ip c2 H
    exact V.sub [0, 1, 2] rfl (kE (s4.1, s4.2.2) (Option.some.inj H).symm)
  · replace H := ine c2 H
    refine v_aload_n (q := 13) 0 dX9_letGo_12 rfl rfl rfl ?_
    replace H := bs H; obtain ⟨x3, x3e, H⟩ := H
    refine u_gR (q := 16) (r := (RX9, TX9, 10)) x3e dX9_letGo_13 w0431 rfl (by decide) rfl rfl ?_
    refine v_iload_n (q := 17) 3 dX9_letGo_16 rfl rfl rfl ?_
    replace H := bs H; obtain ⟨x4, x4e, H⟩ := H
    refine u_lI (q := 18) x4e dX9_letGo_17 rfl ?_
    refine v_iload_n (q := 19) 1 dX9_letGo_18 rfl rfl rfl ?_
    refine v_icmp_eq (q1 := 49) (q2 := 22) dX9_letGo_19 (by decide) rfl (fun c5 => ?_) (fun c5 => ?_)
    · replace H := ip c5 H
      exact V.sub [0, 1, 2, 3] rfl (sjX9_letGo_49 hd H kI kE)
    · replace H := ine c5 H
      refine v_aload_n (q := 23) 0 dX9_letGo_22 rfl rfl rfl ?_
      replace H := bs H; obtain ⟨x7, x7e, H⟩ := H
      refine u_gR (q := 26) (r := (RX9, TX9, 10)) x7e dX9_letGo_23 w0431 rfl (by decide) rfl rfl ?_
      refine v_iload_n (q := 27) 2 dX9_letGo_26 rfl rfl rfl ?_
      refine v_aload_n (q := 28) 0 dX9_letGo_27 rfl rfl rfl ?_
      replace H := bs H; obtain ⟨x8, x8e, H⟩ := H
      refine u_gR (q := 31) (r := (RX9, TX9, 10)) x8e dX9_letGo_28 w0431 rfl (by decide) rfl rfl ?_
      refine v_iload_n (q := 32) 3 dX9_letGo_31 rfl rfl rfl ?_
      replace H := bs H; obtain ⟨x9, x9e, H⟩ := H
      refine u_lI (q := 33) x9e dX9_letGo_32 rfl ?_
      replace H := bs H; obtain ⟨h10, h10e, H⟩ := H
      refine u_tI (q := 34) h10e dX9_letGo_33 rfl ?_
      refine v_aload_n (q := 35) 0 dX9_letGo_34 rfl rfl rfl ?_
      replace H := bs H; obtain ⟨x11, x11e, H⟩ := H
      refine u_gR (q := 38) (r := (RX9, TX9, 10)) x11e dX9_letGo_35 w0432 rfl (by decide) rfl rfl ?_
      refine v_iload_n (q := 39) 2 dX9_letGo_38 rfl rfl rfl ?_
      refine v_aload_n (q := 40) 0 dX9_letGo_39 rfl rfl rfl ?_
      replace H := bs H; obtain ⟨x12, x12e, H⟩ := H
      refine u_gR (q := 43) (r := (RX9, TX9, 10)) x12e dX9_letGo_40 w0432 rfl (by decide) rfl rfl ?_
      refine v_iload_n (q := 44) 3 dX9_letGo_43 rfl rfl rfl ?_
      replace H := bs H; obtain ⟨x13, x13e, H⟩ := H
      refine u_lI (q := 45) x13e dX9_letGo_44 rfl ?_
      replace H := bs H; obtain ⟨h14, h14e, H⟩ := H
      refine u_tI (q := 46) h14e dX9_letGo_45 rfl ?_
      replace H := bs H; obtain ⟨x15, x15e, H⟩ := H
      refine v_iinc (v := x15) (L' := [(2, .int x15), (0, .ref u0), (1, .int u1), (3, .int s4.2.1)]) (q := 49) 2 dX9_letGo_46 rfl (Option.some.inj x15e) (by decide) rfl rfl ?_
      exact V.sub [1, 2, 0, 3] rfl (sjX9_letGo_49 hd H kI kE)
def fX9_letGo (h : Hp) (v0 : Nat) (v1 : Int32) : Option (Hp) :=
(lp (bX9_letGo_4 v0 v1) FU ((0 : Int32), (0 : Int32), h)).bind fun e16 =>
(pI e16.2 9 v0 6 e16.1).bind fun h17 =>
(gI h17 9 v0 7).bind fun x18 =>
(pI h17 9 v0 7 (x18 &&& (((1 : Int32) <<< (v1 &&& 31)) ^^^ (-1 : Int32)))).bind fun h19 =>
some h19
set_option maxRecDepth 20000 in
set_option maxHeartbeats 4000000 in
theorem sX9_letGo {Γ : Gm} {d : Nat} (hd : 1 ≤ d) {h : Hp} {v0 : Nat} {v1 : Int32} {r : Hp} (H : fX9_letGo h v0 v1 = some r) : V Γ d mX9_letGo 0 [(0, .ref v0), (1, .int v1)] [] h (none, r) := by
  unfold fX9_letGo at H
  refine v_iconst (v := 0) (q := 1) dX9_letGo_0 (by decide) rfl ?_
  refine v_istore_n (L' := [(2, .int (0 : Int32)), (0, .ref v0), (1, .int v1)]) (q := 2) dX9_letGo_1 rfl (by decide) rfl rfl ?_
  refine v_iconst (v := 0) (q := 3) dX9_letGo_2 (by decide) rfl ?_
  refine v_istore_n (L' := [(3, .int (0 : Int32)), (2, .int (0 : Int32)), (0, .ref v0), (1, .int v1)]) (q := 4) dX9_letGo_3 rfl (by decide) rfl rfl ?_
  replace H := bs H; obtain ⟨e16, e16L, H⟩ := H
  refine V.sub [2, 3, 1, 0] rfl ?_
  refine lp_V (P := (fun s4 => V Γ d mX9_letGo 4 [(0, .ref v0), (1, .int v1), (2, .int s4.1), (3, .int s4.2.1)] [] s4.2.2 (none, r))) (E := (fun e => V Γ d mX9_letGo 55 [(0, .ref v0), (1, .int v1), (2, .int e.1)] [] e.2 (none, r))) (fun s r hb kI kE => sbX9_letGo_4 hd (s4 := s) (r := r) hb kI kE) FU ((0 : Int32), (0 : Int32), h) e16 e16L ?_
  refine v_aload_n (q := 56) 0 dX9_letGo_55 rfl rfl rfl ?_
  refine v_iload_n (q := 57) 2 dX9_letGo_56 rfl rfl rfl ?_
  replace H := bs H; obtain ⟨h17, h17e, H⟩ := H
  refine u_pI (q := 60) (r := (RX9, TX9, 10)) h17e dX9_letGo_57 w0429 rfl (by decide) (Or.inl rfl) rfl rfl ?_
  refine v_aload_n (q := 61) 0 dX9_letGo_60 rfl rfl rfl ?_
  refine v_dup (q := 62) dX9_letGo_61 rfl rfl ?_
  replace H := bs H; obtain ⟨x18, x18e, H⟩ := H
  refine u_gI (q := 65) (r := (RX9, TX9, 10)) x18e dX9_letGo_62 w0430 rfl (by decide) rfl rfl ?_
  refine v_iconst (v := 1) (q := 66) dX9_letGo_65 (by decide) rfl ?_
  refine v_iload_n (q := 67) 1 dX9_letGo_66 rfl rfl rfl ?_
  refine v_ishl (q := 68) dX9_letGo_67 rfl ?_
  refine v_iconst (v := -1) (q := 69) dX9_letGo_68 (by decide) rfl ?_
  refine v_ixor (q := 70) dX9_letGo_69 rfl ?_
  refine v_iand (q := 71) dX9_letGo_70 rfl ?_
  replace H := bs H; obtain ⟨h19, h19e, H⟩ := H
  refine u_pI (q := 74) (r := (RX9, TX9, 10)) h19e dX9_letGo_71 w0430 rfl (by decide) (Or.inl rfl) rfl rfl ?_
  cases H
  exact v_return rfl dX9_letGo_74
def mX9_follow : MI := (yX9_follow, cX9_follow, 4, none)
theorem oX9_follow : mOK mX9_follow 1 := ⟨by decide +kernel, by decide +kernel, by decide +kernel, by decide, w0897, w0147⟩
def jX9_follow_66 (h : Hp) : Option (Hp) :=
some h
set_option maxRecDepth 20000 in
set_option maxHeartbeats 4000000 in
theorem sjX9_follow_66 {Γ : Gm} {d : Nat} (hd : 3 ≤ d) {h : Hp} {r : Hp} (H : jX9_follow_66 h = some r) : V Γ d mX9_follow 66 [] [] h (none, r) := by
  unfold jX9_follow_66 at H
  cases H
  exact v_return rfl dX9_follow_66
def fX9_follow (h : Hp) (v0 : Nat) (v1 : Int32) : Option (Hp) :=
(fX11_deedOf h v1).bind fun x1 =>
(fX11_lockOf h v1).bind fun x2 =>
if (4 : Int32) ≤ x1 then (
if x1 = (4 : Int32) then (
(gO h 9 v0).bind fun _ =>
(fX9_letGo h v0 x2).bind fun x13 =>
jX9_follow_66 x13) else (
(gI h 9 v0 5).bind fun x5 =>
(gR h 9 v0 1).bind fun x6 =>
(gR h 5 x6 4).bind fun x7 =>
(gI h 9 v0 3).bind fun x8 =>
(lI h .int x7 x8).bind fun x9 =>
(fX11_turned h x5 x9 x1).bind fun x10 =>
(pI h 9 v0 5 x10).bind fun h11 =>
jX9_follow_66 h11)) else (
(gO h 9 v0).bind fun _ =>
(fX9_nodeOf h v0 x2 x1).bind fun x15 =>
(gO h 9 v0).bind fun _ =>
(fX9_hold h v0 x2 x15).bind fun x17 =>
jX9_follow_66 x17)
set_option maxRecDepth 20000 in
set_option maxHeartbeats 4000000 in
theorem sX9_follow {Γ : Gm} {d : Nat} (hd : 3 ≤ d) {h : Hp} {v0 : Nat} {v1 : Int32} {r : Hp} (H : fX9_follow h v0 v1 = some r) : V Γ d mX9_follow 0 [(0, .ref v0), (1, .int v1)] [] h (none, r) := by
  unfold fX9_follow at H
  refine v_iload_n (q := 1) 1 dX9_follow_0 rfl rfl rfl ?_
  replace H := bs H; obtain ⟨x1, x1e, H⟩ := H
  refine u_callSN1 (M' := mX11_deedOf) (d' := 1) (As := [.int v1]) (st := []) (q := 4) oX11_deedOf dX9_follow_1 w0776 w0777 rfl (Nat.le_of_ble_eq_true rfl) (Nat.le_of_ble_eq_true rfl) (Nat.lt_of_lt_of_le (by decide) hd) rfl (sX11_deedOf (Nat.le_refl _) x1e) rfl ?_
  refine v_istore_n (L' := [(2, .int x1), (0, .ref v0), (1, .int v1)]) (q := 5) dX9_follow_4 rfl (by decide) rfl rfl ?_
  refine v_iload_n (q := 6) 2 dX9_follow_5 rfl rfl rfl ?_
  replace H := bs H; obtain ⟨x2, x2e, H⟩ := H
  refine u_callSN1 (M' := mX11_lockOf) (d' := 1) (As := [.int v1]) (st := []) (q := 9) oX11_lockOf dX9_follow_6 w0779 w0780 rfl (Nat.le_of_ble_eq_true rfl) (Nat.le_of_ble_eq_true rfl) (Nat.lt_of_lt_of_le (by decide) hd) rfl (sX11_lockOf (Nat.le_refl _) x2e) rfl ?_
  refine v_istore_n (L' := [(3, .int x2), (2, .int x1), (0, .ref v0), (1, .int v1)]) (q := 10) dX9_follow_9 rfl (by decide) rfl rfl ?_
  refine v_iload_n (q := 11) 1 dX9_follow_10 rfl rfl rfl ?_
  refine v_iconst (v := 4) (q := 12) dX9_follow_11 (by decide) rfl ?_
  refine v_icmp_ge (q1 := 29) (q2 := 15) dX9_follow_12 (by decide) rfl (fun c3 => ?_) (fun c3 => ?_)
  · replace H := ip c3 H
    refine v_iload_n (q := 30) 1 dX9_follow_29 rfl rfl rfl ?_
    refine v_iconst (v := 4) (q := 31) dX9_follow_30 (by decide) rfl ?_
    refine v_icmp_ne (q1 := 42) (q2 := 34) dX9_follow_31 (by decide) rfl (fun c4 => ?_) (fun c4 => ?_)
    · replace H := ine c4 H
      refine v_aload_n (q := 43) 2 dX9_follow_42 rfl rfl rfl ?_
      refine v_aload_n (q := 44) 2 dX9_follow_43 rfl rfl rfl ?_
      replace H := bs H; obtain ⟨x5, x5e, H⟩ := H
      refine u_gI (q := 47) (r := (RX9, TX9, 10)) x5e dX9_follow_44 w0428 rfl (by decide) rfl rfl ?_
      refine v_aload_n (q := 48) 2 dX9_follow_47 rfl rfl rfl ?_
      replace H := bs H; obtain ⟨x6, x6e, H⟩ := H
      refine u_gR (q := 51) (r := (RX9, TX9, 10)) x6e dX9_follow_48 w0424 rfl (by decide) rfl rfl ?_
      replace H := bs H; obtain ⟨x7, x7e, H⟩ := H
      refine u_gR (q := 54) (r := (RX5, TX5, 7)) x7e dX9_follow_51 w0241 rfl (by decide) rfl rfl ?_
      refine v_aload_n (q := 55) 2 dX9_follow_54 rfl rfl rfl ?_
      replace H := bs H; obtain ⟨x8, x8e, H⟩ := H
      refine u_gI (q := 58) (r := (RX9, TX9, 10)) x8e dX9_follow_55 w0426 rfl (by decide) rfl rfl ?_
      replace H := bs H; obtain ⟨x9, x9e, H⟩ := H
      refine u_lI (q := 59) x9e dX9_follow_58 rfl ?_
      refine v_iload_n (q := 60) 1 dX9_follow_59 rfl rfl rfl ?_
      replace H := bs H; obtain ⟨x10, x10e, H⟩ := H
      refine u_callSN1 (M' := mX11_turned) (d' := 2) (As := [.int x5, .int x9, .int x1]) (st := [.ref v0]) (q := 63) oX11_turned dX9_follow_60 w0902 w0903 rfl (Nat.le_of_ble_eq_true rfl) (Nat.le_of_ble_eq_true rfl) (Nat.lt_of_lt_of_le (by decide) hd) rfl (sX11_turned (Nat.le_refl _) x10e) rfl ?_
      replace H := bs H; obtain ⟨h11, h11e, H⟩ := H
      refine u_pI (q := 66) (r := (RX9, TX9, 10)) h11e dX9_follow_63 w0428 rfl (by decide) (Or.inl rfl) rfl rfl ?_
      exact V.sub [] rfl (sjX9_follow_66 hd H)
    · replace H := ip c4 H
      refine v_aload_n (q := 35) 2 dX9_follow_34 rfl rfl rfl ?_
      refine v_iload_n (q := 36) 0 dX9_follow_35 rfl rfl rfl ?_
      replace H := bs H; obtain ⟨_, o12, H⟩ := H
      replace H := bs H; obtain ⟨x13, x13e, H⟩ := H
      refine u_callV0 (M' := mX9_letGo) (d' := 1) (rc := (RX9, TX9, 10)) (As := [.int x2]) (st := []) (q := 39) oX9_letGo dX9_follow_36 w0898 w0900 w0027 rfl rfl (gO_sp o12).1 (gO_sp o12).2 rfl (Nat.le_of_ble_eq_true rfl) (Nat.le_of_ble_eq_true rfl) (Nat.lt_of_lt_of_le (by decide) hd) rfl (sX9_letGo (Nat.le_refl _) x13e) rfl ?_
      refine v_goto (q := 66) dX9_follow_39 (by decide) ?_
      exact V.sub [] rfl (sjX9_follow_66 hd H)
  · replace H := ine c3 H
    refine v_aload_n (q := 16) 2 dX9_follow_15 rfl rfl rfl ?_
    refine v_iload_n (q := 17) 0 dX9_follow_16 rfl rfl rfl ?_
    refine v_aload_n (q := 18) 2 dX9_follow_17 rfl rfl rfl ?_
    refine v_iload_n (q := 19) 0 dX9_follow_18 rfl rfl rfl ?_
    refine v_iload_n (q := 20) 1 dX9_follow_19 rfl rfl rfl ?_
    replace H := bs H; obtain ⟨_, o14, H⟩ := H
    replace H := bs H; obtain ⟨x15, x15e, H⟩ := H
    refine u_callV1 (M' := mX9_nodeOf) (d' := 1) (rc := (RX9, TX9, 10)) (As := [.int x2, .int x1]) (st := [.int x2, .ref v0]) (q := 23) oX9_nodeOf dX9_follow_20 w0809 w0811 w0018 rfl rfl (gO_sp o14).1 (gO_sp o14).2 rfl (Nat.le_of_ble_eq_true rfl) (Nat.le_of_ble_eq_true rfl) (Nat.lt_of_lt_of_le (by decide) hd) rfl (sX9_nodeOf (Nat.le_refl _) x15e) rfl ?_
    replace H := bs H; obtain ⟨_, o16, H⟩ := H
    replace H := bs H; obtain ⟨x17, x17e, H⟩ := H
    refine u_callV0 (M' := mX9_hold) (d' := 2) (rc := (RX9, TX9, 10)) (As := [.int x2, .int x15]) (st := []) (q := 26) oX9_hold dX9_follow_23 w0890 w0892 w0025 rfl rfl (gO_sp o16).1 (gO_sp o16).2 rfl (Nat.le_of_ble_eq_true rfl) (Nat.le_of_ble_eq_true rfl) (Nat.lt_of_lt_of_le (by decide) hd) rfl (sX9_hold (Nat.le_refl _) x17e) rfl ?_
    refine v_goto (q := 66) dX9_follow_26 (by decide) ?_
    exact V.sub [] rfl (sjX9_follow_66 hd H)
def mX9_run : MI := (yX9_run, cX9_run, 8, some .int)
theorem oX9_run : mOK mX9_run 3 := ⟨by decide +kernel, by decide +kernel, by decide +kernel, by decide, w0768, w0147⟩
def jX9_run_177 (u0 : Nat) (u4 : Int32) (h : Hp) : Option ((Hp) ⊕ (Hp)) :=
(gI h 9 u0 4).bind fun x26 =>
(pI h 9 u0 4 (x26 + (1 : Int32))).bind fun h27 =>
some (.inl h27)
set_option maxRecDepth 20000 in
set_option maxHeartbeats 4000000 in
theorem sjX9_run_177 {Γ : Gm} {d : Nat} (hd : 6 ≤ d) {u0 : Nat} {u4 : Int32} {h : Hp} {r : (Hp) ⊕ (Hp)} {t : Option Value × Hp} (H : jX9_run_177 u0 u4 h = some r) (kI : ∀ s, r = .inl s → (fun s28 => V Γ d mX9_run 28 [(0, .ref u0), (4, .int u4)] [] s28 t) s) (kE : ∀ e, r = .inr e → (fun e => V Γ d mX9_run 190 [(0, .ref u0), (4, .int u4)] [] e t) e) : V Γ d mX9_run 177 [(0, .ref u0), (4, .int u4)] [] h t := by
  unfold jX9_run_177 at H
  refine v_aload_n (q := 178) 0 dX9_run_177 rfl rfl rfl ?_
  refine v_dup (q := 179) dX9_run_178 rfl rfl ?_
  replace H := bs H; obtain ⟨x26, x26e, H⟩ := H
  refine u_gI (q := 182) (r := (RX9, TX9, 10)) x26e dX9_run_179 w0427 rfl (by decide) rfl rfl ?_
  refine v_iconst (v := 1) (q := 183) dX9_run_182 (by decide) rfl ?_
  refine v_iadd (q := 184) dX9_run_183 rfl ?_
  replace H := bs H; obtain ⟨h27, h27e, H⟩ := H
  refine u_pI (q := 187) (r := (RX9, TX9, 10)) h27e dX9_run_184 w0427 rfl (by decide) (Or.inl rfl) rfl rfl ?_
  refine v_goto (q := 28) dX9_run_187 (by decide) ?_
  exact V.sub [0, 1] rfl (kI h27 (Option.some.inj H).symm)
def jX9_run_171 (u0 : Nat) (u4 : Int32) (v5 : Int32) (h : Hp) : Option ((Hp) ⊕ (Hp)) :=
(gO h 9 u0).bind fun _ =>
(fX9_follow h u0 v5).bind fun x25 =>
jX9_run_177 u0 u4 x25
set_option maxRecDepth 20000 in
set_option maxHeartbeats 4000000 in
theorem sjX9_run_171 {Γ : Gm} {d : Nat} (hd : 6 ≤ d) {u0 : Nat} {u4 : Int32} {v5 : Int32} {h : Hp} {r : (Hp) ⊕ (Hp)} {t : Option Value × Hp} (H : jX9_run_171 u0 u4 v5 h = some r) (kI : ∀ s, r = .inl s → (fun s28 => V Γ d mX9_run 28 [(0, .ref u0), (4, .int u4)] [] s28 t) s) (kE : ∀ e, r = .inr e → (fun e => V Γ d mX9_run 190 [(0, .ref u0), (4, .int u4)] [] e t) e) : V Γ d mX9_run 171 [(0, .ref u0), (4, .int u4), (5, .int v5)] [] h t := by
  unfold jX9_run_171 at H
  refine v_aload_n (q := 172) 0 dX9_run_171 rfl rfl rfl ?_
  refine v_iload (q := 174) 2 dX9_run_172 rfl rfl ?_
  replace H := bs H; obtain ⟨_, o24, H⟩ := H
  replace H := bs H; obtain ⟨x25, x25e, H⟩ := H
  refine u_callV0 (M' := mX9_follow) (d' := 3) (rc := (RX9, TX9, 10)) (As := [.int v5]) (st := []) (q := 177) oX9_follow dX9_run_174 w0894 w0896 w0026 rfl rfl (gO_sp o24).1 (gO_sp o24).2 rfl (Nat.le_of_ble_eq_true rfl) (Nat.le_of_ble_eq_true rfl) (Nat.lt_of_lt_of_le (by decide) hd) rfl (sX9_follow (Nat.le_refl _) x25e) rfl ?_
  exact V.sub [0, 1] rfl (sjX9_run_177 hd H kI kE)
def jX9_run_115 (u0 : Nat) (u4 : Int32) (v5 : Int32) (v6 : Int32) (v7 : Int32) (h : Hp) : Option ((Hp) ⊕ (Hp)) :=
if (4 : Int32) ≤ v6 then (
if v6 = (4 : Int32) then (
(gI h 9 u0 7).bind fun x28 =>
(fX11_has h x28 v7).bind fun x29 =>
if x29 = 0 then (
(gR h 9 u0 1).bind fun x31 =>
(gR h 5 x31 3).bind fun x32 =>
(lI h .int x32 v7).bind fun x33 =>
(gO h 9 u0).bind fun _ =>
(fX9_tell h u0 (8 : Int32) ((2 : Int32) * x33)).bind fun x35 =>
jX9_run_177 u0 u4 x35) else (
jX9_run_171 u0 u4 v5 h)) else (
jX9_run_171 u0 u4 v5 h)) else (
(gO h 9 u0).bind fun _ =>
(fX9_takeUp h u0 v7 v6).bind fun x37 =>
jX9_run_177 u0 u4 x37)
set_option maxRecDepth 20000 in
set_option maxHeartbeats 4000000 in
theorem sjX9_run_115 {Γ : Gm} {d : Nat} (hd : 6 ≤ d) {u0 : Nat} {u4 : Int32} {v5 : Int32} {v6 : Int32} {v7 : Int32} {h : Hp} {r : (Hp) ⊕ (Hp)} {t : Option Value × Hp} (H : jX9_run_115 u0 u4 v5 v6 v7 h = some r) (kI : ∀ s, r = .inl s → (fun s28 => V Γ d mX9_run 28 [(0, .ref u0), (4, .int u4)] [] s28 t) s) (kE : ∀ e, r = .inr e → (fun e => V Γ d mX9_run 190 [(0, .ref u0), (4, .int u4)] [] e t) e) : V Γ d mX9_run 115 [(0, .ref u0), (4, .int u4), (5, .int v5), (6, .int v6), (7, .int v7)] [] h t := by
  unfold jX9_run_115 at H
  refine v_iload (q := 117) 3 dX9_run_115 rfl rfl ?_
  refine v_iconst (v := 4) (q := 118) dX9_run_117 (by decide) rfl ?_
  refine v_icmp_ge (q1 := 132) (q2 := 121) dX9_run_118 (by decide) rfl (fun c22 => ?_) (fun c22 => ?_)
  · replace H := ip c22 H
    refine v_iload (q := 134) 3 dX9_run_132 rfl rfl ?_
    refine v_iconst (v := 4) (q := 135) dX9_run_134 (by decide) rfl ?_
    refine v_icmp_ne (q1 := 171) (q2 := 138) dX9_run_135 (by decide) rfl (fun c23 => ?_) (fun c23 => ?_)
    · replace H := ine c23 H
      exact V.sub [0, 1, 2] rfl (sjX9_run_171 hd H kI kE)
    · replace H := ip c23 H
      refine v_aload_n (q := 139) 0 dX9_run_138 rfl rfl rfl ?_
      replace H := bs H; obtain ⟨x28, x28e, H⟩ := H
      refine u_gI (q := 142) (r := (RX9, TX9, 10)) x28e dX9_run_139 w0430 rfl (by decide) rfl rfl ?_
      refine v_iload (q := 144) 4 dX9_run_142 rfl rfl ?_
      replace H := bs H; obtain ⟨x29, x29e, H⟩ := H
      refine u_callSN1 (M' := mX11_has) (d' := 1) (As := [.int x28, .int v7]) (st := []) (q := 147) oX11_has dX9_run_144 w0782 w0783 rfl (Nat.le_of_ble_eq_true rfl) (Nat.le_of_ble_eq_true rfl) (Nat.lt_of_lt_of_le (by decide) hd) rfl (sX11_has (Nat.le_refl _) x29e) rfl ?_
      refine v_if_ne (q1 := 171) (q2 := 150) dX9_run_147 (by decide) rfl (fun c30 => ?_) (fun c30 => ?_)
      · replace H := ine c30 H
        exact V.sub [0, 1, 2] rfl (sjX9_run_171 hd H kI kE)
      · replace H := ip c30 H
        refine v_aload_n (q := 151) 0 dX9_run_150 rfl rfl rfl ?_
        refine v_bipush (v := 8) (q := 153) dX9_run_151 (by decide) rfl ?_
        refine v_iconst (v := 2) (q := 154) dX9_run_153 (by decide) rfl ?_
        refine v_aload_n (q := 155) 0 dX9_run_154 rfl rfl rfl ?_
        replace H := bs H; obtain ⟨x31, x31e, H⟩ := H
        refine u_gR (q := 158) (r := (RX9, TX9, 10)) x31e dX9_run_155 w0424 rfl (by decide) rfl rfl ?_
        replace H := bs H; obtain ⟨x32, x32e, H⟩ := H
        refine u_gR (q := 161) (r := (RX5, TX5, 7)) x32e dX9_run_158 w0236 rfl (by decide) rfl rfl ?_
        refine v_iload (q := 163) 4 dX9_run_161 rfl rfl ?_
        replace H := bs H; obtain ⟨x33, x33e, H⟩ := H
        refine u_lI (q := 164) x33e dX9_run_163 rfl ?_
        refine v_imul (q := 165) dX9_run_164 rfl ?_
        replace H := bs H; obtain ⟨_, o34, H⟩ := H
        replace H := bs H; obtain ⟨x35, x35e, H⟩ := H
        refine u_callV0 (M' := mX9_tell) (d' := 2) (rc := (RX9, TX9, 10)) (As := [.int (8 : Int32), .int ((2 : Int32) * x33)]) (st := []) (q := 168) oX9_tell dX9_run_165 w0789 w0791 w0016 rfl rfl (gO_sp o34).1 (gO_sp o34).2 rfl (Nat.le_of_ble_eq_true rfl) (Nat.le_of_ble_eq_true rfl) (Nat.lt_of_lt_of_le (by decide) hd) rfl (sX9_tell (Nat.le_refl _) x35e) rfl ?_
        refine v_goto (q := 177) dX9_run_168 (by decide) ?_
        exact V.sub [0, 1] rfl (sjX9_run_177 hd H kI kE)
  · replace H := ine c22 H
    refine v_aload_n (q := 122) 0 dX9_run_121 rfl rfl rfl ?_
    refine v_iload (q := 124) 4 dX9_run_122 rfl rfl ?_
    refine v_iload (q := 126) 3 dX9_run_124 rfl rfl ?_
    replace H := bs H; obtain ⟨_, o36, H⟩ := H
    replace H := bs H; obtain ⟨x37, x37e, H⟩ := H
    refine u_callV0 (M' := mX9_takeUp) (d' := 5) (rc := (RX9, TX9, 10)) (As := [.int v7, .int v6]) (st := []) (q := 129) oX9_takeUp dX9_run_126 w0805 w0807 w0017 rfl rfl (gO_sp o36).1 (gO_sp o36).2 rfl (Nat.le_of_ble_eq_true rfl) (Nat.le_of_ble_eq_true rfl) (Nat.lt_of_lt_of_le (by decide) hd) rfl (sX9_takeUp (Nat.le_refl _) x37e) rfl ?_
    refine v_goto (q := 177) dX9_run_129 (by decide) ?_
    exact V.sub [0, 1] rfl (sjX9_run_177 hd H kI kE)
def bX9_run_28 (u0 : Nat) (u4 : Int32) (s28 : Hp) : Option ((Hp) ⊕ (Hp)) :=
(gI s28 9 u0 4).bind fun x8 =>
(gR s28 9 u0 1).bind fun x9 =>
(gR s28 5 x9 5).bind fun x10 =>
(gI s28 9 u0 3).bind fun x11 =>
(lI s28 .int x10 x11).bind fun x12 =>
if x12 ≤ x8 then (
some (.inr s28)) else (
(gR s28 9 u0 2).bind fun x14 =>
(gR s28 3 x14 0).bind fun x15 =>
(gI s28 9 u0 3).bind fun x16 =>
(gI s28 9 u0 4).bind fun x17 =>
(lI s28 .int x15 ((x16 * (12 : Int32)) + x17)).bind fun x18 =>
(fX11_deedOf s28 x18).bind fun x19 =>
(fX11_lockOf s28 x18).bind fun x20 =>
if (4 : Int32) ≤ x19 then (
jX9_run_115 u0 u4 x18 x19 x20 s28) else (
(gI s28 9 u0 7).bind fun x38 =>
(fX11_has s28 x38 x20).bind fun x39 =>
if x39 = 0 then (
jX9_run_115 u0 u4 x18 x19 x20 s28) else (
(gO s28 9 u0).bind fun _ =>
(fX9_takenAs s28 u0 x20).bind fun x42 =>
(gO s28 9 u0).bind fun _ =>
(fX9_tell s28 u0 (1 : Int32) x42).bind fun x44 =>
jX9_run_177 u0 u4 x44)))
set_option maxRecDepth 20000 in
set_option maxHeartbeats 4000000 in
theorem sbX9_run_28 {Γ : Gm} {d : Nat} (hd : 6 ≤ d) {u0 : Nat} {u4 : Int32} {s28 : Hp} {r : (Hp) ⊕ (Hp)} {t : Option Value × Hp} (H : bX9_run_28 u0 u4 s28 = some r) (kI : ∀ s, r = .inl s → (fun s28 => V Γ d mX9_run 28 [(0, .ref u0), (4, .int u4)] [] s28 t) s) (kE : ∀ e, r = .inr e → (fun e => V Γ d mX9_run 190 [(0, .ref u0), (4, .int u4)] [] e t) e) : V Γ d mX9_run 28 [(0, .ref u0), (4, .int u4)] [] s28 t := by
  unfold bX9_run_28 at H
  refine v_aload_n (q := 29) 0 dX9_run_28 rfl rfl rfl ?_
  replace H := bs H; obtain ⟨x8, x8e, H⟩ := H
  refine u_gI (q := 32) (r := (RX9, TX9, 10)) x8e dX9_run_29 w0427 rfl (by decide) rfl rfl ?_
  refine v_aload_n (q := 33) 0 dX9_run_32 rfl rfl rfl ?_
  replace H := bs H; obtain ⟨x9, x9e, H⟩ := H
  refine u_gR (q := 36) (r := (RX9, TX9, 10)) x9e dX9_run_33 w0424 rfl (by decide) rfl rfl ?_
  replace H := bs H; obtain ⟨x10, x10e, H⟩ := H
  refine u_gR (q := 39) (r := (RX5, TX5, 7)) x10e dX9_run_36 w0245 rfl (by decide) rfl rfl ?_
  refine v_aload_n (q := 40) 0 dX9_run_39 rfl rfl rfl ?_
  replace H := bs H; obtain ⟨x11, x11e, H⟩ := H
  refine u_gI (q := 43) (r := (RX9, TX9, 10)) x11e dX9_run_40 w0426 rfl (by decide) rfl rfl ?_
  replace H := bs H; obtain ⟨x12, x12e, H⟩ := H
  refine u_lI (q := 44) x12e dX9_run_43 rfl ?_
  refine v_icmp_ge (q1 := 190) (q2 := 47) dX9_run_44 (by decide) rfl (fun c13 => ?_) (fun c13 => ?_)
  · replace H := ip c13 H
    exact V.sub [0, 1] rfl (kE s28 (Option.some.inj H).symm)
  · replace H := ine c13 H
    refine v_aload_n (q := 48) 0 dX9_run_47 rfl rfl rfl ?_
    replace H := bs H; obtain ⟨x14, x14e, H⟩ := H
    refine u_gR (q := 51) (r := (RX9, TX9, 10)) x14e dX9_run_48 w0425 rfl (by decide) rfl rfl ?_
    replace H := bs H; obtain ⟨x15, x15e, H⟩ := H
    refine u_gR (q := 54) (r := (RX3, TX3, 8)) x15e dX9_run_51 w0340 rfl (by decide) rfl rfl ?_
    refine v_aload_n (q := 55) 0 dX9_run_54 rfl rfl rfl ?_
    replace H := bs H; obtain ⟨x16, x16e, H⟩ := H
    refine u_gI (q := 58) (r := (RX9, TX9, 10)) x16e dX9_run_55 w0426 rfl (by decide) rfl rfl ?_
    refine v_bipush (v := 12) (q := 60) dX9_run_58 (by decide) rfl ?_
    refine v_imul (q := 61) dX9_run_60 rfl ?_
    refine v_aload_n (q := 62) 0 dX9_run_61 rfl rfl rfl ?_
    replace H := bs H; obtain ⟨x17, x17e, H⟩ := H
    refine u_gI (q := 65) (r := (RX9, TX9, 10)) x17e dX9_run_62 w0427 rfl (by decide) rfl rfl ?_
    refine v_iadd (q := 66) dX9_run_65 rfl ?_
    replace H := bs H; obtain ⟨x18, x18e, H⟩ := H
    refine u_lI (q := 67) x18e dX9_run_66 rfl ?_
    refine v_istore (L' := [(5, .int x18), (0, .ref u0), (4, .int u4)]) (q := 69) dX9_run_67 (by decide) rfl rfl ?_
    refine v_iload (q := 71) 0 dX9_run_69 rfl rfl ?_
    replace H := bs H; obtain ⟨x19, x19e, H⟩ := H
    refine u_callSN1 (M' := mX11_deedOf) (d' := 1) (As := [.int x18]) (st := []) (q := 74) oX11_deedOf dX9_run_71 w0776 w0777 rfl (Nat.le_of_ble_eq_true rfl) (Nat.le_of_ble_eq_true rfl) (Nat.lt_of_lt_of_le (by decide) hd) rfl (sX11_deedOf (Nat.le_refl _) x19e) rfl ?_
    refine v_istore (L' := [(6, .int x19), (5, .int x18), (0, .ref u0), (4, .int u4)]) (q := 76) dX9_run_74 (by decide) rfl rfl ?_
    refine v_iload (q := 78) 1 dX9_run_76 rfl rfl ?_
    replace H := bs H; obtain ⟨x20, x20e, H⟩ := H
    refine u_callSN1 (M' := mX11_lockOf) (d' := 1) (As := [.int x18]) (st := []) (q := 81) oX11_lockOf dX9_run_78 w0779 w0780 rfl (Nat.le_of_ble_eq_true rfl) (Nat.le_of_ble_eq_true rfl) (Nat.lt_of_lt_of_le (by decide) hd) rfl (sX11_lockOf (Nat.le_refl _) x20e) rfl ?_
    refine v_istore (L' := [(7, .int x20), (6, .int x19), (5, .int x18), (0, .ref u0), (4, .int u4)]) (q := 83) dX9_run_81 (by decide) rfl rfl ?_
    refine v_iload (q := 85) 1 dX9_run_83 rfl rfl ?_
    refine v_iconst (v := 4) (q := 86) dX9_run_85 (by decide) rfl ?_
    refine v_icmp_ge (q1 := 115) (q2 := 89) dX9_run_86 (by decide) rfl (fun c21 => ?_) (fun c21 => ?_)
    · replace H := ip c21 H
      exact V.sub [3, 4, 2, 1, 0] rfl (sjX9_run_115 hd H kI kE)
    · replace H := ine c21 H
      refine v_aload_n (q := 90) 3 dX9_run_89 rfl rfl rfl ?_
      replace H := bs H; obtain ⟨x38, x38e, H⟩ := H
      refine u_gI (q := 93) (r := (RX9, TX9, 10)) x38e dX9_run_90 w0430 rfl (by decide) rfl rfl ?_
      refine v_iload (q := 95) 0 dX9_run_93 rfl rfl ?_
      replace H := bs H; obtain ⟨x39, x39e, H⟩ := H
      refine u_callSN1 (M' := mX11_has) (d' := 1) (As := [.int x38, .int x20]) (st := []) (q := 98) oX11_has dX9_run_95 w0782 w0783 rfl (Nat.le_of_ble_eq_true rfl) (Nat.le_of_ble_eq_true rfl) (Nat.lt_of_lt_of_le (by decide) hd) rfl (sX11_has (Nat.le_refl _) x39e) rfl ?_
      refine v_if_eq (q1 := 115) (q2 := 101) dX9_run_98 (by decide) rfl (fun c40 => ?_) (fun c40 => ?_)
      · replace H := ip c40 H
        exact V.sub [3, 4, 2, 1, 0] rfl (sjX9_run_115 hd H kI kE)
      · replace H := ine c40 H
        refine v_aload_n (q := 102) 3 dX9_run_101 rfl rfl rfl ?_
        refine v_iconst (v := 1) (q := 103) dX9_run_102 (by decide) rfl ?_
        refine v_aload_n (q := 104) 3 dX9_run_103 rfl rfl rfl ?_
        refine v_iload (q := 106) 0 dX9_run_104 rfl rfl ?_
        replace H := bs H; obtain ⟨_, o41, H⟩ := H
        replace H := bs H; obtain ⟨x42, x42e, H⟩ := H
        refine u_callV1 (M' := mX9_takenAs) (d' := 1) (rc := (RX9, TX9, 10)) (As := [.int x20]) (st := [.int (1 : Int32), .ref u0]) (q := 109) oX9_takenAs dX9_run_106 w0785 w0787 w0015 rfl rfl (gO_sp o41).1 (gO_sp o41).2 rfl (Nat.le_of_ble_eq_true rfl) (Nat.le_of_ble_eq_true rfl) (Nat.lt_of_lt_of_le (by decide) hd) rfl (sX9_takenAs (Nat.le_refl _) x42e) rfl ?_
        replace H := bs H; obtain ⟨_, o43, H⟩ := H
        replace H := bs H; obtain ⟨x44, x44e, H⟩ := H
        refine u_callV0 (M' := mX9_tell) (d' := 2) (rc := (RX9, TX9, 10)) (As := [.int (1 : Int32), .int x42]) (st := []) (q := 112) oX9_tell dX9_run_109 w0789 w0791 w0016 rfl rfl (gO_sp o43).1 (gO_sp o43).2 rfl (Nat.le_of_ble_eq_true rfl) (Nat.le_of_ble_eq_true rfl) (Nat.lt_of_lt_of_le (by decide) hd) rfl (sX9_tell (Nat.le_refl _) x44e) rfl ?_
        refine v_goto (q := 177) dX9_run_112 (by decide) ?_
        exact V.sub [3, 4] rfl (sjX9_run_177 hd H kI kE)
def bX9_run_193 (u0 : Nat) (u4 : Int32) (s193 : Int32 × Hp) : Option ((Int32 × Hp) ⊕ (Hp)) :=
(gI s193.2 9 u0 6).bind fun x46 =>
if x46 ≤ s193.1 then (
some (.inr s193.2)) else (
(gR s193.2 9 u0 9).bind fun x48 =>
(lI s193.2 .int x48 s193.1).bind fun x49 =>
(gO s193.2 9 u0).bind fun _ =>
(fX9_tell s193.2 u0 (9 : Int32) x49).bind fun x51 =>
(some (s193.1 + (1 : Int32))).bind fun x52 =>
some (.inl (x52, x51)))
set_option maxRecDepth 20000 in
set_option maxHeartbeats 4000000 in
theorem sbX9_run_193 {Γ : Gm} {d : Nat} (hd : 6 ≤ d) {u0 : Nat} {u4 : Int32} {s193 : Int32 × Hp} {r : (Int32 × Hp) ⊕ (Hp)} {t : Option Value × Hp} (H : bX9_run_193 u0 u4 s193 = some r) (kI : ∀ s, r = .inl s → (fun s193 => V Γ d mX9_run 193 [(0, .ref u0), (4, .int u4), (5, .int s193.1)] [] s193.2 t) s) (kE : ∀ e, r = .inr e → (fun e => V Γ d mX9_run 221 [(0, .ref u0), (4, .int u4)] [] e t) e) : V Γ d mX9_run 193 [(0, .ref u0), (4, .int u4), (5, .int s193.1)] [] s193.2 t := by
  unfold bX9_run_193 at H
  refine v_iload (q := 195) 2 dX9_run_193 rfl rfl ?_
  refine v_aload_n (q := 196) 0 dX9_run_195 rfl rfl rfl ?_
  replace H := bs H; obtain ⟨x46, x46e, H⟩ := H
  refine u_gI (q := 199) (r := (RX9, TX9, 10)) x46e dX9_run_196 w0429 rfl (by decide) rfl rfl ?_
  refine v_icmp_ge (q1 := 221) (q2 := 202) dX9_run_199 (by decide) rfl (fun c47 => ?_) (fun c47 => ?_)
  · replace H := ip c47 H
    exact V.sub [0, 1] rfl (kE s193.2 (Option.some.inj H).symm)
  · replace H := ine c47 H
    refine v_aload_n (q := 203) 0 dX9_run_202 rfl rfl rfl ?_
    refine v_bipush (v := 9) (q := 205) dX9_run_203 (by decide) rfl ?_
    refine v_aload_n (q := 206) 0 dX9_run_205 rfl rfl rfl ?_
    replace H := bs H; obtain ⟨x48, x48e, H⟩ := H
    refine u_gR (q := 209) (r := (RX9, TX9, 10)) x48e dX9_run_206 w0432 rfl (by decide) rfl rfl ?_
    refine v_iload (q := 211) 2 dX9_run_209 rfl rfl ?_
    replace H := bs H; obtain ⟨x49, x49e, H⟩ := H
    refine u_lI (q := 212) x49e dX9_run_211 rfl ?_
    replace H := bs H; obtain ⟨_, o50, H⟩ := H
    replace H := bs H; obtain ⟨x51, x51e, H⟩ := H
    refine u_callV0 (M' := mX9_tell) (d' := 2) (rc := (RX9, TX9, 10)) (As := [.int (9 : Int32), .int x49]) (st := []) (q := 215) oX9_tell dX9_run_212 w0789 w0791 w0016 rfl rfl (gO_sp o50).1 (gO_sp o50).2 rfl (Nat.le_of_ble_eq_true rfl) (Nat.le_of_ble_eq_true rfl) (Nat.lt_of_lt_of_le (by decide) hd) rfl (sX9_tell (Nat.le_refl _) x51e) rfl ?_
    replace H := bs H; obtain ⟨x52, x52e, H⟩ := H
    refine v_iinc (v := x52) (L' := [(5, .int x52), (0, .ref u0), (4, .int u4)]) (q := 218) 2 dX9_run_215 rfl (Option.some.inj x52e) (by decide) rfl rfl ?_
    refine v_goto (q := 193) dX9_run_218 (by decide) ?_
    exact V.sub [1, 2, 0] rfl (kI (x52, x51) (Option.some.inj H).symm)
def fX9_run (h : Hp) (v0 : Nat) (v1 : Nat) (v2 : Nat) (v3 : Int32) : Option (Int32 × Hp) :=
(pR h 9 v0 2 v2).bind fun h1 =>
(gO h1 9 v0).bind fun _ =>
(fX9_begin h1 v0 v1 v3).bind fun x3 =>
(gR x3 9 v0 2).bind fun x4 =>
(gR x3 3 x4 4).bind fun x5 =>
(gI x3 7 x5 0).bind fun x6 =>
(pI x3 9 v0 4 (0 : Int32)).bind fun h7 =>
(lp (bX9_run_28 v0 x6) FU h7).bind fun e45 =>
(lp (bX9_run_193 v0 x6) FU ((0 : Int32), e45)).bind fun e53 =>
(gR e53 9 v0 2).bind fun x54 =>
(gR e53 3 x54 1).bind fun x55 =>
(gI e53 9 v0 3).bind fun x56 =>
(lI e53 .int x55 x56).bind fun x57 =>
(tI e53 x55 x56 (x57 + (1 : Int32))).bind fun h58 =>
(gR h58 9 v0 2).bind fun x59 =>
(gR h58 3 x59 4).bind fun x60 =>
(gI h58 7 x60 0).bind fun x61 =>
some (x61 - x6, h58)
set_option maxRecDepth 20000 in
set_option maxHeartbeats 4000000 in
theorem sX9_run {Γ : Gm} {d : Nat} (hd : 6 ≤ d) {h : Hp} {v0 : Nat} {v1 : Nat} {v2 : Nat} {v3 : Int32} {r : Int32 × Hp} (H : fX9_run h v0 v1 v2 v3 = some r) : V Γ d mX9_run 0 [(0, .ref v0), (1, .ref v1), (2, .ref v2), (3, .int v3)] [] h (some (.int r.1), r.2) := by
  unfold fX9_run at H
  refine v_aload_n (q := 1) 0 dX9_run_0 rfl rfl rfl ?_
  refine v_aload_n (q := 2) 2 dX9_run_1 rfl rfl rfl ?_
  replace H := bs H; obtain ⟨h1, h1e, H⟩ := H
  refine u_pR (q := 5) (r := (RX9, TX9, 10)) h1e dX9_run_2 w0425 rfl (by decide) (Or.inl rfl) rfl rfl ?_
  refine v_aload_n (q := 6) 0 dX9_run_5 rfl rfl rfl ?_
  refine v_aload_n (q := 7) 1 dX9_run_6 rfl rfl rfl ?_
  refine v_iload_n (q := 8) 3 dX9_run_7 rfl rfl rfl ?_
  replace H := bs H; obtain ⟨_, o2, H⟩ := H
  replace H := bs H; obtain ⟨x3, x3e, H⟩ := H
  refine u_callV0 (M' := mX9_begin) (d' := 2) (rc := (RX9, TX9, 10)) (As := [.ref v1, .int v3]) (st := []) (q := 11) oX9_begin dX9_run_8 w0769 w0771 w0014 rfl rfl (gO_sp o2).1 (gO_sp o2).2 rfl (Nat.le_of_ble_eq_true rfl) (Nat.le_of_ble_eq_true rfl) (Nat.lt_of_lt_of_le (by decide) hd) rfl (sX9_begin (Nat.le_refl _) x3e) rfl ?_
  refine v_aload_n (q := 12) 0 dX9_run_11 rfl rfl rfl ?_
  replace H := bs H; obtain ⟨x4, x4e, H⟩ := H
  refine u_gR (q := 15) (r := (RX9, TX9, 10)) x4e dX9_run_12 w0425 rfl (by decide) rfl rfl ?_
  replace H := bs H; obtain ⟨x5, x5e, H⟩ := H
  refine u_gR (q := 18) (r := (RX3, TX3, 8)) x5e dX9_run_15 w0352 rfl (by decide) rfl rfl ?_
  replace H := bs H; obtain ⟨x6, x6e, H⟩ := H
  refine u_gI (q := 21) (r := (RX7, TX7, 7)) x6e dX9_run_18 w0312 rfl (by decide) rfl rfl ?_
  refine v_istore (L' := [(4, .int x6), (0, .ref v0), (1, .ref v1), (2, .ref v2), (3, .int v3)]) (q := 23) dX9_run_21 (by decide) rfl rfl ?_
  refine v_aload_n (q := 24) 1 dX9_run_23 rfl rfl rfl ?_
  refine v_iconst (v := 0) (q := 25) dX9_run_24 (by decide) rfl ?_
  replace H := bs H; obtain ⟨h7, h7e, H⟩ := H
  refine u_pI (q := 28) (r := (RX9, TX9, 10)) h7e dX9_run_25 w0427 rfl (by decide) (Or.inl rfl) rfl rfl ?_
  replace H := bs H; obtain ⟨e45, e45L, H⟩ := H
  refine V.sub [1, 0] rfl ?_
  refine lp_V (P := (fun s28 => V Γ d mX9_run 28 [(0, .ref v0), (4, .int x6)] [] s28 (some (.int r.1), r.2))) (E := (fun e => V Γ d mX9_run 190 [(0, .ref v0), (4, .int x6)] [] e (some (.int r.1), r.2))) (fun s r hb kI kE => sbX9_run_28 hd (s28 := s) (r := r) hb kI kE) FU h7 e45 e45L ?_
  refine v_iconst (v := 0) (q := 191) dX9_run_190 (by decide) rfl ?_
  refine v_istore (L' := [(5, .int (0 : Int32)), (0, .ref v0), (4, .int x6)]) (q := 193) dX9_run_191 (by decide) rfl rfl ?_
  replace H := bs H; obtain ⟨e53, e53L, H⟩ := H
  refine V.sub [1, 2, 0] rfl ?_
  refine lp_V (P := (fun s193 => V Γ d mX9_run 193 [(0, .ref v0), (4, .int x6), (5, .int s193.1)] [] s193.2 (some (.int r.1), r.2))) (E := (fun e => V Γ d mX9_run 221 [(0, .ref v0), (4, .int x6)] [] e (some (.int r.1), r.2))) (fun s r hb kI kE => sbX9_run_193 hd (s193 := s) (r := r) hb kI kE) FU ((0 : Int32), e45) e53 e53L ?_
  refine v_aload_n (q := 222) 0 dX9_run_221 rfl rfl rfl ?_
  replace H := bs H; obtain ⟨x54, x54e, H⟩ := H
  refine u_gR (q := 225) (r := (RX9, TX9, 10)) x54e dX9_run_222 w0425 rfl (by decide) rfl rfl ?_
  replace H := bs H; obtain ⟨x55, x55e, H⟩ := H
  refine u_gR (q := 228) (r := (RX3, TX3, 8)) x55e dX9_run_225 w0343 rfl (by decide) rfl rfl ?_
  refine v_aload_n (q := 229) 0 dX9_run_228 rfl rfl rfl ?_
  replace H := bs H; obtain ⟨x56, x56e, H⟩ := H
  refine u_gI (q := 232) (r := (RX9, TX9, 10)) x56e dX9_run_229 w0426 rfl (by decide) rfl rfl ?_
  refine v_dup2 (q := 233) dX9_run_232 rfl rfl rfl ?_
  replace H := bs H; obtain ⟨x57, x57e, H⟩ := H
  refine u_lI (q := 234) x57e dX9_run_233 rfl ?_
  refine v_iconst (v := 1) (q := 235) dX9_run_234 (by decide) rfl ?_
  refine v_iadd (q := 236) dX9_run_235 rfl ?_
  replace H := bs H; obtain ⟨h58, h58e, H⟩ := H
  refine u_tI (q := 237) h58e dX9_run_236 rfl ?_
  refine v_aload_n (q := 238) 0 dX9_run_237 rfl rfl rfl ?_
  replace H := bs H; obtain ⟨x59, x59e, H⟩ := H
  refine u_gR (q := 241) (r := (RX9, TX9, 10)) x59e dX9_run_238 w0425 rfl (by decide) rfl rfl ?_
  replace H := bs H; obtain ⟨x60, x60e, H⟩ := H
  refine u_gR (q := 244) (r := (RX3, TX3, 8)) x60e dX9_run_241 w0352 rfl (by decide) rfl rfl ?_
  replace H := bs H; obtain ⟨x61, x61e, H⟩ := H
  refine u_gI (q := 247) (r := (RX7, TX7, 7)) x61e dX9_run_244 w0312 rfl (by decide) rfl rfl ?_
  refine v_iload (q := 249) 1 dX9_run_247 rfl rfl ?_
  refine v_isub (q := 250) dX9_run_249 rfl ?_
  cases H
  exact v_ireturn rfl dX9_run_250
def mX11_runEveryone : MI := (yX11_runEveryone, cX11_runEveryone, 3, some (.object "LockWatch$Reports"))
theorem oX11_runEveryone : mOK mX11_runEveryone 1 := ⟨by decide +kernel, by decide +kernel, by decide +kernel, by decide, w1050, w0139⟩
def bX11_runEveryone_10 (u0 : Nat) (s10 : Int32 × Hp) : Option ((Int32 × Hp) ⊕ (Hp)) :=
(gR s10.2 11 u0 3).bind fun x4 =>
(gI s10.2 5 x4 2).bind fun x5 =>
if x5 ≤ s10.1 then (
some (.inr s10.2)) else (
(gR s10.2 11 u0 9).bind fun x7 =>
(gR s10.2 11 u0 3).bind fun x8 =>
(gR s10.2 11 u0 11).bind fun x9 =>
(gO s10.2 9 x7).bind fun _ =>
(fX9_run s10.2 x7 x8 x9 s10.1).bind fun x11 =>
(some (s10.1 + (1 : Int32))).bind fun x12 =>
some (.inl (x12, x11.2)))
set_option maxRecDepth 20000 in
set_option maxHeartbeats 4000000 in
theorem sbX11_runEveryone_10 {Γ : Gm} {d : Nat} (hd : 7 ≤ d) {u0 : Nat} {s10 : Int32 × Hp} {r : (Int32 × Hp) ⊕ (Hp)} {t : Option Value × Hp} (H : bX11_runEveryone_10 u0 s10 = some r) (kI : ∀ s, r = .inl s → (fun s10 => V Γ d mX11_runEveryone 10 [(0, .ref u0), (2, .int s10.1)] [] s10.2 t) s) (kE : ∀ e, r = .inr e → (fun e => V Γ d mX11_runEveryone 44 [(0, .ref u0)] [] e t) e) : V Γ d mX11_runEveryone 10 [(0, .ref u0), (2, .int s10.1)] [] s10.2 t := by
  unfold bX11_runEveryone_10 at H
  refine v_iload_n (q := 11) 1 dX11_runEveryone_10 rfl rfl rfl ?_
  refine v_aload_n (q := 12) 0 dX11_runEveryone_11 rfl rfl rfl ?_
  replace H := bs H; obtain ⟨x4, x4e, H⟩ := H
  refine u_gR (q := 15) (r := (RX11, TX11, 14)) x4e dX11_runEveryone_12 w0524 rfl (by decide) rfl rfl ?_
  replace H := bs H; obtain ⟨x5, x5e, H⟩ := H
  refine u_gI (q := 18) (r := (RX5, TX5, 7)) x5e dX11_runEveryone_15 w0232 rfl (by decide) rfl rfl ?_
  refine v_icmp_ge (q1 := 44) (q2 := 21) dX11_runEveryone_18 (by decide) rfl (fun c6 => ?_) (fun c6 => ?_)
  · replace H := ip c6 H
    exact V.sub [0] rfl (kE s10.2 (Option.some.inj H).symm)
  · replace H := ine c6 H
    refine v_aload_n (q := 22) 0 dX11_runEveryone_21 rfl rfl rfl ?_
    replace H := bs H; obtain ⟨x7, x7e, H⟩ := H
    refine u_gR (q := 25) (r := (RX11, TX11, 14)) x7e dX11_runEveryone_22 w0530 rfl (by decide) rfl rfl ?_
    refine v_aload_n (q := 26) 0 dX11_runEveryone_25 rfl rfl rfl ?_
    replace H := bs H; obtain ⟨x8, x8e, H⟩ := H
    refine u_gR (q := 29) (r := (RX11, TX11, 14)) x8e dX11_runEveryone_26 w0524 rfl (by decide) rfl rfl ?_
    refine v_aload_n (q := 30) 0 dX11_runEveryone_29 rfl rfl rfl ?_
    replace H := bs H; obtain ⟨x9, x9e, H⟩ := H
    refine u_gR (q := 33) (r := (RX11, TX11, 14)) x9e dX11_runEveryone_30 w0532 rfl (by decide) rfl rfl ?_
    refine v_iload_n (q := 34) 1 dX11_runEveryone_33 rfl rfl rfl ?_
    replace H := bs H; obtain ⟨_, o10, H⟩ := H
    replace H := bs H; obtain ⟨x11, x11e, H⟩ := H
    refine u_callV1 (M' := mX9_run) (d' := 6) (rc := (RX9, TX9, 10)) (As := [.ref x8, .ref x9, .int s10.1]) (st := []) (q := 37) oX9_run dX11_runEveryone_34 w0765 w0766 w0767 rfl rfl (gO_sp o10).1 (gO_sp o10).2 rfl (Nat.le_of_ble_eq_true rfl) (Nat.le_of_ble_eq_true rfl) (Nat.lt_of_lt_of_le (by decide) hd) rfl (sX9_run (Nat.le_refl _) x11e) rfl ?_
    refine v_pop (q := 38) dX11_runEveryone_37 rfl rfl ?_
    replace H := bs H; obtain ⟨x12, x12e, H⟩ := H
    refine v_iinc (v := x12) (L' := [(2, .int x12), (0, .ref u0)]) (q := 41) 1 dX11_runEveryone_38 rfl (Option.some.inj x12e) (by decide) rfl rfl ?_
    refine v_goto (q := 10) dX11_runEveryone_41 (by decide) ?_
    exact V.sub [1, 0] rfl (kI (x12, x11.2) (Option.some.inj H).symm)
def fX11_runEveryone (h : Hp) (v0 : Nat) (v1 : Nat) : Option (Nat × Hp) :=
(gR h 11 v0 11).bind fun x1 =>
(gO h 3 x1).bind fun _ =>
(fX3_begin h x1 v1).bind fun x3 =>
(lp (bX11_runEveryone_10 v0) FU ((0 : Int32), x3)).bind fun e13 =>
(gR e13 11 v0 11).bind fun x14 =>
(gR e13 3 x14 4).bind fun x15 =>
some (x15, e13)
set_option maxRecDepth 20000 in
set_option maxHeartbeats 4000000 in
theorem sX11_runEveryone {Γ : Gm} {d : Nat} (hd : 7 ≤ d) {h : Hp} {v0 : Nat} {v1 : Nat} {r : Nat × Hp} (H : fX11_runEveryone h v0 v1 = some r) : V Γ d mX11_runEveryone 0 [(0, .ref v0), (1, .ref v1)] [] h (some (.ref r.1), r.2) := by
  unfold fX11_runEveryone at H
  refine v_aload_n (q := 1) 0 dX11_runEveryone_0 rfl rfl rfl ?_
  replace H := bs H; obtain ⟨x1, x1e, H⟩ := H
  refine u_gR (q := 4) (r := (RX11, TX11, 14)) x1e dX11_runEveryone_1 w0532 rfl (by decide) rfl rfl ?_
  refine v_aload_n (q := 5) 1 dX11_runEveryone_4 rfl rfl rfl ?_
  replace H := bs H; obtain ⟨_, o2, H⟩ := H
  replace H := bs H; obtain ⟨x3, x3e, H⟩ := H
  refine u_callV0 (M' := mX3_begin) (d' := 4) (rc := (RX3, TX3, 8)) (As := [.ref v1]) (st := []) (q := 8) oX3_begin dX11_runEveryone_5 w0705 w0706 w0707 rfl rfl (gO_sp o2).1 (gO_sp o2).2 rfl (Nat.le_of_ble_eq_true rfl) (Nat.le_of_ble_eq_true rfl) (Nat.lt_of_lt_of_le (by decide) hd) rfl (sX3_begin (Nat.le_refl _) x3e) rfl ?_
  refine v_iconst (v := 0) (q := 9) dX11_runEveryone_8 (by decide) rfl ?_
  refine v_istore_n (L' := [(2, .int (0 : Int32)), (0, .ref v0), (1, .ref v1)]) (q := 10) dX11_runEveryone_9 rfl (by decide) rfl rfl ?_
  replace H := bs H; obtain ⟨e13, e13L, H⟩ := H
  refine V.sub [1, 0] rfl ?_
  refine lp_V (P := (fun s10 => V Γ d mX11_runEveryone 10 [(0, .ref v0), (2, .int s10.1)] [] s10.2 (some (.ref r.1), r.2))) (E := (fun e => V Γ d mX11_runEveryone 44 [(0, .ref v0)] [] e (some (.ref r.1), r.2))) (fun s r hb kI kE => sbX11_runEveryone_10 hd (s10 := s) (r := r) hb kI kE) FU ((0 : Int32), x3) e13 e13L ?_
  refine v_aload_n (q := 45) 0 dX11_runEveryone_44 rfl rfl rfl ?_
  replace H := bs H; obtain ⟨x14, x14e, H⟩ := H
  refine u_gR (q := 48) (r := (RX11, TX11, 14)) x14e dX11_runEveryone_45 w0532 rfl (by decide) rfl rfl ?_
  replace H := bs H; obtain ⟨x15, x15e, H⟩ := H
  refine u_gR (q := 51) (r := (RX3, TX3, 8)) x15e dX11_runEveryone_48 w0353 rfl (by decide) rfl rfl ?_
  cases H
  exact v_areturn rfl (by first | exact Or.inl ⟨_, rfl⟩ | exact Or.inr ⟨_, rfl⟩) dX11_runEveryone_51
def mX7_countOf : MI := (yX7_countOf, cX7_countOf, 4, some .int)
theorem oX7_countOf : mOK mX7_countOf 1 := ⟨by decide +kernel, by decide +kernel, by decide +kernel, by decide, w1054, w0145⟩
def jX7_countOf_25 (u0 : Nat) (u1 : Int32) (v2 : Int32) (v3 : Int32) (h : Hp) : Option ((Int32 × Int32) ⊕ (Int32)) :=
(some (v3 + (1 : Int32))).bind fun x6 =>
some (.inl (v2, x6))
set_option maxRecDepth 20000 in
set_option maxHeartbeats 4000000 in
theorem sjX7_countOf_25 {Γ : Gm} {d : Nat} (hd : 1 ≤ d) {u0 : Nat} {u1 : Int32} {v2 : Int32} {v3 : Int32} {h : Hp} {r : (Int32 × Int32) ⊕ (Int32)} {t : Option Value × Hp} (H : jX7_countOf_25 u0 u1 v2 v3 h = some r) (kI : ∀ s, r = .inl s → (fun s4 => V Γ d mX7_countOf 4 [(0, .ref u0), (1, .int u1), (2, .int s4.1), (3, .int s4.2)] [] h t) s) (kE : ∀ e, r = .inr e → (fun e => V Γ d mX7_countOf 31 [(2, .int e)] [] h t) e) : V Γ d mX7_countOf 25 [(0, .ref u0), (1, .int u1), (2, .int v2), (3, .int v3)] [] h t := by
  unfold jX7_countOf_25 at H
  replace H := bs H; obtain ⟨x6, x6e, H⟩ := H
  refine v_iinc (v := x6) (L' := [(3, .int x6), (0, .ref u0), (1, .int u1), (2, .int v2)]) (q := 28) 3 dX7_countOf_25 rfl (Option.some.inj x6e) (by decide) rfl rfl ?_
  refine v_goto (q := 4) dX7_countOf_28 (by decide) ?_
  exact V.sub [1, 2, 3, 0] rfl (kI (v2, x6) (Option.some.inj H).symm)
def bX7_countOf_4 (u0 : Nat) (u1 : Int32) (h : Hp) (s4 : Int32 × Int32) : Option ((Int32 × Int32) ⊕ (Int32)) :=
(gI h 7 u0 0).bind fun x1 =>
if x1 ≤ s4.2 then (
some (.inr s4.1)) else (
(gR h 7 u0 1).bind fun x3 =>
(lI h .int x3 s4.2).bind fun x4 =>
if x4 = u1 then (
(some (s4.1 + (1 : Int32))).bind fun x7 =>
jX7_countOf_25 u0 u1 x7 s4.2 h) else (
jX7_countOf_25 u0 u1 s4.1 s4.2 h))
set_option maxRecDepth 20000 in
set_option maxHeartbeats 4000000 in
theorem sbX7_countOf_4 {Γ : Gm} {d : Nat} (hd : 1 ≤ d) {u0 : Nat} {u1 : Int32} {h : Hp} {s4 : Int32 × Int32} {r : (Int32 × Int32) ⊕ (Int32)} {t : Option Value × Hp} (H : bX7_countOf_4 u0 u1 h s4 = some r) (kI : ∀ s, r = .inl s → (fun s4 => V Γ d mX7_countOf 4 [(0, .ref u0), (1, .int u1), (2, .int s4.1), (3, .int s4.2)] [] h t) s) (kE : ∀ e, r = .inr e → (fun e => V Γ d mX7_countOf 31 [(2, .int e)] [] h t) e) : V Γ d mX7_countOf 4 [(0, .ref u0), (1, .int u1), (2, .int s4.1), (3, .int s4.2)] [] h t := by
  unfold bX7_countOf_4 at H
  refine v_iload_n (q := 5) 3 dX7_countOf_4 rfl rfl rfl ?_
  refine v_aload_n (q := 6) 0 dX7_countOf_5 rfl rfl rfl ?_
  replace H := bs H; obtain ⟨x1, x1e, H⟩ := H
  refine u_gI (q := 9) (r := (RX7, TX7, 7)) x1e dX7_countOf_6 w0311 rfl (by decide) rfl rfl ?_
  refine v_icmp_ge (q1 := 31) (q2 := 12) dX7_countOf_9 (by decide) rfl (fun c2 => ?_) (fun c2 => ?_)
  · replace H := ip c2 H
    exact V.sub [2] rfl (kE s4.1 (Option.some.inj H).symm)
  · replace H := ine c2 H
    refine v_aload_n (q := 13) 0 dX7_countOf_12 rfl rfl rfl ?_
    replace H := bs H; obtain ⟨x3, x3e, H⟩ := H
    refine u_gR (q := 16) (r := (RX7, TX7, 7)) x3e dX7_countOf_13 w0314 rfl (by decide) rfl rfl ?_
    refine v_iload_n (q := 17) 3 dX7_countOf_16 rfl rfl rfl ?_
    replace H := bs H; obtain ⟨x4, x4e, H⟩ := H
    refine u_lI (q := 18) x4e dX7_countOf_17 rfl ?_
    refine v_iload_n (q := 19) 1 dX7_countOf_18 rfl rfl rfl ?_
    refine v_icmp_ne (q1 := 25) (q2 := 22) dX7_countOf_19 (by decide) rfl (fun c5 => ?_) (fun c5 => ?_)
    · replace H := ine c5 H
      exact V.sub [0, 1, 2, 3] rfl (sjX7_countOf_25 hd H kI kE)
    · replace H := ip c5 H
      replace H := bs H; obtain ⟨x7, x7e, H⟩ := H
      refine v_iinc (v := x7) (L' := [(2, .int x7), (0, .ref u0), (1, .int u1), (3, .int s4.2)]) (q := 25) 2 dX7_countOf_22 rfl (Option.some.inj x7e) (by decide) rfl rfl ?_
      exact V.sub [1, 2, 0, 3] rfl (sjX7_countOf_25 hd H kI kE)
def fX7_countOf (h : Hp) (v0 : Nat) (v1 : Int32) : Option (Int32) :=
(lp (bX7_countOf_4 v0 v1 h) FU ((0 : Int32), (0 : Int32))).bind fun e8 =>
some e8
set_option maxRecDepth 20000 in
set_option maxHeartbeats 4000000 in
theorem sX7_countOf {Γ : Gm} {d : Nat} (hd : 1 ≤ d) {h : Hp} {v0 : Nat} {v1 : Int32} {r : Int32} (H : fX7_countOf h v0 v1 = some r) : V Γ d mX7_countOf 0 [(0, .ref v0), (1, .int v1)] [] h (some (.int r), h) := by
  unfold fX7_countOf at H
  refine v_iconst (v := 0) (q := 1) dX7_countOf_0 (by decide) rfl ?_
  refine v_istore_n (L' := [(2, .int (0 : Int32)), (0, .ref v0), (1, .int v1)]) (q := 2) dX7_countOf_1 rfl (by decide) rfl rfl ?_
  refine v_iconst (v := 0) (q := 3) dX7_countOf_2 (by decide) rfl ?_
  refine v_istore_n (L' := [(3, .int (0 : Int32)), (2, .int (0 : Int32)), (0, .ref v0), (1, .int v1)]) (q := 4) dX7_countOf_3 rfl (by decide) rfl rfl ?_
  replace H := bs H; obtain ⟨e8, e8L, H⟩ := H
  refine V.sub [2, 3, 1, 0] rfl ?_
  refine lp_V (P := (fun s4 => V Γ d mX7_countOf 4 [(0, .ref v0), (1, .int v1), (2, .int s4.1), (3, .int s4.2)] [] h (some (.int r), h))) (E := (fun e => V Γ d mX7_countOf 31 [(2, .int e)] [] h (some (.int r), h))) (fun s r hb kI kE => sbX7_countOf_4 hd (s4 := s) (r := r) hb kI kE) FU ((0 : Int32), (0 : Int32)) e8 e8L ?_
  refine v_iload_n (q := 32) 0 dX7_countOf_31 rfl rfl rfl ?_
  cases H
  exact v_ireturn rfl dX7_countOf_32
def mX11_all : MI := (yX11_all, cX11_all, 2, some .int)
theorem oX11_all : mOK mX11_all 1 := ⟨by decide +kernel, by decide +kernel, by decide +kernel, by decide, w1046, w0139⟩
def jX11_all_11 (h : Hp) : Option (Int32 × Hp) :=
some (((-1 : Int32), h))
set_option maxRecDepth 20000 in
set_option maxHeartbeats 4000000 in
theorem sjX11_all_11 {Γ : Gm} {d : Nat} (hd : 8 ≤ d) {h : Hp} {r : Int32 × Hp} (H : jX11_all_11 h = some r) : V Γ d mX11_all 11 [] [] h (some (.int r.1), r.2) := by
  unfold jX11_all_11 at H
  refine v_iconst (v := -1) (q := 12) dX11_all_11 (by decide) rfl ?_
  cases H
  exact v_ireturn rfl dX11_all_12
def fX11_all (h : Hp) (v0 : Nat) (v1 : Int32) : Option (Int32 × Hp) :=
if v1 < (1 : Int32) then (
jX11_all_11 h) else (
if v1 ≤ (9 : Int32) then (
(gR h 11 v0 5).bind fun x3 =>
(gO h 2 x3).bind fun _ =>
(fX2_present h x3).bind fun x5 =>
(gR h 3 x5 0).bind fun x6 =>
(gO h 11 v0).bind fun _ =>
(fX11_runEveryone h v0 x6).bind fun x8 =>
(gO x8.2 7 x8.1).bind fun _ =>
(fX7_countOf x8.2 x8.1 v1).bind fun x10 =>
some (x10, x8.2)) else (
jX11_all_11 h))
set_option maxRecDepth 20000 in
set_option maxHeartbeats 4000000 in
theorem sX11_all {Γ : Gm} {d : Nat} (hd : 8 ≤ d) {h : Hp} {v0 : Nat} {v1 : Int32} {r : Int32 × Hp} (H : fX11_all h v0 v1 = some r) : V Γ d mX11_all 0 [(0, .ref v0), (1, .int v1)] [] h (some (.int r.1), r.2) := by
  unfold fX11_all at H
  refine v_iload_n (q := 1) 1 dX11_all_0 rfl rfl rfl ?_
  refine v_iconst (v := 1) (q := 2) dX11_all_1 (by decide) rfl ?_
  refine v_icmp_lt (q1 := 11) (q2 := 5) dX11_all_2 (by decide) rfl (fun c1 => ?_) (fun c1 => ?_)
  · replace H := ip c1 H
    exact V.sub [] rfl (sjX11_all_11 hd H)
  · replace H := ine c1 H
    refine v_iload_n (q := 6) 1 dX11_all_5 rfl rfl rfl ?_
    refine v_bipush (v := 9) (q := 8) dX11_all_6 (by decide) rfl ?_
    refine v_icmp_le (q1 := 13) (q2 := 11) dX11_all_8 (by decide) rfl (fun c2 => ?_) (fun c2 => ?_)
    · replace H := ip c2 H
      refine v_aload_n (q := 14) 0 dX11_all_13 rfl rfl rfl ?_
      refine v_aload_n (q := 15) 0 dX11_all_14 rfl rfl rfl ?_
      replace H := bs H; obtain ⟨x3, x3e, H⟩ := H
      refine u_gR (q := 18) (r := (RX11, TX11, 14)) x3e dX11_all_15 w0526 rfl (by decide) rfl rfl ?_
      replace H := bs H; obtain ⟨_, o4, H⟩ := H
      replace H := bs H; obtain ⟨x5, x5e, H⟩ := H
      refine u_callV1 (M' := mX2_present) (d' := 1) (rc := (RX2, TX2, 3)) (As := []) (st := [.ref v0]) (q := 21) oX2_present dX11_all_18 w0701 w0702 w0703 rfl rfl (gO_sp o4).1 (gO_sp o4).2 rfl (Nat.le_of_ble_eq_true rfl) (Nat.le_of_ble_eq_true rfl) (Nat.lt_of_lt_of_le (by decide) hd) rfl (sX2_present (Nat.le_refl _) x5e) rfl ?_
      replace H := bs H; obtain ⟨x6, x6e, H⟩ := H
      refine u_gR (q := 24) (r := (RX3, TX3, 8)) x6e dX11_all_21 w0341 rfl (by decide) rfl rfl ?_
      replace H := bs H; obtain ⟨_, o7, H⟩ := H
      replace H := bs H; obtain ⟨x8, x8e, H⟩ := H
      refine u_callV1 (M' := mX11_runEveryone) (d' := 7) (rc := (RX11, TX11, 14)) (As := [.ref x6]) (st := []) (q := 27) oX11_runEveryone dX11_all_24 w1047 w1049 w0033 rfl rfl (gO_sp o7).1 (gO_sp o7).2 rfl (Nat.le_of_ble_eq_true rfl) (Nat.le_of_ble_eq_true rfl) (Nat.lt_of_lt_of_le (by decide) hd) rfl (sX11_runEveryone (Nat.le_refl _) x8e) rfl ?_
      refine v_iload_n (q := 28) 1 dX11_all_27 rfl rfl rfl ?_
      replace H := bs H; obtain ⟨_, o9, H⟩ := H
      replace H := bs H; obtain ⟨x10, x10e, H⟩ := H
      refine u_callV1 (M' := mX7_countOf) (d' := 1) (rc := (RX7, TX7, 7)) (As := [.int v1]) (st := []) (q := 31) oX7_countOf dX11_all_28 w1051 w1052 w1053 rfl rfl (gO_sp o9).1 (gO_sp o9).2 rfl (Nat.le_of_ble_eq_true rfl) (Nat.le_of_ble_eq_true rfl) (Nat.lt_of_lt_of_le (by decide) hd) rfl (sX7_countOf (Nat.le_refl _) x10e) rfl ?_
      cases H
      exact v_ireturn rfl dX11_all_31
    · replace H := ine c2 H
      exact V.sub [] rfl (sjX11_all_11 hd H)
def mX2_restart : MI := (yX2_restart, cX2_restart, 1, none)
theorem oX2_restart : mOK mX2_restart 0 := ⟨by decide +kernel, by decide +kernel, by decide +kernel, by decide, w0700, w0142⟩
def fX2_restart (h : Hp) (v0 : Nat) : Option (Hp) :=
(pI h 2 v0 0 (0 : Int32)).bind fun h1 =>
(pI h1 2 v0 1 (0 : Int32)).bind fun h2 =>
some h2
set_option maxRecDepth 20000 in
set_option maxHeartbeats 4000000 in
theorem sX2_restart {Γ : Gm} {d : Nat} (hd : 1 ≤ d) {h : Hp} {v0 : Nat} {r : Hp} (H : fX2_restart h v0 = some r) : V Γ d mX2_restart 0 [(0, .ref v0)] [] h (none, r) := by
  unfold fX2_restart at H
  refine v_aload_n (q := 1) 0 dX2_restart_0 rfl rfl rfl ?_
  refine v_iconst (v := 0) (q := 2) dX2_restart_1 (by decide) rfl ?_
  replace H := bs H; obtain ⟨h1, h1e, H⟩ := H
  refine u_pI (q := 5) (r := (RX2, TX2, 3)) h1e dX2_restart_2 w0377 rfl (by decide) (Or.inl rfl) rfl rfl ?_
  refine v_aload_n (q := 6) 0 dX2_restart_5 rfl rfl rfl ?_
  refine v_iconst (v := 0) (q := 7) dX2_restart_6 (by decide) rfl ?_
  replace H := bs H; obtain ⟨h2, h2e, H⟩ := H
  refine u_pI (q := 10) (r := (RX2, TX2, 3)) h2e dX2_restart_7 w0379 rfl (by decide) (Or.inl rfl) rfl rfl ?_
  cases H
  exact v_return rfl dX2_restart_10
def mX1_copyFrom : MI := (yX1_copyFrom, cX1_copyFrom, 2, none)
theorem oX1_copyFrom : mOK mX1_copyFrom 1 := ⟨by decide +kernel, by decide +kernel, by decide +kernel, by decide, w0758, w0144⟩
def fX1_copyFrom (h : Hp) (v0 : Nat) (v1 : Nat) : Option (Hp) :=
(gI h 1 v1 0).bind fun x1 =>
(pI h 1 v0 0 x1).bind fun h2 =>
(gR h2 1 v1 1).bind fun x3 =>
(gR h2 1 v0 1).bind fun x4 =>
(gR h2 1 v0 1).bind fun x5 =>
(aL h2 .int x5).bind fun x6 =>
(kI h2 .int x3 (0 : Int32) x4 (0 : Int32) x6).bind fun h7 =>
(gR h7 1 v1 2).bind fun x8 =>
(gR h7 1 v0 2).bind fun x9 =>
(gR h7 1 v0 2).bind fun x10 =>
(aL h7 .int x10).bind fun x11 =>
(kI h7 .int x8 (0 : Int32) x9 (0 : Int32) x11).bind fun h12 =>
(gR h12 1 v1 3).bind fun x13 =>
(gR h12 1 v0 3).bind fun x14 =>
(gR h12 1 v0 3).bind fun x15 =>
(aL h12 .int x15).bind fun x16 =>
(kI h12 .int x13 (0 : Int32) x14 (0 : Int32) x16).bind fun h17 =>
some h17
set_option maxRecDepth 20000 in
set_option maxHeartbeats 4000000 in
theorem sX1_copyFrom {Γ : Gm} {d : Nat} (hd : 1 ≤ d) {h : Hp} {v0 : Nat} {v1 : Nat} {r : Hp} (H : fX1_copyFrom h v0 v1 = some r) : V Γ d mX1_copyFrom 0 [(0, .ref v0), (1, .ref v1)] [] h (none, r) := by
  unfold fX1_copyFrom at H
  refine v_aload_n (q := 1) 0 dX1_copyFrom_0 rfl rfl rfl ?_
  refine v_aload_n (q := 2) 1 dX1_copyFrom_1 rfl rfl rfl ?_
  replace H := bs H; obtain ⟨x1, x1e, H⟩ := H
  refine u_gI (q := 5) (r := (RX1, TX1, 4)) x1e dX1_copyFrom_2 w0286 rfl (by decide) rfl rfl ?_
  replace H := bs H; obtain ⟨h2, h2e, H⟩ := H
  refine u_pI (q := 8) (r := (RX1, TX1, 4)) h2e dX1_copyFrom_5 w0286 rfl (by decide) (Or.inl rfl) rfl rfl ?_
  refine v_aload_n (q := 9) 1 dX1_copyFrom_8 rfl rfl rfl ?_
  replace H := bs H; obtain ⟨x3, x3e, H⟩ := H
  refine u_gR (q := 12) (r := (RX1, TX1, 4)) x3e dX1_copyFrom_9 w0288 rfl (by decide) rfl rfl ?_
  refine v_iconst (v := 0) (q := 13) dX1_copyFrom_12 (by decide) rfl ?_
  refine v_aload_n (q := 14) 0 dX1_copyFrom_13 rfl rfl rfl ?_
  replace H := bs H; obtain ⟨x4, x4e, H⟩ := H
  refine u_gR (q := 17) (r := (RX1, TX1, 4)) x4e dX1_copyFrom_14 w0288 rfl (by decide) rfl rfl ?_
  refine v_iconst (v := 0) (q := 18) dX1_copyFrom_17 (by decide) rfl ?_
  refine v_aload_n (q := 19) 0 dX1_copyFrom_18 rfl rfl rfl ?_
  replace H := bs H; obtain ⟨x5, x5e, H⟩ := H
  refine u_gR (q := 22) (r := (RX1, TX1, 4)) x5e dX1_copyFrom_19 w0288 rfl (by decide) rfl rfl ?_
  replace H := bs H; obtain ⟨x6, x6e, H⟩ := H
  refine u_aL (q := 23) (ty := .int) (by decide) x6e dX1_copyFrom_22 rfl ?_
  replace H := bs H; obtain ⟨h7, h7e, H⟩ := H
  refine u_kI (q := 26) (ty := .int) rfl rfl (by decide) h7e dX1_copyFrom_23 w0759 w0711 w0710 w0157 (Nat.le_of_ble_eq_true rfl) (Nat.lt_of_lt_of_le (by decide) hd) rfl ?_
  refine v_aload_n (q := 27) 1 dX1_copyFrom_26 rfl rfl rfl ?_
  replace H := bs H; obtain ⟨x8, x8e, H⟩ := H
  refine u_gR (q := 30) (r := (RX1, TX1, 4)) x8e dX1_copyFrom_27 w0291 rfl (by decide) rfl rfl ?_
  refine v_iconst (v := 0) (q := 31) dX1_copyFrom_30 (by decide) rfl ?_
  refine v_aload_n (q := 32) 0 dX1_copyFrom_31 rfl rfl rfl ?_
  replace H := bs H; obtain ⟨x9, x9e, H⟩ := H
  refine u_gR (q := 35) (r := (RX1, TX1, 4)) x9e dX1_copyFrom_32 w0291 rfl (by decide) rfl rfl ?_
  refine v_iconst (v := 0) (q := 36) dX1_copyFrom_35 (by decide) rfl ?_
  refine v_aload_n (q := 37) 0 dX1_copyFrom_36 rfl rfl rfl ?_
  replace H := bs H; obtain ⟨x10, x10e, H⟩ := H
  refine u_gR (q := 40) (r := (RX1, TX1, 4)) x10e dX1_copyFrom_37 w0291 rfl (by decide) rfl rfl ?_
  replace H := bs H; obtain ⟨x11, x11e, H⟩ := H
  refine u_aL (q := 41) (ty := .int) (by decide) x11e dX1_copyFrom_40 rfl ?_
  replace H := bs H; obtain ⟨h12, h12e, H⟩ := H
  refine u_kI (q := 44) (ty := .int) rfl rfl (by decide) h12e dX1_copyFrom_41 w0759 w0711 w0710 w0157 (Nat.le_of_ble_eq_true rfl) (Nat.lt_of_lt_of_le (by decide) hd) rfl ?_
  refine v_aload_n (q := 45) 1 dX1_copyFrom_44 rfl rfl rfl ?_
  replace H := bs H; obtain ⟨x13, x13e, H⟩ := H
  refine u_gR (q := 48) (r := (RX1, TX1, 4)) x13e dX1_copyFrom_45 w0294 rfl (by decide) rfl rfl ?_
  refine v_iconst (v := 0) (q := 49) dX1_copyFrom_48 (by decide) rfl ?_
  refine v_aload_n (q := 50) 0 dX1_copyFrom_49 rfl rfl rfl ?_
  replace H := bs H; obtain ⟨x14, x14e, H⟩ := H
  refine u_gR (q := 53) (r := (RX1, TX1, 4)) x14e dX1_copyFrom_50 w0294 rfl (by decide) rfl rfl ?_
  refine v_iconst (v := 0) (q := 54) dX1_copyFrom_53 (by decide) rfl ?_
  refine v_aload_n (q := 55) 0 dX1_copyFrom_54 rfl rfl rfl ?_
  replace H := bs H; obtain ⟨x15, x15e, H⟩ := H
  refine u_gR (q := 58) (r := (RX1, TX1, 4)) x15e dX1_copyFrom_55 w0294 rfl (by decide) rfl rfl ?_
  replace H := bs H; obtain ⟨x16, x16e, H⟩ := H
  refine u_aL (q := 59) (ty := .int) (by decide) x16e dX1_copyFrom_58 rfl ?_
  replace H := bs H; obtain ⟨h17, h17e, H⟩ := H
  refine u_kI (q := 62) (ty := .int) rfl rfl (by decide) h17e dX1_copyFrom_59 w0759 w0711 w0710 w0157 (Nat.le_of_ble_eq_true rfl) (Nat.lt_of_lt_of_le (by decide) hd) rfl ?_
  cases H
  exact v_return rfl dX1_copyFrom_62
def mX7_copyFrom : MI := (yX7_copyFrom, cX7_copyFrom, 2, none)
theorem oX7_copyFrom : mOK mX7_copyFrom 1 := ⟨by decide +kernel, by decide +kernel, by decide +kernel, by decide, w0763, w0145⟩
def fX7_copyFrom (h : Hp) (v0 : Nat) (v1 : Nat) : Option (Hp) :=
(gI h 7 v1 0).bind fun x1 =>
(pI h 7 v0 0 x1).bind fun h2 =>
(gR h2 7 v1 1).bind fun x3 =>
(gR h2 7 v0 1).bind fun x4 =>
(gI h2 7 v0 0).bind fun x5 =>
(kI h2 .int x3 (0 : Int32) x4 (0 : Int32) x5).bind fun h6 =>
(gR h6 7 v1 2).bind fun x7 =>
(gR h6 7 v0 2).bind fun x8 =>
(gI h6 7 v0 0).bind fun x9 =>
(kI h6 .int x7 (0 : Int32) x8 (0 : Int32) x9).bind fun h10 =>
(gR h10 7 v1 3).bind fun x11 =>
(gR h10 7 v0 3).bind fun x12 =>
(gI h10 7 v0 0).bind fun x13 =>
(kI h10 .int x11 (0 : Int32) x12 (0 : Int32) x13).bind fun h14 =>
(gR h14 7 v1 4).bind fun x15 =>
(gR h14 7 v0 4).bind fun x16 =>
(gI h14 7 v0 0).bind fun x17 =>
(kI h14 .int x15 (0 : Int32) x16 (0 : Int32) x17).bind fun h18 =>
(gR h18 7 v1 5).bind fun x19 =>
(gR h18 7 v0 5).bind fun x20 =>
(gI h18 7 v0 0).bind fun x21 =>
(kI h18 .byte x19 (0 : Int32) x20 (0 : Int32) (x21 * (17 : Int32))).bind fun h22 =>
(gR h22 7 v1 6).bind fun x23 =>
(gR h22 7 v0 6).bind fun x24 =>
(gR h22 7 v0 6).bind fun x25 =>
(aL h22 .int x25).bind fun x26 =>
(kI h22 .int x23 (0 : Int32) x24 (0 : Int32) x26).bind fun h27 =>
some h27
set_option maxRecDepth 20000 in
set_option maxHeartbeats 4000000 in
theorem sX7_copyFrom {Γ : Gm} {d : Nat} (hd : 1 ≤ d) {h : Hp} {v0 : Nat} {v1 : Nat} {r : Hp} (H : fX7_copyFrom h v0 v1 = some r) : V Γ d mX7_copyFrom 0 [(0, .ref v0), (1, .ref v1)] [] h (none, r) := by
  unfold fX7_copyFrom at H
  refine v_aload_n (q := 1) 0 dX7_copyFrom_0 rfl rfl rfl ?_
  refine v_aload_n (q := 2) 1 dX7_copyFrom_1 rfl rfl rfl ?_
  replace H := bs H; obtain ⟨x1, x1e, H⟩ := H
  refine u_gI (q := 5) (r := (RX7, TX7, 7)) x1e dX7_copyFrom_2 w0311 rfl (by decide) rfl rfl ?_
  replace H := bs H; obtain ⟨h2, h2e, H⟩ := H
  refine u_pI (q := 8) (r := (RX7, TX7, 7)) h2e dX7_copyFrom_5 w0311 rfl (by decide) (Or.inl rfl) rfl rfl ?_
  refine v_aload_n (q := 9) 1 dX7_copyFrom_8 rfl rfl rfl ?_
  replace H := bs H; obtain ⟨x3, x3e, H⟩ := H
  refine u_gR (q := 12) (r := (RX7, TX7, 7)) x3e dX7_copyFrom_9 w0314 rfl (by decide) rfl rfl ?_
  refine v_iconst (v := 0) (q := 13) dX7_copyFrom_12 (by decide) rfl ?_
  refine v_aload_n (q := 14) 0 dX7_copyFrom_13 rfl rfl rfl ?_
  replace H := bs H; obtain ⟨x4, x4e, H⟩ := H
  refine u_gR (q := 17) (r := (RX7, TX7, 7)) x4e dX7_copyFrom_14 w0314 rfl (by decide) rfl rfl ?_
  refine v_iconst (v := 0) (q := 18) dX7_copyFrom_17 (by decide) rfl ?_
  refine v_aload_n (q := 19) 0 dX7_copyFrom_18 rfl rfl rfl ?_
  replace H := bs H; obtain ⟨x5, x5e, H⟩ := H
  refine u_gI (q := 22) (r := (RX7, TX7, 7)) x5e dX7_copyFrom_19 w0311 rfl (by decide) rfl rfl ?_
  replace H := bs H; obtain ⟨h6, h6e, H⟩ := H
  refine u_kI (q := 25) (ty := .int) rfl rfl (by decide) h6e dX7_copyFrom_22 w0764 w0711 w0710 w0157 (Nat.le_of_ble_eq_true rfl) (Nat.lt_of_lt_of_le (by decide) hd) rfl ?_
  refine v_aload_n (q := 26) 1 dX7_copyFrom_25 rfl rfl rfl ?_
  replace H := bs H; obtain ⟨x7, x7e, H⟩ := H
  refine u_gR (q := 29) (r := (RX7, TX7, 7)) x7e dX7_copyFrom_26 w0316 rfl (by decide) rfl rfl ?_
  refine v_iconst (v := 0) (q := 30) dX7_copyFrom_29 (by decide) rfl ?_
  refine v_aload_n (q := 31) 0 dX7_copyFrom_30 rfl rfl rfl ?_
  replace H := bs H; obtain ⟨x8, x8e, H⟩ := H
  refine u_gR (q := 34) (r := (RX7, TX7, 7)) x8e dX7_copyFrom_31 w0316 rfl (by decide) rfl rfl ?_
  refine v_iconst (v := 0) (q := 35) dX7_copyFrom_34 (by decide) rfl ?_
  refine v_aload_n (q := 36) 0 dX7_copyFrom_35 rfl rfl rfl ?_
  replace H := bs H; obtain ⟨x9, x9e, H⟩ := H
  refine u_gI (q := 39) (r := (RX7, TX7, 7)) x9e dX7_copyFrom_36 w0311 rfl (by decide) rfl rfl ?_
  replace H := bs H; obtain ⟨h10, h10e, H⟩ := H
  refine u_kI (q := 42) (ty := .int) rfl rfl (by decide) h10e dX7_copyFrom_39 w0764 w0711 w0710 w0157 (Nat.le_of_ble_eq_true rfl) (Nat.lt_of_lt_of_le (by decide) hd) rfl ?_
  refine v_aload_n (q := 43) 1 dX7_copyFrom_42 rfl rfl rfl ?_
  replace H := bs H; obtain ⟨x11, x11e, H⟩ := H
  refine u_gR (q := 46) (r := (RX7, TX7, 7)) x11e dX7_copyFrom_43 w0318 rfl (by decide) rfl rfl ?_
  refine v_iconst (v := 0) (q := 47) dX7_copyFrom_46 (by decide) rfl ?_
  refine v_aload_n (q := 48) 0 dX7_copyFrom_47 rfl rfl rfl ?_
  replace H := bs H; obtain ⟨x12, x12e, H⟩ := H
  refine u_gR (q := 51) (r := (RX7, TX7, 7)) x12e dX7_copyFrom_48 w0318 rfl (by decide) rfl rfl ?_
  refine v_iconst (v := 0) (q := 52) dX7_copyFrom_51 (by decide) rfl ?_
  refine v_aload_n (q := 53) 0 dX7_copyFrom_52 rfl rfl rfl ?_
  replace H := bs H; obtain ⟨x13, x13e, H⟩ := H
  refine u_gI (q := 56) (r := (RX7, TX7, 7)) x13e dX7_copyFrom_53 w0311 rfl (by decide) rfl rfl ?_
  replace H := bs H; obtain ⟨h14, h14e, H⟩ := H
  refine u_kI (q := 59) (ty := .int) rfl rfl (by decide) h14e dX7_copyFrom_56 w0764 w0711 w0710 w0157 (Nat.le_of_ble_eq_true rfl) (Nat.lt_of_lt_of_le (by decide) hd) rfl ?_
  refine v_aload_n (q := 60) 1 dX7_copyFrom_59 rfl rfl rfl ?_
  replace H := bs H; obtain ⟨x15, x15e, H⟩ := H
  refine u_gR (q := 63) (r := (RX7, TX7, 7)) x15e dX7_copyFrom_60 w0320 rfl (by decide) rfl rfl ?_
  refine v_iconst (v := 0) (q := 64) dX7_copyFrom_63 (by decide) rfl ?_
  refine v_aload_n (q := 65) 0 dX7_copyFrom_64 rfl rfl rfl ?_
  replace H := bs H; obtain ⟨x16, x16e, H⟩ := H
  refine u_gR (q := 68) (r := (RX7, TX7, 7)) x16e dX7_copyFrom_65 w0320 rfl (by decide) rfl rfl ?_
  refine v_iconst (v := 0) (q := 69) dX7_copyFrom_68 (by decide) rfl ?_
  refine v_aload_n (q := 70) 0 dX7_copyFrom_69 rfl rfl rfl ?_
  replace H := bs H; obtain ⟨x17, x17e, H⟩ := H
  refine u_gI (q := 73) (r := (RX7, TX7, 7)) x17e dX7_copyFrom_70 w0311 rfl (by decide) rfl rfl ?_
  replace H := bs H; obtain ⟨h18, h18e, H⟩ := H
  refine u_kI (q := 76) (ty := .int) rfl rfl (by decide) h18e dX7_copyFrom_73 w0764 w0711 w0710 w0157 (Nat.le_of_ble_eq_true rfl) (Nat.lt_of_lt_of_le (by decide) hd) rfl ?_
  refine v_aload_n (q := 77) 1 dX7_copyFrom_76 rfl rfl rfl ?_
  replace H := bs H; obtain ⟨x19, x19e, H⟩ := H
  refine u_gR (q := 80) (r := (RX7, TX7, 7)) x19e dX7_copyFrom_77 w0322 rfl (by decide) rfl rfl ?_
  refine v_iconst (v := 0) (q := 81) dX7_copyFrom_80 (by decide) rfl ?_
  refine v_aload_n (q := 82) 0 dX7_copyFrom_81 rfl rfl rfl ?_
  replace H := bs H; obtain ⟨x20, x20e, H⟩ := H
  refine u_gR (q := 85) (r := (RX7, TX7, 7)) x20e dX7_copyFrom_82 w0322 rfl (by decide) rfl rfl ?_
  refine v_iconst (v := 0) (q := 86) dX7_copyFrom_85 (by decide) rfl ?_
  refine v_aload_n (q := 87) 0 dX7_copyFrom_86 rfl rfl rfl ?_
  replace H := bs H; obtain ⟨x21, x21e, H⟩ := H
  refine u_gI (q := 90) (r := (RX7, TX7, 7)) x21e dX7_copyFrom_87 w0311 rfl (by decide) rfl rfl ?_
  refine v_bipush (v := 17) (q := 92) dX7_copyFrom_90 (by decide) rfl ?_
  refine v_imul (q := 93) dX7_copyFrom_92 rfl ?_
  replace H := bs H; obtain ⟨h22, h22e, H⟩ := H
  refine u_kI (q := 96) (ty := .byte) rfl rfl (by decide) h22e dX7_copyFrom_93 w0764 w0711 w0710 w0157 (Nat.le_of_ble_eq_true rfl) (Nat.lt_of_lt_of_le (by decide) hd) rfl ?_
  refine v_aload_n (q := 97) 1 dX7_copyFrom_96 rfl rfl rfl ?_
  replace H := bs H; obtain ⟨x23, x23e, H⟩ := H
  refine u_gR (q := 100) (r := (RX7, TX7, 7)) x23e dX7_copyFrom_97 w0323 rfl (by decide) rfl rfl ?_
  refine v_iconst (v := 0) (q := 101) dX7_copyFrom_100 (by decide) rfl ?_
  refine v_aload_n (q := 102) 0 dX7_copyFrom_101 rfl rfl rfl ?_
  replace H := bs H; obtain ⟨x24, x24e, H⟩ := H
  refine u_gR (q := 105) (r := (RX7, TX7, 7)) x24e dX7_copyFrom_102 w0323 rfl (by decide) rfl rfl ?_
  refine v_iconst (v := 0) (q := 106) dX7_copyFrom_105 (by decide) rfl ?_
  refine v_aload_n (q := 107) 0 dX7_copyFrom_106 rfl rfl rfl ?_
  replace H := bs H; obtain ⟨x25, x25e, H⟩ := H
  refine u_gR (q := 110) (r := (RX7, TX7, 7)) x25e dX7_copyFrom_107 w0323 rfl (by decide) rfl rfl ?_
  replace H := bs H; obtain ⟨x26, x26e, H⟩ := H
  refine u_aL (q := 111) (ty := .int) (by decide) x26e dX7_copyFrom_110 rfl ?_
  replace H := bs H; obtain ⟨h27, h27e, H⟩ := H
  refine u_kI (q := 114) (ty := .int) rfl rfl (by decide) h27e dX7_copyFrom_111 w0764 w0711 w0710 w0157 (Nat.le_of_ble_eq_true rfl) (Nat.lt_of_lt_of_le (by decide) hd) rfl ?_
  cases H
  exact v_return rfl dX7_copyFrom_114
def mX3_copyFrom : MI := (yX3_copyFrom, cX3_copyFrom, 2, none)
theorem oX3_copyFrom : mOK mX3_copyFrom 1 := ⟨by decide +kernel, by decide +kernel, by decide +kernel, by decide, w0754, w0143⟩
def jX3_copyFrom_115 (v0 : Nat) (v1 : Nat) (h : Hp) : Option (Hp) :=
(gR h 3 v1 7).bind fun x32 =>
(gR h 3 v0 7).bind fun x33 =>
(gI h 3 v0 5).bind fun x34 =>
(kJ h x32 (0 : Int32) x33 (0 : Int32) x34).bind fun h35 =>
some h35
set_option maxRecDepth 20000 in
set_option maxHeartbeats 4000000 in
theorem sjX3_copyFrom_115 {Γ : Gm} {d : Nat} (hd : 2 ≤ d) {v0 : Nat} {v1 : Nat} {h : Hp} {r : Hp} (H : jX3_copyFrom_115 v0 v1 h = some r) : V Γ d mX3_copyFrom 115 [(0, .ref v0), (1, .ref v1)] [] h (none, r) := by
  unfold jX3_copyFrom_115 at H
  refine v_aload_n (q := 116) 1 dX3_copyFrom_115 rfl rfl rfl ?_
  replace H := bs H; obtain ⟨x32, x32e, H⟩ := H
  refine u_gR (q := 119) (r := (RX3, TX3, 8)) x32e dX3_copyFrom_116 w0358 rfl (by decide) rfl rfl ?_
  refine v_iconst (v := 0) (q := 120) dX3_copyFrom_119 (by decide) rfl ?_
  refine v_aload_n (q := 121) 0 dX3_copyFrom_120 rfl rfl rfl ?_
  replace H := bs H; obtain ⟨x33, x33e, H⟩ := H
  refine u_gR (q := 124) (r := (RX3, TX3, 8)) x33e dX3_copyFrom_121 w0358 rfl (by decide) rfl rfl ?_
  refine v_iconst (v := 0) (q := 125) dX3_copyFrom_124 (by decide) rfl ?_
  refine v_aload_n (q := 126) 0 dX3_copyFrom_125 rfl rfl rfl ?_
  replace H := bs H; obtain ⟨x34, x34e, H⟩ := H
  refine u_gI (q := 129) (r := (RX3, TX3, 8)) x34e dX3_copyFrom_126 w0354 rfl (by decide) rfl rfl ?_
  replace H := bs H; obtain ⟨h35, h35e, H⟩ := H
  refine u_kJ (q := 132) h35e dX3_copyFrom_129 w0709 w0711 w0710 w0157 (Nat.le_of_ble_eq_true rfl) (Nat.lt_of_lt_of_le (by decide) hd) rfl ?_
  cases H
  exact v_return rfl dX3_copyFrom_132
def fX3_copyFrom (h : Hp) (v0 : Nat) (v1 : Nat) : Option (Hp) :=
(gR h 3 v1 0).bind fun x1 =>
(gR h 3 v0 0).bind fun x2 =>
(gR h 3 v0 0).bind fun x3 =>
(aL h .int x3).bind fun x4 =>
(kI h .int x1 (0 : Int32) x2 (0 : Int32) x4).bind fun h5 =>
(gR h5 3 v1 1).bind fun x6 =>
(gR h5 3 v0 1).bind fun x7 =>
(gR h5 3 v0 1).bind fun x8 =>
(aL h5 .int x8).bind fun x9 =>
(kI h5 .int x6 (0 : Int32) x7 (0 : Int32) x9).bind fun h10 =>
(gR h10 3 v1 2).bind fun x11 =>
(gR h10 3 v0 2).bind fun x12 =>
(gR h10 3 v0 2).bind fun x13 =>
(aL h10 .int x13).bind fun x14 =>
(kI h10 .int x11 (0 : Int32) x12 (0 : Int32) x14).bind fun h15 =>
(gR h15 3 v0 3).bind fun x16 =>
(gR h15 3 v1 3).bind fun x17 =>
(gO h15 1 x16).bind fun _ =>
(fX1_copyFrom h15 x16 x17).bind fun x19 =>
(gR x19 3 v0 4).bind fun x20 =>
(gR x19 3 v1 4).bind fun x21 =>
(gO x19 7 x20).bind fun _ =>
(fX7_copyFrom x19 x20 x21).bind fun x23 =>
(gI x23 3 v1 5).bind fun x24 =>
(pI x23 3 v0 5 x24).bind fun h25 =>
(gI h25 3 v1 6).bind fun x26 =>
(pI h25 3 v0 6 x26).bind fun h27 =>
(gR h27 3 v0 7).bind fun x28 =>
(aL h27 .long x28).bind fun x29 =>
(gI h27 3 v0 5).bind fun x30 =>
if x30 ≤ x29 then (
jX3_copyFrom_115 v0 v1 h27) else (
(gR h27 3 v1 7).bind fun x36 =>
(aL h27 .long x36).bind fun x37 =>
(nA h27 .long x37).bind fun h38 =>
(pR h38 3 v0 7 (hN h27)).bind fun h39 =>
jX3_copyFrom_115 v0 v1 h39)
set_option maxRecDepth 20000 in
set_option maxHeartbeats 4000000 in
theorem sX3_copyFrom {Γ : Gm} {d : Nat} (hd : 2 ≤ d) {h : Hp} {v0 : Nat} {v1 : Nat} {r : Hp} (H : fX3_copyFrom h v0 v1 = some r) : V Γ d mX3_copyFrom 0 [(0, .ref v0), (1, .ref v1)] [] h (none, r) := by
  unfold fX3_copyFrom at H
  refine v_aload_n (q := 1) 1 dX3_copyFrom_0 rfl rfl rfl ?_
  replace H := bs H; obtain ⟨x1, x1e, H⟩ := H
  refine u_gR (q := 4) (r := (RX3, TX3, 8)) x1e dX3_copyFrom_1 w0339 rfl (by decide) rfl rfl ?_
  refine v_iconst (v := 0) (q := 5) dX3_copyFrom_4 (by decide) rfl ?_
  refine v_aload_n (q := 6) 0 dX3_copyFrom_5 rfl rfl rfl ?_
  replace H := bs H; obtain ⟨x2, x2e, H⟩ := H
  refine u_gR (q := 9) (r := (RX3, TX3, 8)) x2e dX3_copyFrom_6 w0339 rfl (by decide) rfl rfl ?_
  refine v_iconst (v := 0) (q := 10) dX3_copyFrom_9 (by decide) rfl ?_
  refine v_aload_n (q := 11) 0 dX3_copyFrom_10 rfl rfl rfl ?_
  replace H := bs H; obtain ⟨x3, x3e, H⟩ := H
  refine u_gR (q := 14) (r := (RX3, TX3, 8)) x3e dX3_copyFrom_11 w0339 rfl (by decide) rfl rfl ?_
  replace H := bs H; obtain ⟨x4, x4e, H⟩ := H
  refine u_aL (q := 15) (ty := .int) (by decide) x4e dX3_copyFrom_14 rfl ?_
  replace H := bs H; obtain ⟨h5, h5e, H⟩ := H
  refine u_kI (q := 18) (ty := .int) rfl rfl (by decide) h5e dX3_copyFrom_15 w0709 w0711 w0710 w0157 (Nat.le_of_ble_eq_true rfl) (Nat.lt_of_lt_of_le (by decide) hd) rfl ?_
  refine v_aload_n (q := 19) 1 dX3_copyFrom_18 rfl rfl rfl ?_
  replace H := bs H; obtain ⟨x6, x6e, H⟩ := H
  refine u_gR (q := 22) (r := (RX3, TX3, 8)) x6e dX3_copyFrom_19 w0342 rfl (by decide) rfl rfl ?_
  refine v_iconst (v := 0) (q := 23) dX3_copyFrom_22 (by decide) rfl ?_
  refine v_aload_n (q := 24) 0 dX3_copyFrom_23 rfl rfl rfl ?_
  replace H := bs H; obtain ⟨x7, x7e, H⟩ := H
  refine u_gR (q := 27) (r := (RX3, TX3, 8)) x7e dX3_copyFrom_24 w0342 rfl (by decide) rfl rfl ?_
  refine v_iconst (v := 0) (q := 28) dX3_copyFrom_27 (by decide) rfl ?_
  refine v_aload_n (q := 29) 0 dX3_copyFrom_28 rfl rfl rfl ?_
  replace H := bs H; obtain ⟨x8, x8e, H⟩ := H
  refine u_gR (q := 32) (r := (RX3, TX3, 8)) x8e dX3_copyFrom_29 w0342 rfl (by decide) rfl rfl ?_
  replace H := bs H; obtain ⟨x9, x9e, H⟩ := H
  refine u_aL (q := 33) (ty := .int) (by decide) x9e dX3_copyFrom_32 rfl ?_
  replace H := bs H; obtain ⟨h10, h10e, H⟩ := H
  refine u_kI (q := 36) (ty := .int) rfl rfl (by decide) h10e dX3_copyFrom_33 w0709 w0711 w0710 w0157 (Nat.le_of_ble_eq_true rfl) (Nat.lt_of_lt_of_le (by decide) hd) rfl ?_
  refine v_aload_n (q := 37) 1 dX3_copyFrom_36 rfl rfl rfl ?_
  replace H := bs H; obtain ⟨x11, x11e, H⟩ := H
  refine u_gR (q := 40) (r := (RX3, TX3, 8)) x11e dX3_copyFrom_37 w0345 rfl (by decide) rfl rfl ?_
  refine v_iconst (v := 0) (q := 41) dX3_copyFrom_40 (by decide) rfl ?_
  refine v_aload_n (q := 42) 0 dX3_copyFrom_41 rfl rfl rfl ?_
  replace H := bs H; obtain ⟨x12, x12e, H⟩ := H
  refine u_gR (q := 45) (r := (RX3, TX3, 8)) x12e dX3_copyFrom_42 w0345 rfl (by decide) rfl rfl ?_
  refine v_iconst (v := 0) (q := 46) dX3_copyFrom_45 (by decide) rfl ?_
  refine v_aload_n (q := 47) 0 dX3_copyFrom_46 rfl rfl rfl ?_
  replace H := bs H; obtain ⟨x13, x13e, H⟩ := H
  refine u_gR (q := 50) (r := (RX3, TX3, 8)) x13e dX3_copyFrom_47 w0345 rfl (by decide) rfl rfl ?_
  replace H := bs H; obtain ⟨x14, x14e, H⟩ := H
  refine u_aL (q := 51) (ty := .int) (by decide) x14e dX3_copyFrom_50 rfl ?_
  replace H := bs H; obtain ⟨h15, h15e, H⟩ := H
  refine u_kI (q := 54) (ty := .int) rfl rfl (by decide) h15e dX3_copyFrom_51 w0709 w0711 w0710 w0157 (Nat.le_of_ble_eq_true rfl) (Nat.lt_of_lt_of_le (by decide) hd) rfl ?_
  refine v_aload_n (q := 55) 0 dX3_copyFrom_54 rfl rfl rfl ?_
  replace H := bs H; obtain ⟨x16, x16e, H⟩ := H
  refine u_gR (q := 58) (r := (RX3, TX3, 8)) x16e dX3_copyFrom_55 w0348 rfl (by decide) rfl rfl ?_
  refine v_aload_n (q := 59) 1 dX3_copyFrom_58 rfl rfl rfl ?_
  replace H := bs H; obtain ⟨x17, x17e, H⟩ := H
  refine u_gR (q := 62) (r := (RX3, TX3, 8)) x17e dX3_copyFrom_59 w0348 rfl (by decide) rfl rfl ?_
  replace H := bs H; obtain ⟨_, o18, H⟩ := H
  replace H := bs H; obtain ⟨x19, x19e, H⟩ := H
  refine u_callV0 (M' := mX1_copyFrom) (d' := 1) (rc := (RX1, TX1, 4)) (As := [.ref x17]) (st := []) (q := 65) oX1_copyFrom dX3_copyFrom_62 w0755 w0756 w0757 rfl rfl (gO_sp o18).1 (gO_sp o18).2 rfl (Nat.le_of_ble_eq_true rfl) (Nat.le_of_ble_eq_true rfl) (Nat.lt_of_lt_of_le (by decide) hd) rfl (sX1_copyFrom (Nat.le_refl _) x19e) rfl ?_
  refine v_aload_n (q := 66) 0 dX3_copyFrom_65 rfl rfl rfl ?_
  replace H := bs H; obtain ⟨x20, x20e, H⟩ := H
  refine u_gR (q := 69) (r := (RX3, TX3, 8)) x20e dX3_copyFrom_66 w0351 rfl (by decide) rfl rfl ?_
  refine v_aload_n (q := 70) 1 dX3_copyFrom_69 rfl rfl rfl ?_
  replace H := bs H; obtain ⟨x21, x21e, H⟩ := H
  refine u_gR (q := 73) (r := (RX3, TX3, 8)) x21e dX3_copyFrom_70 w0351 rfl (by decide) rfl rfl ?_
  replace H := bs H; obtain ⟨_, o22, H⟩ := H
  replace H := bs H; obtain ⟨x23, x23e, H⟩ := H
  refine u_callV0 (M' := mX7_copyFrom) (d' := 1) (rc := (RX7, TX7, 7)) (As := [.ref x21]) (st := []) (q := 76) oX7_copyFrom dX3_copyFrom_73 w0760 w0761 w0762 rfl rfl (gO_sp o22).1 (gO_sp o22).2 rfl (Nat.le_of_ble_eq_true rfl) (Nat.le_of_ble_eq_true rfl) (Nat.lt_of_lt_of_le (by decide) hd) rfl (sX7_copyFrom (Nat.le_refl _) x23e) rfl ?_
  refine v_aload_n (q := 77) 0 dX3_copyFrom_76 rfl rfl rfl ?_
  refine v_aload_n (q := 78) 1 dX3_copyFrom_77 rfl rfl rfl ?_
  replace H := bs H; obtain ⟨x24, x24e, H⟩ := H
  refine u_gI (q := 81) (r := (RX3, TX3, 8)) x24e dX3_copyFrom_78 w0354 rfl (by decide) rfl rfl ?_
  replace H := bs H; obtain ⟨h25, h25e, H⟩ := H
  refine u_pI (q := 84) (r := (RX3, TX3, 8)) h25e dX3_copyFrom_81 w0354 rfl (by decide) (Or.inl rfl) rfl rfl ?_
  refine v_aload_n (q := 85) 0 dX3_copyFrom_84 rfl rfl rfl ?_
  refine v_aload_n (q := 86) 1 dX3_copyFrom_85 rfl rfl rfl ?_
  replace H := bs H; obtain ⟨x26, x26e, H⟩ := H
  refine u_gI (q := 89) (r := (RX3, TX3, 8)) x26e dX3_copyFrom_86 w0356 rfl (by decide) rfl rfl ?_
  replace H := bs H; obtain ⟨h27, h27e, H⟩ := H
  refine u_pI (q := 92) (r := (RX3, TX3, 8)) h27e dX3_copyFrom_89 w0356 rfl (by decide) (Or.inl rfl) rfl rfl ?_
  refine v_aload_n (q := 93) 0 dX3_copyFrom_92 rfl rfl rfl ?_
  replace H := bs H; obtain ⟨x28, x28e, H⟩ := H
  refine u_gR (q := 96) (r := (RX3, TX3, 8)) x28e dX3_copyFrom_93 w0358 rfl (by decide) rfl rfl ?_
  replace H := bs H; obtain ⟨x29, x29e, H⟩ := H
  refine u_aL (q := 97) (ty := .long) (by decide) x29e dX3_copyFrom_96 rfl ?_
  refine v_aload_n (q := 98) 0 dX3_copyFrom_97 rfl rfl rfl ?_
  replace H := bs H; obtain ⟨x30, x30e, H⟩ := H
  refine u_gI (q := 101) (r := (RX3, TX3, 8)) x30e dX3_copyFrom_98 w0354 rfl (by decide) rfl rfl ?_
  refine v_icmp_ge (q1 := 115) (q2 := 104) dX3_copyFrom_101 (by decide) rfl (fun c31 => ?_) (fun c31 => ?_)
  · replace H := ip c31 H
    exact V.sub [0, 1] rfl (sjX3_copyFrom_115 hd H)
  · replace H := ine c31 H
    refine v_aload_n (q := 105) 0 dX3_copyFrom_104 rfl rfl rfl ?_
    refine v_aload_n (q := 106) 1 dX3_copyFrom_105 rfl rfl rfl ?_
    replace H := bs H; obtain ⟨x36, x36e, H⟩ := H
    refine u_gR (q := 109) (r := (RX3, TX3, 8)) x36e dX3_copyFrom_106 w0358 rfl (by decide) rfl rfl ?_
    replace H := bs H; obtain ⟨x37, x37e, H⟩ := H
    refine u_aL (q := 110) (ty := .long) (by decide) x37e dX3_copyFrom_109 rfl ?_
    replace H := bs H; obtain ⟨h38, h38e, H⟩ := H
    refine u_nA (q := 112) (ty := .long) rfl (by decide) w0376 h38e dX3_copyFrom_110 rfl ?_
    replace H := bs H; obtain ⟨h39, h39e, H⟩ := H
    refine u_pR (q := 115) (r := (RX3, TX3, 8)) h39e dX3_copyFrom_112 w0358 rfl (by decide) (Or.inl rfl) rfl rfl ?_
    exact V.sub [0, 1] rfl (sjX3_copyFrom_115 hd H)

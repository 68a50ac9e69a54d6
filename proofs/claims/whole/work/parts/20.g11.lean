def mX12_come : MI := (yX12_come, cX12_come, 6, some .boolean)
theorem oX12_come : mOK mX12_come 3 := ⟨by decide +kernel, by decide +kernel, by decide +kernel, by decide, w1864, w0150⟩
def bX12_come_14 (u0 : Nat) (u1 : Int32) (u2 : Int32) (u3 : Int32) (h : Hp) (s14 : Int32 × Int32) : Option ((Int32 × Int32) ⊕ (Int32)) :=
if (5 : Int32) ≤ s14.2 then (
some (.inr s14.1)) else (
(gR h 12 u0 41).bind fun x5 =>
(gI h 12 u0 46).bind fun x6 =>
(lI h .int x5 (((5 : Int32) * x6) + s14.2)).bind fun x7 =>
(some (((31 : Int32) * s14.1) + x7)).bind fun x8 =>
(some (s14.2 + (1 : Int32))).bind fun x9 =>
some (.inl (x8, x9)))
set_option maxRecDepth 20000 in
set_option maxHeartbeats 4000000 in
theorem sbX12_come_14 {Γ : Gm} {d : Nat} (hd : 6 ≤ d) {u0 : Nat} {u1 : Int32} {u2 : Int32} {u3 : Int32} {h : Hp} {s14 : Int32 × Int32} {r : (Int32 × Int32) ⊕ (Int32)} {t : Option Value × Hp} (H : bX12_come_14 u0 u1 u2 u3 h s14 = some r) (kI : ∀ s, r = .inl s → (fun s14 => V Γ d mX12_come 14 [(0, .ref u0), (1, .int u1), (2, .int u2), (3, .int u3), (4, .int s14.1), (5, .int s14.2)] [] h t) s) (kE : ∀ e, r = .inr e → (fun e => V Γ d mX12_come 48 [(0, .ref u0), (1, .int u1), (2, .int u2), (3, .int u3), (4, .int e)] [] h t) e) : V Γ d mX12_come 14 [(0, .ref u0), (1, .int u1), (2, .int u2), (3, .int u3), (4, .int s14.1), (5, .int s14.2)] [] h t := by
  unfold bX12_come_14 at H
  refine v_iload (q := 16) 5 dX12_come_14 rfl rfl ?_
  refine v_iconst (v := 5) (q := 17) dX12_come_16 (by decide) rfl ?_
  refine v_icmp_ge (q1 := 48) (q2 := 20) dX12_come_17 (by decide) rfl (fun c4 => ?_) (fun c4 => ?_)
  · have H := ip c4 H
    exact V.sub [0, 1, 2, 3, 4] rfl (kE s14.1 (Option.some.inj H).symm)
  · have H := ine c4 H
    refine v_bipush (v := 31) (q := 22) dX12_come_20 (by decide) rfl ?_
    refine v_iload (q := 24) 4 dX12_come_22 rfl rfl ?_
    refine v_imul (q := 25) dX12_come_24 rfl ?_
    refine v_aload_n (q := 26) 0 dX12_come_25 rfl rfl rfl ?_
    obtain ⟨x5, x5e, H⟩ := bs H
    refine u_gR (q := 29) (r := (RX12, TX12, 58)) x5e dX12_come_26 w1397 rfl (by decide) rfl rfl ?_
    refine v_iconst (v := 5) (q := 30) dX12_come_29 (by decide) rfl ?_
    refine v_aload_n (q := 31) 0 dX12_come_30 rfl rfl rfl ?_
    obtain ⟨x6, x6e, H⟩ := bs H
    refine u_gI (q := 34) (r := (RX12, TX12, 58)) x6e dX12_come_31 w1402 rfl (by decide) rfl rfl ?_
    refine v_imul (q := 35) dX12_come_34 rfl ?_
    refine v_iload (q := 37) 5 dX12_come_35 rfl rfl ?_
    refine v_iadd (q := 38) dX12_come_37 rfl ?_
    obtain ⟨x7, x7e, H⟩ := bs H
    refine u_lI (q := 39) x7e dX12_come_38 rfl ?_
    refine v_iadd (q := 40) dX12_come_39 rfl ?_
    obtain ⟨x8, x8e, H⟩ := bs H
    refine v_topi (Option.some.inj x8e) ?_
    refine v_istore (L' := [(4, .int x8), (0, .ref u0), (1, .int u1), (2, .int u2), (3, .int u3), (5, .int s14.2)]) (q := 42) dX12_come_40 (by decide) rfl rfl ?_
    obtain ⟨x9, x9e, H⟩ := bs H
    refine v_iinc (v := x9) (L' := [(5, .int x9), (4, .int x8), (0, .ref u0), (1, .int u1), (2, .int u2), (3, .int u3)]) (q := 45) 5 dX12_come_42 rfl (Option.some.inj x9e) (by decide) rfl rfl ?_
    refine v_goto (q := 14) dX12_come_45 (by decide) ?_
    exact V.sub [2, 3, 4, 5, 1, 0] rfl (kI (x8, x9) (Option.some.inj H).symm)
def bX12_come_62 (u0 : Nat) (u1 : Int32) (u2 : Int32) (u3 : Int32) (h : Hp) (s62 : Int32) : Option ((Int32) ⊕ (Int32)) :=
(gR h 12 u0 45).bind fun x12 =>
(lI h .int x12 s62).bind fun x13 =>
if x13 < 0 then (
some (.inr s62)) else (
(gR h 12 u0 45).bind fun x15 =>
(lI h .int x15 s62).bind fun x16 =>
(gI h 12 u0 46).bind fun x17 =>
(gO h 12 u0).bind fun _ =>
(fX12_isLike h u0 x16 x17).bind fun x19 =>
if x19 = 0 then (
(some ((s62 + (1 : Int32)) &&& (16383 : Int32))).bind fun x21 =>
some (.inl x21)) else (
some (.inr s62)))
set_option maxRecDepth 20000 in
set_option maxHeartbeats 4000000 in
theorem sbX12_come_62 {Γ : Gm} {d : Nat} (hd : 6 ≤ d) {u0 : Nat} {u1 : Int32} {u2 : Int32} {u3 : Int32} {h : Hp} {s62 : Int32} {r : (Int32) ⊕ (Int32)} {t : Option Value × Hp} (H : bX12_come_62 u0 u1 u2 u3 h s62 = some r) (kI : ∀ s, r = .inl s → (fun s62 => V Γ d mX12_come 62 [(0, .ref u0), (1, .int u1), (2, .int u2), (3, .int u3), (4, .int s62)] [] h t) s) (kE : ∀ e, r = .inr e → (fun e => V Γ d mX12_come 103 [(0, .ref u0), (1, .int u1), (2, .int u2), (3, .int u3), (4, .int e)] [] h t) e) : V Γ d mX12_come 62 [(0, .ref u0), (1, .int u1), (2, .int u2), (3, .int u3), (4, .int s62)] [] h t := by
  unfold bX12_come_62 at H
  refine v_aload_n (q := 63) 0 dX12_come_62 rfl rfl rfl ?_
  obtain ⟨x12, x12e, H⟩ := bs H
  refine u_gR (q := 66) (r := (RX12, TX12, 58)) x12e dX12_come_63 w1401 rfl (by decide) rfl rfl ?_
  refine v_iload (q := 68) 4 dX12_come_66 rfl rfl ?_
  obtain ⟨x13, x13e, H⟩ := bs H
  refine u_lI (q := 69) x13e dX12_come_68 rfl ?_
  refine v_if_lt (q1 := 103) (q2 := 72) dX12_come_69 (by decide) rfl (fun c14 => ?_) (fun c14 => ?_)
  · have H := ip c14 H
    exact V.sub [0, 1, 2, 3, 4] rfl (kE s62 (Option.some.inj H).symm)
  · have H := ine c14 H
    refine v_aload_n (q := 73) 0 dX12_come_72 rfl rfl rfl ?_
    refine v_aload_n (q := 74) 0 dX12_come_73 rfl rfl rfl ?_
    obtain ⟨x15, x15e, H⟩ := bs H
    refine u_gR (q := 77) (r := (RX12, TX12, 58)) x15e dX12_come_74 w1401 rfl (by decide) rfl rfl ?_
    refine v_iload (q := 79) 4 dX12_come_77 rfl rfl ?_
    obtain ⟨x16, x16e, H⟩ := bs H
    refine u_lI (q := 80) x16e dX12_come_79 rfl ?_
    refine v_aload_n (q := 81) 0 dX12_come_80 rfl rfl rfl ?_
    obtain ⟨x17, x17e, H⟩ := bs H
    refine u_gI (q := 84) (r := (RX12, TX12, 58)) x17e dX12_come_81 w1402 rfl (by decide) rfl rfl ?_
    obtain ⟨_, o18, H⟩ := bs H
    obtain ⟨x19, x19e, H⟩ := bs H
    refine u_callV1 (M' := mX12_isLike) (d' := 1) (rc := (RX12, TX12, 58)) (As := [.int x16, .int x17]) (st := []) (q := 87) oX12_isLike dX12_come_84 w1869 w1871 w0112 rfl rfl (gO_sp o18).1 (gO_sp o18).2 rfl (Nat.le_of_ble_eq_true rfl) (Nat.le_of_ble_eq_true rfl) (Nat.lt_of_lt_of_le (by decide) hd) rfl (sX12_isLike (Nat.le_refl _) x19e) rfl ?_
    refine v_if_ne (q1 := 103) (q2 := 90) dX12_come_87 (by decide) rfl (fun c20 => ?_) (fun c20 => ?_)
    · have H := ine c20 H
      exact V.sub [0, 1, 2, 3, 4] rfl (kE s62 (Option.some.inj H).symm)
    · have H := ip c20 H
      refine v_iload (q := 92) 4 dX12_come_90 rfl rfl ?_
      refine v_iconst (v := 1) (q := 93) dX12_come_92 (by decide) rfl ?_
      refine v_iadd (q := 94) dX12_come_93 rfl ?_
      refine v_sipush (v := 16383) (q := 97) dX12_come_94 (by decide) rfl ?_
      refine v_iand (q := 98) dX12_come_97 rfl ?_
      obtain ⟨x21, x21e, H⟩ := bs H
      refine v_topi (Option.some.inj x21e) ?_
      refine v_istore (L' := [(4, .int x21), (0, .ref u0), (1, .int u1), (2, .int u2), (3, .int u3)]) (q := 100) dX12_come_98 (by decide) rfl rfl ?_
      refine v_goto (q := 62) dX12_come_100 (by decide) ?_
      exact V.sub [1, 2, 3, 4, 0] rfl (kI x21 (Option.some.inj H).symm)
def jX12_come_195 (h : Hp) : Option (Int32 × Hp) :=
some (((1 : Int32), h))
set_option maxRecDepth 20000 in
set_option maxHeartbeats 4000000 in
theorem sjX12_come_195 {Γ : Gm} {d : Nat} (hd : 6 ≤ d) {h : Hp} {r : Int32 × Hp} (H : jX12_come_195 h = some r) : V Γ d mX12_come 195 [] [] h (some (.int r.1), r.2) := by
  unfold jX12_come_195 at H
  refine v_iconst (v := 1) (q := 196) dX12_come_195 (by decide) rfl ?_
  cases H
  exact v_zreturn rfl (by decide) dX12_come_196
def fX12_come (h : Hp) (v0 : Nat) (v1 : Int32) (v2 : Int32) (v3 : Int32) : Option (Int32 × Hp) :=
(gI h 12 v0 46).bind fun x1 =>
(gO h 12 v0).bind fun _ =>
(fX12_pack h v0 x1).bind fun x3 =>
(lp (bX12_come_14 v0 v1 v2 v3 x3) FU ((0 : Int32), (0 : Int32))).bind fun e10 =>
(some ((e10 ^^^ ((e10.toUInt32 >>> ((15 : Int32).toUInt32 &&& Int32.toUInt32 31)).toInt32)) &&& (16383 : Int32))).bind fun x11 =>
(lp (bX12_come_62 v0 v1 v2 v3 x3) FU x11).bind fun e22 =>
(gR x3 12 v0 45).bind fun x23 =>
(lI x3 .int x23 e22).bind fun x24 =>
if x24 < 0 then (
(gI x3 12 v0 46).bind fun x26 =>
if x26 = (4000 : Int32) then (
some (((0 : Int32), x3))) else (
(gR x3 12 v0 45).bind fun x28 =>
(gI x3 12 v0 46).bind fun x29 =>
(tI x3 x28 e22 x29).bind fun h30 =>
(gR h30 12 v0 42).bind fun x31 =>
(gI h30 12 v0 46).bind fun x32 =>
(tI h30 x31 x32 v1).bind fun h33 =>
(gR h33 12 v0 43).bind fun x34 =>
(gI h33 12 v0 46).bind fun x35 =>
(tI h33 x34 x35 v2).bind fun h36 =>
(gR h36 12 v0 44).bind fun x37 =>
(gI h36 12 v0 46).bind fun x38 =>
(tI h36 x37 x38 v3).bind fun h39 =>
(gI h39 12 v0 46).bind fun x40 =>
(pI h39 12 v0 46 (x40 + (1 : Int32))).bind fun h41 =>
(gO h41 12 v0).bind fun _ =>
(fX12_layRing h41 v0).bind fun x43 =>
if x43.1 = 0 then (
jX12_come_195 x43.2) else (
(gI x43.2 12 v0 46).bind fun x45 =>
(pI x43.2 12 v0 47 (x45 - (1 : Int32))).bind fun h46 =>
jX12_come_195 h46))) else (
some (((1 : Int32), x3)))
set_option maxRecDepth 20000 in
set_option maxHeartbeats 4000000 in
theorem sX12_come {Γ : Gm} {d : Nat} (hd : 6 ≤ d) {h : Hp} {v0 : Nat} {v1 : Int32} {v2 : Int32} {v3 : Int32} {r : Int32 × Hp} (H : fX12_come h v0 v1 v2 v3 = some r) : V Γ d mX12_come 0 [(0, .ref v0), (1, .int v1), (2, .int v2), (3, .int v3)] [] h (some (.int r.1), r.2) := by
  unfold fX12_come at H
  refine v_aload_n (q := 1) 0 dX12_come_0 rfl rfl rfl ?_
  refine v_aload_n (q := 2) 0 dX12_come_1 rfl rfl rfl ?_
  obtain ⟨x1, x1e, H⟩ := bs H
  refine u_gI (q := 5) (r := (RX12, TX12, 58)) x1e dX12_come_2 w1402 rfl (by decide) rfl rfl ?_
  obtain ⟨_, o2, H⟩ := bs H
  obtain ⟨x3, x3e, H⟩ := bs H
  refine u_callV0 (M' := mX12_pack) (d' := 1) (rc := (RX12, TX12, 58)) (As := [.int x1]) (st := []) (q := 8) oX12_pack dX12_come_5 w1865 w1867 w0111 rfl rfl (gO_sp o2).1 (gO_sp o2).2 rfl (Nat.le_of_ble_eq_true rfl) (Nat.le_of_ble_eq_true rfl) (Nat.lt_of_lt_of_le (by decide) hd) rfl (sX12_pack (Nat.le_refl _) x3e) rfl ?_
  refine v_iconst (v := 0) (q := 9) dX12_come_8 (by decide) rfl ?_
  refine v_istore (L' := [(4, .int (0 : Int32)), (0, .ref v0), (1, .int v1), (2, .int v2), (3, .int v3)]) (q := 11) dX12_come_9 (by decide) rfl rfl ?_
  refine v_iconst (v := 0) (q := 12) dX12_come_11 (by decide) rfl ?_
  refine v_istore (L' := [(5, .int (0 : Int32)), (4, .int (0 : Int32)), (0, .ref v0), (1, .int v1), (2, .int v2), (3, .int v3)]) (q := 14) dX12_come_12 (by decide) rfl rfl ?_
  obtain ⟨e10, e10L, H⟩ := bs H
  refine V.sub [2, 3, 4, 5, 1, 0] rfl ?_
  refine lp_V (P := (fun s14 => V Γ d mX12_come 14 [(0, .ref v0), (1, .int v1), (2, .int v2), (3, .int v3), (4, .int s14.1), (5, .int s14.2)] [] x3 (some (.int r.1), r.2))) (E := (fun e => V Γ d mX12_come 48 [(0, .ref v0), (1, .int v1), (2, .int v2), (3, .int v3), (4, .int e)] [] x3 (some (.int r.1), r.2))) (fun s r hb kI kE => sbX12_come_14 hd (s14 := s) (r := r) hb kI kE) FU ((0 : Int32), (0 : Int32)) e10 e10L ?_
  refine v_iload (q := 50) 4 dX12_come_48 rfl rfl ?_
  refine v_iload (q := 52) 4 dX12_come_50 rfl rfl ?_
  refine v_bipush (v := 15) (q := 54) dX12_come_52 (by decide) rfl ?_
  refine v_iushr (q := 55) dX12_come_54 rfl ?_
  refine v_ixor (q := 56) dX12_come_55 rfl ?_
  refine v_sipush (v := 16383) (q := 59) dX12_come_56 (by decide) rfl ?_
  refine v_iand (q := 60) dX12_come_59 rfl ?_
  obtain ⟨x11, x11e, H⟩ := bs H
  refine v_topi (Option.some.inj x11e) ?_
  refine v_istore (L' := [(4, .int x11), (0, .ref v0), (1, .int v1), (2, .int v2), (3, .int v3)]) (q := 62) dX12_come_60 (by decide) rfl rfl ?_
  obtain ⟨e22, e22L, H⟩ := bs H
  refine V.sub [1, 2, 3, 4, 0] rfl ?_
  refine lp_V (P := (fun s62 => V Γ d mX12_come 62 [(0, .ref v0), (1, .int v1), (2, .int v2), (3, .int v3), (4, .int s62)] [] x3 (some (.int r.1), r.2))) (E := (fun e => V Γ d mX12_come 103 [(0, .ref v0), (1, .int v1), (2, .int v2), (3, .int v3), (4, .int e)] [] x3 (some (.int r.1), r.2))) (fun s r hb kI kE => sbX12_come_62 hd (s62 := s) (r := r) hb kI kE) FU x11 e22 e22L ?_
  refine v_aload_n (q := 104) 0 dX12_come_103 rfl rfl rfl ?_
  obtain ⟨x23, x23e, H⟩ := bs H
  refine u_gR (q := 107) (r := (RX12, TX12, 58)) x23e dX12_come_104 w1401 rfl (by decide) rfl rfl ?_
  refine v_iload (q := 109) 4 dX12_come_107 rfl rfl ?_
  obtain ⟨x24, x24e, H⟩ := bs H
  refine u_lI (q := 110) x24e dX12_come_109 rfl ?_
  refine v_if_lt (q1 := 115) (q2 := 113) dX12_come_110 (by decide) rfl (fun c25 => ?_) (fun c25 => ?_)
  · have H := ip c25 H
    refine v_aload_n (q := 116) 0 dX12_come_115 rfl rfl rfl ?_
    obtain ⟨x26, x26e, H⟩ := bs H
    refine u_gI (q := 119) (r := (RX12, TX12, 58)) x26e dX12_come_116 w1402 rfl (by decide) rfl rfl ?_
    refine v_sipush (v := 4000) (q := 122) dX12_come_119 (by decide) rfl ?_
    refine v_icmp_ne (q1 := 127) (q2 := 125) dX12_come_122 (by decide) rfl (fun c27 => ?_) (fun c27 => ?_)
    · have H := ine c27 H
      refine v_aload_n (q := 128) 0 dX12_come_127 rfl rfl rfl ?_
      obtain ⟨x28, x28e, H⟩ := bs H
      refine u_gR (q := 131) (r := (RX12, TX12, 58)) x28e dX12_come_128 w1401 rfl (by decide) rfl rfl ?_
      refine v_iload (q := 133) 4 dX12_come_131 rfl rfl ?_
      refine v_aload_n (q := 134) 0 dX12_come_133 rfl rfl rfl ?_
      obtain ⟨x29, x29e, H⟩ := bs H
      refine u_gI (q := 137) (r := (RX12, TX12, 58)) x29e dX12_come_134 w1402 rfl (by decide) rfl rfl ?_
      obtain ⟨h30, h30e, H⟩ := bs H
      refine u_tI (q := 138) h30e dX12_come_137 rfl ?_
      refine v_aload_n (q := 139) 0 dX12_come_138 rfl rfl rfl ?_
      obtain ⟨x31, x31e, H⟩ := bs H
      refine u_gR (q := 142) (r := (RX12, TX12, 58)) x31e dX12_come_139 w1398 rfl (by decide) rfl rfl ?_
      refine v_aload_n (q := 143) 0 dX12_come_142 rfl rfl rfl ?_
      obtain ⟨x32, x32e, H⟩ := bs H
      refine u_gI (q := 146) (r := (RX12, TX12, 58)) x32e dX12_come_143 w1402 rfl (by decide) rfl rfl ?_
      refine v_iload_n (q := 147) 1 dX12_come_146 rfl rfl rfl ?_
      obtain ⟨h33, h33e, H⟩ := bs H
      refine u_tI (q := 148) h33e dX12_come_147 rfl ?_
      refine v_aload_n (q := 149) 0 dX12_come_148 rfl rfl rfl ?_
      obtain ⟨x34, x34e, H⟩ := bs H
      refine u_gR (q := 152) (r := (RX12, TX12, 58)) x34e dX12_come_149 w1399 rfl (by decide) rfl rfl ?_
      refine v_aload_n (q := 153) 0 dX12_come_152 rfl rfl rfl ?_
      obtain ⟨x35, x35e, H⟩ := bs H
      refine u_gI (q := 156) (r := (RX12, TX12, 58)) x35e dX12_come_153 w1402 rfl (by decide) rfl rfl ?_
      refine v_iload_n (q := 157) 2 dX12_come_156 rfl rfl rfl ?_
      obtain ⟨h36, h36e, H⟩ := bs H
      refine u_tI (q := 158) h36e dX12_come_157 rfl ?_
      refine v_aload_n (q := 159) 0 dX12_come_158 rfl rfl rfl ?_
      obtain ⟨x37, x37e, H⟩ := bs H
      refine u_gR (q := 162) (r := (RX12, TX12, 58)) x37e dX12_come_159 w1400 rfl (by decide) rfl rfl ?_
      refine v_aload_n (q := 163) 0 dX12_come_162 rfl rfl rfl ?_
      obtain ⟨x38, x38e, H⟩ := bs H
      refine u_gI (q := 166) (r := (RX12, TX12, 58)) x38e dX12_come_163 w1402 rfl (by decide) rfl rfl ?_
      refine v_iload_n (q := 167) 3 dX12_come_166 rfl rfl rfl ?_
      obtain ⟨h39, h39e, H⟩ := bs H
      refine u_tI (q := 168) h39e dX12_come_167 rfl ?_
      refine v_aload_n (q := 169) 0 dX12_come_168 rfl rfl rfl ?_
      refine v_dup (q := 170) dX12_come_169 rfl rfl ?_
      obtain ⟨x40, x40e, H⟩ := bs H
      refine u_gI (q := 173) (r := (RX12, TX12, 58)) x40e dX12_come_170 w1402 rfl (by decide) rfl rfl ?_
      refine v_iconst (v := 1) (q := 174) dX12_come_173 (by decide) rfl ?_
      refine v_iadd (q := 175) dX12_come_174 rfl ?_
      obtain ⟨h41, h41e, H⟩ := bs H
      refine u_pI (q := 178) (r := (RX12, TX12, 58)) h41e dX12_come_175 w1402 rfl (by decide) (Or.inl rfl) rfl rfl ?_
      refine v_aload_n (q := 179) 0 dX12_come_178 rfl rfl rfl ?_
      obtain ⟨_, o42, H⟩ := bs H
      obtain ⟨x43, x43e, H⟩ := bs H
      refine u_callV1 (M' := mX12_layRing) (d' := 5) (rc := (RX12, TX12, 58)) (As := []) (st := []) (q := 182) oX12_layRing dX12_come_179 w1873 w1875 w0113 rfl rfl (gO_sp o42).1 (gO_sp o42).2 rfl (Nat.le_of_ble_eq_true rfl) (Nat.le_of_ble_eq_true rfl) (Nat.lt_of_lt_of_le (by decide) hd) rfl (sX12_layRing (Nat.le_refl _) x43e) rfl ?_
      refine v_if_eq (q1 := 195) (q2 := 185) dX12_come_182 (by decide) rfl (fun c44 => ?_) (fun c44 => ?_)
      · have H := ip c44 H
        exact V.sub [] rfl (sjX12_come_195 hd H)
      · have H := ine c44 H
        refine v_aload_n (q := 186) 0 dX12_come_185 rfl rfl rfl ?_
        refine v_aload_n (q := 187) 0 dX12_come_186 rfl rfl rfl ?_
        obtain ⟨x45, x45e, H⟩ := bs H
        refine u_gI (q := 190) (r := (RX12, TX12, 58)) x45e dX12_come_187 w1402 rfl (by decide) rfl rfl ?_
        refine v_iconst (v := 1) (q := 191) dX12_come_190 (by decide) rfl ?_
        refine v_isub (q := 192) dX12_come_191 rfl ?_
        obtain ⟨h46, h46e, H⟩ := bs H
        refine u_pI (q := 195) (r := (RX12, TX12, 58)) h46e dX12_come_192 w1403 rfl (by decide) (Or.inl rfl) rfl rfl ?_
        exact V.sub [] rfl (sjX12_come_195 hd H)
    · have H := ip c27 H
      refine v_iconst (v := 0) (q := 126) dX12_come_125 (by decide) rfl ?_
      cases H
      exact v_zreturn rfl (by decide) dX12_come_126
  · have H := ine c25 H
    refine v_iconst (v := 1) (q := 114) dX12_come_113 (by decide) rfl ?_
    cases H
    exact v_zreturn rfl (by decide) dX12_come_114
def mX12_unpack : MI := (yX12_unpack, cX12_unpack, 4, none)
theorem oX12_unpack : mOK mX12_unpack 1 := ⟨by decide +kernel, by decide +kernel, by decide +kernel, by decide, w1908, w0150⟩
def bX12_unpack_6 (u0 : Nat) (u2 : Int32) (s6 : Int32 × Hp) : Option ((Int32 × Hp) ⊕ (Hp)) :=
if (6 : Int32) ≤ s6.1 then (
some (.inr s6.2)) else (
(gR s6.2 12 u0 36).bind fun x3 =>
(gR s6.2 12 u0 41).bind fun x4 =>
(lI s6.2 .int x4 u2).bind fun x5 =>
(tI s6.2 x3 s6.1 (((x5 >>> (((4 : Int32) * s6.1) &&& 31)) &&& (15 : Int32)) - (1 : Int32))).bind fun h6 =>
(gR h6 12 u0 37).bind fun x7 =>
(gR h6 12 u0 41).bind fun x8 =>
(lI h6 .int x8 (u2 + (1 : Int32))).bind fun x9 =>
(tI h6 x7 s6.1 (((x9 >>> (((3 : Int32) * s6.1) &&& 31)) &&& (7 : Int32)) - (1 : Int32))).bind fun h10 =>
(some (s6.1 + (1 : Int32))).bind fun x11 =>
some (.inl (x11, h10)))
set_option maxRecDepth 20000 in
set_option maxHeartbeats 4000000 in
theorem sbX12_unpack_6 {Γ : Gm} {d : Nat} (hd : 1 ≤ d) {u0 : Nat} {u2 : Int32} {s6 : Int32 × Hp} {r : (Int32 × Hp) ⊕ (Hp)} {t : Option Value × Hp} (H : bX12_unpack_6 u0 u2 s6 = some r) (kI : ∀ s, r = .inl s → (fun s6 => V Γ d mX12_unpack 6 [(0, .ref u0), (2, .int u2), (3, .int s6.1)] [] s6.2 t) s) (kE : ∀ e, r = .inr e → (fun e => V Γ d mX12_unpack 62 [(0, .ref u0), (2, .int u2)] [] e t) e) : V Γ d mX12_unpack 6 [(0, .ref u0), (2, .int u2), (3, .int s6.1)] [] s6.2 t := by
  unfold bX12_unpack_6 at H
  refine v_iload_n (q := 7) 2 dX12_unpack_6 rfl rfl rfl ?_
  refine v_bipush (v := 6) (q := 9) dX12_unpack_7 (by decide) rfl ?_
  refine v_icmp_ge (q1 := 62) (q2 := 12) dX12_unpack_9 (by decide) rfl (fun c2 => ?_) (fun c2 => ?_)
  · have H := ip c2 H
    exact V.sub [0, 1] rfl (kE s6.2 (Option.some.inj H).symm)
  · have H := ine c2 H
    refine v_aload_n (q := 13) 0 dX12_unpack_12 rfl rfl rfl ?_
    obtain ⟨x3, x3e, H⟩ := bs H
    refine u_gR (q := 16) (r := (RX12, TX12, 58)) x3e dX12_unpack_13 w1392 rfl (by decide) rfl rfl ?_
    refine v_iload_n (q := 17) 2 dX12_unpack_16 rfl rfl rfl ?_
    refine v_aload_n (q := 18) 0 dX12_unpack_17 rfl rfl rfl ?_
    obtain ⟨x4, x4e, H⟩ := bs H
    refine u_gR (q := 21) (r := (RX12, TX12, 58)) x4e dX12_unpack_18 w1397 rfl (by decide) rfl rfl ?_
    refine v_iload_n (q := 22) 1 dX12_unpack_21 rfl rfl rfl ?_
    obtain ⟨x5, x5e, H⟩ := bs H
    refine u_lI (q := 23) x5e dX12_unpack_22 rfl ?_
    refine v_iconst (v := 4) (q := 24) dX12_unpack_23 (by decide) rfl ?_
    refine v_iload_n (q := 25) 2 dX12_unpack_24 rfl rfl rfl ?_
    refine v_imul (q := 26) dX12_unpack_25 rfl ?_
    refine v_ishr (q := 27) dX12_unpack_26 rfl ?_
    refine v_bipush (v := 15) (q := 29) dX12_unpack_27 (by decide) rfl ?_
    refine v_iand (q := 30) dX12_unpack_29 rfl ?_
    refine v_iconst (v := 1) (q := 31) dX12_unpack_30 (by decide) rfl ?_
    refine v_isub (q := 32) dX12_unpack_31 rfl ?_
    obtain ⟨h6, h6e, H⟩ := bs H
    refine u_tI (q := 33) h6e dX12_unpack_32 rfl ?_
    refine v_aload_n (q := 34) 0 dX12_unpack_33 rfl rfl rfl ?_
    obtain ⟨x7, x7e, H⟩ := bs H
    refine u_gR (q := 37) (r := (RX12, TX12, 58)) x7e dX12_unpack_34 w1393 rfl (by decide) rfl rfl ?_
    refine v_iload_n (q := 38) 2 dX12_unpack_37 rfl rfl rfl ?_
    refine v_aload_n (q := 39) 0 dX12_unpack_38 rfl rfl rfl ?_
    obtain ⟨x8, x8e, H⟩ := bs H
    refine u_gR (q := 42) (r := (RX12, TX12, 58)) x8e dX12_unpack_39 w1397 rfl (by decide) rfl rfl ?_
    refine v_iload_n (q := 43) 1 dX12_unpack_42 rfl rfl rfl ?_
    refine v_iconst (v := 1) (q := 44) dX12_unpack_43 (by decide) rfl ?_
    refine v_iadd (q := 45) dX12_unpack_44 rfl ?_
    obtain ⟨x9, x9e, H⟩ := bs H
    refine u_lI (q := 46) x9e dX12_unpack_45 rfl ?_
    refine v_iconst (v := 3) (q := 47) dX12_unpack_46 (by decide) rfl ?_
    refine v_iload_n (q := 48) 2 dX12_unpack_47 rfl rfl rfl ?_
    refine v_imul (q := 49) dX12_unpack_48 rfl ?_
    refine v_ishr (q := 50) dX12_unpack_49 rfl ?_
    refine v_bipush (v := 7) (q := 52) dX12_unpack_50 (by decide) rfl ?_
    refine v_iand (q := 53) dX12_unpack_52 rfl ?_
    refine v_iconst (v := 1) (q := 54) dX12_unpack_53 (by decide) rfl ?_
    refine v_isub (q := 55) dX12_unpack_54 rfl ?_
    obtain ⟨h10, h10e, H⟩ := bs H
    refine u_tI (q := 56) h10e dX12_unpack_55 rfl ?_
    obtain ⟨x11, x11e, H⟩ := bs H
    refine v_iinc (v := x11) (L' := [(3, .int x11), (0, .ref u0), (2, .int u2)]) (q := 59) 2 dX12_unpack_56 rfl (Option.some.inj x11e) (by decide) rfl rfl ?_
    refine v_goto (q := 6) dX12_unpack_59 (by decide) ?_
    exact V.sub [1, 2, 0] rfl (kI (x11, h10) (Option.some.inj H).symm)
def jX12_unpack_113 (u0 : Nat) (u2 : Int32) (v3 : Int32) (y0 : Int32) (y1 : Int32) (y2 : Nat) (y3 : Int32) (y4 : Nat) (h : Hp) : Option ((Int32 × Hp) ⊕ (Hp)) :=
(lI h .int y2 (y1 + y0)).bind fun x21 =>
(tI h y4 y3 ((x21 >>> (((6 : Int32) * (v3 - v3 / (5 : Int32) * (5 : Int32))) &&& 31)) &&& (63 : Int32))).bind fun h22 =>
(some (v3 + (1 : Int32))).bind fun x23 =>
some (.inl (x23, h22))
set_option maxRecDepth 20000 in
set_option maxHeartbeats 4000000 in
theorem sjX12_unpack_113 {Γ : Gm} {d : Nat} (hd : 1 ≤ d) {u0 : Nat} {u2 : Int32} {v3 : Int32} {y0 : Int32} {y1 : Int32} {y2 : Nat} {y3 : Int32} {y4 : Nat} {h : Hp} {r : (Int32 × Hp) ⊕ (Hp)} {t : Option Value × Hp} (H : jX12_unpack_113 u0 u2 v3 y0 y1 y2 y3 y4 h = some r) (kI : ∀ s, r = .inl s → (fun s64 => V Γ d mX12_unpack 64 [(0, .ref u0), (2, .int u2), (3, .int s64.1)] [] s64.2 t) s) (kE : ∀ e, r = .inr e → (fun e => V Γ d mX12_unpack 132 [] [] e t) e) : V Γ d mX12_unpack 113 [(0, .ref u0), (2, .int u2), (3, .int v3)] [.int y0, .int y1, .ref y2, .int y3, .ref y4] h t := by
  unfold jX12_unpack_113 at H
  refine v_iadd (q := 114) dX12_unpack_113 rfl ?_
  obtain ⟨x21, x21e, H⟩ := bs H
  refine u_lI (q := 115) x21e dX12_unpack_114 rfl ?_
  refine v_bipush (v := 6) (q := 117) dX12_unpack_115 (by decide) rfl ?_
  refine v_iload_n (q := 118) 2 dX12_unpack_117 rfl rfl rfl ?_
  refine v_iconst (v := 5) (q := 119) dX12_unpack_118 (by decide) rfl ?_
  refine v_irem (q := 120) dX12_unpack_119 (by decide) rfl ?_
  refine v_imul (q := 121) dX12_unpack_120 rfl ?_
  refine v_ishr (q := 122) dX12_unpack_121 rfl ?_
  refine v_bipush (v := 63) (q := 124) dX12_unpack_122 (by decide) rfl ?_
  refine v_iand (q := 125) dX12_unpack_124 rfl ?_
  obtain ⟨h22, h22e, H⟩ := bs H
  refine u_tI (q := 126) h22e dX12_unpack_125 rfl ?_
  obtain ⟨x23, x23e, H⟩ := bs H
  refine v_iinc (v := x23) (L' := [(3, .int x23), (0, .ref u0), (2, .int u2)]) (q := 129) 2 dX12_unpack_126 rfl (Option.some.inj x23e) (by decide) rfl rfl ?_
  refine v_goto (q := 64) dX12_unpack_129 (by decide) ?_
  exact V.sub [1, 2, 0] rfl (kI (x23, h22) (Option.some.inj H).symm)
def bX12_unpack_64 (u0 : Nat) (u2 : Int32) (s64 : Int32 × Hp) : Option ((Int32 × Hp) ⊕ (Hp)) :=
if (10 : Int32) ≤ s64.1 then (
some (.inr s64.2)) else (
(gR s64.2 12 u0 38).bind fun x14 =>
(gR s64.2 12 u0 41).bind fun x15 =>
(lI s64.2 .int x15 (u2 + (2 : Int32))).bind fun x16 =>
(tI s64.2 x14 s64.1 (((x16 >>> (((3 : Int32) * s64.1) &&& 31)) &&& (7 : Int32)) - (1 : Int32))).bind fun h17 =>
(gR h17 12 u0 39).bind fun x18 =>
(gR h17 12 u0 41).bind fun x19 =>
if (5 : Int32) ≤ s64.1 then (
jX12_unpack_113 u0 u2 s64.1 (4 : Int32) u2 x19 s64.1 x18 h17) else (
jX12_unpack_113 u0 u2 s64.1 (3 : Int32) u2 x19 s64.1 x18 h17))
set_option maxRecDepth 20000 in
set_option maxHeartbeats 4000000 in
theorem sbX12_unpack_64 {Γ : Gm} {d : Nat} (hd : 1 ≤ d) {u0 : Nat} {u2 : Int32} {s64 : Int32 × Hp} {r : (Int32 × Hp) ⊕ (Hp)} {t : Option Value × Hp} (H : bX12_unpack_64 u0 u2 s64 = some r) (kI : ∀ s, r = .inl s → (fun s64 => V Γ d mX12_unpack 64 [(0, .ref u0), (2, .int u2), (3, .int s64.1)] [] s64.2 t) s) (kE : ∀ e, r = .inr e → (fun e => V Γ d mX12_unpack 132 [] [] e t) e) : V Γ d mX12_unpack 64 [(0, .ref u0), (2, .int u2), (3, .int s64.1)] [] s64.2 t := by
  unfold bX12_unpack_64 at H
  refine v_iload_n (q := 65) 2 dX12_unpack_64 rfl rfl rfl ?_
  refine v_bipush (v := 10) (q := 67) dX12_unpack_65 (by decide) rfl ?_
  refine v_icmp_ge (q1 := 132) (q2 := 70) dX12_unpack_67 (by decide) rfl (fun c13 => ?_) (fun c13 => ?_)
  · have H := ip c13 H
    exact V.sub [] rfl (kE s64.2 (Option.some.inj H).symm)
  · have H := ine c13 H
    refine v_aload_n (q := 71) 0 dX12_unpack_70 rfl rfl rfl ?_
    obtain ⟨x14, x14e, H⟩ := bs H
    refine u_gR (q := 74) (r := (RX12, TX12, 58)) x14e dX12_unpack_71 w1394 rfl (by decide) rfl rfl ?_
    refine v_iload_n (q := 75) 2 dX12_unpack_74 rfl rfl rfl ?_
    refine v_aload_n (q := 76) 0 dX12_unpack_75 rfl rfl rfl ?_
    obtain ⟨x15, x15e, H⟩ := bs H
    refine u_gR (q := 79) (r := (RX12, TX12, 58)) x15e dX12_unpack_76 w1397 rfl (by decide) rfl rfl ?_
    refine v_iload_n (q := 80) 1 dX12_unpack_79 rfl rfl rfl ?_
    refine v_iconst (v := 2) (q := 81) dX12_unpack_80 (by decide) rfl ?_
    refine v_iadd (q := 82) dX12_unpack_81 rfl ?_
    obtain ⟨x16, x16e, H⟩ := bs H
    refine u_lI (q := 83) x16e dX12_unpack_82 rfl ?_
    refine v_iconst (v := 3) (q := 84) dX12_unpack_83 (by decide) rfl ?_
    refine v_iload_n (q := 85) 2 dX12_unpack_84 rfl rfl rfl ?_
    refine v_imul (q := 86) dX12_unpack_85 rfl ?_
    refine v_ishr (q := 87) dX12_unpack_86 rfl ?_
    refine v_bipush (v := 7) (q := 89) dX12_unpack_87 (by decide) rfl ?_
    refine v_iand (q := 90) dX12_unpack_89 rfl ?_
    refine v_iconst (v := 1) (q := 91) dX12_unpack_90 (by decide) rfl ?_
    refine v_isub (q := 92) dX12_unpack_91 rfl ?_
    obtain ⟨h17, h17e, H⟩ := bs H
    refine u_tI (q := 93) h17e dX12_unpack_92 rfl ?_
    refine v_aload_n (q := 94) 0 dX12_unpack_93 rfl rfl rfl ?_
    obtain ⟨x18, x18e, H⟩ := bs H
    refine u_gR (q := 97) (r := (RX12, TX12, 58)) x18e dX12_unpack_94 w1395 rfl (by decide) rfl rfl ?_
    refine v_iload_n (q := 98) 2 dX12_unpack_97 rfl rfl rfl ?_
    refine v_aload_n (q := 99) 0 dX12_unpack_98 rfl rfl rfl ?_
    obtain ⟨x19, x19e, H⟩ := bs H
    refine u_gR (q := 102) (r := (RX12, TX12, 58)) x19e dX12_unpack_99 w1397 rfl (by decide) rfl rfl ?_
    refine v_iload_n (q := 103) 1 dX12_unpack_102 rfl rfl rfl ?_
    refine v_iload_n (q := 104) 2 dX12_unpack_103 rfl rfl rfl ?_
    refine v_iconst (v := 5) (q := 105) dX12_unpack_104 (by decide) rfl ?_
    refine v_icmp_ge (q1 := 112) (q2 := 108) dX12_unpack_105 (by decide) rfl (fun c20 => ?_) (fun c20 => ?_)
    · have H := ip c20 H
      refine v_iconst (v := 4) (q := 113) dX12_unpack_112 (by decide) rfl ?_
      exact V.sub [0, 1, 2] rfl (sjX12_unpack_113 hd H kI kE)
    · have H := ine c20 H
      refine v_iconst (v := 3) (q := 109) dX12_unpack_108 (by decide) rfl ?_
      refine v_goto (q := 113) dX12_unpack_109 (by decide) ?_
      exact V.sub [0, 1, 2] rfl (sjX12_unpack_113 hd H kI kE)
def fX12_unpack (h : Hp) (v0 : Nat) (v1 : Int32) : Option (Hp) :=
(some ((5 : Int32) * v1)).bind fun x1 =>
(lp (bX12_unpack_6 v0 x1) FU ((0 : Int32), h)).bind fun e12 =>
(lp (bX12_unpack_64 v0 x1) FU ((0 : Int32), e12)).bind fun e24 =>
some e24
set_option maxRecDepth 20000 in
set_option maxHeartbeats 4000000 in
theorem sX12_unpack {Γ : Gm} {d : Nat} (hd : 1 ≤ d) {h : Hp} {v0 : Nat} {v1 : Int32} {r : Hp} (H : fX12_unpack h v0 v1 = some r) : V Γ d mX12_unpack 0 [(0, .ref v0), (1, .int v1)] [] h (none, r) := by
  unfold fX12_unpack at H
  refine v_iconst (v := 5) (q := 1) dX12_unpack_0 (by decide) rfl ?_
  refine v_iload_n (q := 2) 1 dX12_unpack_1 rfl rfl rfl ?_
  refine v_imul (q := 3) dX12_unpack_2 rfl ?_
  obtain ⟨x1, x1e, H⟩ := bs H
  refine v_topi (Option.some.inj x1e) ?_
  refine v_istore_n (L' := [(2, .int x1), (0, .ref v0), (1, .int v1)]) (q := 4) dX12_unpack_3 rfl (by decide) rfl rfl ?_
  refine v_iconst (v := 0) (q := 5) dX12_unpack_4 (by decide) rfl ?_
  refine v_istore_n (L' := [(3, .int (0 : Int32)), (2, .int x1), (0, .ref v0), (1, .int v1)]) (q := 6) dX12_unpack_5 rfl (by decide) rfl rfl ?_
  obtain ⟨e12, e12L, H⟩ := bs H
  refine V.sub [2, 1, 0] rfl ?_
  refine lp_V (P := (fun s6 => V Γ d mX12_unpack 6 [(0, .ref v0), (2, .int x1), (3, .int s6.1)] [] s6.2 (none, r))) (E := (fun e => V Γ d mX12_unpack 62 [(0, .ref v0), (2, .int x1)] [] e (none, r))) (fun s r hb kI kE => sbX12_unpack_6 hd (s6 := s) (r := r) hb kI kE) FU ((0 : Int32), h) e12 e12L ?_
  refine v_iconst (v := 0) (q := 63) dX12_unpack_62 (by decide) rfl ?_
  refine v_istore_n (L' := [(3, .int (0 : Int32)), (0, .ref v0), (2, .int x1)]) (q := 64) dX12_unpack_63 rfl (by decide) rfl rfl ?_
  obtain ⟨e24, e24L, H⟩ := bs H
  refine V.sub [1, 2, 0] rfl ?_
  refine lp_V (P := (fun s64 => V Γ d mX12_unpack 64 [(0, .ref v0), (2, .int x1), (3, .int s64.1)] [] s64.2 (none, r))) (E := (fun e => V Γ d mX12_unpack 132 [] [] e (none, r))) (fun s r hb kI kE => sbX12_unpack_64 hd (s64 := s) (r := r) hb kI kE) FU ((0 : Int32), e12) e24 e24L ?_
  cases H
  exact v_return rfl dX12_unpack_132
def mX12_doMove : MI := (yX12_doMove, cX12_doMove, 4, none)
theorem oX12_doMove : mOK mX12_doMove 1 := ⟨by decide +kernel, by decide +kernel, by decide +kernel, by decide, w1912, w0150⟩
def jX12_doMove_125 (v0 : Nat) (v1 : Int32) (h : Hp) : Option (Hp) :=
(gR h 12 v0 36).bind fun x14 =>
(lI h .int x14 v1).bind fun x15 =>
(tI h x14 v1 (x15 + (1 : Int32))).bind fun h16 =>
some h16
set_option maxRecDepth 20000 in
set_option maxHeartbeats 4000000 in
theorem sjX12_doMove_125 {Γ : Gm} {d : Nat} (hd : 2 ≤ d) {v0 : Nat} {v1 : Int32} {h : Hp} {r : Hp} (H : jX12_doMove_125 v0 v1 h = some r) : V Γ d mX12_doMove 125 [(0, .ref v0), (1, .int v1)] [] h (none, r) := by
  unfold jX12_doMove_125 at H
  refine v_aload_n (q := 126) 0 dX12_doMove_125 rfl rfl rfl ?_
  obtain ⟨x14, x14e, H⟩ := bs H
  refine u_gR (q := 129) (r := (RX12, TX12, 58)) x14e dX12_doMove_126 w1392 rfl (by decide) rfl rfl ?_
  refine v_iload_n (q := 130) 1 dX12_doMove_129 rfl rfl rfl ?_
  refine v_dup2 (q := 131) dX12_doMove_130 rfl rfl rfl ?_
  obtain ⟨x15, x15e, H⟩ := bs H
  refine u_lI (q := 132) x15e dX12_doMove_131 rfl ?_
  refine v_iconst (v := 1) (q := 133) dX12_doMove_132 (by decide) rfl ?_
  refine v_iadd (q := 134) dX12_doMove_133 rfl ?_
  obtain ⟨h16, h16e, H⟩ := bs H
  refine u_tI (q := 135) h16e dX12_doMove_134 rfl ?_
  cases H
  exact v_return rfl dX12_doMove_135
def jX12_doMove_110 (v0 : Nat) (v1 : Int32) (v3 : Int32) (y0 : Int32) (y1 : Int32) (y2 : Nat) (h : Hp) : Option (Hp) :=
(tI h y2 y1 y0).bind fun h23 =>
(gR h23 12 v0 39).bind fun x24 =>
(lI h23 .int x24 v3).bind fun x25 =>
(tI h23 x24 v3 (x25 &&& (((1 : Int32) <<< (v1 &&& 31)) ^^^ (-1 : Int32)))).bind fun h26 =>
jX12_doMove_125 v0 v1 h26
set_option maxRecDepth 20000 in
set_option maxHeartbeats 4000000 in
theorem sjX12_doMove_110 {Γ : Gm} {d : Nat} (hd : 2 ≤ d) {v0 : Nat} {v1 : Int32} {v3 : Int32} {y0 : Int32} {y1 : Int32} {y2 : Nat} {h : Hp} {r : Hp} (H : jX12_doMove_110 v0 v1 v3 y0 y1 y2 h = some r) : V Γ d mX12_doMove 110 [(0, .ref v0), (1, .int v1), (3, .int v3)] [.int y0, .int y1, .ref y2] h (none, r) := by
  unfold jX12_doMove_110 at H
  obtain ⟨h23, h23e, H⟩ := bs H
  refine u_tI (q := 111) h23e dX12_doMove_110 rfl ?_
  refine v_aload_n (q := 112) 0 dX12_doMove_111 rfl rfl rfl ?_
  obtain ⟨x24, x24e, H⟩ := bs H
  refine u_gR (q := 115) (r := (RX12, TX12, 58)) x24e dX12_doMove_112 w1395 rfl (by decide) rfl rfl ?_
  refine v_iload_n (q := 116) 2 dX12_doMove_115 rfl rfl rfl ?_
  refine v_dup2 (q := 117) dX12_doMove_116 rfl rfl rfl ?_
  obtain ⟨x25, x25e, H⟩ := bs H
  refine u_lI (q := 118) x25e dX12_doMove_117 rfl ?_
  refine v_iconst (v := 1) (q := 119) dX12_doMove_118 (by decide) rfl ?_
  refine v_iload_n (q := 120) 1 dX12_doMove_119 rfl rfl rfl ?_
  refine v_ishl (q := 121) dX12_doMove_120 rfl ?_
  refine v_iconst (v := -1) (q := 122) dX12_doMove_121 (by decide) rfl ?_
  refine v_ixor (q := 123) dX12_doMove_122 rfl ?_
  refine v_iand (q := 124) dX12_doMove_123 rfl ?_
  obtain ⟨h26, h26e, H⟩ := bs H
  refine u_tI (q := 125) h26e dX12_doMove_124 rfl ?_
  exact V.sub [0, 1] rfl (sjX12_doMove_125 hd H)
def jX12_doMove_80 (v0 : Nat) (v1 : Int32) (v2 : Int32) (v3 : Int32) (h : Hp) : Option (Hp) :=
if v2 = (4 : Int32) then (
(gR h 12 v0 38).bind fun x17 =>
(gR h 12 v0 38).bind fun x18 =>
(lI h .int x18 v3).bind fun x19 =>
if x19 = v1 then (
jX12_doMove_110 v0 v1 v3 (-1 : Int32) v3 x17 h) else (
(gR h 12 v0 38).bind fun x21 =>
(lI h .int x21 v3).bind fun x22 =>
jX12_doMove_110 v0 v1 v3 x22 v3 x17 h)) else (
jX12_doMove_125 v0 v1 h)
set_option maxRecDepth 20000 in
set_option maxHeartbeats 4000000 in
theorem sjX12_doMove_80 {Γ : Gm} {d : Nat} (hd : 2 ≤ d) {v0 : Nat} {v1 : Int32} {v2 : Int32} {v3 : Int32} {h : Hp} {r : Hp} (H : jX12_doMove_80 v0 v1 v2 v3 h = some r) : V Γ d mX12_doMove 80 [(0, .ref v0), (1, .int v1), (2, .int v2), (3, .int v3)] [] h (none, r) := by
  unfold jX12_doMove_80 at H
  refine v_iload_n (q := 81) 2 dX12_doMove_80 rfl rfl rfl ?_
  refine v_iconst (v := 4) (q := 82) dX12_doMove_81 (by decide) rfl ?_
  refine v_icmp_ne (q1 := 125) (q2 := 85) dX12_doMove_82 (by decide) rfl (fun c13 => ?_) (fun c13 => ?_)
  · have H := ine c13 H
    exact V.sub [0, 1] rfl (sjX12_doMove_125 hd H)
  · have H := ip c13 H
    refine v_aload_n (q := 86) 0 dX12_doMove_85 rfl rfl rfl ?_
    obtain ⟨x17, x17e, H⟩ := bs H
    refine u_gR (q := 89) (r := (RX12, TX12, 58)) x17e dX12_doMove_86 w1394 rfl (by decide) rfl rfl ?_
    refine v_iload_n (q := 90) 3 dX12_doMove_89 rfl rfl rfl ?_
    refine v_aload_n (q := 91) 0 dX12_doMove_90 rfl rfl rfl ?_
    obtain ⟨x18, x18e, H⟩ := bs H
    refine u_gR (q := 94) (r := (RX12, TX12, 58)) x18e dX12_doMove_91 w1394 rfl (by decide) rfl rfl ?_
    refine v_iload_n (q := 95) 3 dX12_doMove_94 rfl rfl rfl ?_
    obtain ⟨x19, x19e, H⟩ := bs H
    refine u_lI (q := 96) x19e dX12_doMove_95 rfl ?_
    refine v_iload_n (q := 97) 1 dX12_doMove_96 rfl rfl rfl ?_
    refine v_icmp_ne (q1 := 104) (q2 := 100) dX12_doMove_97 (by decide) rfl (fun c20 => ?_) (fun c20 => ?_)
    · have H := ine c20 H
      refine v_aload_n (q := 105) 0 dX12_doMove_104 rfl rfl rfl ?_
      obtain ⟨x21, x21e, H⟩ := bs H
      refine u_gR (q := 108) (r := (RX12, TX12, 58)) x21e dX12_doMove_105 w1394 rfl (by decide) rfl rfl ?_
      refine v_iload_n (q := 109) 3 dX12_doMove_108 rfl rfl rfl ?_
      obtain ⟨x22, x22e, H⟩ := bs H
      refine u_lI (q := 110) x22e dX12_doMove_109 rfl ?_
      exact V.sub [0, 1, 3] rfl (sjX12_doMove_110 hd H)
    · have H := ip c20 H
      refine v_iconst (v := -1) (q := 101) dX12_doMove_100 (by decide) rfl ?_
      refine v_goto (q := 110) dX12_doMove_101 (by decide) ?_
      exact V.sub [0, 1, 3] rfl (sjX12_doMove_110 hd H)
def jX12_doMove_63 (v0 : Nat) (v1 : Int32) (v2 : Int32) (v3 : Int32) (h : Hp) : Option (Hp) :=
if v2 = (2 : Int32) then (
(gR h 12 v0 39).bind fun x27 =>
(lI h .int x27 v3).bind fun x28 =>
(tI h x27 v3 (x28 ||| ((1 : Int32) <<< (v1 &&& 31)))).bind fun h29 =>
jX12_doMove_80 v0 v1 v2 v3 h29) else (
jX12_doMove_80 v0 v1 v2 v3 h)
set_option maxRecDepth 20000 in
set_option maxHeartbeats 4000000 in
theorem sjX12_doMove_63 {Γ : Gm} {d : Nat} (hd : 2 ≤ d) {v0 : Nat} {v1 : Int32} {v2 : Int32} {v3 : Int32} {h : Hp} {r : Hp} (H : jX12_doMove_63 v0 v1 v2 v3 h = some r) : V Γ d mX12_doMove 63 [(0, .ref v0), (1, .int v1), (2, .int v2), (3, .int v3)] [] h (none, r) := by
  unfold jX12_doMove_63 at H
  refine v_iload_n (q := 64) 2 dX12_doMove_63 rfl rfl rfl ?_
  refine v_iconst (v := 2) (q := 65) dX12_doMove_64 (by decide) rfl ?_
  refine v_icmp_ne (q1 := 80) (q2 := 68) dX12_doMove_65 (by decide) rfl (fun c12 => ?_) (fun c12 => ?_)
  · have H := ine c12 H
    exact V.sub [0, 1, 2, 3] rfl (sjX12_doMove_80 hd H)
  · have H := ip c12 H
    refine v_aload_n (q := 69) 0 dX12_doMove_68 rfl rfl rfl ?_
    obtain ⟨x27, x27e, H⟩ := bs H
    refine u_gR (q := 72) (r := (RX12, TX12, 58)) x27e dX12_doMove_69 w1395 rfl (by decide) rfl rfl ?_
    refine v_iload_n (q := 73) 3 dX12_doMove_72 rfl rfl rfl ?_
    refine v_dup2 (q := 74) dX12_doMove_73 rfl rfl rfl ?_
    obtain ⟨x28, x28e, H⟩ := bs H
    refine u_lI (q := 75) x28e dX12_doMove_74 rfl ?_
    refine v_iconst (v := 1) (q := 76) dX12_doMove_75 (by decide) rfl ?_
    refine v_iload_n (q := 77) 1 dX12_doMove_76 rfl rfl rfl ?_
    refine v_ishl (q := 78) dX12_doMove_77 rfl ?_
    refine v_ior (q := 79) dX12_doMove_78 rfl ?_
    obtain ⟨h29, h29e, H⟩ := bs H
    refine u_tI (q := 80) h29e dX12_doMove_79 rfl ?_
    exact V.sub [0, 1, 2, 3] rfl (sjX12_doMove_80 hd H)
def jX12_doMove_56 (v0 : Nat) (v1 : Int32) (v2 : Int32) (v3 : Int32) (h : Hp) : Option (Hp) :=
(gR h 12 v0 38).bind fun x10 =>
(tI h x10 v3 v1).bind fun h11 =>
jX12_doMove_63 v0 v1 v2 v3 h11
set_option maxRecDepth 20000 in
set_option maxHeartbeats 4000000 in
theorem sjX12_doMove_56 {Γ : Gm} {d : Nat} (hd : 2 ≤ d) {v0 : Nat} {v1 : Int32} {v2 : Int32} {v3 : Int32} {h : Hp} {r : Hp} (H : jX12_doMove_56 v0 v1 v2 v3 h = some r) : V Γ d mX12_doMove 56 [(0, .ref v0), (1, .int v1), (2, .int v2), (3, .int v3)] [] h (none, r) := by
  unfold jX12_doMove_56 at H
  refine v_aload_n (q := 57) 0 dX12_doMove_56 rfl rfl rfl ?_
  obtain ⟨x10, x10e, H⟩ := bs H
  refine u_gR (q := 60) (r := (RX12, TX12, 58)) x10e dX12_doMove_57 w1394 rfl (by decide) rfl rfl ?_
  refine v_iload_n (q := 61) 3 dX12_doMove_60 rfl rfl rfl ?_
  refine v_iload_n (q := 62) 1 dX12_doMove_61 rfl rfl rfl ?_
  obtain ⟨h11, h11e, H⟩ := bs H
  refine u_tI (q := 63) h11e dX12_doMove_62 rfl ?_
  exact V.sub [0, 1, 2, 3] rfl (sjX12_doMove_63 hd H)
def fX12_doMove (h : Hp) (v0 : Nat) (v1 : Int32) : Option (Hp) :=
(gR h 12 v0 36).bind fun x1 =>
(lI h .int x1 v1).bind fun x2 =>
(gO h 12 v0).bind fun _ =>
(fX12_opOf h v0 v1 x2).bind fun x4 =>
(gR h 12 v0 36).bind fun x5 =>
(lI h .int x5 v1).bind fun x6 =>
(gO h 12 v0).bind fun _ =>
(fX12_lockOf h v0 v1 x6).bind fun x8 =>
if x4 = 0 then (
jX12_doMove_56 v0 v1 x4 x8 h) else (
if x4 = (1 : Int32) then (
jX12_doMove_56 v0 v1 x4 x8 h) else (
if x4 = (3 : Int32) then (
(gR h 12 v0 38).bind fun x32 =>
(lI h .int x32 x8).bind fun x33 =>
if 0 ≤ x33 then (
jX12_doMove_63 v0 v1 x4 x8 h) else (
(gR h 12 v0 39).bind fun x35 =>
(lI h .int x35 x8).bind fun x36 =>
if x36 = 0 then (
jX12_doMove_56 v0 v1 x4 x8 h) else (
jX12_doMove_63 v0 v1 x4 x8 h))) else (
jX12_doMove_63 v0 v1 x4 x8 h)))
set_option maxRecDepth 20000 in
set_option maxHeartbeats 4000000 in
theorem sX12_doMove {Γ : Gm} {d : Nat} (hd : 2 ≤ d) {h : Hp} {v0 : Nat} {v1 : Int32} {r : Hp} (H : fX12_doMove h v0 v1 = some r) : V Γ d mX12_doMove 0 [(0, .ref v0), (1, .int v1)] [] h (none, r) := by
  unfold fX12_doMove at H
  refine v_aload_n (q := 1) 0 dX12_doMove_0 rfl rfl rfl ?_
  refine v_iload_n (q := 2) 1 dX12_doMove_1 rfl rfl rfl ?_
  refine v_aload_n (q := 3) 0 dX12_doMove_2 rfl rfl rfl ?_
  obtain ⟨x1, x1e, H⟩ := bs H
  refine u_gR (q := 6) (r := (RX12, TX12, 58)) x1e dX12_doMove_3 w1392 rfl (by decide) rfl rfl ?_
  refine v_iload_n (q := 7) 1 dX12_doMove_6 rfl rfl rfl ?_
  obtain ⟨x2, x2e, H⟩ := bs H
  refine u_lI (q := 8) x2e dX12_doMove_7 rfl ?_
  obtain ⟨_, o3, H⟩ := bs H
  obtain ⟨x4, x4e, H⟩ := bs H
  refine u_callV1 (M' := mX12_opOf) (d' := 1) (rc := (RX12, TX12, 58)) (As := [.int v1, .int x2]) (st := []) (q := 11) oX12_opOf dX12_doMove_8 w1646 w1648 w0075 rfl rfl (gO_sp o3).1 (gO_sp o3).2 rfl (Nat.le_of_ble_eq_true rfl) (Nat.le_of_ble_eq_true rfl) (Nat.lt_of_lt_of_le (by decide) hd) rfl (sX12_opOf (Nat.le_refl _) x4e) rfl ?_
  refine v_istore_n (L' := [(2, .int x4), (0, .ref v0), (1, .int v1)]) (q := 12) dX12_doMove_11 rfl (by decide) rfl rfl ?_
  refine v_aload_n (q := 13) 1 dX12_doMove_12 rfl rfl rfl ?_
  refine v_iload_n (q := 14) 2 dX12_doMove_13 rfl rfl rfl ?_
  refine v_aload_n (q := 15) 1 dX12_doMove_14 rfl rfl rfl ?_
  obtain ⟨x5, x5e, H⟩ := bs H
  refine u_gR (q := 18) (r := (RX12, TX12, 58)) x5e dX12_doMove_15 w1392 rfl (by decide) rfl rfl ?_
  refine v_iload_n (q := 19) 2 dX12_doMove_18 rfl rfl rfl ?_
  obtain ⟨x6, x6e, H⟩ := bs H
  refine u_lI (q := 20) x6e dX12_doMove_19 rfl ?_
  obtain ⟨_, o7, H⟩ := bs H
  obtain ⟨x8, x8e, H⟩ := bs H
  refine u_callV1 (M' := mX12_lockOf) (d' := 1) (rc := (RX12, TX12, 58)) (As := [.int v1, .int x6]) (st := []) (q := 23) oX12_lockOf dX12_doMove_20 w1654 w1656 w0077 rfl rfl (gO_sp o7).1 (gO_sp o7).2 rfl (Nat.le_of_ble_eq_true rfl) (Nat.le_of_ble_eq_true rfl) (Nat.lt_of_lt_of_le (by decide) hd) rfl (sX12_lockOf (Nat.le_refl _) x8e) rfl ?_
  refine v_istore_n (L' := [(3, .int x8), (2, .int x4), (0, .ref v0), (1, .int v1)]) (q := 24) dX12_doMove_23 rfl (by decide) rfl rfl ?_
  refine v_iload_n (q := 25) 1 dX12_doMove_24 rfl rfl rfl ?_
  refine v_if_eq (q1 := 56) (q2 := 28) dX12_doMove_25 (by decide) rfl (fun c9 => ?_) (fun c9 => ?_)
  · have H := ip c9 H
    exact V.sub [2, 3, 1, 0] rfl (sjX12_doMove_56 hd H)
  · have H := ine c9 H
    refine v_iload_n (q := 29) 1 dX12_doMove_28 rfl rfl rfl ?_
    refine v_iconst (v := 1) (q := 30) dX12_doMove_29 (by decide) rfl ?_
    refine v_icmp_eq (q1 := 56) (q2 := 33) dX12_doMove_30 (by decide) rfl (fun c30 => ?_) (fun c30 => ?_)
    · have H := ip c30 H
      exact V.sub [2, 3, 1, 0] rfl (sjX12_doMove_56 hd H)
    · have H := ine c30 H
      refine v_iload_n (q := 34) 1 dX12_doMove_33 rfl rfl rfl ?_
      refine v_iconst (v := 3) (q := 35) dX12_doMove_34 (by decide) rfl ?_
      refine v_icmp_ne (q1 := 63) (q2 := 38) dX12_doMove_35 (by decide) rfl (fun c31 => ?_) (fun c31 => ?_)
      · have H := ine c31 H
        exact V.sub [2, 3, 1, 0] rfl (sjX12_doMove_63 hd H)
      · have H := ip c31 H
        refine v_aload_n (q := 39) 2 dX12_doMove_38 rfl rfl rfl ?_
        obtain ⟨x32, x32e, H⟩ := bs H
        refine u_gR (q := 42) (r := (RX12, TX12, 58)) x32e dX12_doMove_39 w1394 rfl (by decide) rfl rfl ?_
        refine v_iload_n (q := 43) 0 dX12_doMove_42 rfl rfl rfl ?_
        obtain ⟨x33, x33e, H⟩ := bs H
        refine u_lI (q := 44) x33e dX12_doMove_43 rfl ?_
        refine v_if_ge (q1 := 63) (q2 := 47) dX12_doMove_44 (by decide) rfl (fun c34 => ?_) (fun c34 => ?_)
        · have H := ip c34 H
          exact V.sub [2, 3, 1, 0] rfl (sjX12_doMove_63 hd H)
        · have H := ine c34 H
          refine v_aload_n (q := 48) 2 dX12_doMove_47 rfl rfl rfl ?_
          obtain ⟨x35, x35e, H⟩ := bs H
          refine u_gR (q := 51) (r := (RX12, TX12, 58)) x35e dX12_doMove_48 w1395 rfl (by decide) rfl rfl ?_
          refine v_iload_n (q := 52) 0 dX12_doMove_51 rfl rfl rfl ?_
          obtain ⟨x36, x36e, H⟩ := bs H
          refine u_lI (q := 53) x36e dX12_doMove_52 rfl ?_
          refine v_if_ne (q1 := 63) (q2 := 56) dX12_doMove_53 (by decide) rfl (fun c37 => ?_) (fun c37 => ?_)
          · have H := ine c37 H
            exact V.sub [2, 3, 1, 0] rfl (sjX12_doMove_63 hd H)
          · have H := ip c37 H
            exact V.sub [2, 3, 1, 0] rfl (sjX12_doMove_56 hd H)
def mX12_goFrom : MI := (yX12_goFrom, cX12_goFrom, 6, some .boolean)
theorem oX12_goFrom : mOK mX12_goFrom 1 := ⟨by decide +kernel, by decide +kernel, by decide +kernel, by decide, w1904, w0150⟩
def jX12_goFrom_140 (u0 : Nat) (u1 : Int32) (v2 : Int32) (u3 : Int32) (u4 : Int32) (v5 : Int32) (h : Hp) : Option ((Int32 × Int32 × Hp) ⊕ (Int32 × Hp)) :=
(some (v5 + (1 : Int32))).bind fun x28 =>
some (.inl (v2, x28, h))
set_option maxRecDepth 20000 in
set_option maxHeartbeats 4000000 in
theorem sjX12_goFrom_140 {Γ : Gm} {d : Nat} (hd : 7 ≤ d) {u0 : Nat} {u1 : Int32} {v2 : Int32} {u3 : Int32} {u4 : Int32} {v5 : Int32} {h : Hp} {r : (Int32 × Int32 × Hp) ⊕ (Int32 × Hp)} {t : Option Value × Hp} (H : jX12_goFrom_140 u0 u1 v2 u3 u4 v5 h = some r) (kI : ∀ s, r = .inl s → (fun s78 => V Γ d mX12_goFrom 78 [(0, .ref u0), (1, .int u1), (2, .int s78.1), (3, .int u3), (4, .int u4), (5, .int s78.2.1)] [] s78.2.2 t) s) (kE : ∀ e, r = .inr e → (fun e => V Γ d mX12_goFrom 146 [(0, .ref u0), (1, .int u1), (2, .int e.1), (3, .int u3)] [] e.2 t) e) : V Γ d mX12_goFrom 140 [(0, .ref u0), (1, .int u1), (2, .int v2), (3, .int u3), (4, .int u4), (5, .int v5)] [] h t := by
  unfold jX12_goFrom_140 at H
  obtain ⟨x28, x28e, H⟩ := bs H
  refine v_iinc (v := x28) (L' := [(5, .int x28), (0, .ref u0), (1, .int u1), (2, .int v2), (3, .int u3), (4, .int u4)]) (q := 143) 5 dX12_goFrom_140 rfl (Option.some.inj x28e) (by decide) rfl rfl ?_
  refine v_goto (q := 78) dX12_goFrom_143 (by decide) ?_
  exact V.sub [1, 2, 3, 4, 5, 0] rfl (kI (v2, x28, h) (Option.some.inj H).symm)
def bX12_goFrom_78 (u0 : Nat) (u1 : Int32) (u3 : Int32) (u4 : Int32) (s78 : Int32 × Int32 × Hp) : Option ((Int32 × Int32 × Hp) ⊕ (Int32 × Hp)) :=
if (6 : Int32) ≤ s78.2.1 then (
some (.inr (s78.1, s78.2.2))) else (
if s78.1 = 0 then (
some (.inr (s78.1, s78.2.2))) else (
(gI s78.2.2 12 u0 47).bind fun x15 =>
if 0 ≤ x15 then (
some (.inr (s78.1, s78.2.2))) else (
(gO s78.2.2 12 u0).bind fun _ =>
(fX12_unpack s78.2.2 u0 u1).bind fun x18 =>
(gO x18 12 u0).bind fun _ =>
(fX12_canCome x18 u0 s78.2.1 u4).bind fun x20 =>
if x20 = 0 then (
jX12_goFrom_140 u0 u1 s78.1 u3 u4 s78.2.1 x18) else (
(gR x18 12 u0 36).bind fun x22 =>
(tI x18 x22 s78.2.1 (0 : Int32)).bind fun h23 =>
(gR h23 12 u0 37).bind fun x24 =>
(tI h23 x24 s78.2.1 u3).bind fun h25 =>
(gO h25 12 u0).bind fun _ =>
(fX12_come h25 u0 u1 u3 s78.2.1).bind fun x27 =>
jX12_goFrom_140 u0 u1 x27.1 u3 u4 s78.2.1 x27.2))))
set_option maxRecDepth 20000 in
set_option maxHeartbeats 4000000 in
theorem sbX12_goFrom_78 {Γ : Gm} {d : Nat} (hd : 7 ≤ d) {u0 : Nat} {u1 : Int32} {u3 : Int32} {u4 : Int32} {s78 : Int32 × Int32 × Hp} {r : (Int32 × Int32 × Hp) ⊕ (Int32 × Hp)} {t : Option Value × Hp} (H : bX12_goFrom_78 u0 u1 u3 u4 s78 = some r) (kI : ∀ s, r = .inl s → (fun s78 => V Γ d mX12_goFrom 78 [(0, .ref u0), (1, .int u1), (2, .int s78.1), (3, .int u3), (4, .int u4), (5, .int s78.2.1)] [] s78.2.2 t) s) (kE : ∀ e, r = .inr e → (fun e => V Γ d mX12_goFrom 146 [(0, .ref u0), (1, .int u1), (2, .int e.1), (3, .int u3)] [] e.2 t) e) : V Γ d mX12_goFrom 78 [(0, .ref u0), (1, .int u1), (2, .int s78.1), (3, .int u3), (4, .int u4), (5, .int s78.2.1)] [] s78.2.2 t := by
  unfold bX12_goFrom_78 at H
  refine v_iload (q := 80) 5 dX12_goFrom_78 rfl rfl ?_
  refine v_bipush (v := 6) (q := 82) dX12_goFrom_80 (by decide) rfl ?_
  refine v_icmp_ge (q1 := 146) (q2 := 85) dX12_goFrom_82 (by decide) rfl (fun c13 => ?_) (fun c13 => ?_)
  · have H := ip c13 H
    exact V.sub [0, 1, 2, 3] rfl (kE (s78.1, s78.2.2) (Option.some.inj H).symm)
  · have H := ine c13 H
    refine v_iload_n (q := 86) 2 dX12_goFrom_85 rfl rfl rfl ?_
    refine v_if_eq (q1 := 146) (q2 := 89) dX12_goFrom_86 (by decide) rfl (fun c14 => ?_) (fun c14 => ?_)
    · have H := ip c14 H
      exact V.sub [0, 1, 2, 3] rfl (kE (s78.1, s78.2.2) (Option.some.inj H).symm)
    · have H := ine c14 H
      refine v_aload_n (q := 90) 0 dX12_goFrom_89 rfl rfl rfl ?_
      obtain ⟨x15, x15e, H⟩ := bs H
      refine u_gI (q := 93) (r := (RX12, TX12, 58)) x15e dX12_goFrom_90 w1403 rfl (by decide) rfl rfl ?_
      refine v_if_ge (q1 := 146) (q2 := 96) dX12_goFrom_93 (by decide) rfl (fun c16 => ?_) (fun c16 => ?_)
      · have H := ip c16 H
        exact V.sub [0, 1, 2, 3] rfl (kE (s78.1, s78.2.2) (Option.some.inj H).symm)
      · have H := ine c16 H
        refine v_aload_n (q := 97) 0 dX12_goFrom_96 rfl rfl rfl ?_
        refine v_iload_n (q := 98) 1 dX12_goFrom_97 rfl rfl rfl ?_
        obtain ⟨_, o17, H⟩ := bs H
        obtain ⟨x18, x18e, H⟩ := bs H
        refine u_callV0 (M' := mX12_unpack) (d' := 1) (rc := (RX12, TX12, 58)) (As := [.int u1]) (st := []) (q := 101) oX12_unpack dX12_goFrom_98 w1905 w1907 w0121 rfl rfl (gO_sp o17).1 (gO_sp o17).2 rfl (Nat.le_of_ble_eq_true rfl) (Nat.le_of_ble_eq_true rfl) (Nat.lt_of_lt_of_le (by decide) hd) rfl (sX12_unpack (Nat.le_refl _) x18e) rfl ?_
        refine v_aload_n (q := 102) 0 dX12_goFrom_101 rfl rfl rfl ?_
        refine v_iload (q := 104) 5 dX12_goFrom_102 rfl rfl ?_
        refine v_iload (q := 106) 4 dX12_goFrom_104 rfl rfl ?_
        obtain ⟨_, o19, H⟩ := bs H
        obtain ⟨x20, x20e, H⟩ := bs H
        refine u_callV1 (M' := mX12_canCome) (d' := 4) (rc := (RX12, TX12, 58)) (As := [.int s78.2.1, .int u4]) (st := []) (q := 109) oX12_canCome dX12_goFrom_106 w1913 w1915 w0123 rfl rfl (gO_sp o19).1 (gO_sp o19).2 rfl (Nat.le_of_ble_eq_true rfl) (Nat.le_of_ble_eq_true rfl) (Nat.lt_of_lt_of_le (by decide) hd) rfl (sX12_canCome (Nat.le_refl _) x20e) rfl ?_
        refine v_if_ne (q1 := 115) (q2 := 112) dX12_goFrom_109 (by decide) rfl (fun c21 => ?_) (fun c21 => ?_)
        · have H := ine c21 H
          refine v_aload_n (q := 116) 0 dX12_goFrom_115 rfl rfl rfl ?_
          obtain ⟨x22, x22e, H⟩ := bs H
          refine u_gR (q := 119) (r := (RX12, TX12, 58)) x22e dX12_goFrom_116 w1392 rfl (by decide) rfl rfl ?_
          refine v_iload (q := 121) 5 dX12_goFrom_119 rfl rfl ?_
          refine v_iconst (v := 0) (q := 122) dX12_goFrom_121 (by decide) rfl ?_
          obtain ⟨h23, h23e, H⟩ := bs H
          refine u_tI (q := 123) h23e dX12_goFrom_122 rfl ?_
          refine v_aload_n (q := 124) 0 dX12_goFrom_123 rfl rfl rfl ?_
          obtain ⟨x24, x24e, H⟩ := bs H
          refine u_gR (q := 127) (r := (RX12, TX12, 58)) x24e dX12_goFrom_124 w1393 rfl (by decide) rfl rfl ?_
          refine v_iload (q := 129) 5 dX12_goFrom_127 rfl rfl ?_
          refine v_iload_n (q := 130) 3 dX12_goFrom_129 rfl rfl rfl ?_
          obtain ⟨h25, h25e, H⟩ := bs H
          refine u_tI (q := 131) h25e dX12_goFrom_130 rfl ?_
          refine v_aload_n (q := 132) 0 dX12_goFrom_131 rfl rfl rfl ?_
          refine v_iload_n (q := 133) 1 dX12_goFrom_132 rfl rfl rfl ?_
          refine v_iload_n (q := 134) 3 dX12_goFrom_133 rfl rfl rfl ?_
          refine v_iload (q := 136) 5 dX12_goFrom_134 rfl rfl ?_
          obtain ⟨_, o26, H⟩ := bs H
          obtain ⟨x27, x27e, H⟩ := bs H
          refine u_callV1 (M' := mX12_come) (d' := 6) (rc := (RX12, TX12, 58)) (As := [.int u1, .int u3, .int s78.2.1]) (st := []) (q := 139) oX12_come dX12_goFrom_136 w1861 w1863 w0110 rfl rfl (gO_sp o26).1 (gO_sp o26).2 rfl (Nat.le_of_ble_eq_true rfl) (Nat.le_of_ble_eq_true rfl) (Nat.lt_of_lt_of_le (by decide) hd) rfl (sX12_come (Nat.le_refl _) x27e) rfl ?_
          refine v_istore_n (L' := [(2, .int x27.1), (0, .ref u0), (1, .int u1), (3, .int u3), (4, .int u4), (5, .int s78.2.1)]) (q := 140) dX12_goFrom_139 rfl (by decide) rfl rfl ?_
          exact V.sub [1, 2, 0, 3, 4, 5] rfl (sjX12_goFrom_140 hd H kI kE)
        · have H := ip c21 H
          refine v_goto (q := 140) dX12_goFrom_112 (by decide) ?_
          exact V.sub [0, 1, 2, 3, 4, 5] rfl (sjX12_goFrom_140 hd H kI kE)
def jX12_goFrom_146 (u0 : Nat) (u1 : Int32) (v2 : Int32) (v3 : Int32) (h : Hp) : Option ((Int32 × Int32 × Hp) ⊕ (Int32 × Hp)) :=
(some (v3 + (1 : Int32))).bind fun x30 =>
some (.inl (v2, x30, h))
set_option maxRecDepth 20000 in
set_option maxHeartbeats 4000000 in
theorem sjX12_goFrom_146 {Γ : Gm} {d : Nat} (hd : 7 ≤ d) {u0 : Nat} {u1 : Int32} {v2 : Int32} {v3 : Int32} {h : Hp} {r : (Int32 × Int32 × Hp) ⊕ (Int32 × Hp)} {t : Option Value × Hp} (H : jX12_goFrom_146 u0 u1 v2 v3 h = some r) (kI : ∀ s, r = .inl s → (fun s4 => V Γ d mX12_goFrom 4 [(0, .ref u0), (1, .int u1), (2, .int s4.1), (3, .int s4.2.1)] [] s4.2.2 t) s) (kE : ∀ e, r = .inr e → (fun e => V Γ d mX12_goFrom 152 [(2, .int e.1)] [] e.2 t) e) : V Γ d mX12_goFrom 146 [(0, .ref u0), (1, .int u1), (2, .int v2), (3, .int v3)] [] h t := by
  unfold jX12_goFrom_146 at H
  obtain ⟨x30, x30e, H⟩ := bs H
  refine v_iinc (v := x30) (L' := [(3, .int x30), (0, .ref u0), (1, .int u1), (2, .int v2)]) (q := 149) 3 dX12_goFrom_146 rfl (Option.some.inj x30e) (by decide) rfl rfl ?_
  refine v_goto (q := 4) dX12_goFrom_149 (by decide) ?_
  exact V.sub [1, 2, 3, 0] rfl (kI (v2, x30, h) (Option.some.inj H).symm)
def jX12_goFrom_75 (u0 : Nat) (u1 : Int32) (v2 : Int32) (v3 : Int32) (v4 : Int32) (h : Hp) : Option ((Int32 × Int32 × Hp) ⊕ (Int32 × Hp)) :=
(lp (bX12_goFrom_78 u0 u1 v3 v4) FU (v2, (0 : Int32), h)).bind fun e29 =>
jX12_goFrom_146 u0 u1 e29.1 v3 e29.2
set_option maxRecDepth 20000 in
set_option maxHeartbeats 4000000 in
theorem sjX12_goFrom_75 {Γ : Gm} {d : Nat} (hd : 7 ≤ d) {u0 : Nat} {u1 : Int32} {v2 : Int32} {v3 : Int32} {v4 : Int32} {h : Hp} {r : (Int32 × Int32 × Hp) ⊕ (Int32 × Hp)} {t : Option Value × Hp} (H : jX12_goFrom_75 u0 u1 v2 v3 v4 h = some r) (kI : ∀ s, r = .inl s → (fun s4 => V Γ d mX12_goFrom 4 [(0, .ref u0), (1, .int u1), (2, .int s4.1), (3, .int s4.2.1)] [] s4.2.2 t) s) (kE : ∀ e, r = .inr e → (fun e => V Γ d mX12_goFrom 152 [(2, .int e.1)] [] e.2 t) e) : V Γ d mX12_goFrom 75 [(0, .ref u0), (1, .int u1), (2, .int v2), (3, .int v3), (4, .int v4)] [] h t := by
  unfold jX12_goFrom_75 at H
  refine v_iconst (v := 0) (q := 76) dX12_goFrom_75 (by decide) rfl ?_
  refine v_istore (L' := [(5, .int (0 : Int32)), (0, .ref u0), (1, .int u1), (2, .int v2), (3, .int v3), (4, .int v4)]) (q := 78) dX12_goFrom_76 (by decide) rfl rfl ?_
  obtain ⟨e29, e29L, H⟩ := bs H
  refine V.sub [1, 2, 3, 4, 5, 0] rfl ?_
  refine lp_V (P := (fun s78 => V Γ d mX12_goFrom 78 [(0, .ref u0), (1, .int u1), (2, .int s78.1), (3, .int v3), (4, .int v4), (5, .int s78.2.1)] [] s78.2.2 t)) (E := (fun e => V Γ d mX12_goFrom 146 [(0, .ref u0), (1, .int u1), (2, .int e.1), (3, .int v3)] [] e.2 t)) (fun s r hb kI kE => sbX12_goFrom_78 hd (s78 := s) (r := r) hb kI kE) FU (v2, (0 : Int32), h) e29 e29L ?_
  exact V.sub [0, 1, 2, 3] rfl (sjX12_goFrom_146 hd H kI kE)
def bX12_goFrom_4 (u0 : Nat) (u1 : Int32) (s4 : Int32 × Int32 × Hp) : Option ((Int32 × Int32 × Hp) ⊕ (Int32 × Hp)) :=
if (6 : Int32) ≤ s4.2.1 then (
some (.inr (s4.1, s4.2.2))) else (
(gO s4.2.2 12 u0).bind fun _ =>
(fX12_isTask s4.2.2 u0 s4.2.1).bind fun x3 =>
if x3 = 0 then (
jX12_goFrom_146 u0 u1 s4.1 s4.2.1 s4.2.2) else (
(gO s4.2.2 12 u0).bind fun _ =>
(fX12_unpack s4.2.2 u0 u1).bind fun x6 =>
(gO x6 12 u0).bind fun _ =>
(fX12_goesOn x6 u0 s4.2.1).bind fun x8 =>
if 0 ≤ x8 then (
(gO x6 12 u0).bind fun _ =>
(fX12_isWaiting x6 u0 x8).bind fun x11 =>
if x11 = 0 then (
if s4.1 = 0 then (
jX12_goFrom_75 u0 u1 s4.1 s4.2.1 x8 x6) else (
(gI x6 12 u0 47).bind fun x32 =>
if 0 ≤ x32 then (
jX12_goFrom_75 u0 u1 s4.1 s4.2.1 x8 x6) else (
(gO x6 12 u0).bind fun _ =>
(fX12_doMove x6 u0 x8).bind fun x35 =>
(gO x35 12 u0).bind fun _ =>
(fX12_come x35 u0 u1 s4.2.1 (-1 : Int32)).bind fun x37 =>
jX12_goFrom_75 u0 u1 x37.1 s4.2.1 x8 x37.2))) else (
jX12_goFrom_75 u0 u1 s4.1 s4.2.1 x8 x6)) else (
jX12_goFrom_146 u0 u1 s4.1 s4.2.1 x6)))
set_option maxRecDepth 20000 in
set_option maxHeartbeats 4000000 in
theorem sbX12_goFrom_4 {Γ : Gm} {d : Nat} (hd : 7 ≤ d) {u0 : Nat} {u1 : Int32} {s4 : Int32 × Int32 × Hp} {r : (Int32 × Int32 × Hp) ⊕ (Int32 × Hp)} {t : Option Value × Hp} (H : bX12_goFrom_4 u0 u1 s4 = some r) (kI : ∀ s, r = .inl s → (fun s4 => V Γ d mX12_goFrom 4 [(0, .ref u0), (1, .int u1), (2, .int s4.1), (3, .int s4.2.1)] [] s4.2.2 t) s) (kE : ∀ e, r = .inr e → (fun e => V Γ d mX12_goFrom 152 [(2, .int e.1)] [] e.2 t) e) : V Γ d mX12_goFrom 4 [(0, .ref u0), (1, .int u1), (2, .int s4.1), (3, .int s4.2.1)] [] s4.2.2 t := by
  unfold bX12_goFrom_4 at H
  refine v_iload_n (q := 5) 3 dX12_goFrom_4 rfl rfl rfl ?_
  refine v_bipush (v := 6) (q := 7) dX12_goFrom_5 (by decide) rfl ?_
  refine v_icmp_ge (q1 := 152) (q2 := 10) dX12_goFrom_7 (by decide) rfl (fun c1 => ?_) (fun c1 => ?_)
  · have H := ip c1 H
    exact V.sub [2] rfl (kE (s4.1, s4.2.2) (Option.some.inj H).symm)
  · have H := ine c1 H
    refine v_aload_n (q := 11) 0 dX12_goFrom_10 rfl rfl rfl ?_
    refine v_iload_n (q := 12) 3 dX12_goFrom_11 rfl rfl rfl ?_
    obtain ⟨_, o2, H⟩ := bs H
    obtain ⟨x3, x3e, H⟩ := bs H
    refine u_callV1 (M' := mX12_isTask) (d' := 3) (rc := (RX12, TX12, 58)) (As := [.int s4.2.1]) (st := []) (q := 15) oX12_isTask dX12_goFrom_12 w1881 w1883 w0115 rfl rfl (gO_sp o2).1 (gO_sp o2).2 rfl (Nat.le_of_ble_eq_true rfl) (Nat.le_of_ble_eq_true rfl) (Nat.lt_of_lt_of_le (by decide) hd) rfl (sX12_isTask (Nat.le_refl _) x3e) rfl ?_
    refine v_if_ne (q1 := 21) (q2 := 18) dX12_goFrom_15 (by decide) rfl (fun c4 => ?_) (fun c4 => ?_)
    · have H := ine c4 H
      refine v_aload_n (q := 22) 0 dX12_goFrom_21 rfl rfl rfl ?_
      refine v_iload_n (q := 23) 1 dX12_goFrom_22 rfl rfl rfl ?_
      obtain ⟨_, o5, H⟩ := bs H
      obtain ⟨x6, x6e, H⟩ := bs H
      refine u_callV0 (M' := mX12_unpack) (d' := 1) (rc := (RX12, TX12, 58)) (As := [.int u1]) (st := []) (q := 26) oX12_unpack dX12_goFrom_23 w1905 w1907 w0121 rfl rfl (gO_sp o5).1 (gO_sp o5).2 rfl (Nat.le_of_ble_eq_true rfl) (Nat.le_of_ble_eq_true rfl) (Nat.lt_of_lt_of_le (by decide) hd) rfl (sX12_unpack (Nat.le_refl _) x6e) rfl ?_
      refine v_aload_n (q := 27) 0 dX12_goFrom_26 rfl rfl rfl ?_
      refine v_iload_n (q := 28) 3 dX12_goFrom_27 rfl rfl rfl ?_
      obtain ⟨_, o7, H⟩ := bs H
      obtain ⟨x8, x8e, H⟩ := bs H
      refine u_callV1 (M' := mX12_goesOn) (d' := 3) (rc := (RX12, TX12, 58)) (As := [.int s4.2.1]) (st := []) (q := 31) oX12_goesOn dX12_goFrom_28 w1885 w1887 w0116 rfl rfl (gO_sp o7).1 (gO_sp o7).2 rfl (Nat.le_of_ble_eq_true rfl) (Nat.le_of_ble_eq_true rfl) (Nat.lt_of_lt_of_le (by decide) hd) rfl (sX12_goesOn (Nat.le_refl _) x8e) rfl ?_
      refine v_istore (L' := [(4, .int x8), (0, .ref u0), (1, .int u1), (2, .int s4.1), (3, .int s4.2.1)]) (q := 33) dX12_goFrom_31 (by decide) rfl rfl ?_
      refine v_iload (q := 35) 0 dX12_goFrom_33 rfl rfl ?_
      refine v_if_ge (q1 := 41) (q2 := 38) dX12_goFrom_35 (by decide) rfl (fun c9 => ?_) (fun c9 => ?_)
      · have H := ip c9 H
        refine v_aload_n (q := 42) 1 dX12_goFrom_41 rfl rfl rfl ?_
        refine v_iload (q := 44) 0 dX12_goFrom_42 rfl rfl ?_
        obtain ⟨_, o10, H⟩ := bs H
        obtain ⟨x11, x11e, H⟩ := bs H
        refine u_callV1 (M' := mX12_isWaiting) (d' := 2) (rc := (RX12, TX12, 58)) (As := [.int x8]) (st := []) (q := 47) oX12_isWaiting dX12_goFrom_44 w1893 w1895 w0118 rfl rfl (gO_sp o10).1 (gO_sp o10).2 rfl (Nat.le_of_ble_eq_true rfl) (Nat.le_of_ble_eq_true rfl) (Nat.lt_of_lt_of_le (by decide) hd) rfl (sX12_isWaiting (Nat.le_refl _) x11e) rfl ?_
        refine v_if_ne (q1 := 75) (q2 := 50) dX12_goFrom_47 (by decide) rfl (fun c12 => ?_) (fun c12 => ?_)
        · have H := ine c12 H
          exact V.sub [1, 2, 3, 4, 0] rfl (sjX12_goFrom_75 hd H kI kE)
        · have H := ip c12 H
          refine v_iload_n (q := 51) 3 dX12_goFrom_50 rfl rfl rfl ?_
          refine v_if_eq (q1 := 75) (q2 := 54) dX12_goFrom_51 (by decide) rfl (fun c31 => ?_) (fun c31 => ?_)
          · have H := ip c31 H
            exact V.sub [1, 2, 3, 4, 0] rfl (sjX12_goFrom_75 hd H kI kE)
          · have H := ine c31 H
            refine v_aload_n (q := 55) 1 dX12_goFrom_54 rfl rfl rfl ?_
            obtain ⟨x32, x32e, H⟩ := bs H
            refine u_gI (q := 58) (r := (RX12, TX12, 58)) x32e dX12_goFrom_55 w1403 rfl (by decide) rfl rfl ?_
            refine v_if_ge (q1 := 75) (q2 := 61) dX12_goFrom_58 (by decide) rfl (fun c33 => ?_) (fun c33 => ?_)
            · have H := ip c33 H
              exact V.sub [1, 2, 3, 4, 0] rfl (sjX12_goFrom_75 hd H kI kE)
            · have H := ine c33 H
              refine v_aload_n (q := 62) 1 dX12_goFrom_61 rfl rfl rfl ?_
              refine v_iload (q := 64) 0 dX12_goFrom_62 rfl rfl ?_
              obtain ⟨_, o34, H⟩ := bs H
              obtain ⟨x35, x35e, H⟩ := bs H
              refine u_callV0 (M' := mX12_doMove) (d' := 2) (rc := (RX12, TX12, 58)) (As := [.int x8]) (st := []) (q := 67) oX12_doMove dX12_goFrom_64 w1909 w1911 w0122 rfl rfl (gO_sp o34).1 (gO_sp o34).2 rfl (Nat.le_of_ble_eq_true rfl) (Nat.le_of_ble_eq_true rfl) (Nat.lt_of_lt_of_le (by decide) hd) rfl (sX12_doMove (Nat.le_refl _) x35e) rfl ?_
              refine v_aload_n (q := 68) 1 dX12_goFrom_67 rfl rfl rfl ?_
              refine v_iload_n (q := 69) 2 dX12_goFrom_68 rfl rfl rfl ?_
              refine v_iload_n (q := 70) 4 dX12_goFrom_69 rfl rfl rfl ?_
              refine v_iconst (v := -1) (q := 71) dX12_goFrom_70 (by decide) rfl ?_
              obtain ⟨_, o36, H⟩ := bs H
              obtain ⟨x37, x37e, H⟩ := bs H
              refine u_callV1 (M' := mX12_come) (d' := 6) (rc := (RX12, TX12, 58)) (As := [.int u1, .int s4.2.1, .int (-1 : Int32)]) (st := []) (q := 74) oX12_come dX12_goFrom_71 w1861 w1863 w0110 rfl rfl (gO_sp o36).1 (gO_sp o36).2 rfl (Nat.le_of_ble_eq_true rfl) (Nat.le_of_ble_eq_true rfl) (Nat.lt_of_lt_of_le (by decide) hd) rfl (sX12_come (Nat.le_refl _) x37e) rfl ?_
              refine v_istore_n (L' := [(2, .int x37.1), (4, .int x8), (0, .ref u0), (1, .int u1), (3, .int s4.2.1)]) (q := 75) dX12_goFrom_74 rfl (by decide) rfl rfl ?_
              exact V.sub [2, 3, 0, 4, 1] rfl (sjX12_goFrom_75 hd H kI kE)
      · have H := ine c9 H
        refine v_goto (q := 146) dX12_goFrom_38 (by decide) ?_
        exact V.sub [1, 2, 3, 4] rfl (sjX12_goFrom_146 hd H kI kE)
    · have H := ip c4 H
      refine v_goto (q := 146) dX12_goFrom_18 (by decide) ?_
      exact V.sub [0, 1, 2, 3] rfl (sjX12_goFrom_146 hd H kI kE)
def fX12_goFrom (h : Hp) (v0 : Nat) (v1 : Int32) : Option (Int32 × Hp) :=
(lp (bX12_goFrom_4 v0 v1) FU ((1 : Int32), (0 : Int32), h)).bind fun e38 =>
(bz e38.1).bind fun x39 =>
some (x39, e38.2)
set_option maxRecDepth 20000 in
set_option maxHeartbeats 4000000 in
theorem sX12_goFrom {Γ : Gm} {d : Nat} (hd : 7 ≤ d) {h : Hp} {v0 : Nat} {v1 : Int32} {r : Int32 × Hp} (H : fX12_goFrom h v0 v1 = some r) : V Γ d mX12_goFrom 0 [(0, .ref v0), (1, .int v1)] [] h (some (.int r.1), r.2) := by
  unfold fX12_goFrom at H
  refine v_iconst (v := 1) (q := 1) dX12_goFrom_0 (by decide) rfl ?_
  refine v_istore_n (L' := [(2, .int (1 : Int32)), (0, .ref v0), (1, .int v1)]) (q := 2) dX12_goFrom_1 rfl (by decide) rfl rfl ?_
  refine v_iconst (v := 0) (q := 3) dX12_goFrom_2 (by decide) rfl ?_
  refine v_istore_n (L' := [(3, .int (0 : Int32)), (2, .int (1 : Int32)), (0, .ref v0), (1, .int v1)]) (q := 4) dX12_goFrom_3 rfl (by decide) rfl rfl ?_
  obtain ⟨e38, e38L, H⟩ := bs H
  refine V.sub [2, 3, 1, 0] rfl ?_
  refine lp_V (P := (fun s4 => V Γ d mX12_goFrom 4 [(0, .ref v0), (1, .int v1), (2, .int s4.1), (3, .int s4.2.1)] [] s4.2.2 (some (.int r.1), r.2))) (E := (fun e => V Γ d mX12_goFrom 152 [(2, .int e.1)] [] e.2 (some (.int r.1), r.2))) (fun s r hb kI kE => sbX12_goFrom_4 hd (s4 := s) (r := r) hb kI kE) FU ((1 : Int32), (0 : Int32), h) e38 e38L ?_
  refine v_iload_n (q := 153) 0 dX12_goFrom_152 rfl rfl rfl ?_
  obtain ⟨x39, x39e, H⟩ := bs H
  obtain ⟨x39q, x39z⟩ := bz_sp x39e
  refine v_topi x39q.symm ?_
  cases H
  exact v_zreturn rfl (by rw [x39q]; exact x39z) dX12_goFrom_153
def mX12_search : MI := (yX12_search, cX12_search, 4, some .boolean)
theorem oX12_search : mOK mX12_search 1 := ⟨by decide +kernel, by decide +kernel, by decide +kernel, by decide, w1852, w0150⟩
def bX12_search_15 (u0 : Nat) (s15 : Int32 × Int32 × Hp) : Option ((Int32 × Int32 × Hp) ⊕ (Int32 × Hp)) :=
(gI s15.2.2 12 u0 46).bind fun x5 =>
if x5 ≤ s15.2.1 then (
some (.inr (s15.1, s15.2.2))) else (
if s15.1 = 0 then (
some (.inr (s15.1, s15.2.2))) else (
(gI s15.2.2 12 u0 47).bind fun x8 =>
if 0 ≤ x8 then (
some (.inr (s15.1, s15.2.2))) else (
(gO s15.2.2 12 u0).bind fun _ =>
(fX12_goFrom s15.2.2 u0 s15.2.1).bind fun x11 =>
(some (s15.2.1 + (1 : Int32))).bind fun x12 =>
some (.inl (x11.1, x12, x11.2)))))
set_option maxRecDepth 20000 in
set_option maxHeartbeats 4000000 in
theorem sbX12_search_15 {Γ : Gm} {d : Nat} (hd : 8 ≤ d) {u0 : Nat} {s15 : Int32 × Int32 × Hp} {r : (Int32 × Int32 × Hp) ⊕ (Int32 × Hp)} {t : Option Value × Hp} (H : bX12_search_15 u0 s15 = some r) (kI : ∀ s, r = .inl s → (fun s15 => V Γ d mX12_search 15 [(0, .ref u0), (2, .int s15.1), (3, .int s15.2.1)] [] s15.2.2 t) s) (kE : ∀ e, r = .inr e → (fun e => V Γ d mX12_search 46 [(2, .int e.1)] [] e.2 t) e) : V Γ d mX12_search 15 [(0, .ref u0), (2, .int s15.1), (3, .int s15.2.1)] [] s15.2.2 t := by
  unfold bX12_search_15 at H
  refine v_iload_n (q := 16) 2 dX12_search_15 rfl rfl rfl ?_
  refine v_aload_n (q := 17) 0 dX12_search_16 rfl rfl rfl ?_
  obtain ⟨x5, x5e, H⟩ := bs H
  refine u_gI (q := 20) (r := (RX12, TX12, 58)) x5e dX12_search_17 w1402 rfl (by decide) rfl rfl ?_
  refine v_icmp_ge (q1 := 46) (q2 := 23) dX12_search_20 (by decide) rfl (fun c6 => ?_) (fun c6 => ?_)
  · have H := ip c6 H
    exact V.sub [1] rfl (kE (s15.1, s15.2.2) (Option.some.inj H).symm)
  · have H := ine c6 H
    refine v_iload_n (q := 24) 1 dX12_search_23 rfl rfl rfl ?_
    refine v_if_eq (q1 := 46) (q2 := 27) dX12_search_24 (by decide) rfl (fun c7 => ?_) (fun c7 => ?_)
    · have H := ip c7 H
      exact V.sub [1] rfl (kE (s15.1, s15.2.2) (Option.some.inj H).symm)
    · have H := ine c7 H
      refine v_aload_n (q := 28) 0 dX12_search_27 rfl rfl rfl ?_
      obtain ⟨x8, x8e, H⟩ := bs H
      refine u_gI (q := 31) (r := (RX12, TX12, 58)) x8e dX12_search_28 w1403 rfl (by decide) rfl rfl ?_
      refine v_if_ge (q1 := 46) (q2 := 34) dX12_search_31 (by decide) rfl (fun c9 => ?_) (fun c9 => ?_)
      · have H := ip c9 H
        exact V.sub [1] rfl (kE (s15.1, s15.2.2) (Option.some.inj H).symm)
      · have H := ine c9 H
        refine v_aload_n (q := 35) 0 dX12_search_34 rfl rfl rfl ?_
        refine v_iload_n (q := 36) 2 dX12_search_35 rfl rfl rfl ?_
        obtain ⟨_, o10, H⟩ := bs H
        obtain ⟨x11, x11e, H⟩ := bs H
        refine u_callV1 (M' := mX12_goFrom) (d' := 7) (rc := (RX12, TX12, 58)) (As := [.int s15.2.1]) (st := []) (q := 39) oX12_goFrom dX12_search_36 w1901 w1903 w0120 rfl rfl (gO_sp o10).1 (gO_sp o10).2 rfl (Nat.le_of_ble_eq_true rfl) (Nat.le_of_ble_eq_true rfl) (Nat.lt_of_lt_of_le (by decide) hd) rfl (sX12_goFrom (Nat.le_refl _) x11e) rfl ?_
        refine v_istore_n (L' := [(2, .int x11.1), (0, .ref u0), (3, .int s15.2.1)]) (q := 40) dX12_search_39 rfl (by decide) rfl rfl ?_
        obtain ⟨x12, x12e, H⟩ := bs H
        refine v_iinc (v := x12) (L' := [(3, .int x12), (2, .int x11.1), (0, .ref u0)]) (q := 43) 2 dX12_search_40 rfl (Option.some.inj x12e) (by decide) rfl rfl ?_
        refine v_goto (q := 15) dX12_search_43 (by decide) ?_
        exact V.sub [2, 1, 0] rfl (kI (x11.1, x12, x11.2) (Option.some.inj H).symm)
def fX12_search (h : Hp) (v0 : Nat) (v1 : Int32) : Option (Int32 × Hp) :=
(gO h 12 v0).bind fun _ =>
(fX12_beginMoments h v0 v1).bind fun x2 =>
(gO x2 12 v0).bind fun _ =>
(fX12_come x2 v0 (-1 : Int32) (-1 : Int32) (-1 : Int32)).bind fun x4 =>
(lp (bX12_search_15 v0) FU (x4.1, (0 : Int32), x4.2)).bind fun e13 =>
(bz e13.1).bind fun x14 =>
some (x14, e13.2)
set_option maxRecDepth 20000 in
set_option maxHeartbeats 4000000 in
theorem sX12_search {Γ : Gm} {d : Nat} (hd : 8 ≤ d) {h : Hp} {v0 : Nat} {v1 : Int32} {r : Int32 × Hp} (H : fX12_search h v0 v1 = some r) : V Γ d mX12_search 0 [(0, .ref v0), (1, .int v1)] [] h (some (.int r.1), r.2) := by
  unfold fX12_search at H
  refine v_aload_n (q := 1) 0 dX12_search_0 rfl rfl rfl ?_
  refine v_iload_n (q := 2) 1 dX12_search_1 rfl rfl rfl ?_
  obtain ⟨_, o1, H⟩ := bs H
  obtain ⟨x2, x2e, H⟩ := bs H
  refine u_callV0 (M' := mX12_beginMoments) (d' := 3) (rc := (RX12, TX12, 58)) (As := [.int v1]) (st := []) (q := 5) oX12_beginMoments dX12_search_2 w1853 w1855 w0108 rfl rfl (gO_sp o1).1 (gO_sp o1).2 rfl (Nat.le_of_ble_eq_true rfl) (Nat.le_of_ble_eq_true rfl) (Nat.lt_of_lt_of_le (by decide) hd) rfl (sX12_beginMoments (Nat.le_refl _) x2e) rfl ?_
  refine v_aload_n (q := 6) 0 dX12_search_5 rfl rfl rfl ?_
  refine v_iconst (v := -1) (q := 7) dX12_search_6 (by decide) rfl ?_
  refine v_iconst (v := -1) (q := 8) dX12_search_7 (by decide) rfl ?_
  refine v_iconst (v := -1) (q := 9) dX12_search_8 (by decide) rfl ?_
  obtain ⟨_, o3, H⟩ := bs H
  obtain ⟨x4, x4e, H⟩ := bs H
  refine u_callV1 (M' := mX12_come) (d' := 6) (rc := (RX12, TX12, 58)) (As := [.int (-1 : Int32), .int (-1 : Int32), .int (-1 : Int32)]) (st := []) (q := 12) oX12_come dX12_search_9 w1861 w1863 w0110 rfl rfl (gO_sp o3).1 (gO_sp o3).2 rfl (Nat.le_of_ble_eq_true rfl) (Nat.le_of_ble_eq_true rfl) (Nat.lt_of_lt_of_le (by decide) hd) rfl (sX12_come (Nat.le_refl _) x4e) rfl ?_
  refine v_istore_n (L' := [(2, .int x4.1), (0, .ref v0), (1, .int v1)]) (q := 13) dX12_search_12 rfl (by decide) rfl rfl ?_
  refine v_iconst (v := 0) (q := 14) dX12_search_13 (by decide) rfl ?_
  refine v_istore_n (L' := [(3, .int (0 : Int32)), (2, .int x4.1), (0, .ref v0), (1, .int v1)]) (q := 15) dX12_search_14 rfl (by decide) rfl rfl ?_
  obtain ⟨e13, e13L, H⟩ := bs H
  refine V.sub [2, 1, 0] rfl ?_
  refine lp_V (P := (fun s15 => V Γ d mX12_search 15 [(0, .ref v0), (2, .int s15.1), (3, .int s15.2.1)] [] s15.2.2 (some (.int r.1), r.2))) (E := (fun e => V Γ d mX12_search 46 [(2, .int e.1)] [] e.2 (some (.int r.1), r.2))) (fun s r hb kI kE => sbX12_search_15 hd (s15 := s) (r := r) hb kI kE) FU (x4.1, (0 : Int32), x4.2) e13 e13L ?_
  refine v_iload_n (q := 47) 0 dX12_search_46 rfl rfl rfl ?_
  obtain ⟨x14, x14e, H⟩ := bs H
  obtain ⟨x14q, x14z⟩ := bz_sp x14e
  refine v_topi x14q.symm ?_
  cases H
  exact v_zreturn rfl (by rw [x14q]; exact x14z) dX12_search_47
def mX12_movesTo : MI := (yX12_movesTo, cX12_movesTo, 4, some .int)
theorem oX12_movesTo : mOK mX12_movesTo 1 := ⟨by decide +kernel, by decide +kernel, by decide +kernel, by decide, w1920, w0150⟩
def bX12_movesTo_4 (u0 : Nat) (h : Hp) (s4 : Int32 × Int32) : Option ((Int32 × Int32) ⊕ (Int32)) :=
(gR h 12 u0 42).bind fun x1 =>
(lI h .int x1 s4.2).bind fun x2 =>
if x2 < 0 then (
some (.inr s4.1)) else (
(some (s4.1 + (1 : Int32))).bind fun x4 =>
(gR h 12 u0 42).bind fun x5 =>
(lI h .int x5 s4.2).bind fun x6 =>
some (.inl (x4, x6)))
set_option maxRecDepth 20000 in
set_option maxHeartbeats 4000000 in
theorem sbX12_movesTo_4 {Γ : Gm} {d : Nat} (hd : 1 ≤ d) {u0 : Nat} {h : Hp} {s4 : Int32 × Int32} {r : (Int32 × Int32) ⊕ (Int32)} {t : Option Value × Hp} (H : bX12_movesTo_4 u0 h s4 = some r) (kI : ∀ s, r = .inl s → (fun s4 => V Γ d mX12_movesTo 4 [(0, .ref u0), (2, .int s4.1), (3, .int s4.2)] [] h t) s) (kE : ∀ e, r = .inr e → (fun e => V Γ d mX12_movesTo 26 [(2, .int e)] [] h t) e) : V Γ d mX12_movesTo 4 [(0, .ref u0), (2, .int s4.1), (3, .int s4.2)] [] h t := by
  unfold bX12_movesTo_4 at H
  refine v_aload_n (q := 5) 0 dX12_movesTo_4 rfl rfl rfl ?_
  obtain ⟨x1, x1e, H⟩ := bs H
  refine u_gR (q := 8) (r := (RX12, TX12, 58)) x1e dX12_movesTo_5 w1398 rfl (by decide) rfl rfl ?_
  refine v_iload_n (q := 9) 2 dX12_movesTo_8 rfl rfl rfl ?_
  obtain ⟨x2, x2e, H⟩ := bs H
  refine u_lI (q := 10) x2e dX12_movesTo_9 rfl ?_
  refine v_if_lt (q1 := 26) (q2 := 13) dX12_movesTo_10 (by decide) rfl (fun c3 => ?_) (fun c3 => ?_)
  · have H := ip c3 H
    exact V.sub [1] rfl (kE s4.1 (Option.some.inj H).symm)
  · have H := ine c3 H
    obtain ⟨x4, x4e, H⟩ := bs H
    refine v_iinc (v := x4) (L' := [(2, .int x4), (0, .ref u0), (3, .int s4.2)]) (q := 16) 1 dX12_movesTo_13 rfl (Option.some.inj x4e) (by decide) rfl rfl ?_
    refine v_aload_n (q := 17) 1 dX12_movesTo_16 rfl rfl rfl ?_
    obtain ⟨x5, x5e, H⟩ := bs H
    refine u_gR (q := 20) (r := (RX12, TX12, 58)) x5e dX12_movesTo_17 w1398 rfl (by decide) rfl rfl ?_
    refine v_iload_n (q := 21) 2 dX12_movesTo_20 rfl rfl rfl ?_
    obtain ⟨x6, x6e, H⟩ := bs H
    refine u_lI (q := 22) x6e dX12_movesTo_21 rfl ?_
    refine v_istore_n (L' := [(3, .int x6), (2, .int x4), (0, .ref u0)]) (q := 23) dX12_movesTo_22 rfl (by decide) rfl rfl ?_
    refine v_goto (q := 4) dX12_movesTo_23 (by decide) ?_
    exact V.sub [2, 1, 0] rfl (kI (x4, x6) (Option.some.inj H).symm)
def fX12_movesTo (h : Hp) (v0 : Nat) (v1 : Int32) : Option (Int32) :=
(lp (bX12_movesTo_4 v0 h) FU ((0 : Int32), v1)).bind fun e7 =>
some e7
set_option maxRecDepth 20000 in
set_option maxHeartbeats 4000000 in
theorem sX12_movesTo {Γ : Gm} {d : Nat} (hd : 1 ≤ d) {h : Hp} {v0 : Nat} {v1 : Int32} {r : Int32} (H : fX12_movesTo h v0 v1 = some r) : V Γ d mX12_movesTo 0 [(0, .ref v0), (1, .int v1)] [] h (some (.int r), h) := by
  unfold fX12_movesTo at H
  refine v_iconst (v := 0) (q := 1) dX12_movesTo_0 (by decide) rfl ?_
  refine v_istore_n (L' := [(2, .int (0 : Int32)), (0, .ref v0), (1, .int v1)]) (q := 2) dX12_movesTo_1 rfl (by decide) rfl rfl ?_
  refine v_iload_n (q := 3) 2 dX12_movesTo_2 rfl rfl rfl ?_
  refine v_istore_n (L' := [(3, .int v1), (2, .int (0 : Int32)), (0, .ref v0), (1, .int v1)]) (q := 4) dX12_movesTo_3 rfl (by decide) rfl rfl ?_
  obtain ⟨e7, e7L, H⟩ := bs H
  refine V.sub [2, 1, 0] rfl ?_
  refine lp_V (P := (fun s4 => V Γ d mX12_movesTo 4 [(0, .ref v0), (2, .int s4.1), (3, .int s4.2)] [] h (some (.int r), h))) (E := (fun e => V Γ d mX12_movesTo 26 [(2, .int e)] [] h (some (.int r), h))) (fun s r hb kI kE => sbX12_movesTo_4 hd (s4 := s) (r := r) hb kI kE) FU ((0 : Int32), v1) e7 e7L ?_
  refine v_iload_n (q := 27) 0 dX12_movesTo_26 rfl rfl rfl ?_
  cases H
  exact v_ireturn rfl dX12_movesTo_27
def mX12_ringTasks : MI := (yX12_ringTasks, cX12_ringTasks, 3, some .int)
theorem oX12_ringTasks : mOK mX12_ringTasks 0 := ⟨by decide +kernel, by decide +kernel, by decide +kernel, by decide, w1924, w0150⟩
def bX12_ringTasks_4 (u0 : Nat) (h : Hp) (s4 : Int32 × Int32) : Option ((Int32 × Int32) ⊕ (Int32)) :=
(gI h 12 u0 52).bind fun x1 =>
if x1 ≤ s4.2 then (
some (.inr s4.1)) else (
(gR h 12 u0 50).bind fun x3 =>
(lI h .int x3 s4.2).bind fun x4 =>
(some (s4.1 ||| ((1 : Int32) <<< (x4 &&& 31)))).bind fun x5 =>
(some (s4.2 + (1 : Int32))).bind fun x6 =>
some (.inl (x5, x6)))
set_option maxRecDepth 20000 in
set_option maxHeartbeats 4000000 in
theorem sbX12_ringTasks_4 {Γ : Gm} {d : Nat} (hd : 1 ≤ d) {u0 : Nat} {h : Hp} {s4 : Int32 × Int32} {r : (Int32 × Int32) ⊕ (Int32)} {t : Option Value × Hp} (H : bX12_ringTasks_4 u0 h s4 = some r) (kI : ∀ s, r = .inl s → (fun s4 => V Γ d mX12_ringTasks 4 [(0, .ref u0), (1, .int s4.1), (2, .int s4.2)] [] h t) s) (kE : ∀ e, r = .inr e → (fun e => V Γ d mX12_ringTasks 29 [(1, .int e)] [] h t) e) : V Γ d mX12_ringTasks 4 [(0, .ref u0), (1, .int s4.1), (2, .int s4.2)] [] h t := by
  unfold bX12_ringTasks_4 at H
  refine v_iload_n (q := 5) 2 dX12_ringTasks_4 rfl rfl rfl ?_
  refine v_aload_n (q := 6) 0 dX12_ringTasks_5 rfl rfl rfl ?_
  obtain ⟨x1, x1e, H⟩ := bs H
  refine u_gI (q := 9) (r := (RX12, TX12, 58)) x1e dX12_ringTasks_6 w1408 rfl (by decide) rfl rfl ?_
  refine v_icmp_ge (q1 := 29) (q2 := 12) dX12_ringTasks_9 (by decide) rfl (fun c2 => ?_) (fun c2 => ?_)
  · have H := ip c2 H
    exact V.sub [1] rfl (kE s4.1 (Option.some.inj H).symm)
  · have H := ine c2 H
    refine v_iload_n (q := 13) 1 dX12_ringTasks_12 rfl rfl rfl ?_
    refine v_iconst (v := 1) (q := 14) dX12_ringTasks_13 (by decide) rfl ?_
    refine v_aload_n (q := 15) 0 dX12_ringTasks_14 rfl rfl rfl ?_
    obtain ⟨x3, x3e, H⟩ := bs H
    refine u_gR (q := 18) (r := (RX12, TX12, 58)) x3e dX12_ringTasks_15 w1406 rfl (by decide) rfl rfl ?_
    refine v_iload_n (q := 19) 2 dX12_ringTasks_18 rfl rfl rfl ?_
    obtain ⟨x4, x4e, H⟩ := bs H
    refine u_lI (q := 20) x4e dX12_ringTasks_19 rfl ?_
    refine v_ishl (q := 21) dX12_ringTasks_20 rfl ?_
    refine v_ior (q := 22) dX12_ringTasks_21 rfl ?_
    obtain ⟨x5, x5e, H⟩ := bs H
    refine v_topi (Option.some.inj x5e) ?_
    refine v_istore_n (L' := [(1, .int x5), (0, .ref u0), (2, .int s4.2)]) (q := 23) dX12_ringTasks_22 rfl (by decide) rfl rfl ?_
    obtain ⟨x6, x6e, H⟩ := bs H
    refine v_iinc (v := x6) (L' := [(2, .int x6), (1, .int x5), (0, .ref u0)]) (q := 26) 2 dX12_ringTasks_23 rfl (Option.some.inj x6e) (by decide) rfl rfl ?_
    refine v_goto (q := 4) dX12_ringTasks_26 (by decide) ?_
    exact V.sub [2, 1, 0] rfl (kI (x5, x6) (Option.some.inj H).symm)
def fX12_ringTasks (h : Hp) (v0 : Nat) : Option (Int32) :=
(lp (bX12_ringTasks_4 v0 h) FU ((0 : Int32), (0 : Int32))).bind fun e7 =>
some e7
set_option maxRecDepth 20000 in
set_option maxHeartbeats 4000000 in
theorem sX12_ringTasks {Γ : Gm} {d : Nat} (hd : 1 ≤ d) {h : Hp} {v0 : Nat} {r : Int32} (H : fX12_ringTasks h v0 = some r) : V Γ d mX12_ringTasks 0 [(0, .ref v0)] [] h (some (.int r), h) := by
  unfold fX12_ringTasks at H
  refine v_iconst (v := 0) (q := 1) dX12_ringTasks_0 (by decide) rfl ?_
  refine v_istore_n (L' := [(1, .int (0 : Int32)), (0, .ref v0)]) (q := 2) dX12_ringTasks_1 rfl (by decide) rfl rfl ?_
  refine v_iconst (v := 0) (q := 3) dX12_ringTasks_2 (by decide) rfl ?_
  refine v_istore_n (L' := [(2, .int (0 : Int32)), (1, .int (0 : Int32)), (0, .ref v0)]) (q := 4) dX12_ringTasks_3 rfl (by decide) rfl rfl ?_
  obtain ⟨e7, e7L, H⟩ := bs H
  refine V.sub [2, 1, 0] rfl ?_
  refine lp_V (P := (fun s4 => V Γ d mX12_ringTasks 4 [(0, .ref v0), (1, .int s4.1), (2, .int s4.2)] [] h (some (.int r), h))) (E := (fun e => V Γ d mX12_ringTasks 29 [(1, .int e)] [] h (some (.int r), h))) (fun s r hb kI kE => sbX12_ringTasks_4 hd (s4 := s) (r := r) hb kI kE) FU ((0 : Int32), (0 : Int32)) e7 e7L ?_
  refine v_iload_n (q := 30) 0 dX12_ringTasks_29 rfl rfl rfl ?_
  cases H
  exact v_ireturn rfl dX12_ringTasks_30
def mX12_ringLocks : MI := (yX12_ringLocks, cX12_ringLocks, 3, some .int)
theorem oX12_ringLocks : mOK mX12_ringLocks 0 := ⟨by decide +kernel, by decide +kernel, by decide +kernel, by decide, w1928, w0150⟩
def bX12_ringLocks_4 (u0 : Nat) (h : Hp) (s4 : Int32 × Int32) : Option ((Int32 × Int32) ⊕ (Int32)) :=
(gI h 12 u0 52).bind fun x1 =>
if x1 ≤ s4.2 then (
some (.inr s4.1)) else (
(gR h 12 u0 48).bind fun x3 =>
(gR h 12 u0 50).bind fun x4 =>
(lI h .int x4 s4.2).bind fun x5 =>
(lI h .int x3 x5).bind fun x6 =>
(some (s4.1 ||| ((1 : Int32) <<< (x6 &&& 31)))).bind fun x7 =>
(some (s4.2 + (1 : Int32))).bind fun x8 =>
some (.inl (x7, x8)))
set_option maxRecDepth 20000 in
set_option maxHeartbeats 4000000 in
theorem sbX12_ringLocks_4 {Γ : Gm} {d : Nat} (hd : 1 ≤ d) {u0 : Nat} {h : Hp} {s4 : Int32 × Int32} {r : (Int32 × Int32) ⊕ (Int32)} {t : Option Value × Hp} (H : bX12_ringLocks_4 u0 h s4 = some r) (kI : ∀ s, r = .inl s → (fun s4 => V Γ d mX12_ringLocks 4 [(0, .ref u0), (1, .int s4.1), (2, .int s4.2)] [] h t) s) (kE : ∀ e, r = .inr e → (fun e => V Γ d mX12_ringLocks 34 [(1, .int e)] [] h t) e) : V Γ d mX12_ringLocks 4 [(0, .ref u0), (1, .int s4.1), (2, .int s4.2)] [] h t := by
  unfold bX12_ringLocks_4 at H
  refine v_iload_n (q := 5) 2 dX12_ringLocks_4 rfl rfl rfl ?_
  refine v_aload_n (q := 6) 0 dX12_ringLocks_5 rfl rfl rfl ?_
  obtain ⟨x1, x1e, H⟩ := bs H
  refine u_gI (q := 9) (r := (RX12, TX12, 58)) x1e dX12_ringLocks_6 w1408 rfl (by decide) rfl rfl ?_
  refine v_icmp_ge (q1 := 34) (q2 := 12) dX12_ringLocks_9 (by decide) rfl (fun c2 => ?_) (fun c2 => ?_)
  · have H := ip c2 H
    exact V.sub [1] rfl (kE s4.1 (Option.some.inj H).symm)
  · have H := ine c2 H
    refine v_iload_n (q := 13) 1 dX12_ringLocks_12 rfl rfl rfl ?_
    refine v_iconst (v := 1) (q := 14) dX12_ringLocks_13 (by decide) rfl ?_
    refine v_aload_n (q := 15) 0 dX12_ringLocks_14 rfl rfl rfl ?_
    obtain ⟨x3, x3e, H⟩ := bs H
    refine u_gR (q := 18) (r := (RX12, TX12, 58)) x3e dX12_ringLocks_15 w1404 rfl (by decide) rfl rfl ?_
    refine v_aload_n (q := 19) 0 dX12_ringLocks_18 rfl rfl rfl ?_
    obtain ⟨x4, x4e, H⟩ := bs H
    refine u_gR (q := 22) (r := (RX12, TX12, 58)) x4e dX12_ringLocks_19 w1406 rfl (by decide) rfl rfl ?_
    refine v_iload_n (q := 23) 2 dX12_ringLocks_22 rfl rfl rfl ?_
    obtain ⟨x5, x5e, H⟩ := bs H
    refine u_lI (q := 24) x5e dX12_ringLocks_23 rfl ?_
    obtain ⟨x6, x6e, H⟩ := bs H
    refine u_lI (q := 25) x6e dX12_ringLocks_24 rfl ?_
    refine v_ishl (q := 26) dX12_ringLocks_25 rfl ?_
    refine v_ior (q := 27) dX12_ringLocks_26 rfl ?_
    obtain ⟨x7, x7e, H⟩ := bs H
    refine v_topi (Option.some.inj x7e) ?_
    refine v_istore_n (L' := [(1, .int x7), (0, .ref u0), (2, .int s4.2)]) (q := 28) dX12_ringLocks_27 rfl (by decide) rfl rfl ?_
    obtain ⟨x8, x8e, H⟩ := bs H
    refine v_iinc (v := x8) (L' := [(2, .int x8), (1, .int x7), (0, .ref u0)]) (q := 31) 2 dX12_ringLocks_28 rfl (Option.some.inj x8e) (by decide) rfl rfl ?_
    refine v_goto (q := 4) dX12_ringLocks_31 (by decide) ?_
    exact V.sub [2, 1, 0] rfl (kI (x7, x8) (Option.some.inj H).symm)
def fX12_ringLocks (h : Hp) (v0 : Nat) : Option (Int32) :=
(lp (bX12_ringLocks_4 v0 h) FU ((0 : Int32), (0 : Int32))).bind fun e9 =>
some e9
set_option maxRecDepth 20000 in
set_option maxHeartbeats 4000000 in
theorem sX12_ringLocks {Γ : Gm} {d : Nat} (hd : 1 ≤ d) {h : Hp} {v0 : Nat} {r : Int32} (H : fX12_ringLocks h v0 = some r) : V Γ d mX12_ringLocks 0 [(0, .ref v0)] [] h (some (.int r), h) := by
  unfold fX12_ringLocks at H
  refine v_iconst (v := 0) (q := 1) dX12_ringLocks_0 (by decide) rfl ?_
  refine v_istore_n (L' := [(1, .int (0 : Int32)), (0, .ref v0)]) (q := 2) dX12_ringLocks_1 rfl (by decide) rfl rfl ?_
  refine v_iconst (v := 0) (q := 3) dX12_ringLocks_2 (by decide) rfl ?_
  refine v_istore_n (L' := [(2, .int (0 : Int32)), (1, .int (0 : Int32)), (0, .ref v0)]) (q := 4) dX12_ringLocks_3 rfl (by decide) rfl rfl ?_
  obtain ⟨e9, e9L, H⟩ := bs H
  refine V.sub [2, 1, 0] rfl ?_
  refine lp_V (P := (fun s4 => V Γ d mX12_ringLocks 4 [(0, .ref v0), (1, .int s4.1), (2, .int s4.2)] [] h (some (.int r), h))) (E := (fun e => V Γ d mX12_ringLocks 34 [(1, .int e)] [] h (some (.int r), h))) (fun s r hb kI kE => sbX12_ringLocks_4 hd (s4 := s) (r := r) hb kI kE) FU ((0 : Int32), (0 : Int32)) e9 e9L ?_
  refine v_iload_n (q := 35) 0 dX12_ringLocks_34 rfl rfl rfl ?_
  cases H
  exact v_ireturn rfl dX12_ringLocks_35
def mX12_stuck : MI := (yX12_stuck, cX12_stuck, 3, some .int)
theorem oX12_stuck : mOK mX12_stuck 2 := ⟨by decide +kernel, by decide +kernel, by decide +kernel, by decide, w1841, w0150⟩
def jX12_stuck_25 (h : Hp) : Option (Int32 × Hp) :=
some (((-1 : Int32), h))
set_option maxRecDepth 20000 in
set_option maxHeartbeats 4000000 in
theorem sjX12_stuck_25 {Γ : Gm} {d : Nat} (hd : 9 ≤ d) {h : Hp} {r : Int32 × Hp} (H : jX12_stuck_25 h = some r) : V Γ d mX12_stuck 25 [] [] h (some (.int r.1), r.2) := by
  unfold jX12_stuck_25 at H
  refine v_iconst (v := -1) (q := 26) dX12_stuck_25 (by decide) rfl ?_
  cases H
  exact v_ireturn rfl dX12_stuck_26
def jX12_stuck_95 (y0 : Int32) (h : Hp) : Option (Int32 × Hp) :=
some (y0, h)
set_option maxRecDepth 20000 in
set_option maxHeartbeats 4000000 in
theorem sjX12_stuck_95 {Γ : Gm} {d : Nat} (hd : 9 ≤ d) {y0 : Int32} {h : Hp} {r : Int32 × Hp} (H : jX12_stuck_95 y0 h = some r) : V Γ d mX12_stuck 95 [] [.int y0] h (some (.int r.1), r.2) := by
  unfold jX12_stuck_95 at H
  cases H
  exact v_ireturn rfl dX12_stuck_95
def jX12_stuck_43 (y0 : Int32) (h : Hp) : Option (Int32 × Hp) :=
some (y0, h)
set_option maxRecDepth 20000 in
set_option maxHeartbeats 4000000 in
theorem sjX12_stuck_43 {Γ : Gm} {d : Nat} (hd : 9 ≤ d) {y0 : Int32} {h : Hp} {r : Int32 × Hp} (H : jX12_stuck_43 y0 h = some r) : V Γ d mX12_stuck 43 [] [.int y0] h (some (.int r.1), r.2) := by
  unfold jX12_stuck_43 at H
  cases H
  exact v_ireturn rfl dX12_stuck_43
def fX12_stuck (h : Hp) (v0 : Nat) (v1 : Int32) (v2 : Int32) : Option (Int32 × Hp) :=
(gO h 12 v0).bind fun _ =>
(fX12_isSet h v0 v1).bind fun x2 =>
if x2 = 0 then (
jX12_stuck_25 h) else (
(fX12_isIn h v2 (0 : Int32) (4 : Int32)).bind fun x4 =>
if x4 = 0 then (
jX12_stuck_25 h) else (
(gO h 12 v0).bind fun _ =>
(fX12_search h v0 v1).bind fun x7 =>
if x7.1 = 0 then (
jX12_stuck_25 x7.2) else (
if v2 = 0 then (
(gI x7.2 12 v0 47).bind fun x23 =>
if 0 ≤ x23 then (
jX12_stuck_43 (1 : Int32) x7.2) else (
jX12_stuck_43 (0 : Int32) x7.2)) else (
if v2 = (2 : Int32) then (
(gI x7.2 12 v0 46).bind fun x22 =>
some (x22, x7.2)) else (
(gI x7.2 12 v0 47).bind fun x11 =>
if 0 ≤ x11 then (
if v2 = (1 : Int32) then (
(gI x7.2 12 v0 47).bind fun x19 =>
(gO x7.2 12 v0).bind fun _ =>
(fX12_movesTo x7.2 v0 x19).bind fun x21 =>
jX12_stuck_95 x21 x7.2) else (
if v2 = (3 : Int32) then (
(gO x7.2 12 v0).bind fun _ =>
(fX12_ringTasks x7.2 v0).bind fun x18 =>
jX12_stuck_95 x18 x7.2) else (
(gO x7.2 12 v0).bind fun _ =>
(fX12_ringLocks x7.2 v0).bind fun x16 =>
jX12_stuck_95 x16 x7.2))) else (
some (((-1 : Int32), x7.2))))))))
set_option maxRecDepth 20000 in
set_option maxHeartbeats 4000000 in
theorem sX12_stuck {Γ : Gm} {d : Nat} (hd : 9 ≤ d) {h : Hp} {v0 : Nat} {v1 : Int32} {v2 : Int32} {r : Int32 × Hp} (H : fX12_stuck h v0 v1 v2 = some r) : V Γ d mX12_stuck 0 [(0, .ref v0), (1, .int v1), (2, .int v2)] [] h (some (.int r.1), r.2) := by
  unfold fX12_stuck at H
  refine v_aload_n (q := 1) 0 dX12_stuck_0 rfl rfl rfl ?_
  refine v_iload_n (q := 2) 1 dX12_stuck_1 rfl rfl rfl ?_
  obtain ⟨_, o1, H⟩ := bs H
  obtain ⟨x2, x2e, H⟩ := bs H
  refine u_callV1 (M' := mX12_isSet) (d' := 3) (rc := (RX12, TX12, 58)) (As := [.int v1]) (st := []) (q := 5) oX12_isSet dX12_stuck_2 w1842 w1844 w0106 rfl rfl (gO_sp o1).1 (gO_sp o1).2 rfl (Nat.le_of_ble_eq_true rfl) (Nat.le_of_ble_eq_true rfl) (Nat.lt_of_lt_of_le (by decide) hd) rfl (sX12_isSet (Nat.le_refl _) x2e) rfl ?_
  refine v_if_eq (q1 := 25) (q2 := 8) dX12_stuck_5 (by decide) rfl (fun c3 => ?_) (fun c3 => ?_)
  · have H := ip c3 H
    exact V.sub [] rfl (sjX12_stuck_25 hd H)
  · have H := ine c3 H
    refine v_iload_n (q := 9) 2 dX12_stuck_8 rfl rfl rfl ?_
    refine v_iconst (v := 0) (q := 10) dX12_stuck_9 (by decide) rfl ?_
    refine v_iconst (v := 4) (q := 11) dX12_stuck_10 (by decide) rfl ?_
    obtain ⟨x4, x4e, H⟩ := bs H
    refine u_callS1 (M' := mX12_isIn) (d' := 1) (As := [.int v2, .int (0 : Int32), .int (4 : Int32)]) (st := []) (q := 14) oX12_isIn dX12_stuck_11 w1618 w1619 rfl (Nat.le_of_ble_eq_true rfl) (Nat.le_of_ble_eq_true rfl) (Nat.lt_of_lt_of_le (by decide) hd) rfl (sX12_isIn (Nat.le_refl _) x4e) rfl ?_
    refine v_if_eq (q1 := 25) (q2 := 17) dX12_stuck_14 (by decide) rfl (fun c5 => ?_) (fun c5 => ?_)
    · have H := ip c5 H
      exact V.sub [] rfl (sjX12_stuck_25 hd H)
    · have H := ine c5 H
      refine v_aload_n (q := 18) 0 dX12_stuck_17 rfl rfl rfl ?_
      refine v_iload_n (q := 19) 1 dX12_stuck_18 rfl rfl rfl ?_
      obtain ⟨_, o6, H⟩ := bs H
      obtain ⟨x7, x7e, H⟩ := bs H
      refine u_callV1 (M' := mX12_search) (d' := 8) (rc := (RX12, TX12, 58)) (As := [.int v1]) (st := []) (q := 22) oX12_search dX12_stuck_19 w1849 w1851 w0107 rfl rfl (gO_sp o6).1 (gO_sp o6).2 rfl (Nat.le_of_ble_eq_true rfl) (Nat.le_of_ble_eq_true rfl) (Nat.lt_of_lt_of_le (by decide) hd) rfl (sX12_search (Nat.le_refl _) x7e) rfl ?_
      refine v_if_ne (q1 := 27) (q2 := 25) dX12_stuck_22 (by decide) rfl (fun c8 => ?_) (fun c8 => ?_)
      · have H := ine c8 H
        refine v_iload_n (q := 28) 2 dX12_stuck_27 rfl rfl rfl ?_
        refine v_if_ne (q1 := 44) (q2 := 31) dX12_stuck_28 (by decide) rfl (fun c9 => ?_) (fun c9 => ?_)
        · have H := ine c9 H
          refine v_iload_n (q := 45) 2 dX12_stuck_44 rfl rfl rfl ?_
          refine v_iconst (v := 2) (q := 46) dX12_stuck_45 (by decide) rfl ?_
          refine v_icmp_ne (q1 := 54) (q2 := 49) dX12_stuck_46 (by decide) rfl (fun c10 => ?_) (fun c10 => ?_)
          · have H := ine c10 H
            refine v_aload_n (q := 55) 0 dX12_stuck_54 rfl rfl rfl ?_
            obtain ⟨x11, x11e, H⟩ := bs H
            refine u_gI (q := 58) (r := (RX12, TX12, 58)) x11e dX12_stuck_55 w1403 rfl (by decide) rfl rfl ?_
            refine v_if_ge (q1 := 63) (q2 := 61) dX12_stuck_58 (by decide) rfl (fun c12 => ?_) (fun c12 => ?_)
            · have H := ip c12 H
              refine v_iload_n (q := 64) 2 dX12_stuck_63 rfl rfl rfl ?_
              refine v_iconst (v := 1) (q := 65) dX12_stuck_64 (by decide) rfl ?_
              refine v_icmp_ne (q1 := 79) (q2 := 68) dX12_stuck_65 (by decide) rfl (fun c13 => ?_) (fun c13 => ?_)
              · have H := ine c13 H
                refine v_iload_n (q := 80) 2 dX12_stuck_79 rfl rfl rfl ?_
                refine v_iconst (v := 3) (q := 81) dX12_stuck_80 (by decide) rfl ?_
                refine v_icmp_ne (q1 := 91) (q2 := 84) dX12_stuck_81 (by decide) rfl (fun c14 => ?_) (fun c14 => ?_)
                · have H := ine c14 H
                  refine v_aload_n (q := 92) 0 dX12_stuck_91 rfl rfl rfl ?_
                  obtain ⟨_, o15, H⟩ := bs H
                  obtain ⟨x16, x16e, H⟩ := bs H
                  refine u_callV1 (M' := mX12_ringLocks) (d' := 1) (rc := (RX12, TX12, 58)) (As := []) (st := []) (q := 95) oX12_ringLocks dX12_stuck_92 w1925 w1927 w0126 rfl rfl (gO_sp o15).1 (gO_sp o15).2 rfl (Nat.le_of_ble_eq_true rfl) (Nat.le_of_ble_eq_true rfl) (Nat.lt_of_lt_of_le (by decide) hd) rfl (sX12_ringLocks (Nat.le_refl _) x16e) rfl ?_
                  exact V.sub [] rfl (sjX12_stuck_95 hd H)
                · have H := ip c14 H
                  refine v_aload_n (q := 85) 0 dX12_stuck_84 rfl rfl rfl ?_
                  obtain ⟨_, o17, H⟩ := bs H
                  obtain ⟨x18, x18e, H⟩ := bs H
                  refine u_callV1 (M' := mX12_ringTasks) (d' := 1) (rc := (RX12, TX12, 58)) (As := []) (st := []) (q := 88) oX12_ringTasks dX12_stuck_85 w1921 w1923 w0125 rfl rfl (gO_sp o17).1 (gO_sp o17).2 rfl (Nat.le_of_ble_eq_true rfl) (Nat.le_of_ble_eq_true rfl) (Nat.lt_of_lt_of_le (by decide) hd) rfl (sX12_ringTasks (Nat.le_refl _) x18e) rfl ?_
                  refine v_goto (q := 95) dX12_stuck_88 (by decide) ?_
                  exact V.sub [] rfl (sjX12_stuck_95 hd H)
              · have H := ip c13 H
                refine v_aload_n (q := 69) 0 dX12_stuck_68 rfl rfl rfl ?_
                refine v_aload_n (q := 70) 0 dX12_stuck_69 rfl rfl rfl ?_
                obtain ⟨x19, x19e, H⟩ := bs H
                refine u_gI (q := 73) (r := (RX12, TX12, 58)) x19e dX12_stuck_70 w1403 rfl (by decide) rfl rfl ?_
                obtain ⟨_, o20, H⟩ := bs H
                obtain ⟨x21, x21e, H⟩ := bs H
                refine u_callV1 (M' := mX12_movesTo) (d' := 1) (rc := (RX12, TX12, 58)) (As := [.int x19]) (st := []) (q := 76) oX12_movesTo dX12_stuck_73 w1917 w1919 w0124 rfl rfl (gO_sp o20).1 (gO_sp o20).2 rfl (Nat.le_of_ble_eq_true rfl) (Nat.le_of_ble_eq_true rfl) (Nat.lt_of_lt_of_le (by decide) hd) rfl (sX12_movesTo (Nat.le_refl _) x21e) rfl ?_
                refine v_goto (q := 95) dX12_stuck_76 (by decide) ?_
                exact V.sub [] rfl (sjX12_stuck_95 hd H)
            · have H := ine c12 H
              refine v_iconst (v := -1) (q := 62) dX12_stuck_61 (by decide) rfl ?_
              cases H
              exact v_ireturn rfl dX12_stuck_62
          · have H := ip c10 H
            refine v_aload_n (q := 50) 0 dX12_stuck_49 rfl rfl rfl ?_
            obtain ⟨x22, x22e, H⟩ := bs H
            refine u_gI (q := 53) (r := (RX12, TX12, 58)) x22e dX12_stuck_50 w1402 rfl (by decide) rfl rfl ?_
            cases H
            exact v_ireturn rfl dX12_stuck_53
        · have H := ip c9 H
          refine v_aload_n (q := 32) 0 dX12_stuck_31 rfl rfl rfl ?_
          obtain ⟨x23, x23e, H⟩ := bs H
          refine u_gI (q := 35) (r := (RX12, TX12, 58)) x23e dX12_stuck_32 w1403 rfl (by decide) rfl rfl ?_
          refine v_if_ge (q1 := 42) (q2 := 38) dX12_stuck_35 (by decide) rfl (fun c24 => ?_) (fun c24 => ?_)
          · have H := ip c24 H
            refine v_iconst (v := 1) (q := 43) dX12_stuck_42 (by decide) rfl ?_
            exact V.sub [] rfl (sjX12_stuck_43 hd H)
          · have H := ine c24 H
            refine v_iconst (v := 0) (q := 39) dX12_stuck_38 (by decide) rfl ?_
            refine v_goto (q := 43) dX12_stuck_39 (by decide) ?_
            exact V.sub [] rfl (sjX12_stuck_43 hd H)
      · have H := ip c8 H
        exact V.sub [] rfl (sjX12_stuck_25 hd H)
def mX12_clash : MI := (yX12_clash, cX12_clash, 5, some .int)
theorem oX12_clash : mOK mX12_clash 2 := ⟨by decide +kernel, by decide +kernel, by decide +kernel, by decide, w1976, w0150⟩
def jX12_clash_37 (h : Hp) : Option (Int32 × Hp) :=
some (((-1 : Int32), h))
set_option maxRecDepth 20000 in
set_option maxHeartbeats 4000000 in
theorem sjX12_clash_37 {Γ : Gm} {d : Nat} (hd : 10 ≤ d) {h : Hp} {r : Int32 × Hp} (H : jX12_clash_37 h = some r) : V Γ d mX12_clash 37 [] [] h (some (.int r.1), r.2) := by
  unfold jX12_clash_37 at H
  refine v_iconst (v := -1) (q := 38) dX12_clash_37 (by decide) rfl ?_
  cases H
  exact v_ireturn rfl dX12_clash_38
def jX12_clash_82 (u0 : Nat) (v4 : Int32) (y0 : Int32) (y1 : Int32) (h : Hp) : Option ((Int32 × Int32) ⊕ (Int32)) :=
(some (y1 ||| y0)).bind fun x22 =>
(some (v4 + (1 : Int32))).bind fun x23 =>
some (.inl (x22, x23))
set_option maxRecDepth 20000 in
set_option maxHeartbeats 4000000 in
theorem sjX12_clash_82 {Γ : Gm} {d : Nat} (hd : 10 ≤ d) {u0 : Nat} {v4 : Int32} {y0 : Int32} {y1 : Int32} {h : Hp} {r : (Int32 × Int32) ⊕ (Int32)} {t : Option Value × Hp} (H : jX12_clash_82 u0 v4 y0 y1 h = some r) (kI : ∀ s, r = .inl s → (fun s50 => V Γ d mX12_clash 50 [(0, .ref u0), (3, .int s50.1), (4, .int s50.2)] [] h t) s) (kE : ∀ e, r = .inr e → (fun e => V Γ d mX12_clash 90 [(0, .ref u0), (3, .int e)] [] h t) e) : V Γ d mX12_clash 82 [(0, .ref u0), (4, .int v4)] [.int y0, .int y1] h t := by
  unfold jX12_clash_82 at H
  refine v_ior (q := 83) dX12_clash_82 rfl ?_
  obtain ⟨x22, x22e, H⟩ := bs H
  refine v_topi (Option.some.inj x22e) ?_
  refine v_istore_n (L' := [(3, .int x22), (0, .ref u0), (4, .int v4)]) (q := 84) dX12_clash_83 rfl (by decide) rfl rfl ?_
  obtain ⟨x23, x23e, H⟩ := bs H
  refine v_iinc (v := x23) (L' := [(4, .int x23), (3, .int x22), (0, .ref u0)]) (q := 87) 2 dX12_clash_84 rfl (Option.some.inj x23e) (by decide) rfl rfl ?_
  refine v_goto (q := 50) dX12_clash_87 (by decide) ?_
  exact V.sub [2, 1, 0] rfl (kI (x22, x23) (Option.some.inj H).symm)
def bX12_clash_50 (u0 : Nat) (h : Hp) (s50 : Int32 × Int32) : Option ((Int32 × Int32) ⊕ (Int32)) :=
(gR h 12 u0 3).bind fun x15 =>
(gI h 12 u0 9).bind fun x16 =>
(lI h .int x15 x16).bind fun x17 =>
if x17 ≤ s50.2 then (
some (.inr s50.1)) else (
(gO h 12 u0).bind fun _ =>
(fX12_sortOf h u0 s50.2).bind fun x20 =>
if x20 = 0 then (
jX12_clash_82 u0 s50.2 (0 : Int32) s50.1 h) else (
jX12_clash_82 u0 s50.2 ((1 : Int32) <<< (s50.2 &&& 31)) s50.1 h))
set_option maxRecDepth 20000 in
set_option maxHeartbeats 4000000 in
theorem sbX12_clash_50 {Γ : Gm} {d : Nat} (hd : 10 ≤ d) {u0 : Nat} {h : Hp} {s50 : Int32 × Int32} {r : (Int32 × Int32) ⊕ (Int32)} {t : Option Value × Hp} (H : bX12_clash_50 u0 h s50 = some r) (kI : ∀ s, r = .inl s → (fun s50 => V Γ d mX12_clash 50 [(0, .ref u0), (3, .int s50.1), (4, .int s50.2)] [] h t) s) (kE : ∀ e, r = .inr e → (fun e => V Γ d mX12_clash 90 [(0, .ref u0), (3, .int e)] [] h t) e) : V Γ d mX12_clash 50 [(0, .ref u0), (3, .int s50.1), (4, .int s50.2)] [] h t := by
  unfold bX12_clash_50 at H
  refine v_iload (q := 52) 2 dX12_clash_50 rfl rfl ?_
  refine v_aload_n (q := 53) 0 dX12_clash_52 rfl rfl rfl ?_
  obtain ⟨x15, x15e, H⟩ := bs H
  refine u_gR (q := 56) (r := (RX12, TX12, 58)) x15e dX12_clash_53 w1359 rfl (by decide) rfl rfl ?_
  refine v_aload_n (q := 57) 0 dX12_clash_56 rfl rfl rfl ?_
  obtain ⟨x16, x16e, H⟩ := bs H
  refine u_gI (q := 60) (r := (RX12, TX12, 58)) x16e dX12_clash_57 w1365 rfl (by decide) rfl rfl ?_
  obtain ⟨x17, x17e, H⟩ := bs H
  refine u_lI (q := 61) x17e dX12_clash_60 rfl ?_
  refine v_icmp_ge (q1 := 90) (q2 := 64) dX12_clash_61 (by decide) rfl (fun c18 => ?_) (fun c18 => ?_)
  · have H := ip c18 H
    exact V.sub [0, 1] rfl (kE s50.1 (Option.some.inj H).symm)
  · have H := ine c18 H
    refine v_iload_n (q := 65) 1 dX12_clash_64 rfl rfl rfl ?_
    refine v_aload_n (q := 66) 0 dX12_clash_65 rfl rfl rfl ?_
    refine v_iload (q := 68) 2 dX12_clash_66 rfl rfl ?_
    obtain ⟨_, o19, H⟩ := bs H
    obtain ⟨x20, x20e, H⟩ := bs H
    refine u_callV1 (M' := mX12_sortOf) (d' := 1) (rc := (RX12, TX12, 58)) (As := [.int s50.2]) (st := [.int s50.1]) (q := 71) oX12_sortOf dX12_clash_68 w1718 w1720 w0092 rfl rfl (gO_sp o19).1 (gO_sp o19).2 rfl (Nat.le_of_ble_eq_true rfl) (Nat.le_of_ble_eq_true rfl) (Nat.lt_of_lt_of_le (by decide) hd) rfl (sX12_sortOf (Nat.le_refl _) x20e) rfl ?_
    refine v_if_ne (q1 := 78) (q2 := 74) dX12_clash_71 (by decide) rfl (fun c21 => ?_) (fun c21 => ?_)
    · have H := ine c21 H
      refine v_iconst (v := 1) (q := 79) dX12_clash_78 (by decide) rfl ?_
      refine v_iload (q := 81) 2 dX12_clash_79 rfl rfl ?_
      refine v_ishl (q := 82) dX12_clash_81 rfl ?_
      exact V.sub [0, 2] rfl (sjX12_clash_82 hd H kI kE)
    · have H := ip c21 H
      refine v_iconst (v := 0) (q := 75) dX12_clash_74 (by decide) rfl ?_
      refine v_goto (q := 82) dX12_clash_75 (by decide) ?_
      exact V.sub [0, 2] rfl (sjX12_clash_82 hd H kI kE)
def fX12_clash (h : Hp) (v0 : Nat) (v1 : Int32) (v2 : Int32) : Option (Int32 × Hp) :=
(gO h 12 v0).bind fun _ =>
(fX12_isProgram h v0 v1).bind fun x2 =>
if x2 = 0 then (
jX12_clash_37 h) else (
(gO h 12 v0).bind fun _ =>
(fX12_isProgram h v0 v2).bind fun x5 =>
if x5 = 0 then (
jX12_clash_37 h) else (
if v1 = v2 then (
jX12_clash_37 h) else (
(gO h 12 v0).bind fun _ =>
(fX12_sortOf h v0 v1).bind fun x9 =>
if x9 = 0 then (
(gO h 12 v0).bind fun _ =>
(fX12_sortOf h v0 v2).bind fun x12 =>
if x12 = 0 then (
(some (((1 : Int32) <<< (v1 &&& 31)) ||| ((1 : Int32) <<< (v2 &&& 31)))).bind fun x14 =>
(lp (bX12_clash_50 v0 h) FU (x14, (0 : Int32))).bind fun e24 =>
(gO h 12 v0).bind fun _ =>
(fX12_stuck h v0 e24 (0 : Int32)).bind fun x26 =>
some (x26.1, x26.2)) else (
jX12_clash_37 h)) else (
jX12_clash_37 h))))
set_option maxRecDepth 20000 in
set_option maxHeartbeats 4000000 in
theorem sX12_clash {Γ : Gm} {d : Nat} (hd : 10 ≤ d) {h : Hp} {v0 : Nat} {v1 : Int32} {v2 : Int32} {r : Int32 × Hp} (H : fX12_clash h v0 v1 v2 = some r) : V Γ d mX12_clash 0 [(0, .ref v0), (1, .int v1), (2, .int v2)] [] h (some (.int r.1), r.2) := by
  unfold fX12_clash at H
  refine v_aload_n (q := 1) 0 dX12_clash_0 rfl rfl rfl ?_
  refine v_iload_n (q := 2) 1 dX12_clash_1 rfl rfl rfl ?_
  obtain ⟨_, o1, H⟩ := bs H
  obtain ⟨x2, x2e, H⟩ := bs H
  refine u_callV1 (M' := mX12_isProgram) (d' := 2) (rc := (RX12, TX12, 58)) (As := [.int v1]) (st := []) (q := 5) oX12_isProgram dX12_clash_2 w1629 w1631 w0071 rfl rfl (gO_sp o1).1 (gO_sp o1).2 rfl (Nat.le_of_ble_eq_true rfl) (Nat.le_of_ble_eq_true rfl) (Nat.lt_of_lt_of_le (by decide) hd) rfl (sX12_isProgram (Nat.le_refl _) x2e) rfl ?_
  refine v_if_eq (q1 := 37) (q2 := 8) dX12_clash_5 (by decide) rfl (fun c3 => ?_) (fun c3 => ?_)
  · have H := ip c3 H
    exact V.sub [] rfl (sjX12_clash_37 hd H)
  · have H := ine c3 H
    refine v_aload_n (q := 9) 0 dX12_clash_8 rfl rfl rfl ?_
    refine v_iload_n (q := 10) 2 dX12_clash_9 rfl rfl rfl ?_
    obtain ⟨_, o4, H⟩ := bs H
    obtain ⟨x5, x5e, H⟩ := bs H
    refine u_callV1 (M' := mX12_isProgram) (d' := 2) (rc := (RX12, TX12, 58)) (As := [.int v2]) (st := []) (q := 13) oX12_isProgram dX12_clash_10 w1629 w1631 w0071 rfl rfl (gO_sp o4).1 (gO_sp o4).2 rfl (Nat.le_of_ble_eq_true rfl) (Nat.le_of_ble_eq_true rfl) (Nat.lt_of_lt_of_le (by decide) hd) rfl (sX12_isProgram (Nat.le_refl _) x5e) rfl ?_
    refine v_if_eq (q1 := 37) (q2 := 16) dX12_clash_13 (by decide) rfl (fun c6 => ?_) (fun c6 => ?_)
    · have H := ip c6 H
      exact V.sub [] rfl (sjX12_clash_37 hd H)
    · have H := ine c6 H
      refine v_iload_n (q := 17) 1 dX12_clash_16 rfl rfl rfl ?_
      refine v_iload_n (q := 18) 2 dX12_clash_17 rfl rfl rfl ?_
      refine v_icmp_eq (q1 := 37) (q2 := 21) dX12_clash_18 (by decide) rfl (fun c7 => ?_) (fun c7 => ?_)
      · have H := ip c7 H
        exact V.sub [] rfl (sjX12_clash_37 hd H)
      · have H := ine c7 H
        refine v_aload_n (q := 22) 0 dX12_clash_21 rfl rfl rfl ?_
        refine v_iload_n (q := 23) 1 dX12_clash_22 rfl rfl rfl ?_
        obtain ⟨_, o8, H⟩ := bs H
        obtain ⟨x9, x9e, H⟩ := bs H
        refine u_callV1 (M' := mX12_sortOf) (d' := 1) (rc := (RX12, TX12, 58)) (As := [.int v1]) (st := []) (q := 26) oX12_sortOf dX12_clash_23 w1718 w1720 w0092 rfl rfl (gO_sp o8).1 (gO_sp o8).2 rfl (Nat.le_of_ble_eq_true rfl) (Nat.le_of_ble_eq_true rfl) (Nat.lt_of_lt_of_le (by decide) hd) rfl (sX12_sortOf (Nat.le_refl _) x9e) rfl ?_
        refine v_if_ne (q1 := 37) (q2 := 29) dX12_clash_26 (by decide) rfl (fun c10 => ?_) (fun c10 => ?_)
        · have H := ine c10 H
          exact V.sub [] rfl (sjX12_clash_37 hd H)
        · have H := ip c10 H
          refine v_aload_n (q := 30) 0 dX12_clash_29 rfl rfl rfl ?_
          refine v_iload_n (q := 31) 2 dX12_clash_30 rfl rfl rfl ?_
          obtain ⟨_, o11, H⟩ := bs H
          obtain ⟨x12, x12e, H⟩ := bs H
          refine u_callV1 (M' := mX12_sortOf) (d' := 1) (rc := (RX12, TX12, 58)) (As := [.int v2]) (st := []) (q := 34) oX12_sortOf dX12_clash_31 w1718 w1720 w0092 rfl rfl (gO_sp o11).1 (gO_sp o11).2 rfl (Nat.le_of_ble_eq_true rfl) (Nat.le_of_ble_eq_true rfl) (Nat.lt_of_lt_of_le (by decide) hd) rfl (sX12_sortOf (Nat.le_refl _) x12e) rfl ?_
          refine v_if_eq (q1 := 39) (q2 := 37) dX12_clash_34 (by decide) rfl (fun c13 => ?_) (fun c13 => ?_)
          · have H := ip c13 H
            refine v_iconst (v := 1) (q := 40) dX12_clash_39 (by decide) rfl ?_
            refine v_iload_n (q := 41) 1 dX12_clash_40 rfl rfl rfl ?_
            refine v_ishl (q := 42) dX12_clash_41 rfl ?_
            refine v_iconst (v := 1) (q := 43) dX12_clash_42 (by decide) rfl ?_
            refine v_iload_n (q := 44) 2 dX12_clash_43 rfl rfl rfl ?_
            refine v_ishl (q := 45) dX12_clash_44 rfl ?_
            refine v_ior (q := 46) dX12_clash_45 rfl ?_
            obtain ⟨x14, x14e, H⟩ := bs H
            refine v_topi (Option.some.inj x14e) ?_
            refine v_istore_n (L' := [(3, .int x14), (0, .ref v0), (1, .int v1), (2, .int v2)]) (q := 47) dX12_clash_46 rfl (by decide) rfl rfl ?_
            refine v_iconst (v := 0) (q := 48) dX12_clash_47 (by decide) rfl ?_
            refine v_istore (L' := [(4, .int (0 : Int32)), (3, .int x14), (0, .ref v0), (1, .int v1), (2, .int v2)]) (q := 50) dX12_clash_48 (by decide) rfl rfl ?_
            obtain ⟨e24, e24L, H⟩ := bs H
            refine V.sub [2, 1, 0] rfl ?_
            refine lp_V (P := (fun s50 => V Γ d mX12_clash 50 [(0, .ref v0), (3, .int s50.1), (4, .int s50.2)] [] h (some (.int r.1), r.2))) (E := (fun e => V Γ d mX12_clash 90 [(0, .ref v0), (3, .int e)] [] h (some (.int r.1), r.2))) (fun s r hb kI kE => sbX12_clash_50 hd (s50 := s) (r := r) hb kI kE) FU (x14, (0 : Int32)) e24 e24L ?_
            refine v_aload_n (q := 91) 0 dX12_clash_90 rfl rfl rfl ?_
            refine v_iload_n (q := 92) 1 dX12_clash_91 rfl rfl rfl ?_
            refine v_iconst (v := 0) (q := 93) dX12_clash_92 (by decide) rfl ?_
            obtain ⟨_, o25, H⟩ := bs H
            obtain ⟨x26, x26e, H⟩ := bs H
            refine u_callV1 (M' := mX12_stuck) (d' := 9) (rc := (RX12, TX12, 58)) (As := [.int e24, .int (0 : Int32)]) (st := []) (q := 96) oX12_stuck dX12_clash_93 w1838 w1839 w1840 rfl rfl (gO_sp o25).1 (gO_sp o25).2 rfl (Nat.le_of_ble_eq_true rfl) (Nat.le_of_ble_eq_true rfl) (Nat.lt_of_lt_of_le (by decide) hd) rfl (sX12_stuck (Nat.le_refl _) x26e) rfl ?_
            cases H
            exact v_ireturn rfl dX12_clash_96
          · have H := ine c13 H
            exact V.sub [] rfl (sjX12_clash_37 hd H)
def mX12_clearBank : MI := (yX12_clearBank, cX12_clearBank, 2, none)
theorem oX12_clearBank : mOK mX12_clearBank 1 := ⟨by decide +kernel, by decide +kernel, by decide +kernel, by decide, w1347, w0150⟩
def fX12_clearBank (h : Hp) (v0 : Nat) (v1 : Int32) : Option (Hp) :=
(gR h 12 v0 1).bind fun x1 =>
(tI h x1 v1 (0 : Int32)).bind fun h2 =>
(gR h2 12 v0 2).bind fun x3 =>
(tI h2 x3 v1 (0 : Int32)).bind fun h4 =>
(gR h4 12 v0 3).bind fun x5 =>
(tI h4 x5 v1 (0 : Int32)).bind fun h6 =>
some h6
set_option maxRecDepth 20000 in
set_option maxHeartbeats 4000000 in
theorem sX12_clearBank {Γ : Gm} {d : Nat} (hd : 1 ≤ d) {h : Hp} {v0 : Nat} {v1 : Int32} {r : Hp} (H : fX12_clearBank h v0 v1 = some r) : V Γ d mX12_clearBank 0 [(0, .ref v0), (1, .int v1)] [] h (none, r) := by
  unfold fX12_clearBank at H
  refine v_aload_n (q := 1) 0 dX12_clearBank_0 rfl rfl rfl ?_
  obtain ⟨x1, x1e, H⟩ := bs H
  refine u_gR (q := 4) (r := (RX12, TX12, 58)) x1e dX12_clearBank_1 w1357 rfl (by decide) rfl rfl ?_
  refine v_iload_n (q := 5) 1 dX12_clearBank_4 rfl rfl rfl ?_
  refine v_iconst (v := 0) (q := 6) dX12_clearBank_5 (by decide) rfl ?_
  obtain ⟨h2, h2e, H⟩ := bs H
  refine u_tI (q := 7) h2e dX12_clearBank_6 rfl ?_
  refine v_aload_n (q := 8) 0 dX12_clearBank_7 rfl rfl rfl ?_
  obtain ⟨x3, x3e, H⟩ := bs H
  refine u_gR (q := 11) (r := (RX12, TX12, 58)) x3e dX12_clearBank_8 w1358 rfl (by decide) rfl rfl ?_
  refine v_iload_n (q := 12) 1 dX12_clearBank_11 rfl rfl rfl ?_
  refine v_iconst (v := 0) (q := 13) dX12_clearBank_12 (by decide) rfl ?_
  obtain ⟨h4, h4e, H⟩ := bs H
  refine u_tI (q := 14) h4e dX12_clearBank_13 rfl ?_
  refine v_aload_n (q := 15) 0 dX12_clearBank_14 rfl rfl rfl ?_
  obtain ⟨x5, x5e, H⟩ := bs H
  refine u_gR (q := 18) (r := (RX12, TX12, 58)) x5e dX12_clearBank_15 w1359 rfl (by decide) rfl rfl ?_
  refine v_iload_n (q := 19) 1 dX12_clearBank_18 rfl rfl rfl ?_
  refine v_iconst (v := 0) (q := 20) dX12_clearBank_19 (by decide) rfl ?_
  obtain ⟨h6, h6e, H⟩ := bs H
  refine u_tI (q := 21) h6e dX12_clearBank_20 rfl ?_
  cases H
  exact v_return rfl dX12_clearBank_21
def mX12_depth : MI := (yX12_depth, cX12_depth, 7, some .int)
theorem oX12_depth : mOK mX12_depth 2 := ⟨by decide +kernel, by decide +kernel, by decide +kernel, by decide, w1967, w0150⟩
def jX12_depth_17 (h : Hp) : Option (Int32 × Hp) :=
some (((-1 : Int32), h))
set_option maxRecDepth 20000 in
set_option maxHeartbeats 4000000 in
theorem sjX12_depth_17 {Γ : Gm} {d : Nat} (hd : 7 ≤ d) {h : Hp} {r : Int32 × Hp} (H : jX12_depth_17 h = some r) : V Γ d mX12_depth 17 [] [] h (some (.int r.1), r.2) := by
  unfold jX12_depth_17 at H
  refine v_iconst (v := -1) (q := 18) dX12_depth_17 (by decide) rfl ?_
  cases H
  exact v_ireturn rfl dX12_depth_18
def jX12_depth_129 (u0 : Nat) (u1 : Int32) (u2 : Int32) (v3 : Int32) (v4 : Int32) (v5 : Int32) (v6 : Int32) (h : Hp) : Option ((Int32 × Int32 × Int32 × Int32 × Hp) ⊕ (Int32 × Int32 × Int32 × Hp)) :=
(some (v6 + (1 : Int32))).bind fun x25 =>
some (.inl (v3, v4, v5, x25, h))
set_option maxRecDepth 20000 in
set_option maxHeartbeats 4000000 in
theorem sjX12_depth_129 {Γ : Gm} {d : Nat} (hd : 7 ≤ d) {u0 : Nat} {u1 : Int32} {u2 : Int32} {v3 : Int32} {v4 : Int32} {v5 : Int32} {v6 : Int32} {h : Hp} {r : (Int32 × Int32 × Int32 × Int32 × Hp) ⊕ (Int32 × Int32 × Int32 × Hp)} {t : Option Value × Hp} (H : jX12_depth_129 u0 u1 u2 v3 v4 v5 v6 h = some r) (kI : ∀ s, r = .inl s → (fun s39 => V Γ d mX12_depth 39 [(0, .ref u0), (1, .int u1), (2, .int u2), (3, .int s39.1), (4, .int s39.2.1), (5, .int s39.2.2.1), (6, .int s39.2.2.2.1)] [] s39.2.2.2.2 t) s) (kE : ∀ e, r = .inr e → (fun e => V Γ d mX12_depth 135 [(0, .ref u0), (2, .int u2), (3, .int e.1), (4, .int e.2.1), (5, .int e.2.2.1)] [] e.2.2.2 t) e) : V Γ d mX12_depth 129 [(0, .ref u0), (1, .int u1), (2, .int u2), (3, .int v3), (4, .int v4), (5, .int v5), (6, .int v6)] [] h t := by
  unfold jX12_depth_129 at H
  obtain ⟨x25, x25e, H⟩ := bs H
  refine v_iinc (v := x25) (L' := [(6, .int x25), (0, .ref u0), (1, .int u1), (2, .int u2), (3, .int v3), (4, .int v4), (5, .int v5)]) (q := 132) 6 dX12_depth_129 rfl (Option.some.inj x25e) (by decide) rfl rfl ?_
  refine v_goto (q := 39) dX12_depth_132 (by decide) ?_
  exact V.sub [1, 2, 3, 4, 5, 6, 0] rfl (kI (v3, v4, v5, x25, h) (Option.some.inj H).symm)
def jX12_depth_109 (u0 : Nat) (u1 : Int32) (u2 : Int32) (v3 : Int32) (v4 : Int32) (v5 : Int32) (v6 : Int32) (h : Hp) : Option ((Int32 × Int32 × Int32 × Int32 × Hp) ⊕ (Int32 × Int32 × Int32 × Hp)) :=
(gI h 12 u0 31).bind fun x22 =>
if v3 < x22 then (
(gI h 12 u0 31).bind fun x24 =>
jX12_depth_129 u0 u1 u2 x24 v6 v5 v6 h) else (
jX12_depth_129 u0 u1 u2 v3 v4 v5 v6 h)
set_option maxRecDepth 20000 in
set_option maxHeartbeats 4000000 in
theorem sjX12_depth_109 {Γ : Gm} {d : Nat} (hd : 7 ≤ d) {u0 : Nat} {u1 : Int32} {u2 : Int32} {v3 : Int32} {v4 : Int32} {v5 : Int32} {v6 : Int32} {h : Hp} {r : (Int32 × Int32 × Int32 × Int32 × Hp) ⊕ (Int32 × Int32 × Int32 × Hp)} {t : Option Value × Hp} (H : jX12_depth_109 u0 u1 u2 v3 v4 v5 v6 h = some r) (kI : ∀ s, r = .inl s → (fun s39 => V Γ d mX12_depth 39 [(0, .ref u0), (1, .int u1), (2, .int u2), (3, .int s39.1), (4, .int s39.2.1), (5, .int s39.2.2.1), (6, .int s39.2.2.2.1)] [] s39.2.2.2.2 t) s) (kE : ∀ e, r = .inr e → (fun e => V Γ d mX12_depth 135 [(0, .ref u0), (2, .int u2), (3, .int e.1), (4, .int e.2.1), (5, .int e.2.2.1)] [] e.2.2.2 t) e) : V Γ d mX12_depth 109 [(0, .ref u0), (1, .int u1), (2, .int u2), (3, .int v3), (4, .int v4), (5, .int v5), (6, .int v6)] [] h t := by
  unfold jX12_depth_109 at H
  refine v_aload_n (q := 110) 0 dX12_depth_109 rfl rfl rfl ?_
  obtain ⟨x22, x22e, H⟩ := bs H
  refine u_gI (q := 113) (r := (RX12, TX12, 58)) x22e dX12_depth_110 w1387 rfl (by decide) rfl rfl ?_
  refine v_iload_n (q := 114) 3 dX12_depth_113 rfl rfl rfl ?_
  refine v_icmp_gt (q1 := 120) (q2 := 117) dX12_depth_114 (by decide) rfl (fun c23 => ?_) (fun c23 => ?_)
  · have H := ip c23 H
    refine v_aload_n (q := 121) 0 dX12_depth_120 rfl rfl rfl ?_
    obtain ⟨x24, x24e, H⟩ := bs H
    refine u_gI (q := 124) (r := (RX12, TX12, 58)) x24e dX12_depth_121 w1387 rfl (by decide) rfl rfl ?_
    refine v_istore_n (L' := [(3, .int x24), (0, .ref u0), (1, .int u1), (2, .int u2), (4, .int v4), (5, .int v5), (6, .int v6)]) (q := 125) dX12_depth_124 rfl (by decide) rfl rfl ?_
    refine v_iload (q := 127) 6 dX12_depth_125 rfl rfl ?_
    refine v_istore (L' := [(4, .int v6), (3, .int x24), (0, .ref u0), (1, .int u1), (2, .int u2), (5, .int v5), (6, .int v6)]) (q := 129) dX12_depth_127 (by decide) rfl rfl ?_
    exact V.sub [2, 3, 4, 1, 0, 5, 6] rfl (sjX12_depth_129 hd H kI kE)
  · have H := ine c23 H
    refine v_goto (q := 129) dX12_depth_117 (by decide) ?_
    exact V.sub [0, 1, 2, 3, 4, 5, 6] rfl (sjX12_depth_129 hd H kI kE)
def jX12_depth_67 (u0 : Nat) (u1 : Int32) (u2 : Int32) (v3 : Int32) (v4 : Int32) (v6 : Int32) (y0 : Int32) (y1 : Int32) (h : Hp) : Option ((Int32 × Int32 × Int32 × Int32 × Hp) ⊕ (Int32 × Int32 × Int32 × Hp)) :=
(some (y1 + y0)).bind fun x15 =>
(gO h 12 u0).bind fun _ =>
(fX12_opOf h u0 u1 v6).bind fun x17 =>
if (4 : Int32) ≤ x17 then (
(gO h 12 u0).bind fun _ =>
(fX12_opOf h u0 u1 v6).bind fun x20 =>
if x20 = (4 : Int32) then (
(gO h 12 u0).bind fun _ =>
(fX12_doDrop h u0 u1 v6).bind fun x27 =>
jX12_depth_109 u0 u1 u2 v3 v4 x15 v6 x27) else (
jX12_depth_109 u0 u1 u2 v3 v4 x15 v6 h)) else (
(gO h 12 u0).bind fun _ =>
(fX12_doTake h u0 u1 v6).bind fun x29 =>
jX12_depth_109 u0 u1 u2 v3 v4 x15 v6 x29)
set_option maxRecDepth 20000 in
set_option maxHeartbeats 4000000 in
theorem sjX12_depth_67 {Γ : Gm} {d : Nat} (hd : 7 ≤ d) {u0 : Nat} {u1 : Int32} {u2 : Int32} {v3 : Int32} {v4 : Int32} {v6 : Int32} {y0 : Int32} {y1 : Int32} {h : Hp} {r : (Int32 × Int32 × Int32 × Int32 × Hp) ⊕ (Int32 × Int32 × Int32 × Hp)} {t : Option Value × Hp} (H : jX12_depth_67 u0 u1 u2 v3 v4 v6 y0 y1 h = some r) (kI : ∀ s, r = .inl s → (fun s39 => V Γ d mX12_depth 39 [(0, .ref u0), (1, .int u1), (2, .int u2), (3, .int s39.1), (4, .int s39.2.1), (5, .int s39.2.2.1), (6, .int s39.2.2.2.1)] [] s39.2.2.2.2 t) s) (kE : ∀ e, r = .inr e → (fun e => V Γ d mX12_depth 135 [(0, .ref u0), (2, .int u2), (3, .int e.1), (4, .int e.2.1), (5, .int e.2.2.1)] [] e.2.2.2 t) e) : V Γ d mX12_depth 67 [(0, .ref u0), (1, .int u1), (2, .int u2), (3, .int v3), (4, .int v4), (6, .int v6)] [.int y0, .int y1] h t := by
  unfold jX12_depth_67 at H
  refine v_iadd (q := 68) dX12_depth_67 rfl ?_
  obtain ⟨x15, x15e, H⟩ := bs H
  refine v_topi (Option.some.inj x15e) ?_
  refine v_istore (L' := [(5, .int x15), (0, .ref u0), (1, .int u1), (2, .int u2), (3, .int v3), (4, .int v4), (6, .int v6)]) (q := 70) dX12_depth_68 (by decide) rfl rfl ?_
  refine v_aload_n (q := 71) 1 dX12_depth_70 rfl rfl rfl ?_
  refine v_iload_n (q := 72) 2 dX12_depth_71 rfl rfl rfl ?_
  refine v_iload (q := 74) 6 dX12_depth_72 rfl rfl ?_
  obtain ⟨_, o16, H⟩ := bs H
  obtain ⟨x17, x17e, H⟩ := bs H
  refine u_callV1 (M' := mX12_opOf) (d' := 1) (rc := (RX12, TX12, 58)) (As := [.int u1, .int v6]) (st := []) (q := 77) oX12_opOf dX12_depth_74 w1646 w1648 w0075 rfl rfl (gO_sp o16).1 (gO_sp o16).2 rfl (Nat.le_of_ble_eq_true rfl) (Nat.le_of_ble_eq_true rfl) (Nat.lt_of_lt_of_le (by decide) hd) rfl (sX12_opOf (Nat.le_refl _) x17e) rfl ?_
  refine v_iconst (v := 4) (q := 78) dX12_depth_77 (by decide) rfl ?_
  refine v_icmp_ge (q1 := 91) (q2 := 81) dX12_depth_78 (by decide) rfl (fun c18 => ?_) (fun c18 => ?_)
  · have H := ip c18 H
    refine v_aload_n (q := 92) 1 dX12_depth_91 rfl rfl rfl ?_
    refine v_iload_n (q := 93) 2 dX12_depth_92 rfl rfl rfl ?_
    refine v_iload (q := 95) 6 dX12_depth_93 rfl rfl ?_
    obtain ⟨_, o19, H⟩ := bs H
    obtain ⟨x20, x20e, H⟩ := bs H
    refine u_callV1 (M' := mX12_opOf) (d' := 1) (rc := (RX12, TX12, 58)) (As := [.int u1, .int v6]) (st := []) (q := 98) oX12_opOf dX12_depth_95 w1646 w1648 w0075 rfl rfl (gO_sp o19).1 (gO_sp o19).2 rfl (Nat.le_of_ble_eq_true rfl) (Nat.le_of_ble_eq_true rfl) (Nat.lt_of_lt_of_le (by decide) hd) rfl (sX12_opOf (Nat.le_refl _) x20e) rfl ?_
    refine v_iconst (v := 4) (q := 99) dX12_depth_98 (by decide) rfl ?_
    refine v_icmp_ne (q1 := 109) (q2 := 102) dX12_depth_99 (by decide) rfl (fun c21 => ?_) (fun c21 => ?_)
    · have H := ine c21 H
      exact V.sub [1, 2, 3, 4, 5, 0, 6] rfl (sjX12_depth_109 hd H kI kE)
    · have H := ip c21 H
      refine v_aload_n (q := 103) 1 dX12_depth_102 rfl rfl rfl ?_
      refine v_iload_n (q := 104) 2 dX12_depth_103 rfl rfl rfl ?_
      refine v_iload (q := 106) 6 dX12_depth_104 rfl rfl ?_
      obtain ⟨_, o26, H⟩ := bs H
      obtain ⟨x27, x27e, H⟩ := bs H
      refine u_callV0 (M' := mX12_doDrop) (d' := 4) (rc := (RX12, TX12, 58)) (As := [.int u1, .int v6]) (st := []) (q := 109) oX12_doDrop dX12_depth_106 w1734 w1736 w0096 rfl rfl (gO_sp o26).1 (gO_sp o26).2 rfl (Nat.le_of_ble_eq_true rfl) (Nat.le_of_ble_eq_true rfl) (Nat.lt_of_lt_of_le (by decide) hd) rfl (sX12_doDrop (Nat.le_refl _) x27e) rfl ?_
      exact V.sub [1, 2, 3, 4, 5, 0, 6] rfl (sjX12_depth_109 hd H kI kE)
  · have H := ine c18 H
    refine v_aload_n (q := 82) 1 dX12_depth_81 rfl rfl rfl ?_
    refine v_iload_n (q := 83) 2 dX12_depth_82 rfl rfl rfl ?_
    refine v_iload (q := 85) 6 dX12_depth_83 rfl rfl ?_
    obtain ⟨_, o28, H⟩ := bs H
    obtain ⟨x29, x29e, H⟩ := bs H
    refine u_callV0 (M' := mX12_doTake) (d' := 6) (rc := (RX12, TX12, 58)) (As := [.int u1, .int v6]) (st := []) (q := 88) oX12_doTake dX12_depth_85 w1650 w1652 w0076 rfl rfl (gO_sp o28).1 (gO_sp o28).2 rfl (Nat.le_of_ble_eq_true rfl) (Nat.le_of_ble_eq_true rfl) (Nat.lt_of_lt_of_le (by decide) hd) rfl (sX12_doTake (Nat.le_refl _) x29e) rfl ?_
    refine v_goto (q := 109) dX12_depth_88 (by decide) ?_
    exact V.sub [1, 2, 3, 4, 5, 0, 6] rfl (sjX12_depth_109 hd H kI kE)
def bX12_depth_39 (u0 : Nat) (u1 : Int32) (u2 : Int32) (s39 : Int32 × Int32 × Int32 × Int32 × Hp) : Option ((Int32 × Int32 × Int32 × Int32 × Hp) ⊕ (Int32 × Int32 × Int32 × Hp)) :=
(gO s39.2.2.2.2 12 u0).bind fun _ =>
(fX12_stepsOf s39.2.2.2.2 u0 u1).bind fun x10 =>
if x10 ≤ s39.2.2.2.1 then (
some (.inr (s39.1, s39.2.1, s39.2.2.1, s39.2.2.2.2))) else (
(gO s39.2.2.2.2 12 u0).bind fun _ =>
(fX12_isOn s39.2.2.2.2 u0 u1 s39.2.2.2.1 (1 : Int32)).bind fun x13 =>
if x13 = 0 then (
jX12_depth_67 u0 u1 u2 s39.1 s39.2.1 s39.2.2.2.1 (1 : Int32) s39.2.2.1 s39.2.2.2.2) else (
jX12_depth_67 u0 u1 u2 s39.1 s39.2.1 s39.2.2.2.1 (0 : Int32) s39.2.2.1 s39.2.2.2.2))
set_option maxRecDepth 20000 in
set_option maxHeartbeats 4000000 in
theorem sbX12_depth_39 {Γ : Gm} {d : Nat} (hd : 7 ≤ d) {u0 : Nat} {u1 : Int32} {u2 : Int32} {s39 : Int32 × Int32 × Int32 × Int32 × Hp} {r : (Int32 × Int32 × Int32 × Int32 × Hp) ⊕ (Int32 × Int32 × Int32 × Hp)} {t : Option Value × Hp} (H : bX12_depth_39 u0 u1 u2 s39 = some r) (kI : ∀ s, r = .inl s → (fun s39 => V Γ d mX12_depth 39 [(0, .ref u0), (1, .int u1), (2, .int u2), (3, .int s39.1), (4, .int s39.2.1), (5, .int s39.2.2.1), (6, .int s39.2.2.2.1)] [] s39.2.2.2.2 t) s) (kE : ∀ e, r = .inr e → (fun e => V Γ d mX12_depth 135 [(0, .ref u0), (2, .int u2), (3, .int e.1), (4, .int e.2.1), (5, .int e.2.2.1)] [] e.2.2.2 t) e) : V Γ d mX12_depth 39 [(0, .ref u0), (1, .int u1), (2, .int u2), (3, .int s39.1), (4, .int s39.2.1), (5, .int s39.2.2.1), (6, .int s39.2.2.2.1)] [] s39.2.2.2.2 t := by
  unfold bX12_depth_39 at H
  refine v_iload (q := 41) 6 dX12_depth_39 rfl rfl ?_
  refine v_aload_n (q := 42) 0 dX12_depth_41 rfl rfl rfl ?_
  refine v_iload_n (q := 43) 1 dX12_depth_42 rfl rfl rfl ?_
  obtain ⟨_, o9, H⟩ := bs H
  obtain ⟨x10, x10e, H⟩ := bs H
  refine u_callV1 (M' := mX12_stepsOf) (d' := 1) (rc := (RX12, TX12, 58)) (As := [.int u1]) (st := [.int s39.2.2.2.1]) (q := 46) oX12_stepsOf dX12_depth_43 w1642 w1644 w0074 rfl rfl (gO_sp o9).1 (gO_sp o9).2 rfl (Nat.le_of_ble_eq_true rfl) (Nat.le_of_ble_eq_true rfl) (Nat.lt_of_lt_of_le (by decide) hd) rfl (sX12_stepsOf (Nat.le_refl _) x10e) rfl ?_
  refine v_icmp_ge (q1 := 135) (q2 := 49) dX12_depth_46 (by decide) rfl (fun c11 => ?_) (fun c11 => ?_)
  · have H := ip c11 H
    exact V.sub [0, 2, 3, 4, 5] rfl (kE (s39.1, s39.2.1, s39.2.2.1, s39.2.2.2.2) (Option.some.inj H).symm)
  · have H := ine c11 H
    refine v_iload (q := 51) 5 dX12_depth_49 rfl rfl ?_
    refine v_aload_n (q := 52) 0 dX12_depth_51 rfl rfl rfl ?_
    refine v_iload_n (q := 53) 1 dX12_depth_52 rfl rfl rfl ?_
    refine v_iload (q := 55) 6 dX12_depth_53 rfl rfl ?_
    refine v_iconst (v := 1) (q := 56) dX12_depth_55 (by decide) rfl ?_
    obtain ⟨_, o12, H⟩ := bs H
    obtain ⟨x13, x13e, H⟩ := bs H
    refine u_callV1 (M' := mX12_isOn) (d' := 2) (rc := (RX12, TX12, 58)) (As := [.int u1, .int s39.2.2.2.1, .int (1 : Int32)]) (st := [.int s39.2.2.1]) (q := 59) oX12_isOn dX12_depth_56 w1722 w1724 w0093 rfl rfl (gO_sp o12).1 (gO_sp o12).2 rfl (Nat.le_of_ble_eq_true rfl) (Nat.le_of_ble_eq_true rfl) (Nat.lt_of_lt_of_le (by decide) hd) rfl (sX12_isOn (Nat.le_refl _) x13e) rfl ?_
    refine v_if_eq (q1 := 66) (q2 := 62) dX12_depth_59 (by decide) rfl (fun c14 => ?_) (fun c14 => ?_)
    · have H := ip c14 H
      refine v_iconst (v := 1) (q := 67) dX12_depth_66 (by decide) rfl ?_
      exact V.sub [0, 1, 2, 3, 4, 6] rfl (sjX12_depth_67 hd H kI kE)
    · have H := ine c14 H
      refine v_iconst (v := 0) (q := 63) dX12_depth_62 (by decide) rfl ?_
      refine v_goto (q := 67) dX12_depth_63 (by decide) ?_
      exact V.sub [0, 1, 2, 3, 4, 6] rfl (sjX12_depth_67 hd H kI kE)
def jX12_depth_159 (y0 : Int32) (h : Hp) : Option (Int32 × Hp) :=
some (y0, h)
set_option maxRecDepth 20000 in
set_option maxHeartbeats 4000000 in
theorem sjX12_depth_159 {Γ : Gm} {d : Nat} (hd : 7 ≤ d) {y0 : Int32} {h : Hp} {r : Int32 × Hp} (H : jX12_depth_159 y0 h = some r) : V Γ d mX12_depth 159 [] [.int y0] h (some (.int r.1), r.2) := by
  unfold jX12_depth_159 at H
  cases H
  exact v_ireturn rfl dX12_depth_159
def fX12_depth (h : Hp) (v0 : Nat) (v1 : Int32) (v2 : Int32) : Option (Int32 × Hp) :=
(gO h 12 v0).bind fun _ =>
(fX12_isProgram h v0 v1).bind fun x2 =>
if x2 = 0 then (
jX12_depth_17 h) else (
(fX12_isIn h v2 (0 : Int32) (2 : Int32)).bind fun x4 =>
if x4 = 0 then (
jX12_depth_17 h) else (
(gO h 12 v0).bind fun _ =>
(fX12_putAside h v0).bind fun x7 =>
(pI x7 12 v0 31 (0 : Int32)).bind fun h8 =>
(lp (bX12_depth_39 v0 v1 v2) FU ((0 : Int32), (-1 : Int32), (0 : Int32), (0 : Int32), h8)).bind fun e30 =>
(gO e30.2.2.2 12 v0).bind fun _ =>
(fX12_bringBack e30.2.2.2 v0).bind fun x32 =>
if v2 = 0 then (
jX12_depth_159 e30.1 x32) else (
if v2 = (1 : Int32) then (
jX12_depth_159 e30.2.1 x32) else (
jX12_depth_159 e30.2.2.1 x32))))
set_option maxRecDepth 20000 in
set_option maxHeartbeats 4000000 in
theorem sX12_depth {Γ : Gm} {d : Nat} (hd : 7 ≤ d) {h : Hp} {v0 : Nat} {v1 : Int32} {v2 : Int32} {r : Int32 × Hp} (H : fX12_depth h v0 v1 v2 = some r) : V Γ d mX12_depth 0 [(0, .ref v0), (1, .int v1), (2, .int v2)] [] h (some (.int r.1), r.2) := by
  unfold fX12_depth at H
  refine v_aload_n (q := 1) 0 dX12_depth_0 rfl rfl rfl ?_
  refine v_iload_n (q := 2) 1 dX12_depth_1 rfl rfl rfl ?_
  obtain ⟨_, o1, H⟩ := bs H
  obtain ⟨x2, x2e, H⟩ := bs H
  refine u_callV1 (M' := mX12_isProgram) (d' := 2) (rc := (RX12, TX12, 58)) (As := [.int v1]) (st := []) (q := 5) oX12_isProgram dX12_depth_2 w1629 w1631 w0071 rfl rfl (gO_sp o1).1 (gO_sp o1).2 rfl (Nat.le_of_ble_eq_true rfl) (Nat.le_of_ble_eq_true rfl) (Nat.lt_of_lt_of_le (by decide) hd) rfl (sX12_isProgram (Nat.le_refl _) x2e) rfl ?_
  refine v_if_eq (q1 := 17) (q2 := 8) dX12_depth_5 (by decide) rfl (fun c3 => ?_) (fun c3 => ?_)
  · have H := ip c3 H
    exact V.sub [] rfl (sjX12_depth_17 hd H)
  · have H := ine c3 H
    refine v_iload_n (q := 9) 2 dX12_depth_8 rfl rfl rfl ?_
    refine v_iconst (v := 0) (q := 10) dX12_depth_9 (by decide) rfl ?_
    refine v_iconst (v := 2) (q := 11) dX12_depth_10 (by decide) rfl ?_
    obtain ⟨x4, x4e, H⟩ := bs H
    refine u_callS1 (M' := mX12_isIn) (d' := 1) (As := [.int v2, .int (0 : Int32), .int (2 : Int32)]) (st := []) (q := 14) oX12_isIn dX12_depth_11 w1618 w1619 rfl (Nat.le_of_ble_eq_true rfl) (Nat.le_of_ble_eq_true rfl) (Nat.lt_of_lt_of_le (by decide) hd) rfl (sX12_isIn (Nat.le_refl _) x4e) rfl ?_
    refine v_if_ne (q1 := 19) (q2 := 17) dX12_depth_14 (by decide) rfl (fun c5 => ?_) (fun c5 => ?_)
    · have H := ine c5 H
      refine v_iconst (v := 0) (q := 20) dX12_depth_19 (by decide) rfl ?_
      refine v_istore_n (L' := [(3, .int (0 : Int32)), (0, .ref v0), (1, .int v1), (2, .int v2)]) (q := 21) dX12_depth_20 rfl (by decide) rfl rfl ?_
      refine v_iconst (v := -1) (q := 22) dX12_depth_21 (by decide) rfl ?_
      refine v_istore (L' := [(4, .int (-1 : Int32)), (3, .int (0 : Int32)), (0, .ref v0), (1, .int v1), (2, .int v2)]) (q := 24) dX12_depth_22 (by decide) rfl rfl ?_
      refine v_iconst (v := 0) (q := 25) dX12_depth_24 (by decide) rfl ?_
      refine v_istore (L' := [(5, .int (0 : Int32)), (4, .int (-1 : Int32)), (3, .int (0 : Int32)), (0, .ref v0), (1, .int v1), (2, .int v2)]) (q := 27) dX12_depth_25 (by decide) rfl rfl ?_
      refine v_aload_n (q := 28) 3 dX12_depth_27 rfl rfl rfl ?_
      obtain ⟨_, o6, H⟩ := bs H
      obtain ⟨x7, x7e, H⟩ := bs H
      refine u_callV0 (M' := mX12_putAside) (d' := 1) (rc := (RX12, TX12, 58)) (As := []) (st := []) (q := 31) oX12_putAside dX12_depth_28 w1809 w1811 w0102 rfl rfl (gO_sp o6).1 (gO_sp o6).2 rfl (Nat.le_of_ble_eq_true rfl) (Nat.le_of_ble_eq_true rfl) (Nat.lt_of_lt_of_le (by decide) hd) rfl (sX12_putAside (Nat.le_refl _) x7e) rfl ?_
      refine v_aload_n (q := 32) 3 dX12_depth_31 rfl rfl rfl ?_
      refine v_iconst (v := 0) (q := 33) dX12_depth_32 (by decide) rfl ?_
      obtain ⟨h8, h8e, H⟩ := bs H
      refine u_pI (q := 36) (r := (RX12, TX12, 58)) h8e dX12_depth_33 w1387 rfl (by decide) (Or.inl rfl) rfl rfl ?_
      refine v_iconst (v := 0) (q := 37) dX12_depth_36 (by decide) rfl ?_
      refine v_istore (L' := [(6, .int (0 : Int32)), (5, .int (0 : Int32)), (4, .int (-1 : Int32)), (3, .int (0 : Int32)), (0, .ref v0), (1, .int v1), (2, .int v2)]) (q := 39) dX12_depth_37 (by decide) rfl rfl ?_
      obtain ⟨e30, e30L, H⟩ := bs H
      refine V.sub [4, 5, 6, 3, 2, 1, 0] rfl ?_
      refine lp_V (P := (fun s39 => V Γ d mX12_depth 39 [(0, .ref v0), (1, .int v1), (2, .int v2), (3, .int s39.1), (4, .int s39.2.1), (5, .int s39.2.2.1), (6, .int s39.2.2.2.1)] [] s39.2.2.2.2 (some (.int r.1), r.2))) (E := (fun e => V Γ d mX12_depth 135 [(0, .ref v0), (2, .int v2), (3, .int e.1), (4, .int e.2.1), (5, .int e.2.2.1)] [] e.2.2.2 (some (.int r.1), r.2))) (fun s r hb kI kE => sbX12_depth_39 hd (s39 := s) (r := r) hb kI kE) FU ((0 : Int32), (-1 : Int32), (0 : Int32), (0 : Int32), h8) e30 e30L ?_
      refine v_aload_n (q := 136) 0 dX12_depth_135 rfl rfl rfl ?_
      obtain ⟨_, o31, H⟩ := bs H
      obtain ⟨x32, x32e, H⟩ := bs H
      refine u_callV0 (M' := mX12_bringBack) (d' := 1) (rc := (RX12, TX12, 58)) (As := []) (st := []) (q := 139) oX12_bringBack dX12_depth_136 w1817 w1819 w0104 rfl rfl (gO_sp o31).1 (gO_sp o31).2 rfl (Nat.le_of_ble_eq_true rfl) (Nat.le_of_ble_eq_true rfl) (Nat.lt_of_lt_of_le (by decide) hd) rfl (sX12_bringBack (Nat.le_refl _) x32e) rfl ?_
      refine v_iload_n (q := 140) 1 dX12_depth_139 rfl rfl rfl ?_
      refine v_if_ne (q1 := 147) (q2 := 143) dX12_depth_140 (by decide) rfl (fun c33 => ?_) (fun c33 => ?_)
      · have H := ine c33 H
        refine v_iload_n (q := 148) 1 dX12_depth_147 rfl rfl rfl ?_
        refine v_iconst (v := 1) (q := 149) dX12_depth_148 (by decide) rfl ?_
        refine v_icmp_ne (q1 := 157) (q2 := 152) dX12_depth_149 (by decide) rfl (fun c34 => ?_) (fun c34 => ?_)
        · have H := ine c34 H
          refine v_iload (q := 159) 4 dX12_depth_157 rfl rfl ?_
          exact V.sub [] rfl (sjX12_depth_159 hd H)
        · have H := ip c34 H
          refine v_iload (q := 154) 3 dX12_depth_152 rfl rfl ?_
          refine v_goto (q := 159) dX12_depth_154 (by decide) ?_
          exact V.sub [] rfl (sjX12_depth_159 hd H)
      · have H := ip c33 H
        refine v_iload_n (q := 144) 2 dX12_depth_143 rfl rfl rfl ?_
        refine v_goto (q := 159) dX12_depth_144 (by decide) ?_
        exact V.sub [] rfl (sjX12_depth_159 hd H)
    · have H := ip c5 H
      exact V.sub [] rfl (sjX12_depth_17 hd H)
def mX12_isPair : MI := (yX12_isPair, cX12_isPair, 3, some .boolean)
theorem oX12_isPair : mOK mX12_isPair 2 := ⟨by decide +kernel, by decide +kernel, by decide +kernel, by decide, w1749, w0150⟩
def jX12_isPair_28 (y0 : Int32) (h : Hp) : Option (Int32) :=
(bz y0).bind fun x4 =>
some x4
set_option maxRecDepth 20000 in
set_option maxHeartbeats 4000000 in
theorem sjX12_isPair_28 {Γ : Gm} {d : Nat} (hd : 3 ≤ d) {y0 : Int32} {h : Hp} {r : Int32} (H : jX12_isPair_28 y0 h = some r) : V Γ d mX12_isPair 28 [] [.int y0] h (some (.int r), h) := by
  unfold jX12_isPair_28 at H
  obtain ⟨x4, x4e, H⟩ := bs H
  obtain ⟨x4q, x4z⟩ := bz_sp x4e
  refine v_topi x4q.symm ?_
  cases H
  exact v_zreturn rfl (by rw [x4q]; exact x4z) dX12_isPair_28
def jX12_isPair_27 (h : Hp) : Option (Int32) :=
jX12_isPair_28 (0 : Int32) h
set_option maxRecDepth 20000 in
set_option maxHeartbeats 4000000 in
theorem sjX12_isPair_27 {Γ : Gm} {d : Nat} (hd : 3 ≤ d) {h : Hp} {r : Int32} (H : jX12_isPair_27 h = some r) : V Γ d mX12_isPair 27 [] [] h (some (.int r), h) := by
  unfold jX12_isPair_27 at H
  refine v_iconst (v := 0) (q := 28) dX12_isPair_27 (by decide) rfl ?_
  exact V.sub [] rfl (sjX12_isPair_28 hd H)
def fX12_isPair (h : Hp) (v0 : Nat) (v1 : Int32) (v2 : Int32) : Option (Int32) :=
(gO h 12 v0).bind fun _ =>
(fX12_isProgram h v0 v1).bind fun x2 =>
if x2 = 0 then (
jX12_isPair_27 h) else (
(gO h 12 v0).bind fun _ =>
(fX12_stepsOf h v0 v1).bind fun x6 =>
(fX12_isIn h v2 (0 : Int32) (x6 - (2 : Int32))).bind fun x7 =>
if x7 = 0 then (
jX12_isPair_27 h) else (
jX12_isPair_28 (1 : Int32) h))
set_option maxRecDepth 20000 in
set_option maxHeartbeats 4000000 in
theorem sX12_isPair {Γ : Gm} {d : Nat} (hd : 3 ≤ d) {h : Hp} {v0 : Nat} {v1 : Int32} {v2 : Int32} {r : Int32} (H : fX12_isPair h v0 v1 v2 = some r) : V Γ d mX12_isPair 0 [(0, .ref v0), (1, .int v1), (2, .int v2)] [] h (some (.int r), h) := by
  unfold fX12_isPair at H
  refine v_aload_n (q := 1) 0 dX12_isPair_0 rfl rfl rfl ?_
  refine v_iload_n (q := 2) 1 dX12_isPair_1 rfl rfl rfl ?_
  obtain ⟨_, o1, H⟩ := bs H
  obtain ⟨x2, x2e, H⟩ := bs H
  refine u_callV1 (M' := mX12_isProgram) (d' := 2) (rc := (RX12, TX12, 58)) (As := [.int v1]) (st := []) (q := 5) oX12_isProgram dX12_isPair_2 w1629 w1631 w0071 rfl rfl (gO_sp o1).1 (gO_sp o1).2 rfl (Nat.le_of_ble_eq_true rfl) (Nat.le_of_ble_eq_true rfl) (Nat.lt_of_lt_of_le (by decide) hd) rfl (sX12_isProgram (Nat.le_refl _) x2e) rfl ?_
  refine v_if_eq (q1 := 27) (q2 := 8) dX12_isPair_5 (by decide) rfl (fun c3 => ?_) (fun c3 => ?_)
  · have H := ip c3 H
    exact V.sub [] rfl (sjX12_isPair_27 hd H)
  · have H := ine c3 H
    refine v_iload_n (q := 9) 2 dX12_isPair_8 rfl rfl rfl ?_
    refine v_iconst (v := 0) (q := 10) dX12_isPair_9 (by decide) rfl ?_
    refine v_aload_n (q := 11) 0 dX12_isPair_10 rfl rfl rfl ?_
    refine v_iload_n (q := 12) 1 dX12_isPair_11 rfl rfl rfl ?_
    obtain ⟨_, o5, H⟩ := bs H
    obtain ⟨x6, x6e, H⟩ := bs H
    refine u_callV1 (M' := mX12_stepsOf) (d' := 1) (rc := (RX12, TX12, 58)) (As := [.int v1]) (st := [.int (0 : Int32), .int v2]) (q := 15) oX12_stepsOf dX12_isPair_12 w1642 w1644 w0074 rfl rfl (gO_sp o5).1 (gO_sp o5).2 rfl (Nat.le_of_ble_eq_true rfl) (Nat.le_of_ble_eq_true rfl) (Nat.lt_of_lt_of_le (by decide) hd) rfl (sX12_stepsOf (Nat.le_refl _) x6e) rfl ?_
    refine v_iconst (v := 2) (q := 16) dX12_isPair_15 (by decide) rfl ?_
    refine v_isub (q := 17) dX12_isPair_16 rfl ?_
    obtain ⟨x7, x7e, H⟩ := bs H
    refine u_callS1 (M' := mX12_isIn) (d' := 1) (As := [.int v2, .int (0 : Int32), .int (x6 - (2 : Int32))]) (st := []) (q := 20) oX12_isIn dX12_isPair_17 w1618 w1619 rfl (Nat.le_of_ble_eq_true rfl) (Nat.le_of_ble_eq_true rfl) (Nat.lt_of_lt_of_le (by decide) hd) rfl (sX12_isIn (Nat.le_refl _) x7e) rfl ?_
    refine v_if_eq (q1 := 27) (q2 := 23) dX12_isPair_20 (by decide) rfl (fun c8 => ?_) (fun c8 => ?_)
    · have H := ip c8 H
      exact V.sub [] rfl (sjX12_isPair_27 hd H)
    · have H := ine c8 H
      refine v_iconst (v := 1) (q := 24) dX12_isPair_23 (by decide) rfl ?_
      refine v_goto (q := 28) dX12_isPair_24 (by decide) ?_
      exact V.sub [] rfl (sjX12_isPair_28 hd H)
def mX12_eased : MI := (yX12_eased, cX12_eased, 6, some .int)
theorem oX12_eased : mOK mX12_eased 2 := ⟨by decide +kernel, by decide +kernel, by decide +kernel, by decide, w1837, w0150⟩
def jX12_eased_63 (h : Hp) : Option (Int32 × Hp) :=
some (((-1 : Int32), h))
set_option maxRecDepth 20000 in
set_option maxHeartbeats 4000000 in
theorem sjX12_eased_63 {Γ : Gm} {d : Nat} (hd : 10 ≤ d) {h : Hp} {r : Int32 × Hp} (H : jX12_eased_63 h = some r) : V Γ d mX12_eased 63 [] [] h (some (.int r.1), r.2) := by
  unfold jX12_eased_63 at H
  refine v_iconst (v := -1) (q := 64) dX12_eased_63 (by decide) rfl ?_
  cases H
  exact v_ireturn rfl dX12_eased_64
def jX12_eased_81 (y0 : Int32) (h : Hp) : Option (Int32 × Hp) :=
some (y0, h)
set_option maxRecDepth 20000 in
set_option maxHeartbeats 4000000 in
theorem sjX12_eased_81 {Γ : Gm} {d : Nat} (hd : 10 ≤ d) {y0 : Int32} {h : Hp} {r : Int32 × Hp} (H : jX12_eased_81 y0 h = some r) : V Γ d mX12_eased 81 [] [.int y0] h (some (.int r.1), r.2) := by
  unfold jX12_eased_81 at H
  cases H
  exact v_ireturn rfl dX12_eased_81
def jX12_eased_80 (h : Hp) : Option (Int32 × Hp) :=
jX12_eased_81 (0 : Int32) h
set_option maxRecDepth 20000 in
set_option maxHeartbeats 4000000 in
theorem sjX12_eased_80 {Γ : Gm} {d : Nat} (hd : 10 ≤ d) {h : Hp} {r : Int32 × Hp} (H : jX12_eased_80 h = some r) : V Γ d mX12_eased 80 [] [] h (some (.int r.1), r.2) := by
  unfold jX12_eased_80 at H
  refine v_iconst (v := 0) (q := 81) dX12_eased_80 (by decide) rfl ?_
  exact V.sub [] rfl (sjX12_eased_81 hd H)
def fX12_eased (h : Hp) (v0 : Nat) (v1 : Int32) (v2 : Int32) : Option (Int32 × Hp) :=
(gO h 12 v0).bind fun _ =>
(fX12_isPair h v0 v1 v2).bind fun x2 =>
if x2 = 0 then (
some (((-1 : Int32), h))) else (
(gR h 12 v0 3).bind fun x4 =>
(gI h 12 v0 9).bind fun x5 =>
(lI h .int x4 x5).bind fun x6 =>
(some (((1 : Int32) <<< (x6 &&& 31)) - (1 : Int32))).bind fun x7 =>
(gO h 12 v0).bind fun _ =>
(fX12_stuck h v0 x7 (0 : Int32)).bind fun x9 =>
(gO x9.2 12 v0).bind fun _ =>
(fX12_swapSteps x9.2 v0 v1 v2).bind fun x11 =>
(gO x11 12 v0).bind fun _ =>
(fX12_stuck x11 v0 x7 (0 : Int32)).bind fun x13 =>
(gO x13.2 12 v0).bind fun _ =>
(fX12_swapSteps x13.2 v0 v1 v2).bind fun x15 =>
if x9.1 < 0 then (
jX12_eased_63 x15) else (
if 0 ≤ x13.1 then (
if x9.1 = (1 : Int32) then (
if x13.1 = 0 then (
jX12_eased_81 (1 : Int32) x15) else (
jX12_eased_80 x15)) else (
jX12_eased_80 x15)) else (
jX12_eased_63 x15)))
set_option maxRecDepth 20000 in
set_option maxHeartbeats 4000000 in
theorem sX12_eased {Γ : Gm} {d : Nat} (hd : 10 ≤ d) {h : Hp} {v0 : Nat} {v1 : Int32} {v2 : Int32} {r : Int32 × Hp} (H : fX12_eased h v0 v1 v2 = some r) : V Γ d mX12_eased 0 [(0, .ref v0), (1, .int v1), (2, .int v2)] [] h (some (.int r.1), r.2) := by
  unfold fX12_eased at H
  refine v_aload_n (q := 1) 0 dX12_eased_0 rfl rfl rfl ?_
  refine v_iload_n (q := 2) 1 dX12_eased_1 rfl rfl rfl ?_
  refine v_iload_n (q := 3) 2 dX12_eased_2 rfl rfl rfl ?_
  obtain ⟨_, o1, H⟩ := bs H
  obtain ⟨x2, x2e, H⟩ := bs H
  refine u_callV1 (M' := mX12_isPair) (d' := 3) (rc := (RX12, TX12, 58)) (As := [.int v1, .int v2]) (st := []) (q := 6) oX12_isPair dX12_eased_3 w1746 w1748 w0097 rfl rfl (gO_sp o1).1 (gO_sp o1).2 rfl (Nat.le_of_ble_eq_true rfl) (Nat.le_of_ble_eq_true rfl) (Nat.lt_of_lt_of_le (by decide) hd) rfl (sX12_isPair (Nat.le_refl _) x2e) rfl ?_
  refine v_if_ne (q1 := 11) (q2 := 9) dX12_eased_6 (by decide) rfl (fun c3 => ?_) (fun c3 => ?_)
  · have H := ine c3 H
    refine v_iconst (v := 1) (q := 12) dX12_eased_11 (by decide) rfl ?_
    refine v_aload_n (q := 13) 0 dX12_eased_12 rfl rfl rfl ?_
    obtain ⟨x4, x4e, H⟩ := bs H
    refine u_gR (q := 16) (r := (RX12, TX12, 58)) x4e dX12_eased_13 w1359 rfl (by decide) rfl rfl ?_
    refine v_aload_n (q := 17) 0 dX12_eased_16 rfl rfl rfl ?_
    obtain ⟨x5, x5e, H⟩ := bs H
    refine u_gI (q := 20) (r := (RX12, TX12, 58)) x5e dX12_eased_17 w1365 rfl (by decide) rfl rfl ?_
    obtain ⟨x6, x6e, H⟩ := bs H
    refine u_lI (q := 21) x6e dX12_eased_20 rfl ?_
    refine v_ishl (q := 22) dX12_eased_21 rfl ?_
    refine v_iconst (v := 1) (q := 23) dX12_eased_22 (by decide) rfl ?_
    refine v_isub (q := 24) dX12_eased_23 rfl ?_
    obtain ⟨x7, x7e, H⟩ := bs H
    refine v_topi (Option.some.inj x7e) ?_
    refine v_istore_n (L' := [(3, .int x7), (0, .ref v0), (1, .int v1), (2, .int v2)]) (q := 25) dX12_eased_24 rfl (by decide) rfl rfl ?_
    refine v_aload_n (q := 26) 1 dX12_eased_25 rfl rfl rfl ?_
    refine v_iload_n (q := 27) 0 dX12_eased_26 rfl rfl rfl ?_
    refine v_iconst (v := 0) (q := 28) dX12_eased_27 (by decide) rfl ?_
    obtain ⟨_, o8, H⟩ := bs H
    obtain ⟨x9, x9e, H⟩ := bs H
    refine u_callV1 (M' := mX12_stuck) (d' := 9) (rc := (RX12, TX12, 58)) (As := [.int x7, .int (0 : Int32)]) (st := []) (q := 31) oX12_stuck dX12_eased_28 w1838 w1839 w1840 rfl rfl (gO_sp o8).1 (gO_sp o8).2 rfl (Nat.le_of_ble_eq_true rfl) (Nat.le_of_ble_eq_true rfl) (Nat.lt_of_lt_of_le (by decide) hd) rfl (sX12_stuck (Nat.le_refl _) x9e) rfl ?_
    refine v_istore (L' := [(4, .int x9.1), (3, .int x7), (0, .ref v0), (1, .int v1), (2, .int v2)]) (q := 33) dX12_eased_31 (by decide) rfl rfl ?_
    refine v_aload_n (q := 34) 2 dX12_eased_33 rfl rfl rfl ?_
    refine v_iload_n (q := 35) 3 dX12_eased_34 rfl rfl rfl ?_
    refine v_iload_n (q := 36) 4 dX12_eased_35 rfl rfl rfl ?_
    obtain ⟨_, o10, H⟩ := bs H
    obtain ⟨x11, x11e, H⟩ := bs H
    refine u_callV0 (M' := mX12_swapSteps) (d' := 2) (rc := (RX12, TX12, 58)) (As := [.int v1, .int v2]) (st := []) (q := 39) oX12_swapSteps dX12_eased_36 w1750 w1752 w0098 rfl rfl (gO_sp o10).1 (gO_sp o10).2 rfl (Nat.le_of_ble_eq_true rfl) (Nat.le_of_ble_eq_true rfl) (Nat.lt_of_lt_of_le (by decide) hd) rfl (sX12_swapSteps (Nat.le_refl _) x11e) rfl ?_
    refine v_aload_n (q := 40) 2 dX12_eased_39 rfl rfl rfl ?_
    refine v_iload_n (q := 41) 1 dX12_eased_40 rfl rfl rfl ?_
    refine v_iconst (v := 0) (q := 42) dX12_eased_41 (by decide) rfl ?_
    obtain ⟨_, o12, H⟩ := bs H
    obtain ⟨x13, x13e, H⟩ := bs H
    refine u_callV1 (M' := mX12_stuck) (d' := 9) (rc := (RX12, TX12, 58)) (As := [.int x7, .int (0 : Int32)]) (st := []) (q := 45) oX12_stuck dX12_eased_42 w1838 w1839 w1840 rfl rfl (gO_sp o12).1 (gO_sp o12).2 rfl (Nat.le_of_ble_eq_true rfl) (Nat.le_of_ble_eq_true rfl) (Nat.lt_of_lt_of_le (by decide) hd) rfl (sX12_stuck (Nat.le_refl _) x13e) rfl ?_
    refine v_istore (L' := [(5, .int x13.1), (4, .int x9.1), (3, .int x7), (0, .ref v0), (1, .int v1), (2, .int v2)]) (q := 47) dX12_eased_45 (by decide) rfl rfl ?_
    refine v_aload_n (q := 48) 3 dX12_eased_47 rfl rfl rfl ?_
    refine v_iload_n (q := 49) 4 dX12_eased_48 rfl rfl rfl ?_
    refine v_iload_n (q := 50) 5 dX12_eased_49 rfl rfl rfl ?_
    obtain ⟨_, o14, H⟩ := bs H
    obtain ⟨x15, x15e, H⟩ := bs H
    refine u_callV0 (M' := mX12_swapSteps) (d' := 2) (rc := (RX12, TX12, 58)) (As := [.int v1, .int v2]) (st := []) (q := 53) oX12_swapSteps dX12_eased_50 w1750 w1752 w0098 rfl rfl (gO_sp o14).1 (gO_sp o14).2 rfl (Nat.le_of_ble_eq_true rfl) (Nat.le_of_ble_eq_true rfl) (Nat.lt_of_lt_of_le (by decide) hd) rfl (sX12_swapSteps (Nat.le_refl _) x15e) rfl ?_
    refine v_iload (q := 55) 1 dX12_eased_53 rfl rfl ?_
    refine v_if_lt (q1 := 63) (q2 := 58) dX12_eased_55 (by decide) rfl (fun c16 => ?_) (fun c16 => ?_)
    · have H := ip c16 H
      exact V.sub [] rfl (sjX12_eased_63 hd H)
    · have H := ine c16 H
      refine v_iload (q := 60) 0 dX12_eased_58 rfl rfl ?_
      refine v_if_ge (q1 := 65) (q2 := 63) dX12_eased_60 (by decide) rfl (fun c17 => ?_) (fun c17 => ?_)
      · have H := ip c17 H
        refine v_iload (q := 67) 1 dX12_eased_65 rfl rfl ?_
        refine v_iconst (v := 1) (q := 68) dX12_eased_67 (by decide) rfl ?_
        refine v_icmp_ne (q1 := 80) (q2 := 71) dX12_eased_68 (by decide) rfl (fun c18 => ?_) (fun c18 => ?_)
        · have H := ine c18 H
          exact V.sub [] rfl (sjX12_eased_80 hd H)
        · have H := ip c18 H
          refine v_iload (q := 73) 0 dX12_eased_71 rfl rfl ?_
          refine v_if_ne (q1 := 80) (q2 := 76) dX12_eased_73 (by decide) rfl (fun c19 => ?_) (fun c19 => ?_)
          · have H := ine c19 H
            exact V.sub [] rfl (sjX12_eased_80 hd H)
          · have H := ip c19 H
            refine v_iconst (v := 1) (q := 77) dX12_eased_76 (by decide) rfl ?_
            refine v_goto (q := 81) dX12_eased_77 (by decide) ?_
            exact V.sub [] rfl (sjX12_eased_81 hd H)
      · have H := ine c17 H
        exact V.sub [] rfl (sjX12_eased_63 hd H)
  · have H := ip c3 H
    refine v_iconst (v := -1) (q := 10) dX12_eased_9 (by decide) rfl ?_
    cases H
    exact v_ireturn rfl dX12_eased_10

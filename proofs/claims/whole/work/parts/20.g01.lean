def mX8_doStep : MI := (yX8_doStep, cX8_doStep, 14, some .boolean)
theorem oX8_doStep : mOK mX8_doStep 3 := ⟨by decide +kernel, by decide +kernel, by decide +kernel, by decide, w1215, w0159⟩
def jX8_doStep_172 (v0 : Nat) (v1 : Int32) (v2 : Int32) (v3 : Int32) (v4 : Int64) (v6 : Int64) (h : Hp) : Option (Int32 × Hp) :=
(gO h 8 v0).bind fun _ =>
(fX8_keep h v0 (v4 + ((1 : Int64) <<< (((4 : Int32) * v3).toInt64 &&& 63))) v6 ((v1 <<< ((6 : Int32) &&& 31)) ||| (v2 <<< ((3 : Int32) &&& 31)))).bind fun x16 =>
(bz x16.1).bind fun x17 =>
some (x17, x16.2)
set_option maxRecDepth 20000 in
set_option maxHeartbeats 4000000 in
theorem sjX8_doStep_172 {Γ : Gm} {d : Nat} (hd : 3 ≤ d) {v0 : Nat} {v1 : Int32} {v2 : Int32} {v3 : Int32} {v4 : Int64} {v6 : Int64} {h : Hp} {r : Int32 × Hp} (H : jX8_doStep_172 v0 v1 v2 v3 v4 v6 h = some r) : V Γ d mX8_doStep 172 [(0, .ref v0), (1, .int v1), (2, .int v2), (3, .int v3), (4, .long v4), (6, .long v6)] [] h (some (.int r.1), r.2) := by
  unfold jX8_doStep_172 at H
  refine v_aload_n (q := 173) 0 dX8_doStep_172 rfl rfl rfl ?_
  refine v_lload (q := 175) 4 dX8_doStep_173 rfl rfl ?_
  refine v_lconst (v := 1) (q := 176) dX8_doStep_175 (by decide) rfl ?_
  refine v_iconst (v := 4) (q := 177) dX8_doStep_176 (by decide) rfl ?_
  refine v_iload_n (q := 178) 3 dX8_doStep_177 rfl rfl rfl ?_
  refine v_imul (q := 179) dX8_doStep_178 rfl ?_
  refine v_lshl (q := 180) dX8_doStep_179 rfl ?_
  refine v_ladd (q := 181) dX8_doStep_180 rfl ?_
  refine v_lload (q := 183) 5 dX8_doStep_181 rfl rfl ?_
  refine v_iload_n (q := 184) 1 dX8_doStep_183 rfl rfl rfl ?_
  refine v_bipush (v := 6) (q := 186) dX8_doStep_184 (by decide) rfl ?_
  refine v_ishl (q := 187) dX8_doStep_186 rfl ?_
  refine v_iload_n (q := 188) 2 dX8_doStep_187 rfl rfl rfl ?_
  refine v_iconst (v := 3) (q := 189) dX8_doStep_188 (by decide) rfl ?_
  refine v_ishl (q := 190) dX8_doStep_189 rfl ?_
  refine v_ior (q := 191) dX8_doStep_190 rfl ?_
  replace H := bs H; obtain ⟨_, o15, H⟩ := H
  replace H := bs H; obtain ⟨x16, x16e, H⟩ := H
  refine u_callV1 (M' := mX8_keep) (d' := 2) (rc := (RX8, TX8, 19)) (As := [.long (v4 + ((1 : Int64) <<< (((4 : Int32) * v3).toInt64 &&& 63))), .long v6, .int ((v1 <<< ((6 : Int32) &&& 31)) ||| (v2 <<< ((3 : Int32) &&& 31)))]) (st := []) (q := 194) oX8_keep dX8_doStep_191 w1180 w1182 w0039 rfl rfl (gO_sp o15).1 (gO_sp o15).2 rfl (Nat.le_of_ble_eq_true rfl) (Nat.le_of_ble_eq_true rfl) (Nat.lt_of_lt_of_le (by decide) hd) rfl (sX8_keep (Nat.le_refl _) x16e) rfl ?_
  replace H := bs H; obtain ⟨x17, x17e, H⟩ := H
  obtain ⟨x17q, x17z⟩ := bz_sp x17e
  refine v_topi x17q.symm ?_
  cases H
  exact v_zreturn rfl (by rw [x17q]; exact x17z) dX8_doStep_194
def fX8_doStep (h : Hp) (v0 : Nat) (v1 : Int32) (v2 : Int32) (v3 : Int32) : Option (Int32 × Hp) :=
(gR h 8 v0 10).bind fun x1 =>
(lJ h x1 v1).bind fun x2 =>
(gR h 8 v0 11).bind fun x3 =>
(lJ h x3 v1).bind fun x4 =>
(gR h 8 v0 7).bind fun x5 =>
(fX8_doneBy h x2 v3).bind fun x6 =>
(lI h .int x5 ((v3 * (12 : Int32)) + x6)).bind fun x7 =>
(fX11_lockOf h x7).bind fun x8 =>
(some ((1 : Int64) <<< ((((6 : Int32) * x8) + v3).toInt64 &&& 63))).bind fun x9 =>
(some ((1 : Int64) <<< (((42 : Int32) + x8).toInt64 &&& 63))).bind fun x10 =>
(fX11_deedOf h x7).bind fun x11 =>
if x11 = (0 : Int32) then (
(fX8_ownersOf h x4 x8).bind fun x13 =>
if x13 = 0 then (
(some (x4 ||| x9)).bind fun x18 =>
(some (x2 ||| x10)).bind fun x19 =>
jX8_doStep_172 v0 v1 v2 v3 x19 x18 h) else (
jX8_doStep_172 v0 v1 v2 v3 x2 x4 h)) else (
if x11 = (1 : Int32) then (
(fX8_ownersOf h x4 x8).bind fun x21 =>
if x21 = 0 then (
(some (x4 ||| x9)).bind fun x23 =>
(some (x2 ||| x10)).bind fun x24 =>
jX8_doStep_172 v0 v1 v2 v3 x24 x23 h) else (
jX8_doStep_172 v0 v1 v2 v3 x2 x4 h)) else (
if x11 = (2 : Int32) then (
(some (x4 ||| x9)).bind fun x26 =>
jX8_doStep_172 v0 v1 v2 v3 x2 x26 h) else (
if x11 = (3 : Int32) then (
(fX8_ownersOf h x4 x8).bind fun x28 =>
if x28 = 0 then (
(some (x4 ||| x9)).bind fun x30 =>
(some (x2 ||| x10)).bind fun x31 =>
jX8_doStep_172 v0 v1 v2 v3 x31 x30 h) else (
jX8_doStep_172 v0 v1 v2 v3 x2 x4 h)) else (
if x11 = (4 : Int32) then (
if (lg_cmp (x4 &&& x9) (0 : Int64)) = 0 then (
jX8_doStep_172 v0 v1 v2 v3 x2 x4 h) else (
(some (x4 &&& (x9 ^^^ (-1 : Int64)))).bind fun x34 =>
(some (x2 &&& (x10 ^^^ (-1 : Int64)))).bind fun x35 =>
jX8_doStep_172 v0 v1 v2 v3 x35 x34 h)) else (
jX8_doStep_172 v0 v1 v2 v3 x2 x4 h)))))
set_option maxRecDepth 20000 in
set_option maxHeartbeats 4000000 in
theorem sX8_doStep {Γ : Gm} {d : Nat} (hd : 3 ≤ d) {h : Hp} {v0 : Nat} {v1 : Int32} {v2 : Int32} {v3 : Int32} {r : Int32 × Hp} (H : fX8_doStep h v0 v1 v2 v3 = some r) : V Γ d mX8_doStep 0 [(0, .ref v0), (1, .int v1), (2, .int v2), (3, .int v3)] [] h (some (.int r.1), r.2) := by
  unfold fX8_doStep at H
  refine v_aload_n (q := 1) 0 dX8_doStep_0 rfl rfl rfl ?_
  replace H := bs H; obtain ⟨x1, x1e, H⟩ := H
  refine u_gR (q := 4) (r := (RX8, TX8, 19)) x1e dX8_doStep_1 w1113 rfl (by decide) rfl rfl ?_
  refine v_iload_n (q := 5) 1 dX8_doStep_4 rfl rfl rfl ?_
  replace H := bs H; obtain ⟨x2, x2e, H⟩ := H
  refine u_lJ (q := 6) x2e dX8_doStep_5 rfl ?_
  refine v_lstore (L' := [(4, .long x2), (0, .ref v0), (1, .int v1), (2, .int v2), (3, .int v3)]) (q := 8) dX8_doStep_6 (by decide) rfl rfl ?_
  refine v_aload_n (q := 9) 1 dX8_doStep_8 rfl rfl rfl ?_
  replace H := bs H; obtain ⟨x3, x3e, H⟩ := H
  refine u_gR (q := 12) (r := (RX8, TX8, 19)) x3e dX8_doStep_9 w1114 rfl (by decide) rfl rfl ?_
  refine v_iload_n (q := 13) 2 dX8_doStep_12 rfl rfl rfl ?_
  replace H := bs H; obtain ⟨x4, x4e, H⟩ := H
  refine u_lJ (q := 14) x4e dX8_doStep_13 rfl ?_
  refine v_lstore (L' := [(6, .long x4), (4, .long x2), (0, .ref v0), (1, .int v1), (2, .int v2), (3, .int v3)]) (q := 16) dX8_doStep_14 (by decide) rfl rfl ?_
  refine v_aload_n (q := 17) 2 dX8_doStep_16 rfl rfl rfl ?_
  replace H := bs H; obtain ⟨x5, x5e, H⟩ := H
  refine u_gR (q := 20) (r := (RX8, TX8, 19)) x5e dX8_doStep_17 w1110 rfl (by decide) rfl rfl ?_
  refine v_iload_n (q := 21) 5 dX8_doStep_20 rfl rfl rfl ?_
  refine v_bipush (v := 12) (q := 23) dX8_doStep_21 (by decide) rfl ?_
  refine v_imul (q := 24) dX8_doStep_23 rfl ?_
  refine v_lload (q := 26) 1 dX8_doStep_24 rfl rfl ?_
  refine v_iload_n (q := 27) 5 dX8_doStep_26 rfl rfl rfl ?_
  replace H := bs H; obtain ⟨x6, x6e, H⟩ := H
  refine u_callS1 (M' := mX8_doneBy) (d' := 1) (As := [.long x2, .int v3]) (st := [.int (v3 * (12 : Int32)), .ref x5]) (q := 30) oX8_doneBy dX8_doStep_27 w1205 w1206 rfl (Nat.le_of_ble_eq_true rfl) (Nat.le_of_ble_eq_true rfl) (Nat.lt_of_lt_of_le (by decide) hd) rfl (sX8_doneBy (Nat.le_refl _) x6e) rfl ?_
  refine v_iadd (q := 31) dX8_doStep_30 rfl ?_
  replace H := bs H; obtain ⟨x7, x7e, H⟩ := H
  refine u_lI (q := 32) x7e dX8_doStep_31 rfl ?_
  refine v_istore (L' := [(8, .int x7), (6, .long x4), (4, .long x2), (0, .ref v0), (1, .int v1), (2, .int v2), (3, .int v3)]) (q := 34) dX8_doStep_32 (by decide) rfl rfl ?_
  refine v_iload (q := 36) 0 dX8_doStep_34 rfl rfl ?_
  replace H := bs H; obtain ⟨x8, x8e, H⟩ := H
  refine u_callSN1 (M' := mX11_lockOf) (d' := 1) (As := [.int x7]) (st := []) (q := 39) oX11_lockOf dX8_doStep_36 w1208 w0780 rfl (Nat.le_of_ble_eq_true rfl) (Nat.le_of_ble_eq_true rfl) (Nat.lt_of_lt_of_le (by decide) hd) rfl (sX11_lockOf (Nat.le_refl _) x8e) rfl ?_
  refine v_istore (L' := [(9, .int x8), (8, .int x7), (6, .long x4), (4, .long x2), (0, .ref v0), (1, .int v1), (2, .int v2), (3, .int v3)]) (q := 41) dX8_doStep_39 (by decide) rfl rfl ?_
  refine v_lconst (v := 1) (q := 42) dX8_doStep_41 (by decide) rfl ?_
  refine v_bipush (v := 6) (q := 44) dX8_doStep_42 (by decide) rfl ?_
  refine v_iload (q := 46) 0 dX8_doStep_44 rfl rfl ?_
  refine v_imul (q := 47) dX8_doStep_46 rfl ?_
  refine v_iload_n (q := 48) 7 dX8_doStep_47 rfl rfl rfl ?_
  refine v_iadd (q := 49) dX8_doStep_48 rfl ?_
  refine v_lshl (q := 50) dX8_doStep_49 rfl ?_
  replace H := bs H; obtain ⟨x9, x9e, H⟩ := H
  refine v_topj (Option.some.inj x9e) ?_
  refine v_lstore (L' := [(10, .long x9), (9, .int x8), (8, .int x7), (6, .long x4), (4, .long x2), (0, .ref v0), (1, .int v1), (2, .int v2), (3, .int v3)]) (q := 52) dX8_doStep_50 (by decide) rfl rfl ?_
  refine v_lconst (v := 1) (q := 53) dX8_doStep_52 (by decide) rfl ?_
  refine v_bipush (v := 42) (q := 55) dX8_doStep_53 (by decide) rfl ?_
  refine v_iload (q := 57) 1 dX8_doStep_55 rfl rfl ?_
  refine v_iadd (q := 58) dX8_doStep_57 rfl ?_
  refine v_lshl (q := 59) dX8_doStep_58 rfl ?_
  replace H := bs H; obtain ⟨x10, x10e, H⟩ := H
  refine v_topj (Option.some.inj x10e) ?_
  refine v_lstore (L' := [(12, .long x10), (10, .long x9), (9, .int x8), (8, .int x7), (6, .long x4), (4, .long x2), (0, .ref v0), (1, .int v1), (2, .int v2), (3, .int v3)]) (q := 61) dX8_doStep_59 (by decide) rfl rfl ?_
  refine v_iload (q := 63) 3 dX8_doStep_61 rfl rfl ?_
  replace H := bs H; obtain ⟨x11, x11e, H⟩ := H
  refine u_callSN1 (M' := mX11_deedOf) (d' := 1) (As := [.int x7]) (st := []) (q := 66) oX11_deedOf dX8_doStep_63 w1178 w0777 rfl (Nat.le_of_ble_eq_true rfl) (Nat.le_of_ble_eq_true rfl) (Nat.lt_of_lt_of_le (by decide) hd) rfl (sX11_deedOf (Nat.le_refl _) x11e) rfl ?_
  by_cases c12 : x11 = (0 : Int32)
  · replace H := ip c12 H
    rw [c12]
    refine v_tabIn (off := 34) (q := 100) dX8_doStep_66 (by decide) (by decide) (by decide) (by decide) ?_
    refine v_lload (q := 102) 4 dX8_doStep_100 rfl rfl ?_
    refine v_iload (q := 104) 2 dX8_doStep_102 rfl rfl ?_
    replace H := bs H; obtain ⟨x13, x13e, H⟩ := H
    refine u_callS1 (M' := mX8_ownersOf) (d' := 1) (As := [.long x4, .int x8]) (st := []) (q := 107) oX8_ownersOf dX8_doStep_104 w1209 w1210 rfl (Nat.le_of_ble_eq_true rfl) (Nat.le_of_ble_eq_true rfl) (Nat.lt_of_lt_of_le (by decide) hd) rfl (sX8_ownersOf (Nat.le_refl _) x13e) rfl ?_
    refine v_if_ne (q1 := 172) (q2 := 110) dX8_doStep_107 (by decide) rfl (fun c14 => ?_) (fun c14 => ?_)
    · replace H := ine c14 H
      exact V.sub [6, 7, 8, 9, 5, 4] rfl (sjX8_doStep_172 hd H)
    · replace H := ip c14 H
      refine v_lload (q := 112) 4 dX8_doStep_110 rfl rfl ?_
      refine v_lload (q := 114) 1 dX8_doStep_112 rfl rfl ?_
      refine v_lor (q := 115) dX8_doStep_114 rfl ?_
      replace H := bs H; obtain ⟨x18, x18e, H⟩ := H
      refine v_topj (Option.some.inj x18e) ?_
      refine v_lstore (L' := [(6, .long x18), (12, .long x10), (10, .long x9), (9, .int x8), (8, .int x7), (4, .long x2), (0, .ref v0), (1, .int v1), (2, .int v2), (3, .int v3)]) (q := 117) dX8_doStep_115 (by decide) rfl rfl ?_
      refine v_lload (q := 119) 5 dX8_doStep_117 rfl rfl ?_
      refine v_lload (q := 121) 1 dX8_doStep_119 rfl rfl ?_
      refine v_lor (q := 122) dX8_doStep_121 rfl ?_
      replace H := bs H; obtain ⟨x19, x19e, H⟩ := H
      refine v_topj (Option.some.inj x19e) ?_
      refine v_lstore (L' := [(4, .long x19), (6, .long x18), (12, .long x10), (10, .long x9), (9, .int x8), (8, .int x7), (0, .ref v0), (1, .int v1), (2, .int v2), (3, .int v3)]) (q := 124) dX8_doStep_122 (by decide) rfl rfl ?_
      refine v_goto (q := 172) dX8_doStep_124 (by decide) ?_
      exact V.sub [6, 7, 8, 9, 0, 1] rfl (sjX8_doStep_172 hd H)
  · replace H := ine c12 H
    by_cases c20 : x11 = (1 : Int32)
    · replace H := ip c20 H
      rw [c20]
      refine v_tabIn (off := 34) (q := 100) dX8_doStep_66 (by decide) (by decide) (by decide) (by decide) ?_
      refine v_lload (q := 102) 4 dX8_doStep_100 rfl rfl ?_
      refine v_iload (q := 104) 2 dX8_doStep_102 rfl rfl ?_
      replace H := bs H; obtain ⟨x21, x21e, H⟩ := H
      refine u_callS1 (M' := mX8_ownersOf) (d' := 1) (As := [.long x4, .int x8]) (st := []) (q := 107) oX8_ownersOf dX8_doStep_104 w1209 w1210 rfl (Nat.le_of_ble_eq_true rfl) (Nat.le_of_ble_eq_true rfl) (Nat.lt_of_lt_of_le (by decide) hd) rfl (sX8_ownersOf (Nat.le_refl _) x21e) rfl ?_
      refine v_if_ne (q1 := 172) (q2 := 110) dX8_doStep_107 (by decide) rfl (fun c22 => ?_) (fun c22 => ?_)
      · replace H := ine c22 H
        exact V.sub [6, 7, 8, 9, 5, 4] rfl (sjX8_doStep_172 hd H)
      · replace H := ip c22 H
        refine v_lload (q := 112) 4 dX8_doStep_110 rfl rfl ?_
        refine v_lload (q := 114) 1 dX8_doStep_112 rfl rfl ?_
        refine v_lor (q := 115) dX8_doStep_114 rfl ?_
        replace H := bs H; obtain ⟨x23, x23e, H⟩ := H
        refine v_topj (Option.some.inj x23e) ?_
        refine v_lstore (L' := [(6, .long x23), (12, .long x10), (10, .long x9), (9, .int x8), (8, .int x7), (4, .long x2), (0, .ref v0), (1, .int v1), (2, .int v2), (3, .int v3)]) (q := 117) dX8_doStep_115 (by decide) rfl rfl ?_
        refine v_lload (q := 119) 5 dX8_doStep_117 rfl rfl ?_
        refine v_lload (q := 121) 1 dX8_doStep_119 rfl rfl ?_
        refine v_lor (q := 122) dX8_doStep_121 rfl ?_
        replace H := bs H; obtain ⟨x24, x24e, H⟩ := H
        refine v_topj (Option.some.inj x24e) ?_
        refine v_lstore (L' := [(4, .long x24), (6, .long x23), (12, .long x10), (10, .long x9), (9, .int x8), (8, .int x7), (0, .ref v0), (1, .int v1), (2, .int v2), (3, .int v3)]) (q := 124) dX8_doStep_122 (by decide) rfl rfl ?_
        refine v_goto (q := 172) dX8_doStep_124 (by decide) ?_
        exact V.sub [6, 7, 8, 9, 0, 1] rfl (sjX8_doStep_172 hd H)
    · replace H := ine c20 H
      by_cases c25 : x11 = (2 : Int32)
      · replace H := ip c25 H
        rw [c25]
        refine v_tabIn (off := 61) (q := 127) dX8_doStep_66 (by decide) (by decide) (by decide) (by decide) ?_
        refine v_lload (q := 129) 4 dX8_doStep_127 rfl rfl ?_
        refine v_lload (q := 131) 1 dX8_doStep_129 rfl rfl ?_
        refine v_lor (q := 132) dX8_doStep_131 rfl ?_
        replace H := bs H; obtain ⟨x26, x26e, H⟩ := H
        refine v_topj (Option.some.inj x26e) ?_
        refine v_lstore (L' := [(6, .long x26), (12, .long x10), (10, .long x9), (9, .int x8), (8, .int x7), (4, .long x2), (0, .ref v0), (1, .int v1), (2, .int v2), (3, .int v3)]) (q := 134) dX8_doStep_132 (by decide) rfl rfl ?_
        refine v_goto (q := 172) dX8_doStep_134 (by decide) ?_
        exact V.sub [6, 7, 8, 9, 5, 0] rfl (sjX8_doStep_172 hd H)
      · replace H := ine c25 H
        by_cases c27 : x11 = (3 : Int32)
        · replace H := ip c27 H
          rw [c27]
          refine v_tabIn (off := 34) (q := 100) dX8_doStep_66 (by decide) (by decide) (by decide) (by decide) ?_
          refine v_lload (q := 102) 4 dX8_doStep_100 rfl rfl ?_
          refine v_iload (q := 104) 2 dX8_doStep_102 rfl rfl ?_
          replace H := bs H; obtain ⟨x28, x28e, H⟩ := H
          refine u_callS1 (M' := mX8_ownersOf) (d' := 1) (As := [.long x4, .int x8]) (st := []) (q := 107) oX8_ownersOf dX8_doStep_104 w1209 w1210 rfl (Nat.le_of_ble_eq_true rfl) (Nat.le_of_ble_eq_true rfl) (Nat.lt_of_lt_of_le (by decide) hd) rfl (sX8_ownersOf (Nat.le_refl _) x28e) rfl ?_
          refine v_if_ne (q1 := 172) (q2 := 110) dX8_doStep_107 (by decide) rfl (fun c29 => ?_) (fun c29 => ?_)
          · replace H := ine c29 H
            exact V.sub [6, 7, 8, 9, 5, 4] rfl (sjX8_doStep_172 hd H)
          · replace H := ip c29 H
            refine v_lload (q := 112) 4 dX8_doStep_110 rfl rfl ?_
            refine v_lload (q := 114) 1 dX8_doStep_112 rfl rfl ?_
            refine v_lor (q := 115) dX8_doStep_114 rfl ?_
            replace H := bs H; obtain ⟨x30, x30e, H⟩ := H
            refine v_topj (Option.some.inj x30e) ?_
            refine v_lstore (L' := [(6, .long x30), (12, .long x10), (10, .long x9), (9, .int x8), (8, .int x7), (4, .long x2), (0, .ref v0), (1, .int v1), (2, .int v2), (3, .int v3)]) (q := 117) dX8_doStep_115 (by decide) rfl rfl ?_
            refine v_lload (q := 119) 5 dX8_doStep_117 rfl rfl ?_
            refine v_lload (q := 121) 1 dX8_doStep_119 rfl rfl ?_
            refine v_lor (q := 122) dX8_doStep_121 rfl ?_
            replace H := bs H; obtain ⟨x31, x31e, H⟩ := H
            refine v_topj (Option.some.inj x31e) ?_
            refine v_lstore (L' := [(4, .long x31), (6, .long x30), (12, .long x10), (10, .long x9), (9, .int x8), (8, .int x7), (0, .ref v0), (1, .int v1), (2, .int v2), (3, .int v3)]) (q := 124) dX8_doStep_122 (by decide) rfl rfl ?_
            refine v_goto (q := 172) dX8_doStep_124 (by decide) ?_
            exact V.sub [6, 7, 8, 9, 0, 1] rfl (sjX8_doStep_172 hd H)
        · replace H := ine c27 H
          by_cases c32 : x11 = (4 : Int32)
          · replace H := ip c32 H
            rw [c32]
            refine v_tabIn (off := 71) (q := 137) dX8_doStep_66 (by decide) (by decide) (by decide) (by decide) ?_
            refine v_lload (q := 139) 4 dX8_doStep_137 rfl rfl ?_
            refine v_lload (q := 141) 1 dX8_doStep_139 rfl rfl ?_
            refine v_land (q := 142) dX8_doStep_141 rfl ?_
            refine v_lconst (v := 0) (q := 143) dX8_doStep_142 (by decide) rfl ?_
            refine v_lcmp (q := 144) dX8_doStep_143 rfl ?_
            refine v_if_eq (q1 := 172) (q2 := 147) dX8_doStep_144 (by decide) rfl (fun c33 => ?_) (fun c33 => ?_)
            · replace H := ip c33 H
              exact V.sub [6, 7, 8, 9, 5, 4] rfl (sjX8_doStep_172 hd H)
            · replace H := ine c33 H
              refine v_lload (q := 149) 4 dX8_doStep_147 rfl rfl ?_
              refine v_lload (q := 151) 1 dX8_doStep_149 rfl rfl ?_
              refine v_ldc2 (v := -1) (q := 154) dX8_doStep_151 w1216 rfl ?_
              refine v_lxor (q := 155) dX8_doStep_154 rfl ?_
              refine v_land (q := 156) dX8_doStep_155 rfl ?_
              replace H := bs H; obtain ⟨x34, x34e, H⟩ := H
              refine v_topj (Option.some.inj x34e) ?_
              refine v_lstore (L' := [(6, .long x34), (12, .long x10), (10, .long x9), (9, .int x8), (8, .int x7), (4, .long x2), (0, .ref v0), (1, .int v1), (2, .int v2), (3, .int v3)]) (q := 158) dX8_doStep_156 (by decide) rfl rfl ?_
              refine v_lload (q := 160) 5 dX8_doStep_158 rfl rfl ?_
              refine v_lload (q := 162) 1 dX8_doStep_160 rfl rfl ?_
              refine v_ldc2 (v := -1) (q := 165) dX8_doStep_162 w1216 rfl ?_
              refine v_lxor (q := 166) dX8_doStep_165 rfl ?_
              refine v_land (q := 167) dX8_doStep_166 rfl ?_
              replace H := bs H; obtain ⟨x35, x35e, H⟩ := H
              refine v_topj (Option.some.inj x35e) ?_
              refine v_lstore (L' := [(4, .long x35), (6, .long x34), (12, .long x10), (10, .long x9), (9, .int x8), (8, .int x7), (0, .ref v0), (1, .int v1), (2, .int v2), (3, .int v3)]) (q := 169) dX8_doStep_167 (by decide) rfl rfl ?_
              refine v_goto (q := 172) dX8_doStep_169 (by decide) ?_
              exact V.sub [6, 7, 8, 9, 0, 1] rfl (sjX8_doStep_172 hd H)
          · replace H := ine c32 H
            have c12t := lv_neT (a := 0) c12 (by decide)
            have c20t := lv_neT (a := 1) c20 (by decide)
            have c25t := lv_neT (a := 2) c25 (by decide)
            have c27t := lv_neT (a := 3) c27 (by decide)
            have c32t := lv_neT (a := 4) c32 (by decide)
            refine v_tabOut (q := 172) dX8_doStep_66 (by omega) (by decide) ?_
            exact V.sub [6, 7, 8, 9, 5, 4] rfl (sjX8_doStep_172 hd H)
def mX8_processorsOf : MI := (yX8_processorsOf, cX8_processorsOf, 7, some .int)
theorem oX8_processorsOf : mOK mX8_processorsOf 2 := ⟨by decide +kernel, by decide +kernel, by decide +kernel, by decide, w1224, w0159⟩
def jX8_processorsOf_64 (u0 : Nat) (u1 : Int64) (u3 : Int32) (v4 : Int32) (v5 : Int32) (h : Hp) : Option ((Int32 × Int32) ⊕ (Int32)) :=
(some (v5 + (1 : Int32))).bind fun x6 =>
some (.inl (v4, x6))
set_option maxRecDepth 20000 in
set_option maxHeartbeats 4000000 in
theorem sjX8_processorsOf_64 {Γ : Gm} {d : Nat} (hd : 2 ≤ d) {u0 : Nat} {u1 : Int64} {u3 : Int32} {v4 : Int32} {v5 : Int32} {h : Hp} {r : (Int32 × Int32) ⊕ (Int32)} {t : Option Value × Hp} (H : jX8_processorsOf_64 u0 u1 u3 v4 v5 h = some r) (kI : ∀ s, r = .inl s → (fun s6 => V Γ d mX8_processorsOf 6 [(0, .ref u0), (1, .long u1), (3, .int u3), (4, .int s6.1), (5, .int s6.2)] [] h t) s) (kE : ∀ e, r = .inr e → (fun e => V Γ d mX8_processorsOf 70 [(4, .int e)] [] h t) e) : V Γ d mX8_processorsOf 64 [(0, .ref u0), (1, .long u1), (3, .int u3), (4, .int v4), (5, .int v5)] [] h t := by
  unfold jX8_processorsOf_64 at H
  replace H := bs H; obtain ⟨x6, x6e, H⟩ := H
  refine v_iinc (v := x6) (L' := [(5, .int x6), (0, .ref u0), (1, .long u1), (3, .int u3), (4, .int v4)]) (q := 67) 4 dX8_processorsOf_64 rfl (Option.some.inj x6e) (by decide) rfl rfl ?_
  refine v_goto (q := 6) dX8_processorsOf_67 (by decide) ?_
  exact V.sub [1, 2, 3, 4, 0] rfl (kI (v4, x6) (Option.some.inj H).symm)
def jX8_processorsOf_60 (u0 : Nat) (u1 : Int64) (u3 : Int32) (v5 : Int32) (y0 : Int32) (y1 : Int32) (y2 : Int32) (h : Hp) : Option ((Int32 × Int32) ⊕ (Int32)) :=
(some (y2 ||| (y1 <<< (y0 &&& 31)))).bind fun x9 =>
jX8_processorsOf_64 u0 u1 u3 x9 v5 h
set_option maxRecDepth 20000 in
set_option maxHeartbeats 4000000 in
theorem sjX8_processorsOf_60 {Γ : Gm} {d : Nat} (hd : 2 ≤ d) {u0 : Nat} {u1 : Int64} {u3 : Int32} {v5 : Int32} {y0 : Int32} {y1 : Int32} {y2 : Int32} {h : Hp} {r : (Int32 × Int32) ⊕ (Int32)} {t : Option Value × Hp} (H : jX8_processorsOf_60 u0 u1 u3 v5 y0 y1 y2 h = some r) (kI : ∀ s, r = .inl s → (fun s6 => V Γ d mX8_processorsOf 6 [(0, .ref u0), (1, .long u1), (3, .int u3), (4, .int s6.1), (5, .int s6.2)] [] h t) s) (kE : ∀ e, r = .inr e → (fun e => V Γ d mX8_processorsOf 70 [(4, .int e)] [] h t) e) : V Γ d mX8_processorsOf 60 [(0, .ref u0), (1, .long u1), (3, .int u3), (5, .int v5)] [.int y0, .int y1, .int y2] h t := by
  unfold jX8_processorsOf_60 at H
  refine v_ishl (q := 61) dX8_processorsOf_60 rfl ?_
  refine v_ior (q := 62) dX8_processorsOf_61 rfl ?_
  replace H := bs H; obtain ⟨x9, x9e, H⟩ := H
  refine v_topi (Option.some.inj x9e) ?_
  refine v_istore (L' := [(4, .int x9), (0, .ref u0), (1, .long u1), (3, .int u3), (5, .int v5)]) (q := 64) dX8_processorsOf_62 (by decide) rfl rfl ?_
  exact V.sub [1, 2, 3, 0, 4] rfl (sjX8_processorsOf_64 hd H kI kE)
def bX8_processorsOf_6 (u0 : Nat) (u1 : Int64) (u3 : Int32) (h : Hp) (s6 : Int32 × Int32) : Option ((Int32 × Int32) ⊕ (Int32)) :=
(gR h 8 u0 6).bind fun x1 =>
(gI h 5 x1 2).bind fun x2 =>
if x2 ≤ s6.2 then (
some (.inr s6.1)) else (
(fX11_has h u3 s6.2).bind fun x4 =>
if x4 = 0 then (
jX8_processorsOf_64 u0 u1 u3 s6.1 s6.2 h) else (
(some ((((u1.toUInt64 >>> (((24 : Int32) + ((3 : Int32) * s6.2)).toInt64.toUInt64 &&& Int64.toUInt64 63)).toInt64) &&& (7 : Int64)).toInt32)).bind fun x7 =>
if x7 = 0 then (
jX8_processorsOf_60 u0 u1 u3 s6.2 s6.2 (1 : Int32) s6.1 h) else (
jX8_processorsOf_60 u0 u1 u3 s6.2 (x7 - (1 : Int32)) (1 : Int32) s6.1 h)))
set_option maxRecDepth 20000 in
set_option maxHeartbeats 4000000 in
theorem sbX8_processorsOf_6 {Γ : Gm} {d : Nat} (hd : 2 ≤ d) {u0 : Nat} {u1 : Int64} {u3 : Int32} {h : Hp} {s6 : Int32 × Int32} {r : (Int32 × Int32) ⊕ (Int32)} {t : Option Value × Hp} (H : bX8_processorsOf_6 u0 u1 u3 h s6 = some r) (kI : ∀ s, r = .inl s → (fun s6 => V Γ d mX8_processorsOf 6 [(0, .ref u0), (1, .long u1), (3, .int u3), (4, .int s6.1), (5, .int s6.2)] [] h t) s) (kE : ∀ e, r = .inr e → (fun e => V Γ d mX8_processorsOf 70 [(4, .int e)] [] h t) e) : V Γ d mX8_processorsOf 6 [(0, .ref u0), (1, .long u1), (3, .int u3), (4, .int s6.1), (5, .int s6.2)] [] h t := by
  unfold bX8_processorsOf_6 at H
  refine v_iload (q := 8) 4 dX8_processorsOf_6 rfl rfl ?_
  refine v_aload_n (q := 9) 0 dX8_processorsOf_8 rfl rfl rfl ?_
  replace H := bs H; obtain ⟨x1, x1e, H⟩ := H
  refine u_gR (q := 12) (r := (RX8, TX8, 19)) x1e dX8_processorsOf_9 w1109 rfl (by decide) rfl rfl ?_
  replace H := bs H; obtain ⟨x2, x2e, H⟩ := H
  refine u_gI (q := 15) (r := (RX5, TX5, 7)) x2e dX8_processorsOf_12 w0231 rfl (by decide) rfl rfl ?_
  refine v_icmp_ge (q1 := 70) (q2 := 18) dX8_processorsOf_15 (by decide) rfl (fun c3 => ?_) (fun c3 => ?_)
  · replace H := ip c3 H
    exact V.sub [3] rfl (kE s6.1 (Option.some.inj H).symm)
  · replace H := ine c3 H
    refine v_iload_n (q := 19) 2 dX8_processorsOf_18 rfl rfl rfl ?_
    refine v_iload (q := 21) 4 dX8_processorsOf_19 rfl rfl ?_
    replace H := bs H; obtain ⟨x4, x4e, H⟩ := H
    refine u_callSN1 (M' := mX11_has) (d' := 1) (As := [.int u3, .int s6.2]) (st := []) (q := 24) oX11_has dX8_processorsOf_21 w1194 w0783 rfl (Nat.le_of_ble_eq_true rfl) (Nat.le_of_ble_eq_true rfl) (Nat.lt_of_lt_of_le (by decide) hd) rfl (sX11_has (Nat.le_refl _) x4e) rfl ?_
    refine v_if_eq (q1 := 64) (q2 := 27) dX8_processorsOf_24 (by decide) rfl (fun c5 => ?_) (fun c5 => ?_)
    · replace H := ip c5 H
      exact V.sub [0, 1, 2, 3, 4] rfl (sjX8_processorsOf_64 hd H kI kE)
    · replace H := ine c5 H
      refine v_lload_n (q := 28) 1 dX8_processorsOf_27 rfl rfl rfl ?_
      refine v_bipush (v := 24) (q := 30) dX8_processorsOf_28 (by decide) rfl ?_
      refine v_iconst (v := 3) (q := 31) dX8_processorsOf_30 (by decide) rfl ?_
      refine v_iload (q := 33) 4 dX8_processorsOf_31 rfl rfl ?_
      refine v_imul (q := 34) dX8_processorsOf_33 rfl ?_
      refine v_iadd (q := 35) dX8_processorsOf_34 rfl ?_
      refine v_lushr (q := 36) dX8_processorsOf_35 rfl ?_
      refine v_ldc2 (v := 7) (q := 39) dX8_processorsOf_36 w1200 rfl ?_
      refine v_land (q := 40) dX8_processorsOf_39 rfl ?_
      refine v_l2i (q := 41) dX8_processorsOf_40 rfl ?_
      replace H := bs H; obtain ⟨x7, x7e, H⟩ := H
      refine v_topi (Option.some.inj x7e) ?_
      refine v_istore (L' := [(6, .int x7), (0, .ref u0), (1, .long u1), (3, .int u3), (4, .int s6.1), (5, .int s6.2)]) (q := 43) dX8_processorsOf_41 (by decide) rfl rfl ?_
      refine v_iload (q := 45) 4 dX8_processorsOf_43 rfl rfl ?_
      refine v_iconst (v := 1) (q := 46) dX8_processorsOf_45 (by decide) rfl ?_
      refine v_iload (q := 48) 0 dX8_processorsOf_46 rfl rfl ?_
      refine v_if_ne (q1 := 56) (q2 := 51) dX8_processorsOf_48 (by decide) rfl (fun c8 => ?_) (fun c8 => ?_)
      · replace H := ine c8 H
        refine v_iload (q := 58) 0 dX8_processorsOf_56 rfl rfl ?_
        refine v_iconst (v := 1) (q := 59) dX8_processorsOf_58 (by decide) rfl ?_
        refine v_isub (q := 60) dX8_processorsOf_59 rfl ?_
        exact V.sub [1, 2, 3, 5] rfl (sjX8_processorsOf_60 hd H kI kE)
      · replace H := ip c8 H
        refine v_iload (q := 53) 5 dX8_processorsOf_51 rfl rfl ?_
        refine v_goto (q := 60) dX8_processorsOf_53 (by decide) ?_
        exact V.sub [1, 2, 3, 5] rfl (sjX8_processorsOf_60 hd H kI kE)
def fX8_processorsOf (h : Hp) (v0 : Nat) (v1 : Int64) (v3 : Int32) : Option (Int32) :=
(lp (bX8_processorsOf_6 v0 v1 v3 h) FU ((0 : Int32), (0 : Int32))).bind fun e10 =>
some e10
set_option maxRecDepth 20000 in
set_option maxHeartbeats 4000000 in
theorem sX8_processorsOf {Γ : Gm} {d : Nat} (hd : 2 ≤ d) {h : Hp} {v0 : Nat} {v1 : Int64} {v3 : Int32} {r : Int32} (H : fX8_processorsOf h v0 v1 v3 = some r) : V Γ d mX8_processorsOf 0 [(0, .ref v0), (1, .long v1), (3, .int v3)] [] h (some (.int r), h) := by
  unfold fX8_processorsOf at H
  refine v_iconst (v := 0) (q := 1) dX8_processorsOf_0 (by decide) rfl ?_
  refine v_istore (L' := [(4, .int (0 : Int32)), (0, .ref v0), (1, .long v1), (3, .int v3)]) (q := 3) dX8_processorsOf_1 (by decide) rfl rfl ?_
  refine v_iconst (v := 0) (q := 4) dX8_processorsOf_3 (by decide) rfl ?_
  refine v_istore (L' := [(5, .int (0 : Int32)), (4, .int (0 : Int32)), (0, .ref v0), (1, .long v1), (3, .int v3)]) (q := 6) dX8_processorsOf_4 (by decide) rfl rfl ?_
  replace H := bs H; obtain ⟨e10, e10L, H⟩ := H
  refine V.sub [2, 3, 4, 1, 0] rfl ?_
  refine lp_V (P := (fun s6 => V Γ d mX8_processorsOf 6 [(0, .ref v0), (1, .long v1), (3, .int v3), (4, .int s6.1), (5, .int s6.2)] [] h (some (.int r), h))) (E := (fun e => V Γ d mX8_processorsOf 70 [(4, .int e)] [] h (some (.int r), h))) (fun s r hb kI kE => sbX8_processorsOf_6 hd (s6 := s) (r := r) hb kI kE) FU ((0 : Int32), (0 : Int32)) e10 e10L ?_
  refine v_iload (q := 72) 0 dX8_processorsOf_70 rfl rfl ?_
  cases H
  exact v_ireturn rfl dX8_processorsOf_72
def mX10_leadingTo : MI := (yX10_leadingTo, cX10_leadingTo, 4, some .int)
theorem oX10_leadingTo : mOK mX10_leadingTo 2 := ⟨by decide +kernel, by decide +kernel, by decide +kernel, by decide, w0864, w0146⟩
def jX10_leadingTo_24 (u0 : Nat) (u1 : Int32) (v2 : Int32) (v3 : Int32) (h : Hp) : Option ((Int32 × Int32) ⊕ (Int32)) :=
(some (v3 + (1 : Int32))).bind fun x5 =>
some (.inl (v2, x5))
set_option maxRecDepth 20000 in
set_option maxHeartbeats 4000000 in
theorem sjX10_leadingTo_24 {Γ : Gm} {d : Nat} (hd : 1 ≤ d) {u0 : Nat} {u1 : Int32} {v2 : Int32} {v3 : Int32} {h : Hp} {r : (Int32 × Int32) ⊕ (Int32)} {t : Option Value × Hp} (H : jX10_leadingTo_24 u0 u1 v2 v3 h = some r) (kI : ∀ s, r = .inl s → (fun s4 => V Γ d mX10_leadingTo 4 [(0, .ref u0), (1, .int u1), (2, .int s4.1), (3, .int s4.2)] [] h t) s) (kE : ∀ e, r = .inr e → (fun e => V Γ d mX10_leadingTo 30 [(2, .int e)] [] h t) e) : V Γ d mX10_leadingTo 24 [(0, .ref u0), (1, .int u1), (2, .int v2), (3, .int v3)] [] h t := by
  unfold jX10_leadingTo_24 at H
  replace H := bs H; obtain ⟨x5, x5e, H⟩ := H
  refine v_iinc (v := x5) (L' := [(3, .int x5), (0, .ref u0), (1, .int u1), (2, .int v2)]) (q := 27) 3 dX10_leadingTo_24 rfl (Option.some.inj x5e) (by decide) rfl rfl ?_
  refine v_goto (q := 4) dX10_leadingTo_27 (by decide) ?_
  exact V.sub [1, 2, 3, 0] rfl (kI (v2, x5) (Option.some.inj H).symm)
def bX10_leadingTo_4 (u0 : Nat) (u1 : Int32) (h : Hp) (s4 : Int32 × Int32) : Option ((Int32 × Int32) ⊕ (Int32)) :=
(aL h .int u0).bind fun x1 =>
if x1 ≤ s4.2 then (
some (.inr s4.1)) else (
(lI h .int u0 s4.2).bind fun x3 =>
if (x3 &&& u1) = 0 then (
jX10_leadingTo_24 u0 u1 s4.1 s4.2 h) else (
(some (s4.1 ||| ((1 : Int32) <<< (s4.2 &&& 31)))).bind fun x6 =>
jX10_leadingTo_24 u0 u1 x6 s4.2 h))
set_option maxRecDepth 20000 in
set_option maxHeartbeats 4000000 in
theorem sbX10_leadingTo_4 {Γ : Gm} {d : Nat} (hd : 1 ≤ d) {u0 : Nat} {u1 : Int32} {h : Hp} {s4 : Int32 × Int32} {r : (Int32 × Int32) ⊕ (Int32)} {t : Option Value × Hp} (H : bX10_leadingTo_4 u0 u1 h s4 = some r) (kI : ∀ s, r = .inl s → (fun s4 => V Γ d mX10_leadingTo 4 [(0, .ref u0), (1, .int u1), (2, .int s4.1), (3, .int s4.2)] [] h t) s) (kE : ∀ e, r = .inr e → (fun e => V Γ d mX10_leadingTo 30 [(2, .int e)] [] h t) e) : V Γ d mX10_leadingTo 4 [(0, .ref u0), (1, .int u1), (2, .int s4.1), (3, .int s4.2)] [] h t := by
  unfold bX10_leadingTo_4 at H
  refine v_iload_n (q := 5) 3 dX10_leadingTo_4 rfl rfl rfl ?_
  refine v_aload_n (q := 6) 0 dX10_leadingTo_5 rfl rfl rfl ?_
  replace H := bs H; obtain ⟨x1, x1e, H⟩ := H
  refine u_aL (q := 7) (ty := .int) (by decide) x1e dX10_leadingTo_6 rfl ?_
  refine v_icmp_ge (q1 := 30) (q2 := 10) dX10_leadingTo_7 (by decide) rfl (fun c2 => ?_) (fun c2 => ?_)
  · replace H := ip c2 H
    exact V.sub [2] rfl (kE s4.1 (Option.some.inj H).symm)
  · replace H := ine c2 H
    refine v_aload_n (q := 11) 0 dX10_leadingTo_10 rfl rfl rfl ?_
    refine v_iload_n (q := 12) 3 dX10_leadingTo_11 rfl rfl rfl ?_
    replace H := bs H; obtain ⟨x3, x3e, H⟩ := H
    refine u_lI (q := 13) x3e dX10_leadingTo_12 rfl ?_
    refine v_iload_n (q := 14) 1 dX10_leadingTo_13 rfl rfl rfl ?_
    refine v_iand (q := 15) dX10_leadingTo_14 rfl ?_
    refine v_if_eq (q1 := 24) (q2 := 18) dX10_leadingTo_15 (by decide) rfl (fun c4 => ?_) (fun c4 => ?_)
    · replace H := ip c4 H
      exact V.sub [0, 1, 2, 3] rfl (sjX10_leadingTo_24 hd H kI kE)
    · replace H := ine c4 H
      refine v_iload_n (q := 19) 2 dX10_leadingTo_18 rfl rfl rfl ?_
      refine v_iconst (v := 1) (q := 20) dX10_leadingTo_19 (by decide) rfl ?_
      refine v_iload_n (q := 21) 3 dX10_leadingTo_20 rfl rfl rfl ?_
      refine v_ishl (q := 22) dX10_leadingTo_21 rfl ?_
      refine v_ior (q := 23) dX10_leadingTo_22 rfl ?_
      replace H := bs H; obtain ⟨x6, x6e, H⟩ := H
      refine v_topi (Option.some.inj x6e) ?_
      refine v_istore_n (L' := [(2, .int x6), (0, .ref u0), (1, .int u1), (3, .int s4.2)]) (q := 24) dX10_leadingTo_23 rfl (by decide) rfl rfl ?_
      exact V.sub [1, 2, 0, 3] rfl (sjX10_leadingTo_24 hd H kI kE)
def fX10_leadingTo (h : Hp) (v0 : Nat) (v1 : Int32) : Option (Int32) :=
(lp (bX10_leadingTo_4 v0 v1 h) FU ((0 : Int32), (0 : Int32))).bind fun e7 =>
some e7
set_option maxRecDepth 20000 in
set_option maxHeartbeats 4000000 in
theorem sX10_leadingTo {Γ : Gm} {d : Nat} (hd : 1 ≤ d) {h : Hp} {v0 : Nat} {v1 : Int32} {r : Int32} (H : fX10_leadingTo h v0 v1 = some r) : V Γ d mX10_leadingTo 0 [(0, .ref v0), (1, .int v1)] [] h (some (.int r), h) := by
  unfold fX10_leadingTo at H
  refine v_iconst (v := 0) (q := 1) dX10_leadingTo_0 (by decide) rfl ?_
  refine v_istore_n (L' := [(2, .int (0 : Int32)), (0, .ref v0), (1, .int v1)]) (q := 2) dX10_leadingTo_1 rfl (by decide) rfl rfl ?_
  refine v_iconst (v := 0) (q := 3) dX10_leadingTo_2 (by decide) rfl ?_
  refine v_istore_n (L' := [(3, .int (0 : Int32)), (2, .int (0 : Int32)), (0, .ref v0), (1, .int v1)]) (q := 4) dX10_leadingTo_3 rfl (by decide) rfl rfl ?_
  replace H := bs H; obtain ⟨e7, e7L, H⟩ := H
  refine V.sub [2, 3, 1, 0] rfl ?_
  refine lp_V (P := (fun s4 => V Γ d mX10_leadingTo 4 [(0, .ref v0), (1, .int v1), (2, .int s4.1), (3, .int s4.2)] [] h (some (.int r), h))) (E := (fun e => V Γ d mX10_leadingTo 30 [(2, .int e)] [] h (some (.int r), h))) (fun s r hb kI kE => sbX10_leadingTo_4 hd (s4 := s) (r := r) hb kI kE) FU ((0 : Int32), (0 : Int32)) e7 e7L ?_
  refine v_iload_n (q := 31) 0 dX10_leadingTo_30 rfl rfl rfl ?_
  cases H
  exact v_ireturn rfl dX10_leadingTo_31
def mX10_find : MI := (yX10_find, cX10_find, 8, some .boolean)
theorem oX10_find : mOK mX10_find 3 := ⟨by decide +kernel, by decide +kernel, by decide +kernel, by decide, w0861, w0146⟩
def bX10_find_20 (u0 : Nat) (u1 : Nat) (u2 : Int32) (s20 : Int32 × Int32 × Hp) : Option ((Int32 × Int32 × Hp) ⊕ (Int32 × Hp)) :=
if (15 : Int32) ≤ s20.1 then (
some (.inr (s20.1, s20.2.2))) else (
(gR s20.2.2 10 u0 2).bind fun x6 =>
(lI s20.2.2 .int x6 s20.1).bind fun x7 =>
if x7 = 0 then (
some (.inr (s20.1, s20.2.2))) else (
(lI s20.2.2 .int u1 u2).bind fun x9 =>
(gR s20.2.2 10 u0 2).bind fun x10 =>
(lI s20.2.2 .int x10 s20.1).bind fun x11 =>
if (x9 &&& x11) = 0 then (
(gR s20.2.2 10 u0 2).bind fun x13 =>
(gR s20.2.2 10 u0 2).bind fun x14 =>
(lI s20.2.2 .int x14 s20.1).bind fun x15 =>
(fX10_leadingTo s20.2.2 u1 x15).bind fun x16 =>
(tI s20.2.2 x13 (s20.1 + (1 : Int32)) (x16 &&& (s20.2.1 ^^^ (-1 : Int32)))).bind fun h17 =>
(some (s20.1 + (1 : Int32))).bind fun x18 =>
(gR h17 10 u0 2).bind fun x19 =>
(lI h17 .int x19 x18).bind fun x20 =>
(some (s20.2.1 ||| x20)).bind fun x21 =>
some (.inl (x18, x21, h17))) else (
some (.inr (s20.1, s20.2.2)))))
set_option maxRecDepth 20000 in
set_option maxHeartbeats 4000000 in
theorem sbX10_find_20 {Γ : Gm} {d : Nat} (hd : 2 ≤ d) {u0 : Nat} {u1 : Nat} {u2 : Int32} {s20 : Int32 × Int32 × Hp} {r : (Int32 × Int32 × Hp) ⊕ (Int32 × Hp)} {t : Option Value × Hp} (H : bX10_find_20 u0 u1 u2 s20 = some r) (kI : ∀ s, r = .inl s → (fun s20 => V Γ d mX10_find 20 [(0, .ref u0), (1, .ref u1), (2, .int u2), (4, .int s20.1), (5, .int s20.2.1)] [] s20.2.2 t) s) (kE : ∀ e, r = .inr e → (fun e => V Γ d mX10_find 94 [(0, .ref u0), (1, .ref u1), (2, .int u2), (4, .int e.1)] [] e.2 t) e) : V Γ d mX10_find 20 [(0, .ref u0), (1, .ref u1), (2, .int u2), (4, .int s20.1), (5, .int s20.2.1)] [] s20.2.2 t := by
  unfold bX10_find_20 at H
  refine v_iload (q := 22) 3 dX10_find_20 rfl rfl ?_
  refine v_bipush (v := 15) (q := 24) dX10_find_22 (by decide) rfl ?_
  refine v_icmp_ge (q1 := 94) (q2 := 27) dX10_find_24 (by decide) rfl (fun c5 => ?_) (fun c5 => ?_)
  · replace H := ip c5 H
    exact V.sub [0, 1, 2, 3] rfl (kE (s20.1, s20.2.2) (Option.some.inj H).symm)
  · replace H := ine c5 H
    refine v_aload_n (q := 28) 0 dX10_find_27 rfl rfl rfl ?_
    replace H := bs H; obtain ⟨x6, x6e, H⟩ := H
    refine u_gR (q := 31) (r := (RX10, TX10, 3)) x6e dX10_find_28 w0406 rfl (by decide) rfl rfl ?_
    refine v_iload (q := 33) 3 dX10_find_31 rfl rfl ?_
    replace H := bs H; obtain ⟨x7, x7e, H⟩ := H
    refine u_lI (q := 34) x7e dX10_find_33 rfl ?_
    refine v_if_eq (q1 := 94) (q2 := 37) dX10_find_34 (by decide) rfl (fun c8 => ?_) (fun c8 => ?_)
    · replace H := ip c8 H
      exact V.sub [0, 1, 2, 3] rfl (kE (s20.1, s20.2.2) (Option.some.inj H).symm)
    · replace H := ine c8 H
      refine v_aload_n (q := 38) 1 dX10_find_37 rfl rfl rfl ?_
      refine v_iload_n (q := 39) 2 dX10_find_38 rfl rfl rfl ?_
      replace H := bs H; obtain ⟨x9, x9e, H⟩ := H
      refine u_lI (q := 40) x9e dX10_find_39 rfl ?_
      refine v_aload_n (q := 41) 0 dX10_find_40 rfl rfl rfl ?_
      replace H := bs H; obtain ⟨x10, x10e, H⟩ := H
      refine u_gR (q := 44) (r := (RX10, TX10, 3)) x10e dX10_find_41 w0406 rfl (by decide) rfl rfl ?_
      refine v_iload (q := 46) 3 dX10_find_44 rfl rfl ?_
      replace H := bs H; obtain ⟨x11, x11e, H⟩ := H
      refine u_lI (q := 47) x11e dX10_find_46 rfl ?_
      refine v_iand (q := 48) dX10_find_47 rfl ?_
      refine v_if_ne (q1 := 94) (q2 := 51) dX10_find_48 (by decide) rfl (fun c12 => ?_) (fun c12 => ?_)
      · replace H := ine c12 H
        exact V.sub [0, 1, 2, 3] rfl (kE (s20.1, s20.2.2) (Option.some.inj H).symm)
      · replace H := ip c12 H
        refine v_aload_n (q := 52) 0 dX10_find_51 rfl rfl rfl ?_
        replace H := bs H; obtain ⟨x13, x13e, H⟩ := H
        refine u_gR (q := 55) (r := (RX10, TX10, 3)) x13e dX10_find_52 w0406 rfl (by decide) rfl rfl ?_
        refine v_iload (q := 57) 3 dX10_find_55 rfl rfl ?_
        refine v_iconst (v := 1) (q := 58) dX10_find_57 (by decide) rfl ?_
        refine v_iadd (q := 59) dX10_find_58 rfl ?_
        refine v_aload_n (q := 60) 1 dX10_find_59 rfl rfl rfl ?_
        refine v_aload_n (q := 61) 0 dX10_find_60 rfl rfl rfl ?_
        replace H := bs H; obtain ⟨x14, x14e, H⟩ := H
        refine u_gR (q := 64) (r := (RX10, TX10, 3)) x14e dX10_find_61 w0406 rfl (by decide) rfl rfl ?_
        refine v_iload (q := 66) 3 dX10_find_64 rfl rfl ?_
        replace H := bs H; obtain ⟨x15, x15e, H⟩ := H
        refine u_lI (q := 67) x15e dX10_find_66 rfl ?_
        replace H := bs H; obtain ⟨x16, x16e, H⟩ := H
        refine u_callS1 (M' := mX10_leadingTo) (d' := 1) (As := [.ref u1, .int x15]) (st := [.int (s20.1 + (1 : Int32)), .ref x13]) (q := 70) oX10_leadingTo dX10_find_67 w0862 w0863 rfl (Nat.le_of_ble_eq_true rfl) (Nat.le_of_ble_eq_true rfl) (Nat.lt_of_lt_of_le (by decide) hd) rfl (sX10_leadingTo (Nat.le_refl _) x16e) rfl ?_
        refine v_iload (q := 72) 4 dX10_find_70 rfl rfl ?_
        refine v_iconst (v := -1) (q := 73) dX10_find_72 (by decide) rfl ?_
        refine v_ixor (q := 74) dX10_find_73 rfl ?_
        refine v_iand (q := 75) dX10_find_74 rfl ?_
        replace H := bs H; obtain ⟨h17, h17e, H⟩ := H
        refine u_tI (q := 76) h17e dX10_find_75 rfl ?_
        replace H := bs H; obtain ⟨x18, x18e, H⟩ := H
        refine v_iinc (v := x18) (L' := [(4, .int x18), (0, .ref u0), (1, .ref u1), (2, .int u2), (5, .int s20.2.1)]) (q := 79) 3 dX10_find_76 rfl (Option.some.inj x18e) (by decide) rfl rfl ?_
        refine v_iload (q := 81) 4 dX10_find_79 rfl rfl ?_
        refine v_aload_n (q := 82) 1 dX10_find_81 rfl rfl rfl ?_
        replace H := bs H; obtain ⟨x19, x19e, H⟩ := H
        refine u_gR (q := 85) (r := (RX10, TX10, 3)) x19e dX10_find_82 w0406 rfl (by decide) rfl rfl ?_
        refine v_iload (q := 87) 0 dX10_find_85 rfl rfl ?_
        replace H := bs H; obtain ⟨x20, x20e, H⟩ := H
        refine u_lI (q := 88) x20e dX10_find_87 rfl ?_
        refine v_ior (q := 89) dX10_find_88 rfl ?_
        replace H := bs H; obtain ⟨x21, x21e, H⟩ := H
        refine v_topi (Option.some.inj x21e) ?_
        refine v_istore (L' := [(5, .int x21), (4, .int x18), (0, .ref u0), (1, .ref u1), (2, .int u2)]) (q := 91) dX10_find_89 (by decide) rfl rfl ?_
        refine v_goto (q := 20) dX10_find_91 (by decide) ?_
        exact V.sub [2, 3, 4, 1, 0] rfl (kI (x18, x21, h17) (Option.some.inj H).symm)
def bX10_find_133 (u0 : Nat) (u1 : Nat) (s133 : Int32 × Hp) : Option ((Int32 × Hp) ⊕ (Hp)) :=
(gI s133.2 10 u0 1).bind fun x30 =>
if x30 < s133.1 then (
some (.inr s133.2)) else (
(gR s133.2 10 u0 0).bind fun x32 =>
(lI s133.2 .int x32 (s133.1 - (1 : Int32))).bind fun x33 =>
(lI s133.2 .int u1 x33).bind fun x34 =>
(gR s133.2 10 u0 2).bind fun x35 =>
(gI s133.2 10 u0 1).bind fun x36 =>
(lI s133.2 .int x35 (x36 - s133.1)).bind fun x37 =>
(some (x34 &&& x37)).bind fun x38 =>
(gR s133.2 10 u0 0).bind fun x39 =>
(fJ6_bitCount_0f7a4 s133.2 ((x38 &&& (-x38)) - (1 : Int32))).bind fun x40 =>
(tI s133.2 x39 s133.1 x40).bind fun h41 =>
(some (s133.1 + (1 : Int32))).bind fun x42 =>
some (.inl (x42, h41)))
set_option maxRecDepth 20000 in
set_option maxHeartbeats 4000000 in
theorem sbX10_find_133 {Γ : Gm} {d : Nat} (hd : 2 ≤ d) {u0 : Nat} {u1 : Nat} {s133 : Int32 × Hp} {r : (Int32 × Hp) ⊕ (Hp)} {t : Option Value × Hp} (H : bX10_find_133 u0 u1 s133 = some r) (kI : ∀ s, r = .inl s → (fun s133 => V Γ d mX10_find 133 [(0, .ref u0), (1, .ref u1), (6, .int s133.1)] [] s133.2 t) s) (kE : ∀ e, r = .inr e → (fun e => V Γ d mX10_find 192 [] [] e t) e) : V Γ d mX10_find 133 [(0, .ref u0), (1, .ref u1), (6, .int s133.1)] [] s133.2 t := by
  unfold bX10_find_133 at H
  refine v_iload (q := 135) 2 dX10_find_133 rfl rfl ?_
  refine v_aload_n (q := 136) 0 dX10_find_135 rfl rfl rfl ?_
  replace H := bs H; obtain ⟨x30, x30e, H⟩ := H
  refine u_gI (q := 139) (r := (RX10, TX10, 3)) x30e dX10_find_136 w0401 rfl (by decide) rfl rfl ?_
  refine v_icmp_gt (q1 := 192) (q2 := 142) dX10_find_139 (by decide) rfl (fun c31 => ?_) (fun c31 => ?_)
  · replace H := ip c31 H
    exact V.sub [] rfl (kE s133.2 (Option.some.inj H).symm)
  · replace H := ine c31 H
    refine v_aload_n (q := 143) 1 dX10_find_142 rfl rfl rfl ?_
    refine v_aload_n (q := 144) 0 dX10_find_143 rfl rfl rfl ?_
    replace H := bs H; obtain ⟨x32, x32e, H⟩ := H
    refine u_gR (q := 147) (r := (RX10, TX10, 3)) x32e dX10_find_144 w0396 rfl (by decide) rfl rfl ?_
    refine v_iload (q := 149) 2 dX10_find_147 rfl rfl ?_
    refine v_iconst (v := 1) (q := 150) dX10_find_149 (by decide) rfl ?_
    refine v_isub (q := 151) dX10_find_150 rfl ?_
    replace H := bs H; obtain ⟨x33, x33e, H⟩ := H
    refine u_lI (q := 152) x33e dX10_find_151 rfl ?_
    replace H := bs H; obtain ⟨x34, x34e, H⟩ := H
    refine u_lI (q := 153) x34e dX10_find_152 rfl ?_
    refine v_aload_n (q := 154) 0 dX10_find_153 rfl rfl rfl ?_
    replace H := bs H; obtain ⟨x35, x35e, H⟩ := H
    refine u_gR (q := 157) (r := (RX10, TX10, 3)) x35e dX10_find_154 w0406 rfl (by decide) rfl rfl ?_
    refine v_aload_n (q := 158) 0 dX10_find_157 rfl rfl rfl ?_
    replace H := bs H; obtain ⟨x36, x36e, H⟩ := H
    refine u_gI (q := 161) (r := (RX10, TX10, 3)) x36e dX10_find_158 w0401 rfl (by decide) rfl rfl ?_
    refine v_iload (q := 163) 2 dX10_find_161 rfl rfl ?_
    refine v_isub (q := 164) dX10_find_163 rfl ?_
    replace H := bs H; obtain ⟨x37, x37e, H⟩ := H
    refine u_lI (q := 165) x37e dX10_find_164 rfl ?_
    refine v_iand (q := 166) dX10_find_165 rfl ?_
    replace H := bs H; obtain ⟨x38, x38e, H⟩ := H
    refine v_topi (Option.some.inj x38e) ?_
    refine v_istore (L' := [(7, .int x38), (0, .ref u0), (1, .ref u1), (6, .int s133.1)]) (q := 168) dX10_find_166 (by decide) rfl rfl ?_
    refine v_aload_n (q := 169) 1 dX10_find_168 rfl rfl rfl ?_
    replace H := bs H; obtain ⟨x39, x39e, H⟩ := H
    refine u_gR (q := 172) (r := (RX10, TX10, 3)) x39e dX10_find_169 w0396 rfl (by decide) rfl rfl ?_
    refine v_iload (q := 174) 3 dX10_find_172 rfl rfl ?_
    refine v_iload (q := 176) 0 dX10_find_174 rfl rfl ?_
    refine v_iload (q := 178) 0 dX10_find_176 rfl rfl ?_
    refine v_ineg (q := 179) dX10_find_178 rfl ?_
    refine v_iand (q := 180) dX10_find_179 rfl ?_
    refine v_iconst (v := 1) (q := 181) dX10_find_180 (by decide) rfl ?_
    refine v_isub (q := 182) dX10_find_181 rfl ?_
    replace H := bs H; obtain ⟨x40, x40e, H⟩ := H
    refine u_callS1 (M' := mJ6_bitCount_0f7a4) (d' := 1) (As := [.int ((x38 &&& (-x38)) - (1 : Int32))]) (st := [.int s133.1, .ref x39]) (q := 185) oJ6_bitCount_0f7a4 dX10_find_182 w0865 w0866 rfl (Nat.le_of_ble_eq_true rfl) (Nat.le_of_ble_eq_true rfl) (Nat.lt_of_lt_of_le (by decide) hd) rfl (sJ6_bitCount_0f7a4 (Nat.le_refl _) x40e) rfl ?_
    replace H := bs H; obtain ⟨h41, h41e, H⟩ := H
    refine u_tI (q := 186) h41e dX10_find_185 rfl ?_
    replace H := bs H; obtain ⟨x42, x42e, H⟩ := H
    refine v_iinc (v := x42) (L' := [(6, .int x42), (7, .int x38), (0, .ref u0), (1, .ref u1)]) (q := 189) 3 dX10_find_186 rfl (Option.some.inj x42e) (by decide) rfl rfl ?_
    refine v_goto (q := 133) dX10_find_189 (by decide) ?_
    exact V.sub [2, 3, 0] rfl (kI (x42, h41) (Option.some.inj H).symm)
def fX10_find (h : Hp) (v0 : Nat) (v1 : Nat) (v2 : Int32) (v3 : Int32) : Option (Int32 × Hp) :=
(gR h 10 v0 2).bind fun x1 =>
(tI h x1 (0 : Int32) ((1 : Int32) <<< (v3 &&& 31))).bind fun h2 =>
(gR h2 10 v0 2).bind fun x3 =>
(lI h2 .int x3 (0 : Int32)).bind fun x4 =>
(lp (bX10_find_20 v0 v1 v2) FU ((0 : Int32), x4, h2)).bind fun e22 =>
(lI e22.2 .int v1 v2).bind fun x23 =>
(gR e22.2 10 v0 2).bind fun x24 =>
(lI e22.2 .int x24 e22.1).bind fun x25 =>
if (x23 &&& x25) = 0 then (
(pI e22.2 10 v0 1 (0 : Int32)).bind fun h44 =>
some (((0 : Int32), h44))) else (
(pI e22.2 10 v0 1 (e22.1 + (1 : Int32))).bind fun h27 =>
(gR h27 10 v0 0).bind fun x28 =>
(tI h27 x28 (0 : Int32) v2).bind fun h29 =>
(lp (bX10_find_133 v0 v1) FU ((1 : Int32), h29)).bind fun e43 =>
some (((1 : Int32), e43)))
set_option maxRecDepth 20000 in
set_option maxHeartbeats 4000000 in
theorem sX10_find {Γ : Gm} {d : Nat} (hd : 2 ≤ d) {h : Hp} {v0 : Nat} {v1 : Nat} {v2 : Int32} {v3 : Int32} {r : Int32 × Hp} (H : fX10_find h v0 v1 v2 v3 = some r) : V Γ d mX10_find 0 [(0, .ref v0), (1, .ref v1), (2, .int v2), (3, .int v3)] [] h (some (.int r.1), r.2) := by
  unfold fX10_find at H
  refine v_iconst (v := 0) (q := 1) dX10_find_0 (by decide) rfl ?_
  refine v_istore (L' := [(4, .int (0 : Int32)), (0, .ref v0), (1, .ref v1), (2, .int v2), (3, .int v3)]) (q := 3) dX10_find_1 (by decide) rfl rfl ?_
  refine v_aload_n (q := 4) 1 dX10_find_3 rfl rfl rfl ?_
  replace H := bs H; obtain ⟨x1, x1e, H⟩ := H
  refine u_gR (q := 7) (r := (RX10, TX10, 3)) x1e dX10_find_4 w0406 rfl (by decide) rfl rfl ?_
  refine v_iconst (v := 0) (q := 8) dX10_find_7 (by decide) rfl ?_
  refine v_iconst (v := 1) (q := 9) dX10_find_8 (by decide) rfl ?_
  refine v_iload_n (q := 10) 4 dX10_find_9 rfl rfl rfl ?_
  refine v_ishl (q := 11) dX10_find_10 rfl ?_
  replace H := bs H; obtain ⟨h2, h2e, H⟩ := H
  refine u_tI (q := 12) h2e dX10_find_11 rfl ?_
  refine v_aload_n (q := 13) 1 dX10_find_12 rfl rfl rfl ?_
  replace H := bs H; obtain ⟨x3, x3e, H⟩ := H
  refine u_gR (q := 16) (r := (RX10, TX10, 3)) x3e dX10_find_13 w0406 rfl (by decide) rfl rfl ?_
  refine v_iconst (v := 0) (q := 17) dX10_find_16 (by decide) rfl ?_
  replace H := bs H; obtain ⟨x4, x4e, H⟩ := H
  refine u_lI (q := 18) x4e dX10_find_17 rfl ?_
  refine v_istore (L' := [(5, .int x4), (4, .int (0 : Int32)), (0, .ref v0), (1, .ref v1), (2, .int v2), (3, .int v3)]) (q := 20) dX10_find_18 (by decide) rfl rfl ?_
  replace H := bs H; obtain ⟨e22, e22L, H⟩ := H
  refine V.sub [2, 3, 4, 1, 0] rfl ?_
  refine lp_V (P := (fun s20 => V Γ d mX10_find 20 [(0, .ref v0), (1, .ref v1), (2, .int v2), (4, .int s20.1), (5, .int s20.2.1)] [] s20.2.2 (some (.int r.1), r.2))) (E := (fun e => V Γ d mX10_find 94 [(0, .ref v0), (1, .ref v1), (2, .int v2), (4, .int e.1)] [] e.2 (some (.int r.1), r.2))) (fun s r hb kI kE => sbX10_find_20 hd (s20 := s) (r := r) hb kI kE) FU ((0 : Int32), x4, h2) e22 e22L ?_
  refine v_aload_n (q := 95) 1 dX10_find_94 rfl rfl rfl ?_
  refine v_iload_n (q := 96) 2 dX10_find_95 rfl rfl rfl ?_
  replace H := bs H; obtain ⟨x23, x23e, H⟩ := H
  refine u_lI (q := 97) x23e dX10_find_96 rfl ?_
  refine v_aload_n (q := 98) 0 dX10_find_97 rfl rfl rfl ?_
  replace H := bs H; obtain ⟨x24, x24e, H⟩ := H
  refine u_gR (q := 101) (r := (RX10, TX10, 3)) x24e dX10_find_98 w0406 rfl (by decide) rfl rfl ?_
  refine v_iload (q := 103) 3 dX10_find_101 rfl rfl ?_
  replace H := bs H; obtain ⟨x25, x25e, H⟩ := H
  refine u_lI (q := 104) x25e dX10_find_103 rfl ?_
  refine v_iand (q := 105) dX10_find_104 rfl ?_
  refine v_if_ne (q1 := 115) (q2 := 108) dX10_find_105 (by decide) rfl (fun c26 => ?_) (fun c26 => ?_)
  · replace H := ine c26 H
    refine v_aload_n (q := 116) 0 dX10_find_115 rfl rfl rfl ?_
    refine v_iload (q := 118) 3 dX10_find_116 rfl rfl ?_
    refine v_iconst (v := 1) (q := 119) dX10_find_118 (by decide) rfl ?_
    refine v_iadd (q := 120) dX10_find_119 rfl ?_
    replace H := bs H; obtain ⟨h27, h27e, H⟩ := H
    refine u_pI (q := 123) (r := (RX10, TX10, 3)) h27e dX10_find_120 w0401 rfl (by decide) (Or.inl rfl) rfl rfl ?_
    refine v_aload_n (q := 124) 0 dX10_find_123 rfl rfl rfl ?_
    replace H := bs H; obtain ⟨x28, x28e, H⟩ := H
    refine u_gR (q := 127) (r := (RX10, TX10, 3)) x28e dX10_find_124 w0396 rfl (by decide) rfl rfl ?_
    refine v_iconst (v := 0) (q := 128) dX10_find_127 (by decide) rfl ?_
    refine v_iload_n (q := 129) 2 dX10_find_128 rfl rfl rfl ?_
    replace H := bs H; obtain ⟨h29, h29e, H⟩ := H
    refine u_tI (q := 130) h29e dX10_find_129 rfl ?_
    refine v_iconst (v := 1) (q := 131) dX10_find_130 (by decide) rfl ?_
    refine v_istore (L' := [(6, .int (1 : Int32)), (0, .ref v0), (1, .ref v1), (2, .int v2), (4, .int e22.1)]) (q := 133) dX10_find_131 (by decide) rfl rfl ?_
    replace H := bs H; obtain ⟨e43, e43L, H⟩ := H
    refine V.sub [1, 2, 0] rfl ?_
    refine lp_V (P := (fun s133 => V Γ d mX10_find 133 [(0, .ref v0), (1, .ref v1), (6, .int s133.1)] [] s133.2 (some (.int r.1), r.2))) (E := (fun e => V Γ d mX10_find 192 [] [] e (some (.int r.1), r.2))) (fun s r hb kI kE => sbX10_find_133 hd (s133 := s) (r := r) hb kI kE) FU ((1 : Int32), h29) e43 e43L ?_
    refine v_iconst (v := 1) (q := 193) dX10_find_192 (by decide) rfl ?_
    cases H
    exact v_zreturn rfl (by decide) dX10_find_193
  · replace H := ip c26 H
    refine v_aload_n (q := 109) 0 dX10_find_108 rfl rfl rfl ?_
    refine v_iconst (v := 0) (q := 110) dX10_find_109 (by decide) rfl ?_
    replace H := bs H; obtain ⟨h44, h44e, H⟩ := H
    refine u_pI (q := 113) (r := (RX10, TX10, 3)) h44e dX10_find_110 w0401 rfl (by decide) (Or.inl rfl) rfl rfl ?_
    refine v_iconst (v := 0) (q := 114) dX10_find_113 (by decide) rfl ?_
    cases H
    exact v_zreturn rfl (by decide) dX10_find_114
def mX8_tellRing : MI := (yX8_tellRing, cX8_tellRing, 2, none)
theorem oX8_tellRing : mOK mX8_tellRing 0 := ⟨by decide +kernel, by decide +kernel, by decide +kernel, by decide, w1229, w0159⟩
def bX8_tellRing_2 (u0 : Nat) (s2 : Int32 × Hp) : Option ((Int32 × Hp) ⊕ (Hp)) :=
(gR s2.2 8 u0 18).bind fun x1 =>
(gI s2.2 10 x1 1).bind fun x2 =>
if x2 ≤ s2.1 then (
some (.inr s2.2)) else (
(gI s2.2 8 u0 3).bind fun x4 =>
(gR s2.2 8 u0 18).bind fun x5 =>
(gR s2.2 10 x5 0).bind fun x6 =>
(lI s2.2 .int x6 s2.1).bind fun x7 =>
(pI s2.2 8 u0 3 (x4 ||| ((1 : Int32) <<< (x7 &&& 31)))).bind fun h8 =>
(gI h8 8 u0 4).bind fun x9 =>
(gR h8 8 u0 16).bind fun x10 =>
(gR h8 8 u0 18).bind fun x11 =>
(gR h8 10 x11 0).bind fun x12 =>
(lI h8 .int x12 s2.1).bind fun x13 =>
(lI h8 .int x10 x13).bind fun x14 =>
(pI h8 8 u0 4 (x9 ||| ((1 : Int32) <<< (x14 &&& 31)))).bind fun h15 =>
(some (s2.1 + (1 : Int32))).bind fun x16 =>
some (.inl (x16, h15)))
set_option maxRecDepth 20000 in
set_option maxHeartbeats 4000000 in
theorem sbX8_tellRing_2 {Γ : Gm} {d : Nat} (hd : 1 ≤ d) {u0 : Nat} {s2 : Int32 × Hp} {r : (Int32 × Hp) ⊕ (Hp)} {t : Option Value × Hp} (H : bX8_tellRing_2 u0 s2 = some r) (kI : ∀ s, r = .inl s → (fun s2 => V Γ d mX8_tellRing 2 [(0, .ref u0), (1, .int s2.1)] [] s2.2 t) s) (kE : ∀ e, r = .inr e → (fun e => V Γ d mX8_tellRing 64 [] [] e t) e) : V Γ d mX8_tellRing 2 [(0, .ref u0), (1, .int s2.1)] [] s2.2 t := by
  unfold bX8_tellRing_2 at H
  refine v_iload_n (q := 3) 1 dX8_tellRing_2 rfl rfl rfl ?_
  refine v_aload_n (q := 4) 0 dX8_tellRing_3 rfl rfl rfl ?_
  replace H := bs H; obtain ⟨x1, x1e, H⟩ := H
  refine u_gR (q := 7) (r := (RX8, TX8, 19)) x1e dX8_tellRing_4 w1121 rfl (by decide) rfl rfl ?_
  replace H := bs H; obtain ⟨x2, x2e, H⟩ := H
  refine u_gI (q := 10) (r := (RX10, TX10, 3)) x2e dX8_tellRing_7 w0403 rfl (by decide) rfl rfl ?_
  refine v_icmp_ge (q1 := 64) (q2 := 13) dX8_tellRing_10 (by decide) rfl (fun c3 => ?_) (fun c3 => ?_)
  · replace H := ip c3 H
    exact V.sub [] rfl (kE s2.2 (Option.some.inj H).symm)
  · replace H := ine c3 H
    refine v_aload_n (q := 14) 0 dX8_tellRing_13 rfl rfl rfl ?_
    refine v_dup (q := 15) dX8_tellRing_14 rfl rfl ?_
    replace H := bs H; obtain ⟨x4, x4e, H⟩ := H
    refine u_gI (q := 18) (r := (RX8, TX8, 19)) x4e dX8_tellRing_15 w1103 rfl (by decide) rfl rfl ?_
    refine v_iconst (v := 1) (q := 19) dX8_tellRing_18 (by decide) rfl ?_
    refine v_aload_n (q := 20) 0 dX8_tellRing_19 rfl rfl rfl ?_
    replace H := bs H; obtain ⟨x5, x5e, H⟩ := H
    refine u_gR (q := 23) (r := (RX8, TX8, 19)) x5e dX8_tellRing_20 w1121 rfl (by decide) rfl rfl ?_
    replace H := bs H; obtain ⟨x6, x6e, H⟩ := H
    refine u_gR (q := 26) (r := (RX10, TX10, 3)) x6e dX8_tellRing_23 w0398 rfl (by decide) rfl rfl ?_
    refine v_iload_n (q := 27) 1 dX8_tellRing_26 rfl rfl rfl ?_
    replace H := bs H; obtain ⟨x7, x7e, H⟩ := H
    refine u_lI (q := 28) x7e dX8_tellRing_27 rfl ?_
    refine v_ishl (q := 29) dX8_tellRing_28 rfl ?_
    refine v_ior (q := 30) dX8_tellRing_29 rfl ?_
    replace H := bs H; obtain ⟨h8, h8e, H⟩ := H
    refine u_pI (q := 33) (r := (RX8, TX8, 19)) h8e dX8_tellRing_30 w1103 rfl (by decide) (Or.inl rfl) rfl rfl ?_
    refine v_aload_n (q := 34) 0 dX8_tellRing_33 rfl rfl rfl ?_
    refine v_dup (q := 35) dX8_tellRing_34 rfl rfl ?_
    replace H := bs H; obtain ⟨x9, x9e, H⟩ := H
    refine u_gI (q := 38) (r := (RX8, TX8, 19)) x9e dX8_tellRing_35 w1105 rfl (by decide) rfl rfl ?_
    refine v_iconst (v := 1) (q := 39) dX8_tellRing_38 (by decide) rfl ?_
    refine v_aload_n (q := 40) 0 dX8_tellRing_39 rfl rfl rfl ?_
    replace H := bs H; obtain ⟨x10, x10e, H⟩ := H
    refine u_gR (q := 43) (r := (RX8, TX8, 19)) x10e dX8_tellRing_40 w1119 rfl (by decide) rfl rfl ?_
    refine v_aload_n (q := 44) 0 dX8_tellRing_43 rfl rfl rfl ?_
    replace H := bs H; obtain ⟨x11, x11e, H⟩ := H
    refine u_gR (q := 47) (r := (RX8, TX8, 19)) x11e dX8_tellRing_44 w1121 rfl (by decide) rfl rfl ?_
    replace H := bs H; obtain ⟨x12, x12e, H⟩ := H
    refine u_gR (q := 50) (r := (RX10, TX10, 3)) x12e dX8_tellRing_47 w0398 rfl (by decide) rfl rfl ?_
    refine v_iload_n (q := 51) 1 dX8_tellRing_50 rfl rfl rfl ?_
    replace H := bs H; obtain ⟨x13, x13e, H⟩ := H
    refine u_lI (q := 52) x13e dX8_tellRing_51 rfl ?_
    replace H := bs H; obtain ⟨x14, x14e, H⟩ := H
    refine u_lI (q := 53) x14e dX8_tellRing_52 rfl ?_
    refine v_ishl (q := 54) dX8_tellRing_53 rfl ?_
    refine v_ior (q := 55) dX8_tellRing_54 rfl ?_
    replace H := bs H; obtain ⟨h15, h15e, H⟩ := H
    refine u_pI (q := 58) (r := (RX8, TX8, 19)) h15e dX8_tellRing_55 w1105 rfl (by decide) (Or.inl rfl) rfl rfl ?_
    replace H := bs H; obtain ⟨x16, x16e, H⟩ := H
    refine v_iinc (v := x16) (L' := [(1, .int x16), (0, .ref u0)]) (q := 61) 1 dX8_tellRing_58 rfl (Option.some.inj x16e) (by decide) rfl rfl ?_
    refine v_goto (q := 2) dX8_tellRing_61 (by decide) ?_
    exact V.sub [1, 0] rfl (kI (x16, h15) (Option.some.inj H).symm)
def fX8_tellRing (h : Hp) (v0 : Nat) : Option (Hp) :=
(lp (bX8_tellRing_2 v0) FU ((0 : Int32), h)).bind fun e17 =>
some e17
set_option maxRecDepth 20000 in
set_option maxHeartbeats 4000000 in
theorem sX8_tellRing {Γ : Gm} {d : Nat} (hd : 1 ≤ d) {h : Hp} {v0 : Nat} {r : Hp} (H : fX8_tellRing h v0 = some r) : V Γ d mX8_tellRing 0 [(0, .ref v0)] [] h (none, r) := by
  unfold fX8_tellRing at H
  refine v_iconst (v := 0) (q := 1) dX8_tellRing_0 (by decide) rfl ?_
  refine v_istore_n (L' := [(1, .int (0 : Int32)), (0, .ref v0)]) (q := 2) dX8_tellRing_1 rfl (by decide) rfl rfl ?_
  replace H := bs H; obtain ⟨e17, e17L, H⟩ := H
  refine V.sub [1, 0] rfl ?_
  refine lp_V (P := (fun s2 => V Γ d mX8_tellRing 2 [(0, .ref v0), (1, .int s2.1)] [] s2.2 (none, r))) (E := (fun e => V Γ d mX8_tellRing 64 [] [] e (none, r))) (fun s r hb kI kE => sbX8_tellRing_2 hd (s2 := s) (r := r) hb kI kE) FU ((0 : Int32), h) e17 e17L ?_
  cases H
  exact v_return rfl dX8_tellRing_64
def mX8_tellRoute : MI := (yX8_tellRoute, cX8_tellRoute, 3, none)
theorem oX8_tellRoute : mOK mX8_tellRoute 0 := ⟨by decide +kernel, by decide +kernel, by decide +kernel, by decide, w1233, w0159⟩
def bX8_tellRoute_7 (u0 : Nat) (s7 : Int32 × Hp) : Option ((Int32 × Hp) ⊕ (Hp)) :=
if s7.1 ≤ 0 then (
some (.inr s7.2)) else (
(gI s7.2 8 u0 2).bind fun x4 =>
if (78 : Int32) ≤ x4 then (
some (.inr s7.2)) else (
(gI s7.2 8 u0 2).bind fun x6 =>
(pI s7.2 8 u0 2 (x6 + (1 : Int32))).bind fun h7 =>
(gR h7 8 u0 12).bind fun x8 =>
(lI h7 .int x8 s7.1).bind fun x9 =>
(some (x9 >>> ((6 : Int32) &&& 31))).bind fun x10 =>
some (.inl (x10, h7))))
set_option maxRecDepth 20000 in
set_option maxHeartbeats 4000000 in
theorem sbX8_tellRoute_7 {Γ : Gm} {d : Nat} (hd : 1 ≤ d) {u0 : Nat} {s7 : Int32 × Hp} {r : (Int32 × Hp) ⊕ (Hp)} {t : Option Value × Hp} (H : bX8_tellRoute_7 u0 s7 = some r) (kI : ∀ s, r = .inl s → (fun s7 => V Γ d mX8_tellRoute 7 [(0, .ref u0), (1, .int s7.1)] [] s7.2 t) s) (kE : ∀ e, r = .inr e → (fun e => V Γ d mX8_tellRoute 43 [(0, .ref u0)] [] e t) e) : V Γ d mX8_tellRoute 7 [(0, .ref u0), (1, .int s7.1)] [] s7.2 t := by
  unfold bX8_tellRoute_7 at H
  refine v_iload_n (q := 8) 1 dX8_tellRoute_7 rfl rfl rfl ?_
  refine v_if_le (q1 := 43) (q2 := 11) dX8_tellRoute_8 (by decide) rfl (fun c3 => ?_) (fun c3 => ?_)
  · replace H := ip c3 H
    exact V.sub [0] rfl (kE s7.2 (Option.some.inj H).symm)
  · replace H := ine c3 H
    refine v_aload_n (q := 12) 0 dX8_tellRoute_11 rfl rfl rfl ?_
    replace H := bs H; obtain ⟨x4, x4e, H⟩ := H
    refine u_gI (q := 15) (r := (RX8, TX8, 19)) x4e dX8_tellRoute_12 w1101 rfl (by decide) rfl rfl ?_
    refine v_bipush (v := 78) (q := 17) dX8_tellRoute_15 (by decide) rfl ?_
    refine v_icmp_ge (q1 := 43) (q2 := 20) dX8_tellRoute_17 (by decide) rfl (fun c5 => ?_) (fun c5 => ?_)
    · replace H := ip c5 H
      exact V.sub [0] rfl (kE s7.2 (Option.some.inj H).symm)
    · replace H := ine c5 H
      refine v_aload_n (q := 21) 0 dX8_tellRoute_20 rfl rfl rfl ?_
      refine v_dup (q := 22) dX8_tellRoute_21 rfl rfl ?_
      replace H := bs H; obtain ⟨x6, x6e, H⟩ := H
      refine u_gI (q := 25) (r := (RX8, TX8, 19)) x6e dX8_tellRoute_22 w1101 rfl (by decide) rfl rfl ?_
      refine v_iconst (v := 1) (q := 26) dX8_tellRoute_25 (by decide) rfl ?_
      refine v_iadd (q := 27) dX8_tellRoute_26 rfl ?_
      replace H := bs H; obtain ⟨h7, h7e, H⟩ := H
      refine u_pI (q := 30) (r := (RX8, TX8, 19)) h7e dX8_tellRoute_27 w1101 rfl (by decide) (Or.inl rfl) rfl rfl ?_
      refine v_aload_n (q := 31) 0 dX8_tellRoute_30 rfl rfl rfl ?_
      replace H := bs H; obtain ⟨x8, x8e, H⟩ := H
      refine u_gR (q := 34) (r := (RX8, TX8, 19)) x8e dX8_tellRoute_31 w1115 rfl (by decide) rfl rfl ?_
      refine v_iload_n (q := 35) 1 dX8_tellRoute_34 rfl rfl rfl ?_
      replace H := bs H; obtain ⟨x9, x9e, H⟩ := H
      refine u_lI (q := 36) x9e dX8_tellRoute_35 rfl ?_
      refine v_bipush (v := 6) (q := 38) dX8_tellRoute_36 (by decide) rfl ?_
      refine v_ishr (q := 39) dX8_tellRoute_38 rfl ?_
      replace H := bs H; obtain ⟨x10, x10e, H⟩ := H
      refine v_topi (Option.some.inj x10e) ?_
      refine v_istore_n (L' := [(1, .int x10), (0, .ref u0)]) (q := 40) dX8_tellRoute_39 rfl (by decide) rfl rfl ?_
      refine v_goto (q := 7) dX8_tellRoute_40 (by decide) ?_
      exact V.sub [1, 0] rfl (kI (x10, h7) (Option.some.inj H).symm)
def bX8_tellRoute_57 (u0 : Nat) (s57 : Int32 × Int32 × Hp) : Option ((Int32 × Int32 × Hp) ⊕ (Hp)) :=
if s57.2.1 < 0 then (
some (.inr s57.2.2)) else (
(gR s57.2.2 8 u0 5).bind fun x17 =>
(gR s57.2.2 8 u0 12).bind fun x18 =>
(lI s57.2.2 .int x18 s57.1).bind fun x19 =>
(tI s57.2.2 x17 s57.2.1 (x19 &&& (63 : Int32))).bind fun h20 =>
(gR h20 8 u0 12).bind fun x21 =>
(lI h20 .int x21 s57.1).bind fun x22 =>
(some (x22 >>> ((6 : Int32) &&& 31))).bind fun x23 =>
(some (s57.2.1 + (-1 : Int32))).bind fun x24 =>
some (.inl (x23, x24, h20)))
set_option maxRecDepth 20000 in
set_option maxHeartbeats 4000000 in
theorem sbX8_tellRoute_57 {Γ : Gm} {d : Nat} (hd : 1 ≤ d) {u0 : Nat} {s57 : Int32 × Int32 × Hp} {r : (Int32 × Int32 × Hp) ⊕ (Hp)} {t : Option Value × Hp} (H : bX8_tellRoute_57 u0 s57 = some r) (kI : ∀ s, r = .inl s → (fun s57 => V Γ d mX8_tellRoute 57 [(0, .ref u0), (1, .int s57.1), (2, .int s57.2.1)] [] s57.2.2 t) s) (kE : ∀ e, r = .inr e → (fun e => V Γ d mX8_tellRoute 92 [] [] e t) e) : V Γ d mX8_tellRoute 57 [(0, .ref u0), (1, .int s57.1), (2, .int s57.2.1)] [] s57.2.2 t := by
  unfold bX8_tellRoute_57 at H
  refine v_iload_n (q := 58) 2 dX8_tellRoute_57 rfl rfl rfl ?_
  refine v_if_lt (q1 := 92) (q2 := 61) dX8_tellRoute_58 (by decide) rfl (fun c16 => ?_) (fun c16 => ?_)
  · replace H := ip c16 H
    exact V.sub [] rfl (kE s57.2.2 (Option.some.inj H).symm)
  · replace H := ine c16 H
    refine v_aload_n (q := 62) 0 dX8_tellRoute_61 rfl rfl rfl ?_
    replace H := bs H; obtain ⟨x17, x17e, H⟩ := H
    refine u_gR (q := 65) (r := (RX8, TX8, 19)) x17e dX8_tellRoute_62 w1107 rfl (by decide) rfl rfl ?_
    refine v_iload_n (q := 66) 2 dX8_tellRoute_65 rfl rfl rfl ?_
    refine v_aload_n (q := 67) 0 dX8_tellRoute_66 rfl rfl rfl ?_
    replace H := bs H; obtain ⟨x18, x18e, H⟩ := H
    refine u_gR (q := 70) (r := (RX8, TX8, 19)) x18e dX8_tellRoute_67 w1115 rfl (by decide) rfl rfl ?_
    refine v_iload_n (q := 71) 1 dX8_tellRoute_70 rfl rfl rfl ?_
    replace H := bs H; obtain ⟨x19, x19e, H⟩ := H
    refine u_lI (q := 72) x19e dX8_tellRoute_71 rfl ?_
    refine v_bipush (v := 63) (q := 74) dX8_tellRoute_72 (by decide) rfl ?_
    refine v_iand (q := 75) dX8_tellRoute_74 rfl ?_
    replace H := bs H; obtain ⟨h20, h20e, H⟩ := H
    refine u_tI (q := 76) h20e dX8_tellRoute_75 rfl ?_
    refine v_aload_n (q := 77) 0 dX8_tellRoute_76 rfl rfl rfl ?_
    replace H := bs H; obtain ⟨x21, x21e, H⟩ := H
    refine u_gR (q := 80) (r := (RX8, TX8, 19)) x21e dX8_tellRoute_77 w1115 rfl (by decide) rfl rfl ?_
    refine v_iload_n (q := 81) 1 dX8_tellRoute_80 rfl rfl rfl ?_
    replace H := bs H; obtain ⟨x22, x22e, H⟩ := H
    refine u_lI (q := 82) x22e dX8_tellRoute_81 rfl ?_
    refine v_bipush (v := 6) (q := 84) dX8_tellRoute_82 (by decide) rfl ?_
    refine v_ishr (q := 85) dX8_tellRoute_84 rfl ?_
    replace H := bs H; obtain ⟨x23, x23e, H⟩ := H
    refine v_topi (Option.some.inj x23e) ?_
    refine v_istore_n (L' := [(1, .int x23), (0, .ref u0), (2, .int s57.2.1)]) (q := 86) dX8_tellRoute_85 rfl (by decide) rfl rfl ?_
    replace H := bs H; obtain ⟨x24, x24e, H⟩ := H
    refine v_iinc (v := x24) (L' := [(2, .int x24), (1, .int x23), (0, .ref u0)]) (q := 89) 2 dX8_tellRoute_86 rfl (Option.some.inj x24e) (by decide) rfl rfl ?_
    refine v_goto (q := 57) dX8_tellRoute_89 (by decide) ?_
    exact V.sub [2, 1, 0] rfl (kI (x23, x24, h20) (Option.some.inj H).symm)
def fX8_tellRoute (h : Hp) (v0 : Nat) : Option (Hp) :=
(gI h 8 v0 1).bind fun x1 =>
(some (x1 - (1 : Int32))).bind fun x2 =>
(lp (bX8_tellRoute_7 v0) FU (x2, h)).bind fun e11 =>
(gI e11 8 v0 1).bind fun x12 =>
(some (x12 - (1 : Int32))).bind fun x13 =>
(gI e11 8 v0 2).bind fun x14 =>
(some (x14 - (1 : Int32))).bind fun x15 =>
(lp (bX8_tellRoute_57 v0) FU (x13, x15, e11)).bind fun e25 =>
some e25
set_option maxRecDepth 20000 in
set_option maxHeartbeats 4000000 in
theorem sX8_tellRoute {Γ : Gm} {d : Nat} (hd : 1 ≤ d) {h : Hp} {v0 : Nat} {r : Hp} (H : fX8_tellRoute h v0 = some r) : V Γ d mX8_tellRoute 0 [(0, .ref v0)] [] h (none, r) := by
  unfold fX8_tellRoute at H
  refine v_aload_n (q := 1) 0 dX8_tellRoute_0 rfl rfl rfl ?_
  replace H := bs H; obtain ⟨x1, x1e, H⟩ := H
  refine u_gI (q := 4) (r := (RX8, TX8, 19)) x1e dX8_tellRoute_1 w1099 rfl (by decide) rfl rfl ?_
  refine v_iconst (v := 1) (q := 5) dX8_tellRoute_4 (by decide) rfl ?_
  refine v_isub (q := 6) dX8_tellRoute_5 rfl ?_
  replace H := bs H; obtain ⟨x2, x2e, H⟩ := H
  refine v_topi (Option.some.inj x2e) ?_
  refine v_istore_n (L' := [(1, .int x2), (0, .ref v0)]) (q := 7) dX8_tellRoute_6 rfl (by decide) rfl rfl ?_
  replace H := bs H; obtain ⟨e11, e11L, H⟩ := H
  refine V.sub [1, 0] rfl ?_
  refine lp_V (P := (fun s7 => V Γ d mX8_tellRoute 7 [(0, .ref v0), (1, .int s7.1)] [] s7.2 (none, r))) (E := (fun e => V Γ d mX8_tellRoute 43 [(0, .ref v0)] [] e (none, r))) (fun s r hb kI kE => sbX8_tellRoute_7 hd (s7 := s) (r := r) hb kI kE) FU (x2, h) e11 e11L ?_
  refine v_aload_n (q := 44) 0 dX8_tellRoute_43 rfl rfl rfl ?_
  replace H := bs H; obtain ⟨x12, x12e, H⟩ := H
  refine u_gI (q := 47) (r := (RX8, TX8, 19)) x12e dX8_tellRoute_44 w1099 rfl (by decide) rfl rfl ?_
  refine v_iconst (v := 1) (q := 48) dX8_tellRoute_47 (by decide) rfl ?_
  refine v_isub (q := 49) dX8_tellRoute_48 rfl ?_
  replace H := bs H; obtain ⟨x13, x13e, H⟩ := H
  refine v_topi (Option.some.inj x13e) ?_
  refine v_istore_n (L' := [(1, .int x13), (0, .ref v0)]) (q := 50) dX8_tellRoute_49 rfl (by decide) rfl rfl ?_
  refine v_aload_n (q := 51) 1 dX8_tellRoute_50 rfl rfl rfl ?_
  replace H := bs H; obtain ⟨x14, x14e, H⟩ := H
  refine u_gI (q := 54) (r := (RX8, TX8, 19)) x14e dX8_tellRoute_51 w1101 rfl (by decide) rfl rfl ?_
  refine v_iconst (v := 1) (q := 55) dX8_tellRoute_54 (by decide) rfl ?_
  refine v_isub (q := 56) dX8_tellRoute_55 rfl ?_
  replace H := bs H; obtain ⟨x15, x15e, H⟩ := H
  refine v_topi (Option.some.inj x15e) ?_
  refine v_istore_n (L' := [(2, .int x15), (1, .int x13), (0, .ref v0)]) (q := 57) dX8_tellRoute_56 rfl (by decide) rfl rfl ?_
  replace H := bs H; obtain ⟨e25, e25L, H⟩ := H
  refine V.sub [2, 1, 0] rfl ?_
  refine lp_V (P := (fun s57 => V Γ d mX8_tellRoute 57 [(0, .ref v0), (1, .int s57.1), (2, .int s57.2.1)] [] s57.2.2 (none, r))) (E := (fun e => V Γ d mX8_tellRoute 92 [] [] e (none, r))) (fun s r hb kI kE => sbX8_tellRoute_57 hd (s57 := s) (r := r) hb kI kE) FU (x13, x15, e11) e25 e25L ?_
  cases H
  exact v_return rfl dX8_tellRoute_92
def mX8_findRing : MI := (yX8_findRing, cX8_findRing, 7, none)
theorem oX8_findRing : mOK mX8_findRing 1 := ⟨by decide +kernel, by decide +kernel, by decide +kernel, by decide, w1220, w0159⟩
def jX8_findRing_118 (u0 : Nat) (u2 : Int64) (u4 : Int64) (v6 : Int32) (y0 : Int32) (y1 : Int32) (y2 : Nat) (h : Hp) : Option ((Int32 × Hp) ⊕ (Hp)) :=
(tI h y2 y1 y0).bind fun h25 =>
(some (v6 + (1 : Int32))).bind fun x26 =>
some (.inl (x26, h25))
set_option maxRecDepth 20000 in
set_option maxHeartbeats 4000000 in
theorem sjX8_findRing_118 {Γ : Gm} {d : Nat} (hd : 3 ≤ d) {u0 : Nat} {u2 : Int64} {u4 : Int64} {v6 : Int32} {y0 : Int32} {y1 : Int32} {y2 : Nat} {h : Hp} {r : (Int32 × Hp) ⊕ (Hp)} {t : Option Value × Hp} (H : jX8_findRing_118 u0 u2 u4 v6 y0 y1 y2 h = some r) (kI : ∀ s, r = .inl s → (fun s41 => V Γ d mX8_findRing 41 [(0, .ref u0), (2, .long u2), (4, .long u4), (6, .int s41.1)] [] s41.2 t) s) (kE : ∀ e, r = .inr e → (fun e => V Γ d mX8_findRing 125 [(0, .ref u0)] [] e t) e) : V Γ d mX8_findRing 118 [(0, .ref u0), (2, .long u2), (4, .long u4), (6, .int v6)] [.int y0, .int y1, .ref y2] h t := by
  unfold jX8_findRing_118 at H
  replace H := bs H; obtain ⟨h25, h25e, H⟩ := H
  refine u_tI (q := 119) h25e dX8_findRing_118 rfl ?_
  replace H := bs H; obtain ⟨x26, x26e, H⟩ := H
  refine v_iinc (v := x26) (L' := [(6, .int x26), (0, .ref u0), (2, .long u2), (4, .long u4)]) (q := 122) 3 dX8_findRing_119 rfl (Option.some.inj x26e) (by decide) rfl rfl ?_
  refine v_goto (q := 41) dX8_findRing_122 (by decide) ?_
  exact V.sub [1, 2, 3, 0] rfl (kI (x26, h25) (Option.some.inj H).symm)
def jX8_findRing_79 (u0 : Nat) (u2 : Int64) (u4 : Int64) (v6 : Int32) (y0 : Int32) (y1 : Int32) (y2 : Nat) (h : Hp) : Option ((Int32 × Hp) ⊕ (Hp)) :=
(tI h y2 y1 y0).bind fun h15 =>
(gR h15 8 u0 17).bind fun x16 =>
(gR h15 8 u0 16).bind fun x17 =>
(lI h15 .int x17 v6).bind fun x18 =>
if x18 = (-1 : Int32) then (
jX8_findRing_118 u0 u2 u4 v6 (0 : Int32) v6 x16 h15) else (
(gR h15 8 u0 16).bind fun x20 =>
(lI h15 .int x20 v6).bind fun x21 =>
(fX8_ownersOf h15 u4 x21).bind fun x22 =>
(gO h15 8 u0).bind fun _ =>
(fX8_processorsOf h15 u0 u2 x22).bind fun x24 =>
jX8_findRing_118 u0 u2 u4 v6 x24 v6 x16 h15)
set_option maxRecDepth 20000 in
set_option maxHeartbeats 4000000 in
theorem sjX8_findRing_79 {Γ : Gm} {d : Nat} (hd : 3 ≤ d) {u0 : Nat} {u2 : Int64} {u4 : Int64} {v6 : Int32} {y0 : Int32} {y1 : Int32} {y2 : Nat} {h : Hp} {r : (Int32 × Hp) ⊕ (Hp)} {t : Option Value × Hp} (H : jX8_findRing_79 u0 u2 u4 v6 y0 y1 y2 h = some r) (kI : ∀ s, r = .inl s → (fun s41 => V Γ d mX8_findRing 41 [(0, .ref u0), (2, .long u2), (4, .long u4), (6, .int s41.1)] [] s41.2 t) s) (kE : ∀ e, r = .inr e → (fun e => V Γ d mX8_findRing 125 [(0, .ref u0)] [] e t) e) : V Γ d mX8_findRing 79 [(0, .ref u0), (2, .long u2), (4, .long u4), (6, .int v6)] [.int y0, .int y1, .ref y2] h t := by
  unfold jX8_findRing_79 at H
  replace H := bs H; obtain ⟨h15, h15e, H⟩ := H
  refine u_tI (q := 80) h15e dX8_findRing_79 rfl ?_
  refine v_aload_n (q := 81) 0 dX8_findRing_80 rfl rfl rfl ?_
  replace H := bs H; obtain ⟨x16, x16e, H⟩ := H
  refine u_gR (q := 84) (r := (RX8, TX8, 19)) x16e dX8_findRing_81 w1120 rfl (by decide) rfl rfl ?_
  refine v_iload (q := 86) 3 dX8_findRing_84 rfl rfl ?_
  refine v_aload_n (q := 87) 0 dX8_findRing_86 rfl rfl rfl ?_
  replace H := bs H; obtain ⟨x17, x17e, H⟩ := H
  refine u_gR (q := 90) (r := (RX8, TX8, 19)) x17e dX8_findRing_87 w1119 rfl (by decide) rfl rfl ?_
  refine v_iload (q := 92) 3 dX8_findRing_90 rfl rfl ?_
  replace H := bs H; obtain ⟨x18, x18e, H⟩ := H
  refine u_lI (q := 93) x18e dX8_findRing_92 rfl ?_
  refine v_iconst (v := -1) (q := 94) dX8_findRing_93 (by decide) rfl ?_
  refine v_icmp_ne (q1 := 101) (q2 := 97) dX8_findRing_94 (by decide) rfl (fun c19 => ?_) (fun c19 => ?_)
  · replace H := ine c19 H
    refine v_aload_n (q := 102) 0 dX8_findRing_101 rfl rfl rfl ?_
    refine v_lload_n (q := 103) 1 dX8_findRing_102 rfl rfl rfl ?_
    refine v_lload (q := 105) 2 dX8_findRing_103 rfl rfl ?_
    refine v_aload_n (q := 106) 0 dX8_findRing_105 rfl rfl rfl ?_
    replace H := bs H; obtain ⟨x20, x20e, H⟩ := H
    refine u_gR (q := 109) (r := (RX8, TX8, 19)) x20e dX8_findRing_106 w1119 rfl (by decide) rfl rfl ?_
    refine v_iload (q := 111) 3 dX8_findRing_109 rfl rfl ?_
    replace H := bs H; obtain ⟨x21, x21e, H⟩ := H
    refine u_lI (q := 112) x21e dX8_findRing_111 rfl ?_
    replace H := bs H; obtain ⟨x22, x22e, H⟩ := H
    refine u_callS1 (M' := mX8_ownersOf) (d' := 1) (As := [.long u4, .int x21]) (st := [.long u2, .ref u0, .int v6, .ref x16]) (q := 115) oX8_ownersOf dX8_findRing_112 w1209 w1210 rfl (Nat.le_of_ble_eq_true rfl) (Nat.le_of_ble_eq_true rfl) (Nat.lt_of_lt_of_le (by decide) hd) rfl (sX8_ownersOf (Nat.le_refl _) x22e) rfl ?_
    replace H := bs H; obtain ⟨_, o23, H⟩ := H
    replace H := bs H; obtain ⟨x24, x24e, H⟩ := H
    refine u_callV1 (M' := mX8_processorsOf) (d' := 2) (rc := (RX8, TX8, 19)) (As := [.long u2, .int x22]) (st := [.int v6, .ref x16]) (q := 118) oX8_processorsOf dX8_findRing_115 w1221 w1223 w0046 rfl rfl (gO_sp o23).1 (gO_sp o23).2 rfl (Nat.le_of_ble_eq_true rfl) (Nat.le_of_ble_eq_true rfl) (Nat.lt_of_lt_of_le (by decide) hd) rfl (sX8_processorsOf (Nat.le_refl _) x24e) rfl ?_
    exact V.sub [0, 1, 2, 3] rfl (sjX8_findRing_118 hd H kI kE)
  · replace H := ip c19 H
    refine v_iconst (v := 0) (q := 98) dX8_findRing_97 (by decide) rfl ?_
    refine v_goto (q := 118) dX8_findRing_98 (by decide) ?_
    exact V.sub [0, 1, 2, 3] rfl (sjX8_findRing_118 hd H kI kE)
def bX8_findRing_41 (u0 : Nat) (u2 : Int64) (u4 : Int64) (s41 : Int32 × Hp) : Option ((Int32 × Hp) ⊕ (Hp)) :=
if (6 : Int32) ≤ s41.1 then (
some (.inr s41.2)) else (
(gR s41.2 8 u0 16).bind fun x11 =>
(gI s41.2 8 u0 8).bind fun x12 =>
(fX11_has s41.2 x12 s41.1).bind fun x13 =>
if x13 = 0 then (
jX8_findRing_79 u0 u2 u4 s41.1 (-1 : Int32) s41.1 x11 s41.2) else (
(gO s41.2 8 u0).bind fun _ =>
(fX8_waitsFor s41.2 u0 u2 u4 s41.1).bind fun x28 =>
jX8_findRing_79 u0 u2 u4 s41.1 x28 s41.1 x11 s41.2))
set_option maxRecDepth 20000 in
set_option maxHeartbeats 4000000 in
theorem sbX8_findRing_41 {Γ : Gm} {d : Nat} (hd : 3 ≤ d) {u0 : Nat} {u2 : Int64} {u4 : Int64} {s41 : Int32 × Hp} {r : (Int32 × Hp) ⊕ (Hp)} {t : Option Value × Hp} (H : bX8_findRing_41 u0 u2 u4 s41 = some r) (kI : ∀ s, r = .inl s → (fun s41 => V Γ d mX8_findRing 41 [(0, .ref u0), (2, .long u2), (4, .long u4), (6, .int s41.1)] [] s41.2 t) s) (kE : ∀ e, r = .inr e → (fun e => V Γ d mX8_findRing 125 [(0, .ref u0)] [] e t) e) : V Γ d mX8_findRing 41 [(0, .ref u0), (2, .long u2), (4, .long u4), (6, .int s41.1)] [] s41.2 t := by
  unfold bX8_findRing_41 at H
  refine v_iload (q := 43) 3 dX8_findRing_41 rfl rfl ?_
  refine v_bipush (v := 6) (q := 45) dX8_findRing_43 (by decide) rfl ?_
  refine v_icmp_ge (q1 := 125) (q2 := 48) dX8_findRing_45 (by decide) rfl (fun c10 => ?_) (fun c10 => ?_)
  · replace H := ip c10 H
    exact V.sub [0] rfl (kE s41.2 (Option.some.inj H).symm)
  · replace H := ine c10 H
    refine v_aload_n (q := 49) 0 dX8_findRing_48 rfl rfl rfl ?_
    replace H := bs H; obtain ⟨x11, x11e, H⟩ := H
    refine u_gR (q := 52) (r := (RX8, TX8, 19)) x11e dX8_findRing_49 w1119 rfl (by decide) rfl rfl ?_
    refine v_iload (q := 54) 3 dX8_findRing_52 rfl rfl ?_
    refine v_aload_n (q := 55) 0 dX8_findRing_54 rfl rfl rfl ?_
    replace H := bs H; obtain ⟨x12, x12e, H⟩ := H
    refine u_gI (q := 58) (r := (RX8, TX8, 19)) x12e dX8_findRing_55 w1111 rfl (by decide) rfl rfl ?_
    refine v_iload (q := 60) 3 dX8_findRing_58 rfl rfl ?_
    replace H := bs H; obtain ⟨x13, x13e, H⟩ := H
    refine u_callSN1 (M' := mX11_has) (d' := 1) (As := [.int x12, .int s41.1]) (st := [.int s41.1, .ref x11]) (q := 63) oX11_has dX8_findRing_60 w1194 w0783 rfl (Nat.le_of_ble_eq_true rfl) (Nat.le_of_ble_eq_true rfl) (Nat.lt_of_lt_of_le (by decide) hd) rfl (sX11_has (Nat.le_refl _) x13e) rfl ?_
    refine v_if_eq (q1 := 78) (q2 := 66) dX8_findRing_63 (by decide) rfl (fun c14 => ?_) (fun c14 => ?_)
    · replace H := ip c14 H
      refine v_iconst (v := -1) (q := 79) dX8_findRing_78 (by decide) rfl ?_
      exact V.sub [0, 1, 2, 3] rfl (sjX8_findRing_79 hd H kI kE)
    · replace H := ine c14 H
      refine v_aload_n (q := 67) 0 dX8_findRing_66 rfl rfl rfl ?_
      refine v_lload_n (q := 68) 1 dX8_findRing_67 rfl rfl rfl ?_
      refine v_lload (q := 70) 2 dX8_findRing_68 rfl rfl ?_
      refine v_iload (q := 72) 3 dX8_findRing_70 rfl rfl ?_
      replace H := bs H; obtain ⟨_, o27, H⟩ := H
      replace H := bs H; obtain ⟨x28, x28e, H⟩ := H
      refine u_callV1 (M' := mX8_waitsFor) (d' := 2) (rc := (RX8, TX8, 19)) (As := [.long u2, .long u4, .int s41.1]) (st := [.int s41.1, .ref x11]) (q := 75) oX8_waitsFor dX8_findRing_72 w1201 w1203 w0043 rfl rfl (gO_sp o27).1 (gO_sp o27).2 rfl (Nat.le_of_ble_eq_true rfl) (Nat.le_of_ble_eq_true rfl) (Nat.lt_of_lt_of_le (by decide) hd) rfl (sX8_waitsFor (Nat.le_refl _) x28e) rfl ?_
      refine v_goto (q := 79) dX8_findRing_75 (by decide) ?_
      exact V.sub [0, 1, 2, 3] rfl (sjX8_findRing_79 hd H kI kE)
def jX8_findRing_184 (u0 : Nat) (v6 : Int32) (h : Hp) : Option ((Int32 × Hp) ⊕ (Hp)) :=
(some (v6 + (1 : Int32))).bind fun x36 =>
some (.inl (x36, h))
set_option maxRecDepth 20000 in
set_option maxHeartbeats 4000000 in
theorem sjX8_findRing_184 {Γ : Gm} {d : Nat} (hd : 3 ≤ d) {u0 : Nat} {v6 : Int32} {h : Hp} {r : (Int32 × Hp) ⊕ (Hp)} {t : Option Value × Hp} (H : jX8_findRing_184 u0 v6 h = some r) (kI : ∀ s, r = .inl s → (fun s128 => V Γ d mX8_findRing 128 [(0, .ref u0), (6, .int s128.1)] [] s128.2 t) s) (kE : ∀ e, r = .inr e → (fun e => V Γ d mX8_findRing 190 [] [] e t) e) : V Γ d mX8_findRing 184 [(0, .ref u0), (6, .int v6)] [] h t := by
  unfold jX8_findRing_184 at H
  replace H := bs H; obtain ⟨x36, x36e, H⟩ := H
  refine v_iinc (v := x36) (L' := [(6, .int x36), (0, .ref u0)]) (q := 187) 1 dX8_findRing_184 rfl (Option.some.inj x36e) (by decide) rfl rfl ?_
  refine v_goto (q := 128) dX8_findRing_187 (by decide) ?_
  exact V.sub [1, 0] rfl (kI (x36, h) (Option.some.inj H).symm)
def bX8_findRing_128 (u0 : Nat) (s128 : Int32 × Hp) : Option ((Int32 × Hp) ⊕ (Hp)) :=
if (6 : Int32) ≤ s128.1 then (
some (.inr s128.2)) else (
(gI s128.2 8 u0 0).bind fun x31 =>
if x31 = (3 : Int32) then (
(gR s128.2 8 u0 17).bind fun x33 =>
(lI s128.2 .int x33 s128.1).bind fun x34 =>
if x34 = 0 then (
jX8_findRing_184 u0 s128.1 s128.2) else (
(gR s128.2 8 u0 18).bind fun x37 =>
(gR s128.2 8 u0 17).bind fun x38 =>
(gO s128.2 10 x37).bind fun _ =>
(fX10_find s128.2 x37 x38 s128.1 s128.1).bind fun x40 =>
if x40.1 = 0 then (
jX8_findRing_184 u0 s128.1 x40.2) else (
(pI x40.2 8 u0 0 (1 : Int32)).bind fun h42 =>
(gO h42 8 u0).bind fun _ =>
(fX8_tellRing h42 u0).bind fun x44 =>
(gO x44 8 u0).bind fun _ =>
(fX8_tellRoute x44 u0).bind fun x46 =>
jX8_findRing_184 u0 s128.1 x46))) else (
some (.inr s128.2)))
set_option maxRecDepth 20000 in
set_option maxHeartbeats 4000000 in
theorem sbX8_findRing_128 {Γ : Gm} {d : Nat} (hd : 3 ≤ d) {u0 : Nat} {s128 : Int32 × Hp} {r : (Int32 × Hp) ⊕ (Hp)} {t : Option Value × Hp} (H : bX8_findRing_128 u0 s128 = some r) (kI : ∀ s, r = .inl s → (fun s128 => V Γ d mX8_findRing 128 [(0, .ref u0), (6, .int s128.1)] [] s128.2 t) s) (kE : ∀ e, r = .inr e → (fun e => V Γ d mX8_findRing 190 [] [] e t) e) : V Γ d mX8_findRing 128 [(0, .ref u0), (6, .int s128.1)] [] s128.2 t := by
  unfold bX8_findRing_128 at H
  refine v_iload (q := 130) 1 dX8_findRing_128 rfl rfl ?_
  refine v_bipush (v := 6) (q := 132) dX8_findRing_130 (by decide) rfl ?_
  refine v_icmp_ge (q1 := 190) (q2 := 135) dX8_findRing_132 (by decide) rfl (fun c30 => ?_) (fun c30 => ?_)
  · replace H := ip c30 H
    exact V.sub [] rfl (kE s128.2 (Option.some.inj H).symm)
  · replace H := ine c30 H
    refine v_aload_n (q := 136) 0 dX8_findRing_135 rfl rfl rfl ?_
    replace H := bs H; obtain ⟨x31, x31e, H⟩ := H
    refine u_gI (q := 139) (r := (RX8, TX8, 19)) x31e dX8_findRing_136 w1097 rfl (by decide) rfl rfl ?_
    refine v_iconst (v := 3) (q := 140) dX8_findRing_139 (by decide) rfl ?_
    refine v_icmp_ne (q1 := 190) (q2 := 143) dX8_findRing_140 (by decide) rfl (fun c32 => ?_) (fun c32 => ?_)
    · replace H := ine c32 H
      exact V.sub [] rfl (kE s128.2 (Option.some.inj H).symm)
    · replace H := ip c32 H
      refine v_aload_n (q := 144) 0 dX8_findRing_143 rfl rfl rfl ?_
      replace H := bs H; obtain ⟨x33, x33e, H⟩ := H
      refine u_gR (q := 147) (r := (RX8, TX8, 19)) x33e dX8_findRing_144 w1120 rfl (by decide) rfl rfl ?_
      refine v_iload (q := 149) 1 dX8_findRing_147 rfl rfl ?_
      replace H := bs H; obtain ⟨x34, x34e, H⟩ := H
      refine u_lI (q := 150) x34e dX8_findRing_149 rfl ?_
      refine v_if_eq (q1 := 184) (q2 := 153) dX8_findRing_150 (by decide) rfl (fun c35 => ?_) (fun c35 => ?_)
      · replace H := ip c35 H
        exact V.sub [0, 1] rfl (sjX8_findRing_184 hd H kI kE)
      · replace H := ine c35 H
        refine v_aload_n (q := 154) 0 dX8_findRing_153 rfl rfl rfl ?_
        replace H := bs H; obtain ⟨x37, x37e, H⟩ := H
        refine u_gR (q := 157) (r := (RX8, TX8, 19)) x37e dX8_findRing_154 w1121 rfl (by decide) rfl rfl ?_
        refine v_aload_n (q := 158) 0 dX8_findRing_157 rfl rfl rfl ?_
        replace H := bs H; obtain ⟨x38, x38e, H⟩ := H
        refine u_gR (q := 161) (r := (RX8, TX8, 19)) x38e dX8_findRing_158 w1120 rfl (by decide) rfl rfl ?_
        refine v_iload (q := 163) 1 dX8_findRing_161 rfl rfl ?_
        refine v_iload (q := 165) 1 dX8_findRing_163 rfl rfl ?_
        replace H := bs H; obtain ⟨_, o39, H⟩ := H
        replace H := bs H; obtain ⟨x40, x40e, H⟩ := H
        refine u_callV1 (M' := mX10_find) (d' := 2) (rc := (RX10, TX10, 3)) (As := [.ref x38, .int s128.1, .int s128.1]) (st := []) (q := 168) oX10_find dX8_findRing_165 w1225 w0859 w0860 rfl rfl (gO_sp o39).1 (gO_sp o39).2 rfl (Nat.le_of_ble_eq_true rfl) (Nat.le_of_ble_eq_true rfl) (Nat.lt_of_lt_of_le (by decide) hd) rfl (sX10_find (Nat.le_refl _) x40e) rfl ?_
        refine v_if_eq (q1 := 184) (q2 := 171) dX8_findRing_168 (by decide) rfl (fun c41 => ?_) (fun c41 => ?_)
        · replace H := ip c41 H
          exact V.sub [0, 1] rfl (sjX8_findRing_184 hd H kI kE)
        · replace H := ine c41 H
          refine v_aload_n (q := 172) 0 dX8_findRing_171 rfl rfl rfl ?_
          refine v_iconst (v := 1) (q := 173) dX8_findRing_172 (by decide) rfl ?_
          replace H := bs H; obtain ⟨h42, h42e, H⟩ := H
          refine u_pI (q := 176) (r := (RX8, TX8, 19)) h42e dX8_findRing_173 w1097 rfl (by decide) (Or.inl rfl) rfl rfl ?_
          refine v_aload_n (q := 177) 0 dX8_findRing_176 rfl rfl rfl ?_
          replace H := bs H; obtain ⟨_, o43, H⟩ := H
          replace H := bs H; obtain ⟨x44, x44e, H⟩ := H
          refine u_callV0 (M' := mX8_tellRing) (d' := 1) (rc := (RX8, TX8, 19)) (As := []) (st := []) (q := 180) oX8_tellRing dX8_findRing_177 w1226 w1228 w0047 rfl rfl (gO_sp o43).1 (gO_sp o43).2 rfl (Nat.le_of_ble_eq_true rfl) (Nat.le_of_ble_eq_true rfl) (Nat.lt_of_lt_of_le (by decide) hd) rfl (sX8_tellRing (Nat.le_refl _) x44e) rfl ?_
          refine v_aload_n (q := 181) 0 dX8_findRing_180 rfl rfl rfl ?_
          replace H := bs H; obtain ⟨_, o45, H⟩ := H
          replace H := bs H; obtain ⟨x46, x46e, H⟩ := H
          refine u_callV0 (M' := mX8_tellRoute) (d' := 1) (rc := (RX8, TX8, 19)) (As := []) (st := []) (q := 184) oX8_tellRoute dX8_findRing_181 w1230 w1232 w0048 rfl rfl (gO_sp o45).1 (gO_sp o45).2 rfl (Nat.le_of_ble_eq_true rfl) (Nat.le_of_ble_eq_true rfl) (Nat.lt_of_lt_of_le (by decide) hd) rfl (sX8_tellRoute (Nat.le_refl _) x46e) rfl ?_
          exact V.sub [0, 1] rfl (sjX8_findRing_184 hd H kI kE)
def fX8_findRing (h : Hp) (v0 : Nat) (v1 : Int32) : Option (Hp) :=
(gR h 8 v0 10).bind fun x1 =>
(gI h 8 v0 1).bind fun x2 =>
(lJ h x1 (x2 - (1 : Int32))).bind fun x3 =>
(gR h 8 v0 11).bind fun x4 =>
(gI h 8 v0 1).bind fun x5 =>
(lJ h x4 (x5 - (1 : Int32))).bind fun x6 =>
(gO h 8 v0).bind fun _ =>
(fX8_waitsFor h v0 x3 x6 v1).bind fun x8 =>
if x8 = (-1 : Int32) then (
some h) else (
(lp (bX8_findRing_41 v0 x3 x6) FU ((0 : Int32), h)).bind fun e29 =>
(lp (bX8_findRing_128 v0) FU ((0 : Int32), e29)).bind fun e47 =>
some e47)
set_option maxRecDepth 20000 in
set_option maxHeartbeats 4000000 in
theorem sX8_findRing {Γ : Gm} {d : Nat} (hd : 3 ≤ d) {h : Hp} {v0 : Nat} {v1 : Int32} {r : Hp} (H : fX8_findRing h v0 v1 = some r) : V Γ d mX8_findRing 0 [(0, .ref v0), (1, .int v1)] [] h (none, r) := by
  unfold fX8_findRing at H
  refine v_aload_n (q := 1) 0 dX8_findRing_0 rfl rfl rfl ?_
  replace H := bs H; obtain ⟨x1, x1e, H⟩ := H
  refine u_gR (q := 4) (r := (RX8, TX8, 19)) x1e dX8_findRing_1 w1113 rfl (by decide) rfl rfl ?_
  refine v_aload_n (q := 5) 0 dX8_findRing_4 rfl rfl rfl ?_
  replace H := bs H; obtain ⟨x2, x2e, H⟩ := H
  refine u_gI (q := 8) (r := (RX8, TX8, 19)) x2e dX8_findRing_5 w1099 rfl (by decide) rfl rfl ?_
  refine v_iconst (v := 1) (q := 9) dX8_findRing_8 (by decide) rfl ?_
  refine v_isub (q := 10) dX8_findRing_9 rfl ?_
  replace H := bs H; obtain ⟨x3, x3e, H⟩ := H
  refine u_lJ (q := 11) x3e dX8_findRing_10 rfl ?_
  refine v_lstore_n (L' := [(2, .long x3), (0, .ref v0), (1, .int v1)]) (q := 12) dX8_findRing_11 rfl (by decide) rfl rfl ?_
  refine v_aload_n (q := 13) 1 dX8_findRing_12 rfl rfl rfl ?_
  replace H := bs H; obtain ⟨x4, x4e, H⟩ := H
  refine u_gR (q := 16) (r := (RX8, TX8, 19)) x4e dX8_findRing_13 w1114 rfl (by decide) rfl rfl ?_
  refine v_aload_n (q := 17) 1 dX8_findRing_16 rfl rfl rfl ?_
  replace H := bs H; obtain ⟨x5, x5e, H⟩ := H
  refine u_gI (q := 20) (r := (RX8, TX8, 19)) x5e dX8_findRing_17 w1099 rfl (by decide) rfl rfl ?_
  refine v_iconst (v := 1) (q := 21) dX8_findRing_20 (by decide) rfl ?_
  refine v_isub (q := 22) dX8_findRing_21 rfl ?_
  replace H := bs H; obtain ⟨x6, x6e, H⟩ := H
  refine u_lJ (q := 23) x6e dX8_findRing_22 rfl ?_
  refine v_lstore (L' := [(4, .long x6), (2, .long x3), (0, .ref v0), (1, .int v1)]) (q := 25) dX8_findRing_23 (by decide) rfl rfl ?_
  refine v_aload_n (q := 26) 2 dX8_findRing_25 rfl rfl rfl ?_
  refine v_lload_n (q := 27) 1 dX8_findRing_26 rfl rfl rfl ?_
  refine v_lload (q := 29) 0 dX8_findRing_27 rfl rfl ?_
  refine v_iload_n (q := 30) 3 dX8_findRing_29 rfl rfl rfl ?_
  replace H := bs H; obtain ⟨_, o7, H⟩ := H
  replace H := bs H; obtain ⟨x8, x8e, H⟩ := H
  refine u_callV1 (M' := mX8_waitsFor) (d' := 2) (rc := (RX8, TX8, 19)) (As := [.long x3, .long x6, .int v1]) (st := []) (q := 33) oX8_waitsFor dX8_findRing_30 w1201 w1203 w0043 rfl rfl (gO_sp o7).1 (gO_sp o7).2 rfl (Nat.le_of_ble_eq_true rfl) (Nat.le_of_ble_eq_true rfl) (Nat.lt_of_lt_of_le (by decide) hd) rfl (sX8_waitsFor (Nat.le_refl _) x8e) rfl ?_
  refine v_iconst (v := -1) (q := 34) dX8_findRing_33 (by decide) rfl ?_
  refine v_icmp_ne (q1 := 38) (q2 := 37) dX8_findRing_34 (by decide) rfl (fun c9 => ?_) (fun c9 => ?_)
  · replace H := ine c9 H
    refine v_iconst (v := 0) (q := 39) dX8_findRing_38 (by decide) rfl ?_
    refine v_istore (L' := [(6, .int (0 : Int32)), (4, .long x6), (2, .long x3), (0, .ref v0), (1, .int v1)]) (q := 41) dX8_findRing_39 (by decide) rfl rfl ?_
    replace H := bs H; obtain ⟨e29, e29L, H⟩ := H
    refine V.sub [3, 2, 1, 0] rfl ?_
    refine lp_V (P := (fun s41 => V Γ d mX8_findRing 41 [(0, .ref v0), (2, .long x3), (4, .long x6), (6, .int s41.1)] [] s41.2 (none, r))) (E := (fun e => V Γ d mX8_findRing 125 [(0, .ref v0)] [] e (none, r))) (fun s r hb kI kE => sbX8_findRing_41 hd (s41 := s) (r := r) hb kI kE) FU ((0 : Int32), h) e29 e29L ?_
    refine v_iconst (v := 0) (q := 126) dX8_findRing_125 (by decide) rfl ?_
    refine v_istore (L' := [(6, .int (0 : Int32)), (0, .ref v0)]) (q := 128) dX8_findRing_126 (by decide) rfl rfl ?_
    replace H := bs H; obtain ⟨e47, e47L, H⟩ := H
    refine V.sub [1, 0] rfl ?_
    refine lp_V (P := (fun s128 => V Γ d mX8_findRing 128 [(0, .ref v0), (6, .int s128.1)] [] s128.2 (none, r))) (E := (fun e => V Γ d mX8_findRing 190 [] [] e (none, r))) (fun s r hb kI kE => sbX8_findRing_128 hd (s128 := s) (r := r) hb kI kE) FU ((0 : Int32), e29) e47 e47L ?_
    cases H
    exact v_return rfl dX8_findRing_190
  · replace H := ip c9 H
    cases H
    exact v_return rfl dX8_findRing_37
def mX8_letCome : MI := (yX8_letCome, cX8_letCome, 7, some .boolean)
theorem oX8_letCome : mOK mX8_letCome 3 := ⟨by decide +kernel, by decide +kernel, by decide +kernel, by decide, w1237, w0159⟩
def fX8_letCome (h : Hp) (v0 : Nat) (v1 : Int32) (v2 : Int32) (v3 : Int32) : Option (Int32 × Hp) :=
(some ((24 : Int32) + ((3 : Int32) * v3))).bind fun x1 =>
(gR h 8 v0 10).bind fun x2 =>
(lJ h x2 v1).bind fun x3 =>
if (lg_cmp (((x3.toUInt64 >>> (x1.toInt64.toUInt64 &&& Int64.toUInt64 63)).toInt64) &&& (7 : Int64)) (0 : Int64)) = 0 then (
(gR h 8 v0 11).bind fun x5 =>
(lJ h x5 v1).bind fun x6 =>
(gO h 8 v0).bind fun _ =>
(fX8_keep h v0 (x3 ||| ((v2.toInt64 + (1 : Int64)) <<< (x1.toInt64 &&& 63))) x6 (((v1 <<< ((6 : Int32) &&& 31)) ||| (v2 <<< ((3 : Int32) &&& 31))) ||| (v3 + (1 : Int32)))).bind fun x8 =>
(bz x8.1).bind fun x9 =>
some (x9, x8.2)) else (
some (((0 : Int32), h)))
set_option maxRecDepth 20000 in
set_option maxHeartbeats 4000000 in
theorem sX8_letCome {Γ : Gm} {d : Nat} (hd : 3 ≤ d) {h : Hp} {v0 : Nat} {v1 : Int32} {v2 : Int32} {v3 : Int32} {r : Int32 × Hp} (H : fX8_letCome h v0 v1 v2 v3 = some r) : V Γ d mX8_letCome 0 [(0, .ref v0), (1, .int v1), (2, .int v2), (3, .int v3)] [] h (some (.int r.1), r.2) := by
  unfold fX8_letCome at H
  refine v_bipush (v := 24) (q := 2) dX8_letCome_0 (by decide) rfl ?_
  refine v_iconst (v := 3) (q := 3) dX8_letCome_2 (by decide) rfl ?_
  refine v_iload_n (q := 4) 3 dX8_letCome_3 rfl rfl rfl ?_
  refine v_imul (q := 5) dX8_letCome_4 rfl ?_
  refine v_iadd (q := 6) dX8_letCome_5 rfl ?_
  replace H := bs H; obtain ⟨x1, x1e, H⟩ := H
  refine v_topi (Option.some.inj x1e) ?_
  refine v_istore (L' := [(4, .int x1), (0, .ref v0), (1, .int v1), (2, .int v2), (3, .int v3)]) (q := 8) dX8_letCome_6 (by decide) rfl rfl ?_
  refine v_aload_n (q := 9) 1 dX8_letCome_8 rfl rfl rfl ?_
  replace H := bs H; obtain ⟨x2, x2e, H⟩ := H
  refine u_gR (q := 12) (r := (RX8, TX8, 19)) x2e dX8_letCome_9 w1113 rfl (by decide) rfl rfl ?_
  refine v_iload_n (q := 13) 2 dX8_letCome_12 rfl rfl rfl ?_
  replace H := bs H; obtain ⟨x3, x3e, H⟩ := H
  refine u_lJ (q := 14) x3e dX8_letCome_13 rfl ?_
  refine v_lstore (L' := [(5, .long x3), (4, .int x1), (0, .ref v0), (1, .int v1), (2, .int v2), (3, .int v3)]) (q := 16) dX8_letCome_14 (by decide) rfl rfl ?_
  refine v_lload (q := 18) 0 dX8_letCome_16 rfl rfl ?_
  refine v_iload (q := 20) 1 dX8_letCome_18 rfl rfl ?_
  refine v_lushr (q := 21) dX8_letCome_20 rfl ?_
  refine v_ldc2 (v := 7) (q := 24) dX8_letCome_21 w1200 rfl ?_
  refine v_land (q := 25) dX8_letCome_24 rfl ?_
  refine v_lconst (v := 0) (q := 26) dX8_letCome_25 (by decide) rfl ?_
  refine v_lcmp (q := 27) dX8_letCome_26 rfl ?_
  refine v_if_eq (q1 := 32) (q2 := 30) dX8_letCome_27 (by decide) rfl (fun c4 => ?_) (fun c4 => ?_)
  · replace H := ip c4 H
    refine v_aload_n (q := 33) 2 dX8_letCome_32 rfl rfl rfl ?_
    refine v_lload (q := 35) 0 dX8_letCome_33 rfl rfl ?_
    refine v_iload_n (q := 36) 4 dX8_letCome_35 rfl rfl rfl ?_
    refine v_i2l (q := 37) dX8_letCome_36 rfl ?_
    refine v_lconst (v := 1) (q := 38) dX8_letCome_37 (by decide) rfl ?_
    refine v_ladd (q := 39) dX8_letCome_38 rfl ?_
    refine v_iload (q := 41) 1 dX8_letCome_39 rfl rfl ?_
    refine v_lshl (q := 42) dX8_letCome_41 rfl ?_
    refine v_lor (q := 43) dX8_letCome_42 rfl ?_
    refine v_aload_n (q := 44) 2 dX8_letCome_43 rfl rfl rfl ?_
    replace H := bs H; obtain ⟨x5, x5e, H⟩ := H
    refine u_gR (q := 47) (r := (RX8, TX8, 19)) x5e dX8_letCome_44 w1114 rfl (by decide) rfl rfl ?_
    refine v_iload_n (q := 48) 3 dX8_letCome_47 rfl rfl rfl ?_
    replace H := bs H; obtain ⟨x6, x6e, H⟩ := H
    refine u_lJ (q := 49) x6e dX8_letCome_48 rfl ?_
    refine v_iload_n (q := 50) 3 dX8_letCome_49 rfl rfl rfl ?_
    refine v_bipush (v := 6) (q := 52) dX8_letCome_50 (by decide) rfl ?_
    refine v_ishl (q := 53) dX8_letCome_52 rfl ?_
    refine v_iload_n (q := 54) 4 dX8_letCome_53 rfl rfl rfl ?_
    refine v_iconst (v := 3) (q := 55) dX8_letCome_54 (by decide) rfl ?_
    refine v_ishl (q := 56) dX8_letCome_55 rfl ?_
    refine v_ior (q := 57) dX8_letCome_56 rfl ?_
    refine v_iload_n (q := 58) 5 dX8_letCome_57 rfl rfl rfl ?_
    refine v_iconst (v := 1) (q := 59) dX8_letCome_58 (by decide) rfl ?_
    refine v_iadd (q := 60) dX8_letCome_59 rfl ?_
    refine v_ior (q := 61) dX8_letCome_60 rfl ?_
    replace H := bs H; obtain ⟨_, o7, H⟩ := H
    replace H := bs H; obtain ⟨x8, x8e, H⟩ := H
    refine u_callV1 (M' := mX8_keep) (d' := 2) (rc := (RX8, TX8, 19)) (As := [.long (x3 ||| ((v2.toInt64 + (1 : Int64)) <<< (x1.toInt64 &&& 63))), .long x6, .int (((v1 <<< ((6 : Int32) &&& 31)) ||| (v2 <<< ((3 : Int32) &&& 31))) ||| (v3 + (1 : Int32)))]) (st := []) (q := 64) oX8_keep dX8_letCome_61 w1180 w1182 w0039 rfl rfl (gO_sp o7).1 (gO_sp o7).2 rfl (Nat.le_of_ble_eq_true rfl) (Nat.le_of_ble_eq_true rfl) (Nat.lt_of_lt_of_le (by decide) hd) rfl (sX8_keep (Nat.le_refl _) x8e) rfl ?_
    replace H := bs H; obtain ⟨x9, x9e, H⟩ := H
    obtain ⟨x9q, x9z⟩ := bz_sp x9e
    refine v_topi x9q.symm ?_
    cases H
    exact v_zreturn rfl (by rw [x9q]; exact x9z) dX8_letCome_64
  · replace H := ine c4 H
    refine v_iconst (v := 0) (q := 31) dX8_letCome_30 (by decide) rfl ?_
    cases H
    exact v_zreturn rfl (by decide) dX8_letCome_31
def mX8_goOnFrom : MI := (yX8_goOnFrom, cX8_goOnFrom, 8, none)
theorem oX8_goOnFrom : mOK mX8_goOnFrom 1 := ⟨by decide +kernel, by decide +kernel, by decide +kernel, by decide, w1193, w0159⟩
def jX8_goOnFrom_189 (u0 : Nat) (u1 : Int32) (u2 : Int64) (u4 : Int32) (u6 : Int32) (v7 : Int32) (h : Hp) : Option ((Int32 × Hp) ⊕ (Hp)) :=
(some (v7 + (1 : Int32))).bind fun x28 =>
some (.inl (x28, h))
set_option maxRecDepth 20000 in
set_option maxHeartbeats 4000000 in
theorem sjX8_goOnFrom_189 {Γ : Gm} {d : Nat} (hd : 4 ≤ d) {u0 : Nat} {u1 : Int32} {u2 : Int64} {u4 : Int32} {u6 : Int32} {v7 : Int32} {h : Hp} {r : (Int32 × Hp) ⊕ (Hp)} {t : Option Value × Hp} (H : jX8_goOnFrom_189 u0 u1 u2 u4 u6 v7 h = some r) (kI : ∀ s, r = .inl s → (fun s121 => V Γ d mX8_goOnFrom 121 [(0, .ref u0), (1, .int u1), (2, .long u2), (4, .int u4), (6, .int u6), (7, .int s121.1)] [] s121.2 t) s) (kE : ∀ e, r = .inr e → (fun e => V Γ d mX8_goOnFrom 195 [(0, .ref u0), (1, .int u1), (2, .long u2), (4, .int u4)] [] e t) e) : V Γ d mX8_goOnFrom 189 [(0, .ref u0), (1, .int u1), (2, .long u2), (4, .int u4), (6, .int u6), (7, .int v7)] [] h t := by
  unfold jX8_goOnFrom_189 at H
  replace H := bs H; obtain ⟨x28, x28e, H⟩ := H
  refine v_iinc (v := x28) (L' := [(7, .int x28), (0, .ref u0), (1, .int u1), (2, .long u2), (4, .int u4), (6, .int u6)]) (q := 192) 5 dX8_goOnFrom_189 rfl (Option.some.inj x28e) (by decide) rfl rfl ?_
  refine v_goto (q := 121) dX8_goOnFrom_192 (by decide) ?_
  exact V.sub [1, 2, 3, 4, 5, 0] rfl (kI (x28, h) (Option.some.inj H).symm)
def bX8_goOnFrom_121 (u0 : Nat) (u1 : Int32) (u2 : Int64) (u4 : Int32) (u6 : Int32) (s121 : Int32 × Hp) : Option ((Int32 × Hp) ⊕ (Hp)) :=
(gR s121.2 8 u0 6).bind fun x20 =>
(gI s121.2 5 x20 2).bind fun x21 =>
if x21 ≤ s121.1 then (
some (.inr s121.2)) else (
(gI s121.2 8 u0 0).bind fun x23 =>
if x23 = (3 : Int32) then (
(gI s121.2 8 u0 9).bind fun x25 =>
(fX11_has s121.2 x25 s121.1).bind fun x26 =>
if x26 = 0 then (
jX8_goOnFrom_189 u0 u1 u2 u4 u6 s121.1 s121.2) else (
(gR s121.2 8 u0 6).bind fun x29 =>
(gR s121.2 5 x29 4).bind fun x30 =>
(lI s121.2 .int x30 s121.1).bind fun x31 =>
(fX11_has s121.2 u6 x31).bind fun x32 =>
if x32 = 0 then (
jX8_goOnFrom_189 u0 u1 u2 u4 u6 s121.1 s121.2) else (
(gO s121.2 8 u0).bind fun _ =>
(fX8_letCome s121.2 u0 u1 u4 s121.1).bind fun x35 =>
if x35.1 = 0 then (
jX8_goOnFrom_189 u0 u1 u2 u4 u6 s121.1 x35.2) else (
(gO x35.2 8 u0).bind fun _ =>
(fX8_findRing x35.2 u0 u4).bind fun x38 =>
jX8_goOnFrom_189 u0 u1 u2 u4 u6 s121.1 x38)))) else (
some (.inr s121.2)))
set_option maxRecDepth 20000 in
set_option maxHeartbeats 4000000 in
theorem sbX8_goOnFrom_121 {Γ : Gm} {d : Nat} (hd : 4 ≤ d) {u0 : Nat} {u1 : Int32} {u2 : Int64} {u4 : Int32} {u6 : Int32} {s121 : Int32 × Hp} {r : (Int32 × Hp) ⊕ (Hp)} {t : Option Value × Hp} (H : bX8_goOnFrom_121 u0 u1 u2 u4 u6 s121 = some r) (kI : ∀ s, r = .inl s → (fun s121 => V Γ d mX8_goOnFrom 121 [(0, .ref u0), (1, .int u1), (2, .long u2), (4, .int u4), (6, .int u6), (7, .int s121.1)] [] s121.2 t) s) (kE : ∀ e, r = .inr e → (fun e => V Γ d mX8_goOnFrom 195 [(0, .ref u0), (1, .int u1), (2, .long u2), (4, .int u4)] [] e t) e) : V Γ d mX8_goOnFrom 121 [(0, .ref u0), (1, .int u1), (2, .long u2), (4, .int u4), (6, .int u6), (7, .int s121.1)] [] s121.2 t := by
  unfold bX8_goOnFrom_121 at H
  refine v_iload (q := 123) 5 dX8_goOnFrom_121 rfl rfl ?_
  refine v_aload_n (q := 124) 0 dX8_goOnFrom_123 rfl rfl rfl ?_
  replace H := bs H; obtain ⟨x20, x20e, H⟩ := H
  refine u_gR (q := 127) (r := (RX8, TX8, 19)) x20e dX8_goOnFrom_124 w1109 rfl (by decide) rfl rfl ?_
  replace H := bs H; obtain ⟨x21, x21e, H⟩ := H
  refine u_gI (q := 130) (r := (RX5, TX5, 7)) x21e dX8_goOnFrom_127 w0231 rfl (by decide) rfl rfl ?_
  refine v_icmp_ge (q1 := 195) (q2 := 133) dX8_goOnFrom_130 (by decide) rfl (fun c22 => ?_) (fun c22 => ?_)
  · replace H := ip c22 H
    exact V.sub [0, 1, 2, 3] rfl (kE s121.2 (Option.some.inj H).symm)
  · replace H := ine c22 H
    refine v_aload_n (q := 134) 0 dX8_goOnFrom_133 rfl rfl rfl ?_
    replace H := bs H; obtain ⟨x23, x23e, H⟩ := H
    refine u_gI (q := 137) (r := (RX8, TX8, 19)) x23e dX8_goOnFrom_134 w1097 rfl (by decide) rfl rfl ?_
    refine v_iconst (v := 3) (q := 138) dX8_goOnFrom_137 (by decide) rfl ?_
    refine v_icmp_ne (q1 := 195) (q2 := 141) dX8_goOnFrom_138 (by decide) rfl (fun c24 => ?_) (fun c24 => ?_)
    · replace H := ine c24 H
      exact V.sub [0, 1, 2, 3] rfl (kE s121.2 (Option.some.inj H).symm)
    · replace H := ip c24 H
      refine v_aload_n (q := 142) 0 dX8_goOnFrom_141 rfl rfl rfl ?_
      replace H := bs H; obtain ⟨x25, x25e, H⟩ := H
      refine u_gI (q := 145) (r := (RX8, TX8, 19)) x25e dX8_goOnFrom_142 w1112 rfl (by decide) rfl rfl ?_
      refine v_iload (q := 147) 5 dX8_goOnFrom_145 rfl rfl ?_
      replace H := bs H; obtain ⟨x26, x26e, H⟩ := H
      refine u_callSN1 (M' := mX11_has) (d' := 1) (As := [.int x25, .int s121.1]) (st := []) (q := 150) oX11_has dX8_goOnFrom_147 w1194 w0783 rfl (Nat.le_of_ble_eq_true rfl) (Nat.le_of_ble_eq_true rfl) (Nat.lt_of_lt_of_le (by decide) hd) rfl (sX11_has (Nat.le_refl _) x26e) rfl ?_
      refine v_if_eq (q1 := 189) (q2 := 153) dX8_goOnFrom_150 (by decide) rfl (fun c27 => ?_) (fun c27 => ?_)
      · replace H := ip c27 H
        exact V.sub [0, 1, 2, 3, 4, 5] rfl (sjX8_goOnFrom_189 hd H kI kE)
      · replace H := ine c27 H
        refine v_iload (q := 155) 4 dX8_goOnFrom_153 rfl rfl ?_
        refine v_aload_n (q := 156) 0 dX8_goOnFrom_155 rfl rfl rfl ?_
        replace H := bs H; obtain ⟨x29, x29e, H⟩ := H
        refine u_gR (q := 159) (r := (RX8, TX8, 19)) x29e dX8_goOnFrom_156 w1109 rfl (by decide) rfl rfl ?_
        replace H := bs H; obtain ⟨x30, x30e, H⟩ := H
        refine u_gR (q := 162) (r := (RX5, TX5, 7)) x30e dX8_goOnFrom_159 w0240 rfl (by decide) rfl rfl ?_
        refine v_iload (q := 164) 5 dX8_goOnFrom_162 rfl rfl ?_
        replace H := bs H; obtain ⟨x31, x31e, H⟩ := H
        refine u_lI (q := 165) x31e dX8_goOnFrom_164 rfl ?_
        replace H := bs H; obtain ⟨x32, x32e, H⟩ := H
        refine u_callSN1 (M' := mX11_has) (d' := 1) (As := [.int u6, .int x31]) (st := []) (q := 168) oX11_has dX8_goOnFrom_165 w1194 w0783 rfl (Nat.le_of_ble_eq_true rfl) (Nat.le_of_ble_eq_true rfl) (Nat.lt_of_lt_of_le (by decide) hd) rfl (sX11_has (Nat.le_refl _) x32e) rfl ?_
        refine v_if_eq (q1 := 189) (q2 := 171) dX8_goOnFrom_168 (by decide) rfl (fun c33 => ?_) (fun c33 => ?_)
        · replace H := ip c33 H
          exact V.sub [0, 1, 2, 3, 4, 5] rfl (sjX8_goOnFrom_189 hd H kI kE)
        · replace H := ine c33 H
          refine v_aload_n (q := 172) 0 dX8_goOnFrom_171 rfl rfl rfl ?_
          refine v_iload_n (q := 173) 1 dX8_goOnFrom_172 rfl rfl rfl ?_
          refine v_iload (q := 175) 3 dX8_goOnFrom_173 rfl rfl ?_
          refine v_iload (q := 177) 5 dX8_goOnFrom_175 rfl rfl ?_
          replace H := bs H; obtain ⟨_, o34, H⟩ := H
          replace H := bs H; obtain ⟨x35, x35e, H⟩ := H
          refine u_callV1 (M' := mX8_letCome) (d' := 3) (rc := (RX8, TX8, 19)) (As := [.int u1, .int u4, .int s121.1]) (st := []) (q := 180) oX8_letCome dX8_goOnFrom_177 w1234 w1236 w0049 rfl rfl (gO_sp o34).1 (gO_sp o34).2 rfl (Nat.le_of_ble_eq_true rfl) (Nat.le_of_ble_eq_true rfl) (Nat.lt_of_lt_of_le (by decide) hd) rfl (sX8_letCome (Nat.le_refl _) x35e) rfl ?_
          refine v_if_eq (q1 := 189) (q2 := 183) dX8_goOnFrom_180 (by decide) rfl (fun c36 => ?_) (fun c36 => ?_)
          · replace H := ip c36 H
            exact V.sub [0, 1, 2, 3, 4, 5] rfl (sjX8_goOnFrom_189 hd H kI kE)
          · replace H := ine c36 H
            refine v_aload_n (q := 184) 0 dX8_goOnFrom_183 rfl rfl rfl ?_
            refine v_iload (q := 186) 3 dX8_goOnFrom_184 rfl rfl ?_
            replace H := bs H; obtain ⟨_, o37, H⟩ := H
            replace H := bs H; obtain ⟨x38, x38e, H⟩ := H
            refine u_callV0 (M' := mX8_findRing) (d' := 3) (rc := (RX8, TX8, 19)) (As := [.int u4]) (st := []) (q := 189) oX8_findRing dX8_goOnFrom_186 w1217 w1219 w0045 rfl rfl (gO_sp o37).1 (gO_sp o37).2 rfl (Nat.le_of_ble_eq_true rfl) (Nat.le_of_ble_eq_true rfl) (Nat.lt_of_lt_of_le (by decide) hd) rfl (sX8_findRing (Nat.le_refl _) x38e) rfl ?_
            exact V.sub [0, 1, 2, 3, 4, 5] rfl (sjX8_goOnFrom_189 hd H kI kE)
def jX8_goOnFrom_195 (u0 : Nat) (u1 : Int32) (u2 : Int64) (v4 : Int32) (h : Hp) : Option ((Int32 × Hp) ⊕ (Hp)) :=
(some (v4 + (1 : Int32))).bind fun x40 =>
some (.inl (x40, h))
set_option maxRecDepth 20000 in
set_option maxHeartbeats 4000000 in
theorem sjX8_goOnFrom_195 {Γ : Gm} {d : Nat} (hd : 4 ≤ d) {u0 : Nat} {u1 : Int32} {u2 : Int64} {v4 : Int32} {h : Hp} {r : (Int32 × Hp) ⊕ (Hp)} {t : Option Value × Hp} (H : jX8_goOnFrom_195 u0 u1 u2 v4 h = some r) (kI : ∀ s, r = .inl s → (fun s10 => V Γ d mX8_goOnFrom 10 [(0, .ref u0), (1, .int u1), (2, .long u2), (4, .int s10.1)] [] s10.2 t) s) (kE : ∀ e, r = .inr e → (fun e => V Γ d mX8_goOnFrom 201 [] [] e t) e) : V Γ d mX8_goOnFrom 195 [(0, .ref u0), (1, .int u1), (2, .long u2), (4, .int v4)] [] h t := by
  unfold jX8_goOnFrom_195 at H
  replace H := bs H; obtain ⟨x40, x40e, H⟩ := H
  refine v_iinc (v := x40) (L' := [(4, .int x40), (0, .ref u0), (1, .int u1), (2, .long u2)]) (q := 198) 3 dX8_goOnFrom_195 rfl (Option.some.inj x40e) (by decide) rfl rfl ?_
  refine v_goto (q := 10) dX8_goOnFrom_198 (by decide) ?_
  exact V.sub [1, 2, 3, 0] rfl (kI (x40, h) (Option.some.inj H).symm)
def jX8_goOnFrom_99 (u0 : Nat) (u1 : Int32) (u2 : Int64) (v4 : Int32) (v5 : Int32) (h : Hp) : Option ((Int32 × Hp) ⊕ (Hp)) :=
(gR h 8 u0 15).bind fun x17 =>
(fX8_doneBy h u2 v5).bind fun x18 =>
(lI h .int x17 ((v5 * (12 : Int32)) + x18)).bind fun x19 =>
(lp (bX8_goOnFrom_121 u0 u1 u2 v4 x19) FU ((0 : Int32), h)).bind fun e39 =>
jX8_goOnFrom_195 u0 u1 u2 v4 e39
set_option maxRecDepth 20000 in
set_option maxHeartbeats 4000000 in
theorem sjX8_goOnFrom_99 {Γ : Gm} {d : Nat} (hd : 4 ≤ d) {u0 : Nat} {u1 : Int32} {u2 : Int64} {v4 : Int32} {v5 : Int32} {h : Hp} {r : (Int32 × Hp) ⊕ (Hp)} {t : Option Value × Hp} (H : jX8_goOnFrom_99 u0 u1 u2 v4 v5 h = some r) (kI : ∀ s, r = .inl s → (fun s10 => V Γ d mX8_goOnFrom 10 [(0, .ref u0), (1, .int u1), (2, .long u2), (4, .int s10.1)] [] s10.2 t) s) (kE : ∀ e, r = .inr e → (fun e => V Γ d mX8_goOnFrom 201 [] [] e t) e) : V Γ d mX8_goOnFrom 99 [(0, .ref u0), (1, .int u1), (2, .long u2), (4, .int v4), (5, .int v5)] [] h t := by
  unfold jX8_goOnFrom_99 at H
  refine v_aload_n (q := 100) 0 dX8_goOnFrom_99 rfl rfl rfl ?_
  replace H := bs H; obtain ⟨x17, x17e, H⟩ := H
  refine u_gR (q := 103) (r := (RX8, TX8, 19)) x17e dX8_goOnFrom_100 w1118 rfl (by decide) rfl rfl ?_
  refine v_iload (q := 105) 4 dX8_goOnFrom_103 rfl rfl ?_
  refine v_bipush (v := 12) (q := 107) dX8_goOnFrom_105 (by decide) rfl ?_
  refine v_imul (q := 108) dX8_goOnFrom_107 rfl ?_
  refine v_lload_n (q := 109) 2 dX8_goOnFrom_108 rfl rfl rfl ?_
  refine v_iload (q := 111) 4 dX8_goOnFrom_109 rfl rfl ?_
  replace H := bs H; obtain ⟨x18, x18e, H⟩ := H
  refine u_callS1 (M' := mX8_doneBy) (d' := 1) (As := [.long u2, .int v5]) (st := [.int (v5 * (12 : Int32)), .ref x17]) (q := 114) oX8_doneBy dX8_goOnFrom_111 w1205 w1206 rfl (Nat.le_of_ble_eq_true rfl) (Nat.le_of_ble_eq_true rfl) (Nat.lt_of_lt_of_le (by decide) hd) rfl (sX8_doneBy (Nat.le_refl _) x18e) rfl ?_
  refine v_iadd (q := 115) dX8_goOnFrom_114 rfl ?_
  replace H := bs H; obtain ⟨x19, x19e, H⟩ := H
  refine u_lI (q := 116) x19e dX8_goOnFrom_115 rfl ?_
  refine v_istore (L' := [(6, .int x19), (0, .ref u0), (1, .int u1), (2, .long u2), (4, .int v4), (5, .int v5)]) (q := 118) dX8_goOnFrom_116 (by decide) rfl rfl ?_
  refine v_iconst (v := 0) (q := 119) dX8_goOnFrom_118 (by decide) rfl ?_
  refine v_istore (L' := [(7, .int (0 : Int32)), (6, .int x19), (0, .ref u0), (1, .int u1), (2, .long u2), (4, .int v4), (5, .int v5)]) (q := 121) dX8_goOnFrom_119 (by decide) rfl rfl ?_
  replace H := bs H; obtain ⟨e39, e39L, H⟩ := H
  refine V.sub [2, 3, 4, 5, 1, 0] rfl ?_
  refine lp_V (P := (fun s121 => V Γ d mX8_goOnFrom 121 [(0, .ref u0), (1, .int u1), (2, .long u2), (4, .int v4), (6, .int x19), (7, .int s121.1)] [] s121.2 t)) (E := (fun e => V Γ d mX8_goOnFrom 195 [(0, .ref u0), (1, .int u1), (2, .long u2), (4, .int v4)] [] e t)) (fun s r hb kI kE => sbX8_goOnFrom_121 hd (s121 := s) (r := r) hb kI kE) FU ((0 : Int32), h) e39 e39L ?_
  exact V.sub [0, 1, 2, 3] rfl (sjX8_goOnFrom_195 hd H kI kE)
def jX8_goOnFrom_53 (u0 : Nat) (u1 : Int32) (u2 : Int64) (v4 : Int32) (y0 : Int32) (h : Hp) : Option ((Int32 × Hp) ⊕ (Hp)) :=
if y0 = (-1 : Int32) then (
jX8_goOnFrom_195 u0 u1 u2 v4 h) else (
(gR h 8 u0 11).bind fun x12 =>
(lJ h x12 u1).bind fun x13 =>
(gO h 8 u0).bind fun _ =>
(fX8_waitsFor h u0 u2 x13 v4).bind fun x15 =>
if x15 = (-1 : Int32) then (
(gO h 8 u0).bind fun _ =>
(fX8_doStep h u0 u1 v4 y0).bind fun x42 =>
if x42.1 = 0 then (
jX8_goOnFrom_99 u0 u1 u2 v4 y0 x42.2) else (
(gO x42.2 8 u0).bind fun _ =>
(fX8_findRing x42.2 u0 v4).bind fun x45 =>
jX8_goOnFrom_99 u0 u1 u2 v4 y0 x45)) else (
jX8_goOnFrom_99 u0 u1 u2 v4 y0 h))
set_option maxRecDepth 20000 in
set_option maxHeartbeats 4000000 in
theorem sjX8_goOnFrom_53 {Γ : Gm} {d : Nat} (hd : 4 ≤ d) {u0 : Nat} {u1 : Int32} {u2 : Int64} {v4 : Int32} {y0 : Int32} {h : Hp} {r : (Int32 × Hp) ⊕ (Hp)} {t : Option Value × Hp} (H : jX8_goOnFrom_53 u0 u1 u2 v4 y0 h = some r) (kI : ∀ s, r = .inl s → (fun s10 => V Γ d mX8_goOnFrom 10 [(0, .ref u0), (1, .int u1), (2, .long u2), (4, .int s10.1)] [] s10.2 t) s) (kE : ∀ e, r = .inr e → (fun e => V Γ d mX8_goOnFrom 201 [] [] e t) e) : V Γ d mX8_goOnFrom 53 [(0, .ref u0), (1, .int u1), (2, .long u2), (4, .int v4)] [.int y0] h t := by
  unfold jX8_goOnFrom_53 at H
  refine v_istore (L' := [(5, .int y0), (0, .ref u0), (1, .int u1), (2, .long u2), (4, .int v4)]) (q := 55) dX8_goOnFrom_53 (by decide) rfl rfl ?_
  refine v_iload (q := 57) 0 dX8_goOnFrom_55 rfl rfl ?_
  refine v_iconst (v := -1) (q := 58) dX8_goOnFrom_57 (by decide) rfl ?_
  refine v_icmp_ne (q1 := 64) (q2 := 61) dX8_goOnFrom_58 (by decide) rfl (fun c11 => ?_) (fun c11 => ?_)
  · replace H := ine c11 H
    refine v_aload_n (q := 65) 1 dX8_goOnFrom_64 rfl rfl rfl ?_
    refine v_lload_n (q := 66) 3 dX8_goOnFrom_65 rfl rfl rfl ?_
    refine v_aload_n (q := 67) 1 dX8_goOnFrom_66 rfl rfl rfl ?_
    replace H := bs H; obtain ⟨x12, x12e, H⟩ := H
    refine u_gR (q := 70) (r := (RX8, TX8, 19)) x12e dX8_goOnFrom_67 w1114 rfl (by decide) rfl rfl ?_
    refine v_iload_n (q := 71) 2 dX8_goOnFrom_70 rfl rfl rfl ?_
    replace H := bs H; obtain ⟨x13, x13e, H⟩ := H
    refine u_lJ (q := 72) x13e dX8_goOnFrom_71 rfl ?_
    refine v_iload (q := 74) 4 dX8_goOnFrom_72 rfl rfl ?_
    replace H := bs H; obtain ⟨_, o14, H⟩ := H
    replace H := bs H; obtain ⟨x15, x15e, H⟩ := H
    refine u_callV1 (M' := mX8_waitsFor) (d' := 2) (rc := (RX8, TX8, 19)) (As := [.long u2, .long x13, .int v4]) (st := []) (q := 77) oX8_waitsFor dX8_goOnFrom_74 w1201 w1203 w0043 rfl rfl (gO_sp o14).1 (gO_sp o14).2 rfl (Nat.le_of_ble_eq_true rfl) (Nat.le_of_ble_eq_true rfl) (Nat.lt_of_lt_of_le (by decide) hd) rfl (sX8_waitsFor (Nat.le_refl _) x15e) rfl ?_
    refine v_iconst (v := -1) (q := 78) dX8_goOnFrom_77 (by decide) rfl ?_
    refine v_icmp_ne (q1 := 99) (q2 := 81) dX8_goOnFrom_78 (by decide) rfl (fun c16 => ?_) (fun c16 => ?_)
    · replace H := ine c16 H
      exact V.sub [1, 2, 3, 4, 0] rfl (sjX8_goOnFrom_99 hd H kI kE)
    · replace H := ip c16 H
      refine v_aload_n (q := 82) 1 dX8_goOnFrom_81 rfl rfl rfl ?_
      refine v_iload_n (q := 83) 2 dX8_goOnFrom_82 rfl rfl rfl ?_
      refine v_iload (q := 85) 4 dX8_goOnFrom_83 rfl rfl ?_
      refine v_iload (q := 87) 0 dX8_goOnFrom_85 rfl rfl ?_
      replace H := bs H; obtain ⟨_, o41, H⟩ := H
      replace H := bs H; obtain ⟨x42, x42e, H⟩ := H
      refine u_callV1 (M' := mX8_doStep) (d' := 3) (rc := (RX8, TX8, 19)) (As := [.int u1, .int v4, .int y0]) (st := []) (q := 90) oX8_doStep dX8_goOnFrom_87 w1212 w1214 w0044 rfl rfl (gO_sp o41).1 (gO_sp o41).2 rfl (Nat.le_of_ble_eq_true rfl) (Nat.le_of_ble_eq_true rfl) (Nat.lt_of_lt_of_le (by decide) hd) rfl (sX8_doStep (Nat.le_refl _) x42e) rfl ?_
      refine v_if_eq (q1 := 99) (q2 := 93) dX8_goOnFrom_90 (by decide) rfl (fun c43 => ?_) (fun c43 => ?_)
      · replace H := ip c43 H
        exact V.sub [1, 2, 3, 4, 0] rfl (sjX8_goOnFrom_99 hd H kI kE)
      · replace H := ine c43 H
        refine v_aload_n (q := 94) 1 dX8_goOnFrom_93 rfl rfl rfl ?_
        refine v_iload (q := 96) 4 dX8_goOnFrom_94 rfl rfl ?_
        replace H := bs H; obtain ⟨_, o44, H⟩ := H
        replace H := bs H; obtain ⟨x45, x45e, H⟩ := H
        refine u_callV0 (M' := mX8_findRing) (d' := 3) (rc := (RX8, TX8, 19)) (As := [.int v4]) (st := []) (q := 99) oX8_findRing dX8_goOnFrom_96 w1217 w1219 w0045 rfl rfl (gO_sp o44).1 (gO_sp o44).2 rfl (Nat.le_of_ble_eq_true rfl) (Nat.le_of_ble_eq_true rfl) (Nat.lt_of_lt_of_le (by decide) hd) rfl (sX8_findRing (Nat.le_refl _) x45e) rfl ?_
        exact V.sub [1, 2, 3, 4, 0] rfl (sjX8_goOnFrom_99 hd H kI kE)
  · replace H := ip c11 H
    refine v_goto (q := 195) dX8_goOnFrom_61 (by decide) ?_
    exact V.sub [1, 2, 3, 4] rfl (sjX8_goOnFrom_195 hd H kI kE)
def bX8_goOnFrom_10 (u0 : Nat) (u1 : Int32) (u2 : Int64) (s10 : Int32 × Hp) : Option ((Int32 × Hp) ⊕ (Hp)) :=
(gR s10.2 8 u0 6).bind fun x3 =>
(gI s10.2 5 x3 2).bind fun x4 =>
if x4 ≤ s10.1 then (
some (.inr s10.2)) else (
(gI s10.2 8 u0 0).bind fun x6 =>
if x6 = (3 : Int32) then (
(gI s10.2 8 u0 8).bind fun x8 =>
(fX11_has s10.2 x8 s10.1).bind fun x9 =>
if x9 = 0 then (
jX8_goOnFrom_53 u0 u1 u2 s10.1 (-1 : Int32) s10.2) else (
(gO s10.2 8 u0).bind fun _ =>
(fX8_onTop s10.2 u0 u2 s10.1).bind fun x47 =>
jX8_goOnFrom_53 u0 u1 u2 s10.1 x47 s10.2)) else (
some (.inr s10.2)))
set_option maxRecDepth 20000 in
set_option maxHeartbeats 4000000 in
theorem sbX8_goOnFrom_10 {Γ : Gm} {d : Nat} (hd : 4 ≤ d) {u0 : Nat} {u1 : Int32} {u2 : Int64} {s10 : Int32 × Hp} {r : (Int32 × Hp) ⊕ (Hp)} {t : Option Value × Hp} (H : bX8_goOnFrom_10 u0 u1 u2 s10 = some r) (kI : ∀ s, r = .inl s → (fun s10 => V Γ d mX8_goOnFrom 10 [(0, .ref u0), (1, .int u1), (2, .long u2), (4, .int s10.1)] [] s10.2 t) s) (kE : ∀ e, r = .inr e → (fun e => V Γ d mX8_goOnFrom 201 [] [] e t) e) : V Γ d mX8_goOnFrom 10 [(0, .ref u0), (1, .int u1), (2, .long u2), (4, .int s10.1)] [] s10.2 t := by
  unfold bX8_goOnFrom_10 at H
  refine v_iload (q := 12) 3 dX8_goOnFrom_10 rfl rfl ?_
  refine v_aload_n (q := 13) 0 dX8_goOnFrom_12 rfl rfl rfl ?_
  replace H := bs H; obtain ⟨x3, x3e, H⟩ := H
  refine u_gR (q := 16) (r := (RX8, TX8, 19)) x3e dX8_goOnFrom_13 w1109 rfl (by decide) rfl rfl ?_
  replace H := bs H; obtain ⟨x4, x4e, H⟩ := H
  refine u_gI (q := 19) (r := (RX5, TX5, 7)) x4e dX8_goOnFrom_16 w0231 rfl (by decide) rfl rfl ?_
  refine v_icmp_ge (q1 := 201) (q2 := 22) dX8_goOnFrom_19 (by decide) rfl (fun c5 => ?_) (fun c5 => ?_)
  · replace H := ip c5 H
    exact V.sub [] rfl (kE s10.2 (Option.some.inj H).symm)
  · replace H := ine c5 H
    refine v_aload_n (q := 23) 0 dX8_goOnFrom_22 rfl rfl rfl ?_
    replace H := bs H; obtain ⟨x6, x6e, H⟩ := H
    refine u_gI (q := 26) (r := (RX8, TX8, 19)) x6e dX8_goOnFrom_23 w1097 rfl (by decide) rfl rfl ?_
    refine v_iconst (v := 3) (q := 27) dX8_goOnFrom_26 (by decide) rfl ?_
    refine v_icmp_ne (q1 := 201) (q2 := 30) dX8_goOnFrom_27 (by decide) rfl (fun c7 => ?_) (fun c7 => ?_)
    · replace H := ine c7 H
      exact V.sub [] rfl (kE s10.2 (Option.some.inj H).symm)
    · replace H := ip c7 H
      refine v_aload_n (q := 31) 0 dX8_goOnFrom_30 rfl rfl rfl ?_
      replace H := bs H; obtain ⟨x8, x8e, H⟩ := H
      refine u_gI (q := 34) (r := (RX8, TX8, 19)) x8e dX8_goOnFrom_31 w1111 rfl (by decide) rfl rfl ?_
      refine v_iload (q := 36) 3 dX8_goOnFrom_34 rfl rfl ?_
      replace H := bs H; obtain ⟨x9, x9e, H⟩ := H
      refine u_callSN1 (M' := mX11_has) (d' := 1) (As := [.int x8, .int s10.1]) (st := []) (q := 39) oX11_has dX8_goOnFrom_36 w1194 w0783 rfl (Nat.le_of_ble_eq_true rfl) (Nat.le_of_ble_eq_true rfl) (Nat.lt_of_lt_of_le (by decide) hd) rfl (sX11_has (Nat.le_refl _) x9e) rfl ?_
      refine v_if_eq (q1 := 52) (q2 := 42) dX8_goOnFrom_39 (by decide) rfl (fun c10 => ?_) (fun c10 => ?_)
      · replace H := ip c10 H
        refine v_iconst (v := -1) (q := 53) dX8_goOnFrom_52 (by decide) rfl ?_
        exact V.sub [0, 1, 2, 3] rfl (sjX8_goOnFrom_53 hd H kI kE)
      · replace H := ine c10 H
        refine v_aload_n (q := 43) 0 dX8_goOnFrom_42 rfl rfl rfl ?_
        refine v_lload_n (q := 44) 2 dX8_goOnFrom_43 rfl rfl rfl ?_
        refine v_iload (q := 46) 3 dX8_goOnFrom_44 rfl rfl ?_
        replace H := bs H; obtain ⟨_, o46, H⟩ := H
        replace H := bs H; obtain ⟨x47, x47e, H⟩ := H
        refine u_callV1 (M' := mX8_onTop) (d' := 1) (rc := (RX8, TX8, 19)) (As := [.long u2, .int s10.1]) (st := []) (q := 49) oX8_onTop dX8_goOnFrom_46 w1195 w1197 w0042 rfl rfl (gO_sp o46).1 (gO_sp o46).2 rfl (Nat.le_of_ble_eq_true rfl) (Nat.le_of_ble_eq_true rfl) (Nat.lt_of_lt_of_le (by decide) hd) rfl (sX8_onTop (Nat.le_refl _) x47e) rfl ?_
        refine v_goto (q := 53) dX8_goOnFrom_49 (by decide) ?_
        exact V.sub [0, 1, 2, 3] rfl (sjX8_goOnFrom_53 hd H kI kE)
def fX8_goOnFrom (h : Hp) (v0 : Nat) (v1 : Int32) : Option (Hp) :=
(gR h 8 v0 10).bind fun x1 =>
(lJ h x1 v1).bind fun x2 =>
(lp (bX8_goOnFrom_10 v0 v1 x2) FU ((0 : Int32), h)).bind fun e48 =>
some e48
set_option maxRecDepth 20000 in
set_option maxHeartbeats 4000000 in
theorem sX8_goOnFrom {Γ : Gm} {d : Nat} (hd : 4 ≤ d) {h : Hp} {v0 : Nat} {v1 : Int32} {r : Hp} (H : fX8_goOnFrom h v0 v1 = some r) : V Γ d mX8_goOnFrom 0 [(0, .ref v0), (1, .int v1)] [] h (none, r) := by
  unfold fX8_goOnFrom at H
  refine v_aload_n (q := 1) 0 dX8_goOnFrom_0 rfl rfl rfl ?_
  replace H := bs H; obtain ⟨x1, x1e, H⟩ := H
  refine u_gR (q := 4) (r := (RX8, TX8, 19)) x1e dX8_goOnFrom_1 w1113 rfl (by decide) rfl rfl ?_
  refine v_iload_n (q := 5) 1 dX8_goOnFrom_4 rfl rfl rfl ?_
  replace H := bs H; obtain ⟨x2, x2e, H⟩ := H
  refine u_lJ (q := 6) x2e dX8_goOnFrom_5 rfl ?_
  refine v_lstore_n (L' := [(2, .long x2), (0, .ref v0), (1, .int v1)]) (q := 7) dX8_goOnFrom_6 rfl (by decide) rfl rfl ?_
  refine v_iconst (v := 0) (q := 8) dX8_goOnFrom_7 (by decide) rfl ?_
  refine v_istore (L' := [(4, .int (0 : Int32)), (2, .long x2), (0, .ref v0), (1, .int v1)]) (q := 10) dX8_goOnFrom_8 (by decide) rfl rfl ?_
  replace H := bs H; obtain ⟨e48, e48L, H⟩ := H
  refine V.sub [2, 3, 1, 0] rfl ?_
  refine lp_V (P := (fun s10 => V Γ d mX8_goOnFrom 10 [(0, .ref v0), (1, .int v1), (2, .long x2), (4, .int s10.1)] [] s10.2 (none, r))) (E := (fun e => V Γ d mX8_goOnFrom 201 [] [] e (none, r))) (fun s r hb kI kE => sbX8_goOnFrom_10 hd (s10 := s) (r := r) hb kI kE) FU ((0 : Int32), h) e48 e48L ?_
  cases H
  exact v_return rfl dX8_goOnFrom_201
def mX8_search : MI := (yX8_search, cX8_search, 5, none)
theorem oX8_search : mOK mX8_search 3 := ⟨by decide +kernel, by decide +kernel, by decide +kernel, by decide, w1164, w0159⟩
def bX8_search_79 (u0 : Nat) (s79 : Int32 × Hp) : Option ((Int32 × Hp) ⊕ (Hp)) :=
(gI s79.2 8 u0 1).bind fun x20 =>
if x20 ≤ s79.1 then (
some (.inr s79.2)) else (
(gI s79.2 8 u0 0).bind fun x22 =>
if x22 = (3 : Int32) then (
(gO s79.2 8 u0).bind fun _ =>
(fX8_goOnFrom s79.2 u0 s79.1).bind fun x25 =>
(some (s79.1 + (1 : Int32))).bind fun x26 =>
some (.inl (x26, x25))) else (
some (.inr s79.2)))
set_option maxRecDepth 20000 in
set_option maxHeartbeats 4000000 in
theorem sbX8_search_79 {Γ : Gm} {d : Nat} (hd : 5 ≤ d) {u0 : Nat} {s79 : Int32 × Hp} {r : (Int32 × Hp) ⊕ (Hp)} {t : Option Value × Hp} (H : bX8_search_79 u0 s79 = some r) (kI : ∀ s, r = .inl s → (fun s79 => V Γ d mX8_search 79 [(0, .ref u0), (4, .int s79.1)] [] s79.2 t) s) (kE : ∀ e, r = .inr e → (fun e => V Γ d mX8_search 108 [(0, .ref u0)] [] e t) e) : V Γ d mX8_search 79 [(0, .ref u0), (4, .int s79.1)] [] s79.2 t := by
  unfold bX8_search_79 at H
  refine v_iload (q := 81) 1 dX8_search_79 rfl rfl ?_
  refine v_aload_n (q := 82) 0 dX8_search_81 rfl rfl rfl ?_
  replace H := bs H; obtain ⟨x20, x20e, H⟩ := H
  refine u_gI (q := 85) (r := (RX8, TX8, 19)) x20e dX8_search_82 w1099 rfl (by decide) rfl rfl ?_
  refine v_icmp_ge (q1 := 108) (q2 := 88) dX8_search_85 (by decide) rfl (fun c21 => ?_) (fun c21 => ?_)
  · replace H := ip c21 H
    exact V.sub [0] rfl (kE s79.2 (Option.some.inj H).symm)
  · replace H := ine c21 H
    refine v_aload_n (q := 89) 0 dX8_search_88 rfl rfl rfl ?_
    replace H := bs H; obtain ⟨x22, x22e, H⟩ := H
    refine u_gI (q := 92) (r := (RX8, TX8, 19)) x22e dX8_search_89 w1097 rfl (by decide) rfl rfl ?_
    refine v_iconst (v := 3) (q := 93) dX8_search_92 (by decide) rfl ?_
    refine v_icmp_ne (q1 := 108) (q2 := 96) dX8_search_93 (by decide) rfl (fun c23 => ?_) (fun c23 => ?_)
    · replace H := ine c23 H
      exact V.sub [0] rfl (kE s79.2 (Option.some.inj H).symm)
    · replace H := ip c23 H
      refine v_aload_n (q := 97) 0 dX8_search_96 rfl rfl rfl ?_
      refine v_iload (q := 99) 1 dX8_search_97 rfl rfl ?_
      replace H := bs H; obtain ⟨_, o24, H⟩ := H
      replace H := bs H; obtain ⟨x25, x25e, H⟩ := H
      refine u_callV0 (M' := mX8_goOnFrom) (d' := 4) (rc := (RX8, TX8, 19)) (As := [.int s79.1]) (st := []) (q := 102) oX8_goOnFrom dX8_search_99 w1190 w1192 w0041 rfl rfl (gO_sp o24).1 (gO_sp o24).2 rfl (Nat.le_of_ble_eq_true rfl) (Nat.le_of_ble_eq_true rfl) (Nat.lt_of_lt_of_le (by decide) hd) rfl (sX8_goOnFrom (Nat.le_refl _) x25e) rfl ?_
      replace H := bs H; obtain ⟨x26, x26e, H⟩ := H
      refine v_iinc (v := x26) (L' := [(4, .int x26), (0, .ref u0)]) (q := 105) 1 dX8_search_102 rfl (Option.some.inj x26e) (by decide) rfl rfl ?_
      refine v_goto (q := 79) dX8_search_105 (by decide) ?_
      exact V.sub [1, 0] rfl (kI (x26, x25) (Option.some.inj H).symm)
def jX8_search_121 (h : Hp) : Option (Hp) :=
some h
set_option maxRecDepth 20000 in
set_option maxHeartbeats 4000000 in
theorem sjX8_search_121 {Γ : Gm} {d : Nat} (hd : 5 ≤ d) {h : Hp} {r : Hp} (H : jX8_search_121 h = some r) : V Γ d mX8_search 121 [] [] h (none, r) := by
  unfold jX8_search_121 at H
  cases H
  exact v_return rfl dX8_search_121
def fX8_search (h : Hp) (v0 : Nat) (v1 : Nat) (v2 : Nat) (v3 : Int32) : Option (Hp) :=
(pR h 8 v0 6 v1).bind fun h1 =>
(pR h1 8 v0 7 v2).bind fun h2 =>
(gR h2 8 v0 6).bind fun x3 =>
(gO h2 5 x3).bind fun _ =>
(fX5_tasks h2 x3).bind fun x5 =>
(pI h2 8 v0 8 (v3 &&& x5)).bind fun h6 =>
(gI h6 8 v0 8).bind fun x7 =>
(pI h6 8 v0 9 (v3 &&& (x7 ^^^ (-1 : Int32)))).bind fun h8 =>
(pI h8 8 v0 0 (3 : Int32)).bind fun h9 =>
(pI h9 8 v0 1 (0 : Int32)).bind fun h10 =>
(pI h10 8 v0 2 (0 : Int32)).bind fun h11 =>
(pI h11 8 v0 3 (0 : Int32)).bind fun h12 =>
(pI h12 8 v0 4 (0 : Int32)).bind fun h13 =>
(gO h13 8 v0).bind fun _ =>
(fX8_beginTurn h13 v0).bind fun x15 =>
(gO x15 8 v0).bind fun _ =>
(fX8_seeWhatCanCome x15 v0).bind fun x17 =>
(gO x17 8 v0).bind fun _ =>
(fX8_keep x17 v0 (0 : Int64) (0 : Int64) (0 : Int32)).bind fun x19 =>
(lp (bX8_search_79 v0) FU ((0 : Int32), x19.2)).bind fun e27 =>
(gI e27 8 v0 0).bind fun x28 =>
if x28 = (3 : Int32) then (
(pI e27 8 v0 0 (0 : Int32)).bind fun h30 =>
jX8_search_121 h30) else (
jX8_search_121 e27)
set_option maxRecDepth 20000 in
set_option maxHeartbeats 4000000 in
theorem sX8_search {Γ : Gm} {d : Nat} (hd : 5 ≤ d) {h : Hp} {v0 : Nat} {v1 : Nat} {v2 : Nat} {v3 : Int32} {r : Hp} (H : fX8_search h v0 v1 v2 v3 = some r) : V Γ d mX8_search 0 [(0, .ref v0), (1, .ref v1), (2, .ref v2), (3, .int v3)] [] h (none, r) := by
  unfold fX8_search at H
  refine v_aload_n (q := 1) 0 dX8_search_0 rfl rfl rfl ?_
  refine v_aload_n (q := 2) 1 dX8_search_1 rfl rfl rfl ?_
  replace H := bs H; obtain ⟨h1, h1e, H⟩ := H
  refine u_pR (q := 5) (r := (RX8, TX8, 19)) h1e dX8_search_2 w1109 rfl (by decide) (Or.inl rfl) rfl rfl ?_
  refine v_aload_n (q := 6) 0 dX8_search_5 rfl rfl rfl ?_
  refine v_aload_n (q := 7) 2 dX8_search_6 rfl rfl rfl ?_
  replace H := bs H; obtain ⟨h2, h2e, H⟩ := H
  refine u_pR (q := 10) (r := (RX8, TX8, 19)) h2e dX8_search_7 w1110 rfl (by decide) (Or.inl rfl) rfl rfl ?_
  refine v_aload_n (q := 11) 0 dX8_search_10 rfl rfl rfl ?_
  refine v_iload_n (q := 12) 3 dX8_search_11 rfl rfl rfl ?_
  refine v_aload_n (q := 13) 0 dX8_search_12 rfl rfl rfl ?_
  replace H := bs H; obtain ⟨x3, x3e, H⟩ := H
  refine u_gR (q := 16) (r := (RX8, TX8, 19)) x3e dX8_search_13 w1109 rfl (by decide) rfl rfl ?_
  replace H := bs H; obtain ⟨_, o4, H⟩ := H
  replace H := bs H; obtain ⟨x5, x5e, H⟩ := H
  refine u_callV1 (M' := mX5_tasks) (d' := 1) (rc := (RX5, TX5, 7)) (As := []) (st := [.int v3, .ref v0]) (q := 19) oX5_tasks dX8_search_16 w1165 w1068 w1069 rfl rfl (gO_sp o4).1 (gO_sp o4).2 rfl (Nat.le_of_ble_eq_true rfl) (Nat.le_of_ble_eq_true rfl) (Nat.lt_of_lt_of_le (by decide) hd) rfl (sX5_tasks (Nat.le_refl _) x5e) rfl ?_
  refine v_iand (q := 20) dX8_search_19 rfl ?_
  replace H := bs H; obtain ⟨h6, h6e, H⟩ := H
  refine u_pI (q := 23) (r := (RX8, TX8, 19)) h6e dX8_search_20 w1111 rfl (by decide) (Or.inl rfl) rfl rfl ?_
  refine v_aload_n (q := 24) 0 dX8_search_23 rfl rfl rfl ?_
  refine v_iload_n (q := 25) 3 dX8_search_24 rfl rfl rfl ?_
  refine v_aload_n (q := 26) 0 dX8_search_25 rfl rfl rfl ?_
  replace H := bs H; obtain ⟨x7, x7e, H⟩ := H
  refine u_gI (q := 29) (r := (RX8, TX8, 19)) x7e dX8_search_26 w1111 rfl (by decide) rfl rfl ?_
  refine v_iconst (v := -1) (q := 30) dX8_search_29 (by decide) rfl ?_
  refine v_ixor (q := 31) dX8_search_30 rfl ?_
  refine v_iand (q := 32) dX8_search_31 rfl ?_
  replace H := bs H; obtain ⟨h8, h8e, H⟩ := H
  refine u_pI (q := 35) (r := (RX8, TX8, 19)) h8e dX8_search_32 w1112 rfl (by decide) (Or.inl rfl) rfl rfl ?_
  refine v_aload_n (q := 36) 0 dX8_search_35 rfl rfl rfl ?_
  refine v_iconst (v := 3) (q := 37) dX8_search_36 (by decide) rfl ?_
  replace H := bs H; obtain ⟨h9, h9e, H⟩ := H
  refine u_pI (q := 40) (r := (RX8, TX8, 19)) h9e dX8_search_37 w1097 rfl (by decide) (Or.inl rfl) rfl rfl ?_
  refine v_aload_n (q := 41) 0 dX8_search_40 rfl rfl rfl ?_
  refine v_iconst (v := 0) (q := 42) dX8_search_41 (by decide) rfl ?_
  replace H := bs H; obtain ⟨h10, h10e, H⟩ := H
  refine u_pI (q := 45) (r := (RX8, TX8, 19)) h10e dX8_search_42 w1099 rfl (by decide) (Or.inl rfl) rfl rfl ?_
  refine v_aload_n (q := 46) 0 dX8_search_45 rfl rfl rfl ?_
  refine v_iconst (v := 0) (q := 47) dX8_search_46 (by decide) rfl ?_
  replace H := bs H; obtain ⟨h11, h11e, H⟩ := H
  refine u_pI (q := 50) (r := (RX8, TX8, 19)) h11e dX8_search_47 w1101 rfl (by decide) (Or.inl rfl) rfl rfl ?_
  refine v_aload_n (q := 51) 0 dX8_search_50 rfl rfl rfl ?_
  refine v_iconst (v := 0) (q := 52) dX8_search_51 (by decide) rfl ?_
  replace H := bs H; obtain ⟨h12, h12e, H⟩ := H
  refine u_pI (q := 55) (r := (RX8, TX8, 19)) h12e dX8_search_52 w1103 rfl (by decide) (Or.inl rfl) rfl rfl ?_
  refine v_aload_n (q := 56) 0 dX8_search_55 rfl rfl rfl ?_
  refine v_iconst (v := 0) (q := 57) dX8_search_56 (by decide) rfl ?_
  replace H := bs H; obtain ⟨h13, h13e, H⟩ := H
  refine u_pI (q := 60) (r := (RX8, TX8, 19)) h13e dX8_search_57 w1105 rfl (by decide) (Or.inl rfl) rfl rfl ?_
  refine v_aload_n (q := 61) 0 dX8_search_60 rfl rfl rfl ?_
  replace H := bs H; obtain ⟨_, o14, H⟩ := H
  replace H := bs H; obtain ⟨x15, x15e, H⟩ := H
  refine u_callV0 (M' := mX8_beginTurn) (d' := 2) (rc := (RX8, TX8, 19)) (As := []) (st := []) (q := 64) oX8_beginTurn dX8_search_61 w1166 w1168 w0037 rfl rfl (gO_sp o14).1 (gO_sp o14).2 rfl (Nat.le_of_ble_eq_true rfl) (Nat.le_of_ble_eq_true rfl) (Nat.lt_of_lt_of_le (by decide) hd) rfl (sX8_beginTurn (Nat.le_refl _) x15e) rfl ?_
  refine v_aload_n (q := 65) 0 dX8_search_64 rfl rfl rfl ?_
  replace H := bs H; obtain ⟨_, o16, H⟩ := H
  replace H := bs H; obtain ⟨x17, x17e, H⟩ := H
  refine u_callV0 (M' := mX8_seeWhatCanCome) (d' := 3) (rc := (RX8, TX8, 19)) (As := []) (st := []) (q := 68) oX8_seeWhatCanCome dX8_search_65 w1172 w1174 w0038 rfl rfl (gO_sp o16).1 (gO_sp o16).2 rfl (Nat.le_of_ble_eq_true rfl) (Nat.le_of_ble_eq_true rfl) (Nat.lt_of_lt_of_le (by decide) hd) rfl (sX8_seeWhatCanCome (Nat.le_refl _) x17e) rfl ?_
  refine v_aload_n (q := 69) 0 dX8_search_68 rfl rfl rfl ?_
  refine v_lconst (v := 0) (q := 70) dX8_search_69 (by decide) rfl ?_
  refine v_lconst (v := 0) (q := 71) dX8_search_70 (by decide) rfl ?_
  refine v_iconst (v := 0) (q := 72) dX8_search_71 (by decide) rfl ?_
  replace H := bs H; obtain ⟨_, o18, H⟩ := H
  replace H := bs H; obtain ⟨x19, x19e, H⟩ := H
  refine u_callV1 (M' := mX8_keep) (d' := 2) (rc := (RX8, TX8, 19)) (As := [.long (0 : Int64), .long (0 : Int64), .int (0 : Int32)]) (st := []) (q := 75) oX8_keep dX8_search_72 w1180 w1182 w0039 rfl rfl (gO_sp o18).1 (gO_sp o18).2 rfl (Nat.le_of_ble_eq_true rfl) (Nat.le_of_ble_eq_true rfl) (Nat.lt_of_lt_of_le (by decide) hd) rfl (sX8_keep (Nat.le_refl _) x19e) rfl ?_
  refine v_pop (q := 76) dX8_search_75 rfl rfl ?_
  refine v_iconst (v := 0) (q := 77) dX8_search_76 (by decide) rfl ?_
  refine v_istore (L' := [(4, .int (0 : Int32)), (0, .ref v0), (1, .ref v1), (2, .ref v2), (3, .int v3)]) (q := 79) dX8_search_77 (by decide) rfl rfl ?_
  replace H := bs H; obtain ⟨e27, e27L, H⟩ := H
  refine V.sub [1, 0] rfl ?_
  refine lp_V (P := (fun s79 => V Γ d mX8_search 79 [(0, .ref v0), (4, .int s79.1)] [] s79.2 (none, r))) (E := (fun e => V Γ d mX8_search 108 [(0, .ref v0)] [] e (none, r))) (fun s r hb kI kE => sbX8_search_79 hd (s79 := s) (r := r) hb kI kE) FU ((0 : Int32), x19.2) e27 e27L ?_
  refine v_aload_n (q := 109) 0 dX8_search_108 rfl rfl rfl ?_
  replace H := bs H; obtain ⟨x28, x28e, H⟩ := H
  refine u_gI (q := 112) (r := (RX8, TX8, 19)) x28e dX8_search_109 w1097 rfl (by decide) rfl rfl ?_
  refine v_iconst (v := 3) (q := 113) dX8_search_112 (by decide) rfl ?_
  refine v_icmp_ne (q1 := 121) (q2 := 116) dX8_search_113 (by decide) rfl (fun c29 => ?_) (fun c29 => ?_)
  · replace H := ine c29 H
    exact V.sub [] rfl (sjX8_search_121 hd H)
  · replace H := ip c29 H
    refine v_aload_n (q := 117) 0 dX8_search_116 rfl rfl rfl ?_
    refine v_iconst (v := 0) (q := 118) dX8_search_117 (by decide) rfl ?_
    replace H := bs H; obtain ⟨h30, h30e, H⟩ := H
    refine u_pI (q := 121) (r := (RX8, TX8, 19)) h30e dX8_search_118 w1097 rfl (by decide) (Or.inl rfl) rfl rfl ?_
    exact V.sub [] rfl (sjX8_search_121 hd H)
def mX0_lookInto : MI := (yX0_lookInto, cX0_lookInto, 4, none)
theorem oX0_lookInto : mOK mX0_lookInto 2 := ⟨by decide +kernel, by decide +kernel, by decide +kernel, by decide, w1084, w0149⟩
def fX0_lookInto (h : Hp) (v0 : Nat) (v1 : Nat) (v2 : Int32) : Option (Hp) :=
(gO h 0 v0).bind fun _ =>
(fX0_readySides h v0).bind fun x2 =>
(gR x2.2 0 v0 5).bind fun x3 =>
(gO x2.2 8 x2.1).bind fun _ =>
(fX8_search x2.2 x2.1 v1 x3 v2).bind fun x5 =>
(pI x5 0 v0 7 v2).bind fun h6 =>
(gR h6 0 v0 4).bind fun x7 =>
(gI h6 8 x2.1 0).bind fun x8 =>
(tI h6 x7 v2 x8).bind fun h9 =>
(gR h9 0 v0 0).bind fun x10 =>
(gI h9 8 x2.1 2).bind fun x11 =>
(tI h9 x10 v2 x11).bind fun h12 =>
(gR h12 0 v0 1).bind fun x13 =>
(gI h12 8 x2.1 1).bind fun x14 =>
(tI h12 x13 v2 x14).bind fun h15 =>
(gR h15 0 v0 2).bind fun x16 =>
(gI h15 8 x2.1 3).bind fun x17 =>
(tI h15 x16 v2 x17).bind fun h18 =>
(gR h18 0 v0 3).bind fun x19 =>
(gI h18 8 x2.1 4).bind fun x20 =>
(tI h18 x19 v2 x20).bind fun h21 =>
some h21
set_option maxRecDepth 20000 in
set_option maxHeartbeats 4000000 in
theorem sX0_lookInto {Γ : Gm} {d : Nat} (hd : 6 ≤ d) {h : Hp} {v0 : Nat} {v1 : Nat} {v2 : Int32} {r : Hp} (H : fX0_lookInto h v0 v1 v2 = some r) : V Γ d mX0_lookInto 0 [(0, .ref v0), (1, .ref v1), (2, .int v2)] [] h (none, r) := by
  unfold fX0_lookInto at H
  refine v_aload_n (q := 1) 0 dX0_lookInto_0 rfl rfl rfl ?_
  replace H := bs H; obtain ⟨_, o1, H⟩ := H
  replace H := bs H; obtain ⟨x2, x2e, H⟩ := H
  refine u_callV1 (M' := mX0_readySides) (d' := 3) (rc := (RX0, TX0, 9)) (As := []) (st := []) (q := 4) oX0_readySides dX0_lookInto_1 w1085 w1087 w0036 rfl rfl (gO_sp o1).1 (gO_sp o1).2 rfl (Nat.le_of_ble_eq_true rfl) (Nat.le_of_ble_eq_true rfl) (Nat.lt_of_lt_of_le (by decide) hd) rfl (sX0_readySides (Nat.le_refl _) x2e) rfl ?_
  refine v_astore_n (L' := [(3, .ref x2.1), (0, .ref v0), (1, .ref v1), (2, .int v2)]) (q := 5) dX0_lookInto_4 rfl (by decide) rfl rfl ?_
  refine v_aload_n (q := 6) 0 dX0_lookInto_5 rfl rfl rfl ?_
  refine v_aload_n (q := 7) 2 dX0_lookInto_6 rfl rfl rfl ?_
  refine v_aload_n (q := 8) 1 dX0_lookInto_7 rfl rfl rfl ?_
  replace H := bs H; obtain ⟨x3, x3e, H⟩ := H
  refine u_gR (q := 11) (r := (RX0, TX0, 9)) x3e dX0_lookInto_8 w0498 rfl (by decide) rfl rfl ?_
  refine v_iload_n (q := 12) 3 dX0_lookInto_11 rfl rfl rfl ?_
  replace H := bs H; obtain ⟨_, o4, H⟩ := H
  replace H := bs H; obtain ⟨x5, x5e, H⟩ := H
  refine u_callV0 (M' := mX8_search) (d' := 5) (rc := (RX8, TX8, 19)) (As := [.ref v1, .ref x3, .int v2]) (st := []) (q := 15) oX8_search dX0_lookInto_12 w1161 w1162 w1163 rfl rfl (gO_sp o4).1 (gO_sp o4).2 rfl (Nat.le_of_ble_eq_true rfl) (Nat.le_of_ble_eq_true rfl) (Nat.lt_of_lt_of_le (by decide) hd) rfl (sX8_search (Nat.le_refl _) x5e) rfl ?_
  refine v_aload_n (q := 16) 1 dX0_lookInto_15 rfl rfl rfl ?_
  refine v_iload_n (q := 17) 3 dX0_lookInto_16 rfl rfl rfl ?_
  replace H := bs H; obtain ⟨h6, h6e, H⟩ := H
  refine u_pI (q := 20) (r := (RX0, TX0, 9)) h6e dX0_lookInto_17 w0500 rfl (by decide) (Or.inl rfl) rfl rfl ?_
  refine v_aload_n (q := 21) 1 dX0_lookInto_20 rfl rfl rfl ?_
  replace H := bs H; obtain ⟨x7, x7e, H⟩ := H
  refine u_gR (q := 24) (r := (RX0, TX0, 9)) x7e dX0_lookInto_21 w0497 rfl (by decide) rfl rfl ?_
  refine v_iload_n (q := 25) 3 dX0_lookInto_24 rfl rfl rfl ?_
  refine v_aload_n (q := 26) 0 dX0_lookInto_25 rfl rfl rfl ?_
  replace H := bs H; obtain ⟨x8, x8e, H⟩ := H
  refine u_gI (q := 29) (r := (RX8, TX8, 19)) x8e dX0_lookInto_26 w1098 rfl (by decide) rfl rfl ?_
  replace H := bs H; obtain ⟨h9, h9e, H⟩ := H
  refine u_tI (q := 30) h9e dX0_lookInto_29 rfl ?_
  refine v_aload_n (q := 31) 1 dX0_lookInto_30 rfl rfl rfl ?_
  replace H := bs H; obtain ⟨x10, x10e, H⟩ := H
  refine u_gR (q := 34) (r := (RX0, TX0, 9)) x10e dX0_lookInto_31 w0489 rfl (by decide) rfl rfl ?_
  refine v_iload_n (q := 35) 3 dX0_lookInto_34 rfl rfl rfl ?_
  refine v_aload_n (q := 36) 0 dX0_lookInto_35 rfl rfl rfl ?_
  replace H := bs H; obtain ⟨x11, x11e, H⟩ := H
  refine u_gI (q := 39) (r := (RX8, TX8, 19)) x11e dX0_lookInto_36 w1102 rfl (by decide) rfl rfl ?_
  replace H := bs H; obtain ⟨h12, h12e, H⟩ := H
  refine u_tI (q := 40) h12e dX0_lookInto_39 rfl ?_
  refine v_aload_n (q := 41) 1 dX0_lookInto_40 rfl rfl rfl ?_
  replace H := bs H; obtain ⟨x13, x13e, H⟩ := H
  refine u_gR (q := 44) (r := (RX0, TX0, 9)) x13e dX0_lookInto_41 w0491 rfl (by decide) rfl rfl ?_
  refine v_iload_n (q := 45) 3 dX0_lookInto_44 rfl rfl rfl ?_
  refine v_aload_n (q := 46) 0 dX0_lookInto_45 rfl rfl rfl ?_
  replace H := bs H; obtain ⟨x14, x14e, H⟩ := H
  refine u_gI (q := 49) (r := (RX8, TX8, 19)) x14e dX0_lookInto_46 w1100 rfl (by decide) rfl rfl ?_
  replace H := bs H; obtain ⟨h15, h15e, H⟩ := H
  refine u_tI (q := 50) h15e dX0_lookInto_49 rfl ?_
  refine v_aload_n (q := 51) 1 dX0_lookInto_50 rfl rfl rfl ?_
  replace H := bs H; obtain ⟨x16, x16e, H⟩ := H
  refine u_gR (q := 54) (r := (RX0, TX0, 9)) x16e dX0_lookInto_51 w0493 rfl (by decide) rfl rfl ?_
  refine v_iload_n (q := 55) 3 dX0_lookInto_54 rfl rfl rfl ?_
  refine v_aload_n (q := 56) 0 dX0_lookInto_55 rfl rfl rfl ?_
  replace H := bs H; obtain ⟨x17, x17e, H⟩ := H
  refine u_gI (q := 59) (r := (RX8, TX8, 19)) x17e dX0_lookInto_56 w1104 rfl (by decide) rfl rfl ?_
  replace H := bs H; obtain ⟨h18, h18e, H⟩ := H
  refine u_tI (q := 60) h18e dX0_lookInto_59 rfl ?_
  refine v_aload_n (q := 61) 1 dX0_lookInto_60 rfl rfl rfl ?_
  replace H := bs H; obtain ⟨x19, x19e, H⟩ := H
  refine u_gR (q := 64) (r := (RX0, TX0, 9)) x19e dX0_lookInto_61 w0495 rfl (by decide) rfl rfl ?_
  refine v_iload_n (q := 65) 3 dX0_lookInto_64 rfl rfl rfl ?_
  refine v_aload_n (q := 66) 0 dX0_lookInto_65 rfl rfl rfl ?_
  replace H := bs H; obtain ⟨x20, x20e, H⟩ := H
  refine u_gI (q := 69) (r := (RX8, TX8, 19)) x20e dX0_lookInto_66 w1106 rfl (by decide) rfl rfl ?_
  replace H := bs H; obtain ⟨h21, h21e, H⟩ := H
  refine u_tI (q := 70) h21e dX0_lookInto_69 rfl ?_
  cases H
  exact v_return rfl dX0_lookInto_70

def mJ0_isLatin1_aae02 : MI := (yJ0_isLatin1_aae02, cJ0_isLatin1_aae02, 1, some .boolean)
theorem oJ0_isLatin1_aae02 : mOK mJ0_isLatin1_aae02 0 := ⟨by decide +kernel, by decide +kernel, by decide +kernel, by decide, w0623, w0153⟩
def jJ0_isLatin1_aae02_18 (y0 : Int32) (h : Hp) : Option (Int32) :=
(bz y0).bind fun x2 =>
some x2
set_option maxRecDepth 20000 in
set_option maxHeartbeats 4000000 in
theorem sjJ0_isLatin1_aae02_18 {Γ : Gm} {d : Nat} (hd : 1 ≤ d) {y0 : Int32} {h : Hp} {r : Int32} (H : jJ0_isLatin1_aae02_18 y0 h = some r) : V Γ d mJ0_isLatin1_aae02 18 [] [.int y0] h (some (.int r), h) := by
  unfold jJ0_isLatin1_aae02_18 at H
  replace H := bs H; obtain ⟨x2, x2e, H⟩ := H
  obtain ⟨x2q, x2z⟩ := bz_sp x2e
  refine v_topi x2q.symm ?_
  cases H
  exact v_zreturn rfl (by rw [x2q]; exact x2z) dJ0_isLatin1_aae02_18
def jJ0_isLatin1_aae02_17 (h : Hp) : Option (Int32) :=
jJ0_isLatin1_aae02_18 (0 : Int32) h
set_option maxRecDepth 20000 in
set_option maxHeartbeats 4000000 in
theorem sjJ0_isLatin1_aae02_17 {Γ : Gm} {d : Nat} (hd : 1 ≤ d) {h : Hp} {r : Int32} (H : jJ0_isLatin1_aae02_17 h = some r) : V Γ d mJ0_isLatin1_aae02 17 [] [] h (some (.int r), h) := by
  unfold jJ0_isLatin1_aae02_17 at H
  refine v_iconst (v := 0) (q := 18) dJ0_isLatin1_aae02_17 (by decide) rfl ?_
  exact V.sub [] rfl (sjJ0_isLatin1_aae02_18 hd H)
def fJ0_isLatin1_aae02 (h : Hp)  : Option (Int32) :=
if (1 : Int32) = 0 then (
jJ0_isLatin1_aae02_17 h) else (
if (0 : Int32) = 0 then (
jJ0_isLatin1_aae02_18 (1 : Int32) h) else (
jJ0_isLatin1_aae02_17 h))
set_option maxRecDepth 20000 in
set_option maxHeartbeats 4000000 in
theorem sJ0_isLatin1_aae02 {Γ : Gm} {d : Nat} (hd : 1 ≤ d) {h : Hp}  {r : Int32} (H : fJ0_isLatin1_aae02 h  = some r) : V Γ d mJ0_isLatin1_aae02 0 [(0, .retAddr 0)] [] h (some (.int r), h) := by
  unfold fJ0_isLatin1_aae02 at H
  refine v_getsC (q := 3) dJ0_isLatin1_aae02_0 w0614 rfl ?_
  refine v_if_eq (q1 := 17) (q2 := 6) dJ0_isLatin1_aae02_3 (by decide) rfl (fun c1 => ?_) (fun c1 => ?_)
  · replace H := ip c1 H
    exact V.sub [] rfl (sjJ0_isLatin1_aae02_17 hd H)
  · replace H := ine c1 H
    refine v_aload_nX (q := 7) 0 dJ0_isLatin1_aae02_6 rfl rfl rfl ?_
    refine v_getC (q := 10) dJ0_isLatin1_aae02_7 w2037 rfl ?_
    refine v_if_ne (q1 := 17) (q2 := 13) dJ0_isLatin1_aae02_10 (by decide) rfl (fun c3 => ?_) (fun c3 => ?_)
    · replace H := ine c3 H
      exact V.sub [] rfl (sjJ0_isLatin1_aae02_17 hd H)
    · replace H := ip c3 H
      refine v_iconst (v := 1) (q := 14) dJ0_isLatin1_aae02_13 (by decide) rfl ?_
      refine v_goto (q := 18) dJ0_isLatin1_aae02_14 (by decide) ?_
      exact V.sub [] rfl (sjJ0_isLatin1_aae02_18 hd H)
def mJ3_checkIndex_8e157 : MI := (yJ3_checkIndex_8e157, cJ3_checkIndex_8e157, 3, some .int)
theorem oJ3_checkIndex_8e157 : mOK mJ3_checkIndex_8e157 3 := ⟨by decide +kernel, by decide +kernel, by decide +kernel, by decide, w0634, w0155⟩
def jJ3_checkIndex_8e157_9 (v0 : Int32) (v1 : Int32) (h : Hp) : Option (Int32) :=
none
set_option maxRecDepth 20000 in
set_option maxHeartbeats 4000000 in
theorem sjJ3_checkIndex_8e157_9 {Γ : Gm} {d : Nat} (hd : 1 ≤ d) {v0 : Int32} {v1 : Int32} {h : Hp} {r : Int32} (H : jJ3_checkIndex_8e157_9 v0 v1 h = some r) : V Γ d mJ3_checkIndex_8e157 9 [(0, .int v0), (1, .int v1), (2, .retAddr 2)] [] h (some (.int r), h) := by
  unfold jJ3_checkIndex_8e157_9 at H
  refine v_aload_nX (q := 10) 2 dJ3_checkIndex_8e157_9 rfl rfl rfl ?_
  refine v_iload_n (q := 11) 0 dJ3_checkIndex_8e157_10 rfl rfl rfl ?_
  refine v_iload_n (q := 12) 1 dJ3_checkIndex_8e157_11 rfl rfl rfl ?_
  cases H
def jJ3_checkIndex_8e157_16 (v0 : Int32) (h : Hp) : Option (Int32) :=
some v0
set_option maxRecDepth 20000 in
set_option maxHeartbeats 4000000 in
theorem sjJ3_checkIndex_8e157_16 {Γ : Gm} {d : Nat} (hd : 1 ≤ d) {v0 : Int32} {h : Hp} {r : Int32} (H : jJ3_checkIndex_8e157_16 v0 h = some r) : V Γ d mJ3_checkIndex_8e157 16 [(0, .int v0)] [] h (some (.int r), h) := by
  unfold jJ3_checkIndex_8e157_16 at H
  refine v_iload_n (q := 17) 0 dJ3_checkIndex_8e157_16 rfl rfl rfl ?_
  cases H
  exact v_ireturn rfl dJ3_checkIndex_8e157_17
def fJ3_checkIndex_8e157 (h : Hp) (v0 : Int32) (v1 : Int32) : Option (Int32) :=
if v0 < 0 then (
jJ3_checkIndex_8e157_9 v0 v1 h) else (
if v0 < v1 then (
jJ3_checkIndex_8e157_16 v0 h) else (
jJ3_checkIndex_8e157_9 v0 v1 h))
set_option maxRecDepth 20000 in
set_option maxHeartbeats 4000000 in
theorem sJ3_checkIndex_8e157 {Γ : Gm} {d : Nat} (hd : 1 ≤ d) {h : Hp} {v0 : Int32} {v1 : Int32} {r : Int32} (H : fJ3_checkIndex_8e157 h v0 v1 = some r) : V Γ d mJ3_checkIndex_8e157 0 [(0, .int v0), (1, .int v1), (2, .retAddr 2)] [] h (some (.int r), h) := by
  unfold fJ3_checkIndex_8e157 at H
  refine v_iload_n (q := 1) 0 dJ3_checkIndex_8e157_0 rfl rfl rfl ?_
  refine v_if_lt (q1 := 9) (q2 := 4) dJ3_checkIndex_8e157_1 (by decide) rfl (fun c1 => ?_) (fun c1 => ?_)
  · replace H := ip c1 H
    exact V.sub [0, 1, 2] rfl (sjJ3_checkIndex_8e157_9 hd H)
  · replace H := ine c1 H
    refine v_iload_n (q := 5) 0 dJ3_checkIndex_8e157_4 rfl rfl rfl ?_
    refine v_iload_n (q := 6) 1 dJ3_checkIndex_8e157_5 rfl rfl rfl ?_
    refine v_icmp_lt (q1 := 16) (q2 := 9) dJ3_checkIndex_8e157_6 (by decide) rfl (fun c2 => ?_) (fun c2 => ?_)
    · replace H := ip c2 H
      exact V.sub [0] rfl (sjJ3_checkIndex_8e157_16 hd H)
    · replace H := ine c2 H
      exact V.sub [0, 1, 2] rfl (sjJ3_checkIndex_8e157_9 hd H)
def mJ0_checkIndex_df160 : MI := (yJ0_checkIndex_df160, cJ0_checkIndex_df160, 2, none)
theorem oJ0_checkIndex_df160 : mOK mJ0_checkIndex_df160 2 := ⟨by decide +kernel, by decide +kernel, by decide +kernel, by decide, w0629, w0153⟩
def fJ0_checkIndex_df160 (h : Hp) (v0 : Int32) (v1 : Int32) : Option (Unit) :=
(fJ3_checkIndex_8e157 h v0 v1).bind fun x1 =>
some ()
set_option maxRecDepth 20000 in
set_option maxHeartbeats 4000000 in
theorem sJ0_checkIndex_df160 {Γ : Gm} {d : Nat} (hd : 2 ≤ d) {h : Hp} {v0 : Int32} {v1 : Int32} {r : Unit} (H : fJ0_checkIndex_df160 h v0 v1 = some r) : V Γ d mJ0_checkIndex_df160 0 [(0, .int v0), (1, .int v1)] [] h (none, h) := by
  unfold fJ0_checkIndex_df160 at H
  refine v_iload_n (q := 1) 0 dJ0_checkIndex_df160_0 rfl rfl rfl ?_
  refine v_iload_n (q := 2) 1 dJ0_checkIndex_df160_1 rfl rfl rfl ?_
  refine v_getsF (q := 5) dJ0_checkIndex_df160_2 w0630 rfl ?_
  replace H := bs H; obtain ⟨x1, x1e, H⟩ := H
  refine u_callS1 (M' := mJ3_checkIndex_8e157) (d' := 1) (As := [.int v0, .int v1, .retAddr 2]) (st := []) (q := 8) oJ3_checkIndex_8e157 dJ0_checkIndex_df160_5 w0632 w0633 rfl (Nat.le_of_ble_eq_true rfl) (Nat.le_of_ble_eq_true rfl) (Nat.lt_of_lt_of_le (by decide) hd) rfl (sJ3_checkIndex_8e157 (Nat.le_refl _) x1e) rfl ?_
  refine v_pop (q := 9) dJ0_checkIndex_df160_8 rfl rfl ?_
  cases H
  exact v_return rfl dJ0_checkIndex_df160_9
def mJ1_charAt_3b067 : MI := (yJ1_charAt_3b067, cJ1_charAt_3b067, 2, some .char)
theorem oJ1_charAt_3b067 : mOK mJ1_charAt_3b067 2 := ⟨by decide +kernel, by decide +kernel, by decide +kernel, by decide, w0626, w0154⟩
def fJ1_charAt_3b067 (h : Hp) (v1 : Int32) : Option (Int32) :=
(fJ0_checkIndex_df160 h v1 (71 : Int32)).bind fun x1 =>
(ix v1 71).bind fun x2 =>
(bc ((((wBy.getD x2 0) &&& (255 : Int32)).toUInt32 % 65536).toInt32)).bind fun x3 =>
some x3
set_option maxRecDepth 20000 in
set_option maxHeartbeats 4000000 in
theorem sJ1_charAt_3b067 {Γ : Gm} {d : Nat} (hd : 3 ≤ d) {h : Hp} {v1 : Int32} {r : Int32} (H : fJ1_charAt_3b067 h v1 = some r) : V Γ d mJ1_charAt_3b067 0 [(0, .retAddr 1), (1, .int v1)] [] h (some (.int r), h) := by
  unfold fJ1_charAt_3b067 at H
  refine v_iload_n (q := 1) 1 dJ1_charAt_3b067_0 rfl rfl rfl ?_
  refine v_aload_nX (q := 2) 0 dJ1_charAt_3b067_1 rfl rfl rfl ?_
  refine v_alenX (q := 3) dJ1_charAt_3b067_2 rfl ?_
  replace H := bs H; obtain ⟨x1, x1e, H⟩ := H
  refine u_callS0 (M' := mJ0_checkIndex_df160) (d' := 2) (As := [.int v1, .int (71 : Int32)]) (st := []) (q := 6) oJ0_checkIndex_df160 dJ1_charAt_3b067_3 w0627 w0628 rfl (Nat.le_of_ble_eq_true rfl) (Nat.le_of_ble_eq_true rfl) (Nat.lt_of_lt_of_le (by decide) hd) rfl (sJ0_checkIndex_df160 (Nat.le_refl _) x1e) rfl ?_
  refine v_aload_nX (q := 7) 0 dJ1_charAt_3b067_6 rfl rfl rfl ?_
  refine v_iload_n (q := 8) 1 dJ1_charAt_3b067_7 rfl rfl rfl ?_
  replace H := bs H; obtain ⟨x2, x2e, H⟩ := H
  refine v_baldX (q := 9) dJ1_charAt_3b067_8 (ix_sp x2e).1 rfl ?_
  rw [← (ix_sp x2e).2]
  refine v_sipush (v := 255) (q := 12) dJ1_charAt_3b067_9 (by decide) rfl ?_
  refine v_iand (q := 13) dJ1_charAt_3b067_12 rfl ?_
  refine v_i2c (q := 14) dJ1_charAt_3b067_13 rfl ?_
  replace H := bs H; obtain ⟨x3, x3e, H⟩ := H
  obtain ⟨x3q, x3z⟩ := bc_sp x3e
  refine v_topi x3q.symm ?_
  cases H
  exact v_creturn rfl x3z dJ1_charAt_3b067_14
def mJ0_charAt_5068e : MI := (yJ0_charAt_5068e, cJ0_charAt_5068e, 2, some .char)
theorem oJ0_charAt_5068e : mOK mJ0_charAt_5068e 1 := ⟨by decide +kernel, by decide +kernel, by decide +kernel, by decide, w0619, w0153⟩
def fJ0_charAt_5068e (h : Hp) (v1 : Int32) : Option (Int32 × Hp) :=
(fJ0_isLatin1_aae02 h).bind fun x1 =>
if x1 = 0 then (
none) else (
(fJ1_charAt_3b067 h v1).bind fun x3 =>
(bc x3).bind fun x4 =>
some (x4, h))
set_option maxRecDepth 20000 in
set_option maxHeartbeats 4000000 in
theorem sJ0_charAt_5068e {Γ : Gm} {d : Nat} (hd : 5 ≤ d) {h : Hp} {v1 : Int32} {r : Int32 × Hp} (H : fJ0_charAt_5068e h v1 = some r) : V Γ d mJ0_charAt_5068e 0 [(0, .retAddr 0), (1, .int v1)] [] h (some (.int r.1), r.2) := by
  unfold fJ0_charAt_5068e at H
  refine v_aload_nX (q := 1) 0 dJ0_charAt_5068e_0 rfl rfl rfl ?_
  replace H := bs H; obtain ⟨x1, x1e, H⟩ := H
  refine v_callX (M' := mJ0_isLatin1_aae02) (d' := 1) (As := []) (st := []) (q := 4) oJ0_isLatin1_aae02 rfl dJ0_charAt_5068e_1 w0620 w0621 w0622 rfl (Nat.le_of_ble_eq_true rfl) (Nat.le_of_ble_eq_true rfl) (Nat.lt_of_lt_of_le (by decide) hd) rfl (sJ0_isLatin1_aae02 (Nat.le_refl _) x1e) rfl ?_
  refine v_if_eq (q1 := 16) (q2 := 7) dJ0_charAt_5068e_4 (by decide) rfl (fun c2 => ?_) (fun c2 => ?_)
  · replace H := ip c2 H
    refine v_aload_nX (q := 17) 0 dJ0_charAt_5068e_16 rfl rfl rfl ?_
    refine v_getV (q := 20) dJ0_charAt_5068e_17 w2036 rfl ?_
    refine v_iload_n (q := 21) 1 dJ0_charAt_5068e_20 rfl rfl rfl ?_
    cases H
  · replace H := ine c2 H
    refine v_aload_nX (q := 8) 0 dJ0_charAt_5068e_7 rfl rfl rfl ?_
    refine v_getV (q := 11) dJ0_charAt_5068e_8 w2036 rfl ?_
    refine v_iload_n (q := 12) 1 dJ0_charAt_5068e_11 rfl rfl rfl ?_
    replace H := bs H; obtain ⟨x3, x3e, H⟩ := H
    refine u_callS1 (M' := mJ1_charAt_3b067) (d' := 3) (As := [.retAddr 1, .int v1]) (st := []) (q := 15) oJ1_charAt_3b067 dJ0_charAt_5068e_12 w0624 w0625 rfl (Nat.le_of_ble_eq_true rfl) (Nat.le_of_ble_eq_true rfl) (Nat.lt_of_lt_of_le (by decide) hd) rfl (sJ1_charAt_3b067 (Nat.le_refl _) x3e) rfl ?_
    replace H := bs H; obtain ⟨x4, x4e, H⟩ := H
    obtain ⟨x4q, x4z⟩ := bc_sp x4e
    refine v_topi x4q.symm ?_
    cases H
    exact v_creturn rfl x4z dJ0_charAt_5068e_15
def mJ0_coder_7d493 : MI := (yJ0_coder_7d493, cJ0_coder_7d493, 1, some .byte)
theorem oJ0_coder_7d493 : mOK mJ0_coder_7d493 0 := ⟨by decide +kernel, by decide +kernel, by decide +kernel, by decide, w0613, w0153⟩
def jJ0_coder_7d493_14 (y0 : Int32) (h : Hp) : Option (Int32) :=
(bb y0).bind fun x2 =>
some x2
set_option maxRecDepth 20000 in
set_option maxHeartbeats 4000000 in
theorem sjJ0_coder_7d493_14 {Γ : Gm} {d : Nat} (hd : 1 ≤ d) {y0 : Int32} {h : Hp} {r : Int32} (H : jJ0_coder_7d493_14 y0 h = some r) : V Γ d mJ0_coder_7d493 14 [] [.int y0] h (some (.int r), h) := by
  unfold jJ0_coder_7d493_14 at H
  replace H := bs H; obtain ⟨x2, x2e, H⟩ := H
  obtain ⟨x2q, x2z⟩ := bb_sp x2e
  refine v_topi x2q.symm ?_
  cases H
  exact v_breturn rfl x2z dJ0_coder_7d493_14
def fJ0_coder_7d493 (h : Hp)  : Option (Int32) :=
if (1 : Int32) = 0 then (
jJ0_coder_7d493_14 (1 : Int32) h) else (
jJ0_coder_7d493_14 (0 : Int32) h)
set_option maxRecDepth 20000 in
set_option maxHeartbeats 4000000 in
theorem sJ0_coder_7d493 {Γ : Gm} {d : Nat} (hd : 1 ≤ d) {h : Hp}  {r : Int32} (H : fJ0_coder_7d493 h  = some r) : V Γ d mJ0_coder_7d493 0 [(0, .retAddr 0)] [] h (some (.int r), h) := by
  unfold fJ0_coder_7d493 at H
  refine v_getsC (q := 3) dJ0_coder_7d493_0 w0614 rfl ?_
  refine v_if_eq (q1 := 13) (q2 := 6) dJ0_coder_7d493_3 (by decide) rfl (fun c1 => ?_) (fun c1 => ?_)
  · replace H := ip c1 H
    refine v_iconst (v := 1) (q := 14) dJ0_coder_7d493_13 (by decide) rfl ?_
    exact V.sub [] rfl (sjJ0_coder_7d493_14 hd H)
  · replace H := ine c1 H
    refine v_aload_nX (q := 7) 0 dJ0_coder_7d493_6 rfl rfl rfl ?_
    refine v_getC (q := 10) dJ0_coder_7d493_7 w2037 rfl ?_
    refine v_goto (q := 14) dJ0_coder_7d493_10 (by decide) ?_
    exact V.sub [] rfl (sjJ0_coder_7d493_14 hd H)
def mJ0_length_8abf5 : MI := (yJ0_length_8abf5, cJ0_length_8abf5, 1, some .int)
theorem oJ0_length_8abf5 : mOK mJ0_length_8abf5 0 := ⟨by decide +kernel, by decide +kernel, by decide +kernel, by decide, w0609, w0153⟩
def fJ0_length_8abf5 (h : Hp)  : Option (Int32) :=
(fJ0_coder_7d493 h).bind fun x1 =>
some ((71 : Int32) >>> (x1 &&& 31))
set_option maxRecDepth 20000 in
set_option maxHeartbeats 4000000 in
theorem sJ0_length_8abf5 {Γ : Gm} {d : Nat} (hd : 2 ≤ d) {h : Hp}  {r : Int32} (H : fJ0_length_8abf5 h  = some r) : V Γ d mJ0_length_8abf5 0 [(0, .retAddr 0)] [] h (some (.int r), h) := by
  unfold fJ0_length_8abf5 at H
  refine v_aload_nX (q := 1) 0 dJ0_length_8abf5_0 rfl rfl rfl ?_
  refine v_getV (q := 4) dJ0_length_8abf5_1 w2036 rfl ?_
  refine v_alenX (q := 5) dJ0_length_8abf5_4 rfl ?_
  refine v_aload_nX (q := 6) 0 dJ0_length_8abf5_5 rfl rfl rfl ?_
  replace H := bs H; obtain ⟨x1, x1e, H⟩ := H
  refine v_callX (M' := mJ0_coder_7d493) (d' := 1) (As := []) (st := [.int (71 : Int32)]) (q := 9) oJ0_coder_7d493 rfl dJ0_length_8abf5_6 w0610 w0611 w0612 rfl (Nat.le_of_ble_eq_true rfl) (Nat.le_of_ble_eq_true rfl) (Nat.lt_of_lt_of_le (by decide) hd) rfl (sJ0_coder_7d493 (Nat.le_refl _) x1e) rfl ?_
  refine v_ishr (q := 10) dJ0_length_8abf5_9 rfl ?_
  cases H
  exact v_ireturn rfl dJ0_length_8abf5_10
def mJ6_bitCount_0f7a4 : MI := (yJ6_bitCount_0f7a4, cJ6_bitCount_0f7a4, 1, some .int)
theorem oJ6_bitCount_0f7a4 : mOK mJ6_bitCount_0f7a4 1 := ⟨by decide +kernel, by decide +kernel, by decide +kernel, by decide, w0867, w0158⟩
def fJ6_bitCount_0f7a4 (h : Hp) (v0 : Int32) : Option (Int32) :=
(some (v0 - (((v0.toUInt32 >>> ((1 : Int32).toUInt32 &&& Int32.toUInt32 31)).toInt32) &&& (1431655765 : Int32)))).bind fun x1 =>
(some ((x1 &&& (858993459 : Int32)) + (((x1.toUInt32 >>> ((2 : Int32).toUInt32 &&& Int32.toUInt32 31)).toInt32) &&& (858993459 : Int32)))).bind fun x2 =>
(some ((x2 + ((x2.toUInt32 >>> ((4 : Int32).toUInt32 &&& Int32.toUInt32 31)).toInt32)) &&& (252645135 : Int32))).bind fun x3 =>
(some (x3 + ((x3.toUInt32 >>> ((8 : Int32).toUInt32 &&& Int32.toUInt32 31)).toInt32))).bind fun x4 =>
(some (x4 + ((x4.toUInt32 >>> ((16 : Int32).toUInt32 &&& Int32.toUInt32 31)).toInt32))).bind fun x5 =>
some (x5 &&& (63 : Int32))
set_option maxRecDepth 20000 in
set_option maxHeartbeats 4000000 in
theorem sJ6_bitCount_0f7a4 {Γ : Gm} {d : Nat} (hd : 1 ≤ d) {h : Hp} {v0 : Int32} {r : Int32} (H : fJ6_bitCount_0f7a4 h v0 = some r) : V Γ d mJ6_bitCount_0f7a4 0 [(0, .int v0)] [] h (some (.int r), h) := by
  unfold fJ6_bitCount_0f7a4 at H
  refine v_iload_n (q := 1) 0 dJ6_bitCount_0f7a4_0 rfl rfl rfl ?_
  refine v_iload_n (q := 2) 0 dJ6_bitCount_0f7a4_1 rfl rfl rfl ?_
  refine v_iconst (v := 1) (q := 3) dJ6_bitCount_0f7a4_2 (by decide) rfl ?_
  refine v_iushr (q := 4) dJ6_bitCount_0f7a4_3 rfl ?_
  refine v_ldcw (v := 1431655765) (q := 7) dJ6_bitCount_0f7a4_4 w0868 rfl ?_
  refine v_iand (q := 8) dJ6_bitCount_0f7a4_7 rfl ?_
  refine v_isub (q := 9) dJ6_bitCount_0f7a4_8 rfl ?_
  replace H := bs H; obtain ⟨x1, x1e, H⟩ := H
  refine v_topi (Option.some.inj x1e) ?_
  refine v_istore_n (L' := [(0, .int x1)]) (q := 10) dJ6_bitCount_0f7a4_9 rfl (by decide) rfl rfl ?_
  refine v_iload_n (q := 11) 0 dJ6_bitCount_0f7a4_10 rfl rfl rfl ?_
  refine v_ldcw (v := 858993459) (q := 14) dJ6_bitCount_0f7a4_11 w0869 rfl ?_
  refine v_iand (q := 15) dJ6_bitCount_0f7a4_14 rfl ?_
  refine v_iload_n (q := 16) 0 dJ6_bitCount_0f7a4_15 rfl rfl rfl ?_
  refine v_iconst (v := 2) (q := 17) dJ6_bitCount_0f7a4_16 (by decide) rfl ?_
  refine v_iushr (q := 18) dJ6_bitCount_0f7a4_17 rfl ?_
  refine v_ldcw (v := 858993459) (q := 21) dJ6_bitCount_0f7a4_18 w0869 rfl ?_
  refine v_iand (q := 22) dJ6_bitCount_0f7a4_21 rfl ?_
  refine v_iadd (q := 23) dJ6_bitCount_0f7a4_22 rfl ?_
  replace H := bs H; obtain ⟨x2, x2e, H⟩ := H
  refine v_topi (Option.some.inj x2e) ?_
  refine v_istore_n (L' := [(0, .int x2)]) (q := 24) dJ6_bitCount_0f7a4_23 rfl (by decide) rfl rfl ?_
  refine v_iload_n (q := 25) 0 dJ6_bitCount_0f7a4_24 rfl rfl rfl ?_
  refine v_iload_n (q := 26) 0 dJ6_bitCount_0f7a4_25 rfl rfl rfl ?_
  refine v_iconst (v := 4) (q := 27) dJ6_bitCount_0f7a4_26 (by decide) rfl ?_
  refine v_iushr (q := 28) dJ6_bitCount_0f7a4_27 rfl ?_
  refine v_iadd (q := 29) dJ6_bitCount_0f7a4_28 rfl ?_
  refine v_ldcw (v := 252645135) (q := 32) dJ6_bitCount_0f7a4_29 w0870 rfl ?_
  refine v_iand (q := 33) dJ6_bitCount_0f7a4_32 rfl ?_
  replace H := bs H; obtain ⟨x3, x3e, H⟩ := H
  refine v_topi (Option.some.inj x3e) ?_
  refine v_istore_n (L' := [(0, .int x3)]) (q := 34) dJ6_bitCount_0f7a4_33 rfl (by decide) rfl rfl ?_
  refine v_iload_n (q := 35) 0 dJ6_bitCount_0f7a4_34 rfl rfl rfl ?_
  refine v_iload_n (q := 36) 0 dJ6_bitCount_0f7a4_35 rfl rfl rfl ?_
  refine v_bipush (v := 8) (q := 38) dJ6_bitCount_0f7a4_36 (by decide) rfl ?_
  refine v_iushr (q := 39) dJ6_bitCount_0f7a4_38 rfl ?_
  refine v_iadd (q := 40) dJ6_bitCount_0f7a4_39 rfl ?_
  replace H := bs H; obtain ⟨x4, x4e, H⟩ := H
  refine v_topi (Option.some.inj x4e) ?_
  refine v_istore_n (L' := [(0, .int x4)]) (q := 41) dJ6_bitCount_0f7a4_40 rfl (by decide) rfl rfl ?_
  refine v_iload_n (q := 42) 0 dJ6_bitCount_0f7a4_41 rfl rfl rfl ?_
  refine v_iload_n (q := 43) 0 dJ6_bitCount_0f7a4_42 rfl rfl rfl ?_
  refine v_bipush (v := 16) (q := 45) dJ6_bitCount_0f7a4_43 (by decide) rfl ?_
  refine v_iushr (q := 46) dJ6_bitCount_0f7a4_45 rfl ?_
  refine v_iadd (q := 47) dJ6_bitCount_0f7a4_46 rfl ?_
  replace H := bs H; obtain ⟨x5, x5e, H⟩ := H
  refine v_topi (Option.some.inj x5e) ?_
  refine v_istore_n (L' := [(0, .int x5)]) (q := 48) dJ6_bitCount_0f7a4_47 rfl (by decide) rfl rfl ?_
  refine v_iload_n (q := 49) 0 dJ6_bitCount_0f7a4_48 rfl rfl rfl ?_
  refine v_bipush (v := 63) (q := 51) dJ6_bitCount_0f7a4_49 (by decide) rfl ?_
  refine v_iand (q := 52) dJ6_bitCount_0f7a4_51 rfl ?_
  cases H
  exact v_ireturn rfl dJ6_bitCount_0f7a4_52
def mJ7_copyOf_c38d5 : MI := (yJ7_copyOf_c38d5, cJ7_copyOf_c38d5, 3, some (.array .long))
theorem oJ7_copyOf_c38d5 : mOK mJ7_copyOf_c38d5 2 := ⟨by decide +kernel, by decide +kernel, by decide +kernel, by decide, w0823, w0152⟩
def fJ7_copyOf_c38d5 (h : Hp) (v0 : Nat) (v1 : Int32) : Option (Nat × Hp) :=
(aL h .long v0).bind fun x1 =>
if v1 = x1 then (
none) else (
(nA h .long v1).bind fun h3 =>
(aL h3 .long v0).bind fun x4 =>
(kJ h3 v0 (0 : Int32) (hN h) (0 : Int32) (if v1 < x4 then v1 else x4)).bind fun h5 =>
some (hN h, h5))
set_option maxRecDepth 20000 in
set_option maxHeartbeats 4000000 in
theorem sJ7_copyOf_c38d5 {Γ : Gm} {d : Nat} (hd : 2 ≤ d) {h : Hp} {v0 : Nat} {v1 : Int32} {r : Nat × Hp} (H : fJ7_copyOf_c38d5 h v0 v1 = some r) : V Γ d mJ7_copyOf_c38d5 0 [(0, .ref v0), (1, .int v1)] [] h (some (.ref r.1), r.2) := by
  unfold fJ7_copyOf_c38d5 at H
  refine v_iload_n (q := 1) 1 dJ7_copyOf_c38d5_0 rfl rfl rfl ?_
  refine v_aload_n (q := 2) 0 dJ7_copyOf_c38d5_1 rfl rfl rfl ?_
  replace H := bs H; obtain ⟨x1, x1e, H⟩ := H
  refine u_aL (q := 3) (ty := .long) (by decide) x1e dJ7_copyOf_c38d5_2 rfl ?_
  refine v_icmp_ne (q1 := 14) (q2 := 6) dJ7_copyOf_c38d5_3 (by decide) rfl (fun c2 => ?_) (fun c2 => ?_)
  · replace H := ine c2 H
    refine v_iload_n (q := 15) 1 dJ7_copyOf_c38d5_14 rfl rfl rfl ?_
    replace H := bs H; obtain ⟨h3, h3e, H⟩ := H
    refine u_nA (q := 17) (ty := .long) rfl (by decide) w0376 h3e dJ7_copyOf_c38d5_15 rfl ?_
    refine v_astore_n (L' := [(2, .ref (hN h)), (0, .ref v0), (1, .int v1)]) (q := 18) dJ7_copyOf_c38d5_17 rfl (by decide) rfl rfl ?_
    refine v_aload_n (q := 19) 1 dJ7_copyOf_c38d5_18 rfl rfl rfl ?_
    refine v_iconst (v := 0) (q := 20) dJ7_copyOf_c38d5_19 (by decide) rfl ?_
    refine v_aload_n (q := 21) 0 dJ7_copyOf_c38d5_20 rfl rfl rfl ?_
    refine v_iconst (v := 0) (q := 22) dJ7_copyOf_c38d5_21 (by decide) rfl ?_
    refine v_aload_n (q := 23) 1 dJ7_copyOf_c38d5_22 rfl rfl rfl ?_
    replace H := bs H; obtain ⟨x4, x4e, H⟩ := H
    refine u_aL (q := 24) (ty := .long) (by decide) x4e dJ7_copyOf_c38d5_23 rfl ?_
    refine v_iload_n (q := 25) 2 dJ7_copyOf_c38d5_24 rfl rfl rfl ?_
    refine v_mmin (q := 28) dJ7_copyOf_c38d5_25 w0831 w0585 w0151 w0586 (Nat.le_of_ble_eq_true rfl) (Nat.lt_of_lt_of_le (by decide) hd) rfl ?_
    replace H := bs H; obtain ⟨h5, h5e, H⟩ := H
    refine u_kJ (q := 31) h5e dJ7_copyOf_c38d5_28 w0832 w0711 w0710 w0157 (Nat.le_of_ble_eq_true rfl) (Nat.lt_of_lt_of_le (by decide) hd) rfl ?_
    refine v_aload_n (q := 32) 0 dJ7_copyOf_c38d5_31 rfl rfl rfl ?_
    cases H
    exact v_areturn rfl (by first | exact Or.inl ⟨_, rfl⟩ | exact Or.inr ⟨_, rfl⟩) dJ7_copyOf_c38d5_32
  · replace H := ip c2 H
    refine v_aload_n (q := 7) 0 dJ7_copyOf_c38d5_6 rfl rfl rfl ?_
    cases H
def mJ7_fill_53178 : MI := (yJ7_fill_53178, cJ7_fill_53178, 4, none)
theorem oJ7_fill_53178 : mOK mJ7_fill_53178 2 := ⟨by decide +kernel, by decide +kernel, by decide +kernel, by decide, w0593, w0152⟩
def bJ7_fill_53178_5 (u0 : Nat) (u1 : Int32) (u3 : Int32) (s5 : Int32 × Hp) : Option ((Int32 × Hp) ⊕ (Hp)) :=
if u3 ≤ s5.1 then (
some (.inr s5.2)) else (
(tI s5.2 u0 s5.1 u1).bind fun h3 =>
(some (s5.1 + (1 : Int32))).bind fun x4 =>
some (.inl (x4, h3)))
set_option maxRecDepth 20000 in
set_option maxHeartbeats 4000000 in
theorem sbJ7_fill_53178_5 {Γ : Gm} {d : Nat} (hd : 1 ≤ d) {u0 : Nat} {u1 : Int32} {u3 : Int32} {s5 : Int32 × Hp} {r : (Int32 × Hp) ⊕ (Hp)} {t : Option Value × Hp} (H : bJ7_fill_53178_5 u0 u1 u3 s5 = some r) (kI : ∀ s, r = .inl s → (fun s5 => V Γ d mJ7_fill_53178 5 [(0, .ref u0), (1, .int u1), (2, .int s5.1), (3, .int u3)] [] s5.2 t) s) (kE : ∀ e, r = .inr e → (fun e => V Γ d mJ7_fill_53178 20 [] [] e t) e) : V Γ d mJ7_fill_53178 5 [(0, .ref u0), (1, .int u1), (2, .int s5.1), (3, .int u3)] [] s5.2 t := by
  unfold bJ7_fill_53178_5 at H
  refine v_iload_n (q := 6) 2 dJ7_fill_53178_5 rfl rfl rfl ?_
  refine v_iload_n (q := 7) 3 dJ7_fill_53178_6 rfl rfl rfl ?_
  refine v_icmp_ge (q1 := 20) (q2 := 10) dJ7_fill_53178_7 (by decide) rfl (fun c2 => ?_) (fun c2 => ?_)
  · replace H := ip c2 H
    exact V.sub [] rfl (kE s5.2 (Option.some.inj H).symm)
  · replace H := ine c2 H
    refine v_aload_n (q := 11) 0 dJ7_fill_53178_10 rfl rfl rfl ?_
    refine v_iload_n (q := 12) 2 dJ7_fill_53178_11 rfl rfl rfl ?_
    refine v_iload_n (q := 13) 1 dJ7_fill_53178_12 rfl rfl rfl ?_
    replace H := bs H; obtain ⟨h3, h3e, H⟩ := H
    refine u_tI (q := 14) h3e dJ7_fill_53178_13 rfl ?_
    replace H := bs H; obtain ⟨x4, x4e, H⟩ := H
    refine v_iinc (v := x4) (L' := [(2, .int x4), (0, .ref u0), (1, .int u1), (3, .int u3)]) (q := 17) 2 dJ7_fill_53178_14 rfl (Option.some.inj x4e) (by decide) rfl rfl ?_
    refine v_goto (q := 5) dJ7_fill_53178_17 (by decide) ?_
    exact V.sub [1, 2, 0, 3] rfl (kI (x4, h3) (Option.some.inj H).symm)
def fJ7_fill_53178 (h : Hp) (v0 : Nat) (v1 : Int32) : Option (Hp) :=
(aL h .int v0).bind fun x1 =>
(lp (bJ7_fill_53178_5 v0 v1 x1) FU ((0 : Int32), h)).bind fun e5 =>
some e5
set_option maxRecDepth 20000 in
set_option maxHeartbeats 4000000 in
theorem sJ7_fill_53178 {Γ : Gm} {d : Nat} (hd : 1 ≤ d) {h : Hp} {v0 : Nat} {v1 : Int32} {r : Hp} (H : fJ7_fill_53178 h v0 v1 = some r) : V Γ d mJ7_fill_53178 0 [(0, .ref v0), (1, .int v1)] [] h (none, r) := by
  unfold fJ7_fill_53178 at H
  refine v_iconst (v := 0) (q := 1) dJ7_fill_53178_0 (by decide) rfl ?_
  refine v_istore_n (L' := [(2, .int (0 : Int32)), (0, .ref v0), (1, .int v1)]) (q := 2) dJ7_fill_53178_1 rfl (by decide) rfl rfl ?_
  refine v_aload_n (q := 3) 1 dJ7_fill_53178_2 rfl rfl rfl ?_
  replace H := bs H; obtain ⟨x1, x1e, H⟩ := H
  refine u_aL (q := 4) (ty := .int) (by decide) x1e dJ7_fill_53178_3 rfl ?_
  refine v_istore_n (L' := [(3, .int x1), (2, .int (0 : Int32)), (0, .ref v0), (1, .int v1)]) (q := 5) dJ7_fill_53178_4 rfl (by decide) rfl rfl ?_
  replace H := bs H; obtain ⟨e5, e5L, H⟩ := H
  refine V.sub [2, 3, 1, 0] rfl ?_
  refine lp_V (P := (fun s5 => V Γ d mJ7_fill_53178 5 [(0, .ref v0), (1, .int v1), (2, .int s5.1), (3, .int x1)] [] s5.2 (none, r))) (E := (fun e => V Γ d mJ7_fill_53178 20 [] [] e (none, r))) (fun s r hb kI kE => sbJ7_fill_53178_5 hd (s5 := s) (r := r) hb kI kE) FU ((0 : Int32), h) e5 e5L ?_
  cases H
  exact v_return rfl dJ7_fill_53178_20
def mX0_clear : MI := (yX0_clear, cX0_clear, 1, none)
theorem oX0_clear : mOK mX0_clear 0 := ⟨by decide +kernel, by decide +kernel, by decide +kernel, by decide, w0730, w0149⟩
def fX0_clear (h : Hp) (v0 : Nat) : Option (Hp) :=
(pZ h 0 v0 6 (0 : Int32)).bind fun h1 =>
some h1
set_option maxRecDepth 20000 in
set_option maxHeartbeats 4000000 in
theorem sX0_clear {Γ : Gm} {d : Nat} (hd : 1 ≤ d) {h : Hp} {v0 : Nat} {r : Hp} (H : fX0_clear h v0 = some r) : V Γ d mX0_clear 0 [(0, .ref v0)] [] h (none, r) := by
  unfold fX0_clear at H
  refine v_aload_n (q := 1) 0 dX0_clear_0 rfl rfl rfl ?_
  refine v_iconst (v := 0) (q := 2) dX0_clear_1 (by decide) rfl ?_
  replace H := bs H; obtain ⟨h1, h1e, H⟩ := H
  refine u_pZ (q := 5) (r := (RX0, TX0, 9)) h1e dX0_clear_2 w0499 rfl (by decide) (Or.inl rfl) rfl rfl ?_
  cases H
  exact v_return rfl dX0_clear_5
def mX0_freshen : MI := (yX0_freshen, cX0_freshen, 3, none)
theorem oX0_freshen : mOK mX0_freshen 1 := ⟨by decide +kernel, by decide +kernel, by decide +kernel, by decide, w1078, w0149⟩
def jX0_freshen_36 (u0 : Nat) (u1 : Nat) (v2 : Int32) (y0 : Int32) (y1 : Nat) (h : Hp) : Option ((Int32 × Hp) ⊕ (Hp)) :=
(pZ h 0 y1 6 y0).bind fun h6 =>
(some (v2 + (1 : Int32))).bind fun x7 =>
some (.inl (x7, h6))
set_option maxRecDepth 20000 in
set_option maxHeartbeats 4000000 in
theorem sjX0_freshen_36 {Γ : Gm} {d : Nat} (hd : 2 ≤ d) {u0 : Nat} {u1 : Nat} {v2 : Int32} {y0 : Int32} {y1 : Nat} {h : Hp} {r : (Int32 × Hp) ⊕ (Hp)} {t : Option Value × Hp} (H : jX0_freshen_36 u0 u1 v2 y0 y1 h = some r) (kI : ∀ s, r = .inl s → (fun s2 => V Γ d mX0_freshen 2 [(0, .ref u0), (1, .ref u1), (2, .int s2.1)] [] s2.2 t) s) (kE : ∀ e, r = .inr e → (fun e => V Γ d mX0_freshen 45 [(0, .ref u0), (1, .ref u1)] [] e t) e) : V Γ d mX0_freshen 36 [(0, .ref u0), (1, .ref u1), (2, .int v2)] [.int y0, .ref y1] h t := by
  unfold jX0_freshen_36 at H
  replace H := bs H; obtain ⟨h6, h6e, H⟩ := H
  refine u_pZ (q := 39) (r := (RX0, TX0, 9)) h6e dX0_freshen_36 w0499 rfl (by decide) (Or.inl rfl) rfl rfl ?_
  replace H := bs H; obtain ⟨x7, x7e, H⟩ := H
  refine v_iinc (v := x7) (L' := [(2, .int x7), (0, .ref u0), (1, .ref u1)]) (q := 42) 2 dX0_freshen_39 rfl (Option.some.inj x7e) (by decide) rfl rfl ?_
  refine v_goto (q := 2) dX0_freshen_42 (by decide) ?_
  exact V.sub [1, 2, 0] rfl (kI (x7, h6) (Option.some.inj H).symm)
def jX0_freshen_35 (u0 : Nat) (u1 : Nat) (v2 : Int32) (y0 : Nat) (h : Hp) : Option ((Int32 × Hp) ⊕ (Hp)) :=
jX0_freshen_36 u0 u1 v2 (0 : Int32) y0 h
set_option maxRecDepth 20000 in
set_option maxHeartbeats 4000000 in
theorem sjX0_freshen_35 {Γ : Gm} {d : Nat} (hd : 2 ≤ d) {u0 : Nat} {u1 : Nat} {v2 : Int32} {y0 : Nat} {h : Hp} {r : (Int32 × Hp) ⊕ (Hp)} {t : Option Value × Hp} (H : jX0_freshen_35 u0 u1 v2 y0 h = some r) (kI : ∀ s, r = .inl s → (fun s2 => V Γ d mX0_freshen 2 [(0, .ref u0), (1, .ref u1), (2, .int s2.1)] [] s2.2 t) s) (kE : ∀ e, r = .inr e → (fun e => V Γ d mX0_freshen 45 [(0, .ref u0), (1, .ref u1)] [] e t) e) : V Γ d mX0_freshen 35 [(0, .ref u0), (1, .ref u1), (2, .int v2)] [.ref y0] h t := by
  unfold jX0_freshen_35 at H
  refine v_iconst (v := 0) (q := 36) dX0_freshen_35 (by decide) rfl ?_
  exact V.sub [0, 1, 2] rfl (sjX0_freshen_36 hd H kI kE)
def bX0_freshen_2 (u0 : Nat) (u1 : Nat) (s2 : Int32 × Hp) : Option ((Int32 × Hp) ⊕ (Hp)) :=
(gR s2.2 0 u0 5).bind fun x1 =>
(aL s2.2 .int x1).bind fun x2 =>
if x2 ≤ s2.1 then (
some (.inr s2.2)) else (
(gI s2.2 0 u0 6).bind fun x4 =>
if x4 = 0 then (
jX0_freshen_35 u0 u1 s2.1 u0 s2.2) else (
(gR s2.2 0 u0 5).bind fun x8 =>
(lI s2.2 .int x8 s2.1).bind fun x9 =>
(lI s2.2 .int u1 s2.1).bind fun x10 =>
if x9 = x10 then (
jX0_freshen_36 u0 u1 s2.1 (1 : Int32) u0 s2.2) else (
jX0_freshen_35 u0 u1 s2.1 u0 s2.2)))
set_option maxRecDepth 20000 in
set_option maxHeartbeats 4000000 in
theorem sbX0_freshen_2 {Γ : Gm} {d : Nat} (hd : 2 ≤ d) {u0 : Nat} {u1 : Nat} {s2 : Int32 × Hp} {r : (Int32 × Hp) ⊕ (Hp)} {t : Option Value × Hp} (H : bX0_freshen_2 u0 u1 s2 = some r) (kI : ∀ s, r = .inl s → (fun s2 => V Γ d mX0_freshen 2 [(0, .ref u0), (1, .ref u1), (2, .int s2.1)] [] s2.2 t) s) (kE : ∀ e, r = .inr e → (fun e => V Γ d mX0_freshen 45 [(0, .ref u0), (1, .ref u1)] [] e t) e) : V Γ d mX0_freshen 2 [(0, .ref u0), (1, .ref u1), (2, .int s2.1)] [] s2.2 t := by
  unfold bX0_freshen_2 at H
  refine v_iload_n (q := 3) 2 dX0_freshen_2 rfl rfl rfl ?_
  refine v_aload_n (q := 4) 0 dX0_freshen_3 rfl rfl rfl ?_
  replace H := bs H; obtain ⟨x1, x1e, H⟩ := H
  refine u_gR (q := 7) (r := (RX0, TX0, 9)) x1e dX0_freshen_4 w0498 rfl (by decide) rfl rfl ?_
  replace H := bs H; obtain ⟨x2, x2e, H⟩ := H
  refine u_aL (q := 8) (ty := .int) (by decide) x2e dX0_freshen_7 rfl ?_
  refine v_icmp_ge (q1 := 45) (q2 := 11) dX0_freshen_8 (by decide) rfl (fun c3 => ?_) (fun c3 => ?_)
  · replace H := ip c3 H
    exact V.sub [0, 1] rfl (kE s2.2 (Option.some.inj H).symm)
  · replace H := ine c3 H
    refine v_aload_n (q := 12) 0 dX0_freshen_11 rfl rfl rfl ?_
    refine v_aload_n (q := 13) 0 dX0_freshen_12 rfl rfl rfl ?_
    replace H := bs H; obtain ⟨x4, x4e, H⟩ := H
    refine u_gI (q := 16) (r := (RX0, TX0, 9)) x4e dX0_freshen_13 w0499 rfl (by decide) rfl rfl ?_
    refine v_if_eq (q1 := 35) (q2 := 19) dX0_freshen_16 (by decide) rfl (fun c5 => ?_) (fun c5 => ?_)
    · replace H := ip c5 H
      exact V.sub [0, 1, 2] rfl (sjX0_freshen_35 hd H kI kE)
    · replace H := ine c5 H
      refine v_aload_n (q := 20) 0 dX0_freshen_19 rfl rfl rfl ?_
      replace H := bs H; obtain ⟨x8, x8e, H⟩ := H
      refine u_gR (q := 23) (r := (RX0, TX0, 9)) x8e dX0_freshen_20 w0498 rfl (by decide) rfl rfl ?_
      refine v_iload_n (q := 24) 2 dX0_freshen_23 rfl rfl rfl ?_
      replace H := bs H; obtain ⟨x9, x9e, H⟩ := H
      refine u_lI (q := 25) x9e dX0_freshen_24 rfl ?_
      refine v_aload_n (q := 26) 1 dX0_freshen_25 rfl rfl rfl ?_
      refine v_iload_n (q := 27) 2 dX0_freshen_26 rfl rfl rfl ?_
      replace H := bs H; obtain ⟨x10, x10e, H⟩ := H
      refine u_lI (q := 28) x10e dX0_freshen_27 rfl ?_
      refine v_icmp_ne (q1 := 35) (q2 := 31) dX0_freshen_28 (by decide) rfl (fun c11 => ?_) (fun c11 => ?_)
      · replace H := ine c11 H
        exact V.sub [0, 1, 2] rfl (sjX0_freshen_35 hd H kI kE)
      · replace H := ip c11 H
        refine v_iconst (v := 1) (q := 32) dX0_freshen_31 (by decide) rfl ?_
        refine v_goto (q := 36) dX0_freshen_32 (by decide) ?_
        exact V.sub [0, 1, 2] rfl (sjX0_freshen_36 hd H kI kE)
def jX0_freshen_85 (h : Hp) : Option (Hp) :=
some h
set_option maxRecDepth 20000 in
set_option maxHeartbeats 4000000 in
theorem sjX0_freshen_85 {Γ : Gm} {d : Nat} (hd : 2 ≤ d) {h : Hp} {r : Hp} (H : jX0_freshen_85 h = some r) : V Γ d mX0_freshen 85 [] [] h (none, r) := by
  unfold jX0_freshen_85 at H
  cases H
  exact v_return rfl dX0_freshen_85
def fX0_freshen (h : Hp) (v0 : Nat) (v1 : Nat) : Option (Hp) :=
(lp (bX0_freshen_2 v0 v1) FU ((0 : Int32), h)).bind fun e12 =>
(gI e12 0 v0 6).bind fun x13 =>
if x13 = 0 then (
(gR e12 0 v0 5).bind fun x15 =>
(gR e12 0 v0 5).bind fun x16 =>
(aL e12 .int x16).bind fun x17 =>
(kI e12 .int v1 (0 : Int32) x15 (0 : Int32) x17).bind fun h18 =>
(gR h18 0 v0 4).bind fun x19 =>
(fJ7_fill_53178 h18 x19 (3 : Int32)).bind fun x20 =>
(pI x20 0 v0 7 (-1 : Int32)).bind fun h21 =>
(pZ h21 0 v0 6 (1 : Int32)).bind fun h22 =>
jX0_freshen_85 h22) else (
jX0_freshen_85 e12)
set_option maxRecDepth 20000 in
set_option maxHeartbeats 4000000 in
theorem sX0_freshen {Γ : Gm} {d : Nat} (hd : 2 ≤ d) {h : Hp} {v0 : Nat} {v1 : Nat} {r : Hp} (H : fX0_freshen h v0 v1 = some r) : V Γ d mX0_freshen 0 [(0, .ref v0), (1, .ref v1)] [] h (none, r) := by
  unfold fX0_freshen at H
  refine v_iconst (v := 0) (q := 1) dX0_freshen_0 (by decide) rfl ?_
  refine v_istore_n (L' := [(2, .int (0 : Int32)), (0, .ref v0), (1, .ref v1)]) (q := 2) dX0_freshen_1 rfl (by decide) rfl rfl ?_
  replace H := bs H; obtain ⟨e12, e12L, H⟩ := H
  refine V.sub [1, 2, 0] rfl ?_
  refine lp_V (P := (fun s2 => V Γ d mX0_freshen 2 [(0, .ref v0), (1, .ref v1), (2, .int s2.1)] [] s2.2 (none, r))) (E := (fun e => V Γ d mX0_freshen 45 [(0, .ref v0), (1, .ref v1)] [] e (none, r))) (fun s r hb kI kE => sbX0_freshen_2 hd (s2 := s) (r := r) hb kI kE) FU ((0 : Int32), h) e12 e12L ?_
  refine v_aload_n (q := 46) 0 dX0_freshen_45 rfl rfl rfl ?_
  replace H := bs H; obtain ⟨x13, x13e, H⟩ := H
  refine u_gI (q := 49) (r := (RX0, TX0, 9)) x13e dX0_freshen_46 w0499 rfl (by decide) rfl rfl ?_
  refine v_if_ne (q1 := 85) (q2 := 52) dX0_freshen_49 (by decide) rfl (fun c14 => ?_) (fun c14 => ?_)
  · replace H := ine c14 H
    exact V.sub [] rfl (sjX0_freshen_85 hd H)
  · replace H := ip c14 H
    refine v_aload_n (q := 53) 1 dX0_freshen_52 rfl rfl rfl ?_
    refine v_iconst (v := 0) (q := 54) dX0_freshen_53 (by decide) rfl ?_
    refine v_aload_n (q := 55) 0 dX0_freshen_54 rfl rfl rfl ?_
    replace H := bs H; obtain ⟨x15, x15e, H⟩ := H
    refine u_gR (q := 58) (r := (RX0, TX0, 9)) x15e dX0_freshen_55 w0498 rfl (by decide) rfl rfl ?_
    refine v_iconst (v := 0) (q := 59) dX0_freshen_58 (by decide) rfl ?_
    refine v_aload_n (q := 60) 0 dX0_freshen_59 rfl rfl rfl ?_
    replace H := bs H; obtain ⟨x16, x16e, H⟩ := H
    refine u_gR (q := 63) (r := (RX0, TX0, 9)) x16e dX0_freshen_60 w0498 rfl (by decide) rfl rfl ?_
    replace H := bs H; obtain ⟨x17, x17e, H⟩ := H
    refine u_aL (q := 64) (ty := .int) (by decide) x17e dX0_freshen_63 rfl ?_
    replace H := bs H; obtain ⟨h18, h18e, H⟩ := H
    refine u_kI (q := 67) (ty := .int) rfl rfl (by decide) h18e dX0_freshen_64 w1079 w0711 w0710 w0157 (Nat.le_of_ble_eq_true rfl) (Nat.lt_of_lt_of_le (by decide) hd) rfl ?_
    refine v_aload_n (q := 68) 0 dX0_freshen_67 rfl rfl rfl ?_
    replace H := bs H; obtain ⟨x19, x19e, H⟩ := H
    refine u_gR (q := 71) (r := (RX0, TX0, 9)) x19e dX0_freshen_68 w0497 rfl (by decide) rfl rfl ?_
    refine v_iconst (v := 3) (q := 72) dX0_freshen_71 (by decide) rfl ?_
    replace H := bs H; obtain ⟨x20, x20e, H⟩ := H
    refine u_callS0 (M' := mJ7_fill_53178) (d' := 1) (As := [.ref x19, .int (3 : Int32)]) (st := []) (q := 75) oJ7_fill_53178 dX0_freshen_72 w1080 w0592 rfl (Nat.le_of_ble_eq_true rfl) (Nat.le_of_ble_eq_true rfl) (Nat.lt_of_lt_of_le (by decide) hd) rfl (sJ7_fill_53178 (Nat.le_refl _) x20e) rfl ?_
    refine v_aload_n (q := 76) 0 dX0_freshen_75 rfl rfl rfl ?_
    refine v_iconst (v := -1) (q := 77) dX0_freshen_76 (by decide) rfl ?_
    replace H := bs H; obtain ⟨h21, h21e, H⟩ := H
    refine u_pI (q := 80) (r := (RX0, TX0, 9)) h21e dX0_freshen_77 w0500 rfl (by decide) (Or.inl rfl) rfl rfl ?_
    refine v_aload_n (q := 81) 0 dX0_freshen_80 rfl rfl rfl ?_
    refine v_iconst (v := 1) (q := 82) dX0_freshen_81 (by decide) rfl ?_
    replace H := bs H; obtain ⟨h22, h22e, H⟩ := H
    refine u_pZ (q := 85) (r := (RX0, TX0, 9)) h22e dX0_freshen_82 w0499 rfl (by decide) (Or.inl rfl) rfl rfl ?_
    exact V.sub [] rfl (sjX0_freshen_85 hd H)
def mX0_init : MI := (yX0_init, cX0_init, 1, none)
theorem oX0_init : mOK mX0_init 0 := ⟨by decide +kernel, by decide +kernel, by decide +kernel, by decide, w0487, w0149⟩
def fX0_init (h : Hp) (v0 : Nat) : Option (Hp) :=
(nA h .int (64 : Int32)).bind fun h1 =>
(pR h1 0 v0 0 (hN h)).bind fun h2 =>
(nA h2 .int (64 : Int32)).bind fun h3 =>
(pR h3 0 v0 1 (hN h2)).bind fun h4 =>
(nA h4 .int (64 : Int32)).bind fun h5 =>
(pR h5 0 v0 2 (hN h4)).bind fun h6 =>
(nA h6 .int (64 : Int32)).bind fun h7 =>
(pR h7 0 v0 3 (hN h6)).bind fun h8 =>
(nA h8 .int (64 : Int32)).bind fun h9 =>
(pR h9 0 v0 4 (hN h8)).bind fun h10 =>
(nA h10 .int (72 : Int32)).bind fun h11 =>
(pR h11 0 v0 5 (hN h10)).bind fun h12 =>
(pI h12 0 v0 7 (-1 : Int32)).bind fun h13 =>
some h13
set_option maxRecDepth 20000 in
set_option maxHeartbeats 4000000 in
theorem sX0_init {Γ : Gm} {d : Nat} (hd : 1 ≤ d) {h : Hp} {v0 : Nat} {r : Hp} (H : fX0_init h v0 = some r) : V Γ d mX0_init 0 [(0, .ref v0)] [] h (none, r) := by
  unfold fX0_init at H
  refine v_aload_n (q := 1) 0 dX0_init_0 rfl rfl rfl ?_
  refine v_obj (q := 4) dX0_init_1 w0488 w0166 w0167 (Nat.le_of_ble_eq_true rfl) (Nat.lt_of_lt_of_le (by decide) hd) rfl ?_
  refine v_aload_n (q := 5) 0 dX0_init_4 rfl rfl rfl ?_
  refine v_bipush (v := 64) (q := 7) dX0_init_5 (by decide) rfl ?_
  replace H := bs H; obtain ⟨h1, h1e, H⟩ := H
  refine u_nA (q := 9) (ty := .int) rfl (by decide) w0217 h1e dX0_init_7 rfl ?_
  replace H := bs H; obtain ⟨h2, h2e, H⟩ := H
  refine u_pR (q := 12) (r := (RX0, TX0, 9)) h2e dX0_init_9 w0489 rfl (by decide) (Or.inr ⟨rfl, rfl, rfl⟩) rfl rfl ?_
  refine v_aload_n (q := 13) 0 dX0_init_12 rfl rfl rfl ?_
  refine v_bipush (v := 64) (q := 15) dX0_init_13 (by decide) rfl ?_
  replace H := bs H; obtain ⟨h3, h3e, H⟩ := H
  refine u_nA (q := 17) (ty := .int) rfl (by decide) w0217 h3e dX0_init_15 rfl ?_
  replace H := bs H; obtain ⟨h4, h4e, H⟩ := H
  refine u_pR (q := 20) (r := (RX0, TX0, 9)) h4e dX0_init_17 w0491 rfl (by decide) (Or.inr ⟨rfl, rfl, rfl⟩) rfl rfl ?_
  refine v_aload_n (q := 21) 0 dX0_init_20 rfl rfl rfl ?_
  refine v_bipush (v := 64) (q := 23) dX0_init_21 (by decide) rfl ?_
  replace H := bs H; obtain ⟨h5, h5e, H⟩ := H
  refine u_nA (q := 25) (ty := .int) rfl (by decide) w0217 h5e dX0_init_23 rfl ?_
  replace H := bs H; obtain ⟨h6, h6e, H⟩ := H
  refine u_pR (q := 28) (r := (RX0, TX0, 9)) h6e dX0_init_25 w0493 rfl (by decide) (Or.inr ⟨rfl, rfl, rfl⟩) rfl rfl ?_
  refine v_aload_n (q := 29) 0 dX0_init_28 rfl rfl rfl ?_
  refine v_bipush (v := 64) (q := 31) dX0_init_29 (by decide) rfl ?_
  replace H := bs H; obtain ⟨h7, h7e, H⟩ := H
  refine u_nA (q := 33) (ty := .int) rfl (by decide) w0217 h7e dX0_init_31 rfl ?_
  replace H := bs H; obtain ⟨h8, h8e, H⟩ := H
  refine u_pR (q := 36) (r := (RX0, TX0, 9)) h8e dX0_init_33 w0495 rfl (by decide) (Or.inr ⟨rfl, rfl, rfl⟩) rfl rfl ?_
  refine v_aload_n (q := 37) 0 dX0_init_36 rfl rfl rfl ?_
  refine v_bipush (v := 64) (q := 39) dX0_init_37 (by decide) rfl ?_
  replace H := bs H; obtain ⟨h9, h9e, H⟩ := H
  refine u_nA (q := 41) (ty := .int) rfl (by decide) w0217 h9e dX0_init_39 rfl ?_
  replace H := bs H; obtain ⟨h10, h10e, H⟩ := H
  refine u_pR (q := 44) (r := (RX0, TX0, 9)) h10e dX0_init_41 w0497 rfl (by decide) (Or.inr ⟨rfl, rfl, rfl⟩) rfl rfl ?_
  refine v_aload_n (q := 45) 0 dX0_init_44 rfl rfl rfl ?_
  refine v_bipush (v := 72) (q := 47) dX0_init_45 (by decide) rfl ?_
  replace H := bs H; obtain ⟨h11, h11e, H⟩ := H
  refine u_nA (q := 49) (ty := .int) rfl (by decide) w0217 h11e dX0_init_47 rfl ?_
  replace H := bs H; obtain ⟨h12, h12e, H⟩ := H
  refine u_pR (q := 52) (r := (RX0, TX0, 9)) h12e dX0_init_49 w0498 rfl (by decide) (Or.inr ⟨rfl, rfl, rfl⟩) rfl rfl ?_
  refine v_aload_n (q := 53) 0 dX0_init_52 rfl rfl rfl ?_
  refine v_iconst (v := -1) (q := 54) dX0_init_53 (by decide) rfl ?_
  replace H := bs H; obtain ⟨h13, h13e, H⟩ := H
  refine u_pI (q := 57) (r := (RX0, TX0, 9)) h13e dX0_init_54 w0500 rfl (by decide) (Or.inl rfl) rfl rfl ?_
  cases H
  exact v_return rfl dX0_init_57
def mX5_everyone : MI := (yX5_everyone, cX5_everyone, 1, some .int)
theorem oX5_everyone : mOK mX5_everyone 0 := ⟨by decide +kernel, by decide +kernel, by decide +kernel, by decide, w1066, w0141⟩
def fX5_everyone (h : Hp) (v0 : Nat) : Option (Int32) :=
(gI h 5 v0 2).bind fun x1 =>
some (((1 : Int32) <<< (x1 &&& 31)) - (1 : Int32))
set_option maxRecDepth 20000 in
set_option maxHeartbeats 4000000 in
theorem sX5_everyone {Γ : Gm} {d : Nat} (hd : 1 ≤ d) {h : Hp} {v0 : Nat} {r : Int32} (H : fX5_everyone h v0 = some r) : V Γ d mX5_everyone 0 [(0, .ref v0)] [] h (some (.int r), h) := by
  unfold fX5_everyone at H
  refine v_iconst (v := 1) (q := 1) dX5_everyone_0 (by decide) rfl ?_
  refine v_aload_n (q := 2) 0 dX5_everyone_1 rfl rfl rfl ?_
  replace H := bs H; obtain ⟨x1, x1e, H⟩ := H
  refine u_gI (q := 5) (r := (RX5, TX5, 7)) x1e dX5_everyone_2 w0230 rfl (by decide) rfl rfl ?_
  refine v_ishl (q := 6) dX5_everyone_5 rfl ?_
  refine v_iconst (v := 1) (q := 7) dX5_everyone_6 (by decide) rfl ?_
  refine v_isub (q := 8) dX5_everyone_7 rfl ?_
  cases H
  exact v_ireturn rfl dX5_everyone_8
def mX5_tasks : MI := (yX5_tasks, cX5_tasks, 3, some .int)
theorem oX5_tasks : mOK mX5_tasks 0 := ⟨by decide +kernel, by decide +kernel, by decide +kernel, by decide, w1070, w0141⟩
def jX5_tasks_27 (u0 : Nat) (v1 : Int32) (v2 : Int32) (h : Hp) : Option ((Int32 × Int32) ⊕ (Int32)) :=
(some (v2 + (1 : Int32))).bind fun x6 =>
some (.inl (v1, x6))
set_option maxRecDepth 20000 in
set_option maxHeartbeats 4000000 in
theorem sjX5_tasks_27 {Γ : Gm} {d : Nat} (hd : 1 ≤ d) {u0 : Nat} {v1 : Int32} {v2 : Int32} {h : Hp} {r : (Int32 × Int32) ⊕ (Int32)} {t : Option Value × Hp} (H : jX5_tasks_27 u0 v1 v2 h = some r) (kI : ∀ s, r = .inl s → (fun s4 => V Γ d mX5_tasks 4 [(0, .ref u0), (1, .int s4.1), (2, .int s4.2)] [] h t) s) (kE : ∀ e, r = .inr e → (fun e => V Γ d mX5_tasks 33 [(1, .int e)] [] h t) e) : V Γ d mX5_tasks 27 [(0, .ref u0), (1, .int v1), (2, .int v2)] [] h t := by
  unfold jX5_tasks_27 at H
  replace H := bs H; obtain ⟨x6, x6e, H⟩ := H
  refine v_iinc (v := x6) (L' := [(2, .int x6), (0, .ref u0), (1, .int v1)]) (q := 30) 2 dX5_tasks_27 rfl (Option.some.inj x6e) (by decide) rfl rfl ?_
  refine v_goto (q := 4) dX5_tasks_30 (by decide) ?_
  exact V.sub [1, 2, 0] rfl (kI (v1, x6) (Option.some.inj H).symm)
def bX5_tasks_4 (u0 : Nat) (h : Hp) (s4 : Int32 × Int32) : Option ((Int32 × Int32) ⊕ (Int32)) :=
(gI h 5 u0 2).bind fun x1 =>
if x1 ≤ s4.2 then (
some (.inr s4.1)) else (
(gR h 5 u0 4).bind fun x3 =>
(lI h .int x3 s4.2).bind fun x4 =>
if x4 = 0 then (
(some (s4.1 ||| ((1 : Int32) <<< (s4.2 &&& 31)))).bind fun x7 =>
jX5_tasks_27 u0 x7 s4.2 h) else (
jX5_tasks_27 u0 s4.1 s4.2 h))
set_option maxRecDepth 20000 in
set_option maxHeartbeats 4000000 in
theorem sbX5_tasks_4 {Γ : Gm} {d : Nat} (hd : 1 ≤ d) {u0 : Nat} {h : Hp} {s4 : Int32 × Int32} {r : (Int32 × Int32) ⊕ (Int32)} {t : Option Value × Hp} (H : bX5_tasks_4 u0 h s4 = some r) (kI : ∀ s, r = .inl s → (fun s4 => V Γ d mX5_tasks 4 [(0, .ref u0), (1, .int s4.1), (2, .int s4.2)] [] h t) s) (kE : ∀ e, r = .inr e → (fun e => V Γ d mX5_tasks 33 [(1, .int e)] [] h t) e) : V Γ d mX5_tasks 4 [(0, .ref u0), (1, .int s4.1), (2, .int s4.2)] [] h t := by
  unfold bX5_tasks_4 at H
  refine v_iload_n (q := 5) 2 dX5_tasks_4 rfl rfl rfl ?_
  refine v_aload_n (q := 6) 0 dX5_tasks_5 rfl rfl rfl ?_
  replace H := bs H; obtain ⟨x1, x1e, H⟩ := H
  refine u_gI (q := 9) (r := (RX5, TX5, 7)) x1e dX5_tasks_6 w0230 rfl (by decide) rfl rfl ?_
  refine v_icmp_ge (q1 := 33) (q2 := 12) dX5_tasks_9 (by decide) rfl (fun c2 => ?_) (fun c2 => ?_)
  · replace H := ip c2 H
    exact V.sub [1] rfl (kE s4.1 (Option.some.inj H).symm)
  · replace H := ine c2 H
    refine v_aload_n (q := 13) 0 dX5_tasks_12 rfl rfl rfl ?_
    replace H := bs H; obtain ⟨x3, x3e, H⟩ := H
    refine u_gR (q := 16) (r := (RX5, TX5, 7)) x3e dX5_tasks_13 w0239 rfl (by decide) rfl rfl ?_
    refine v_iload_n (q := 17) 2 dX5_tasks_16 rfl rfl rfl ?_
    replace H := bs H; obtain ⟨x4, x4e, H⟩ := H
    refine u_lI (q := 18) x4e dX5_tasks_17 rfl ?_
    refine v_if_ne (q1 := 27) (q2 := 21) dX5_tasks_18 (by decide) rfl (fun c5 => ?_) (fun c5 => ?_)
    · replace H := ine c5 H
      exact V.sub [0, 1, 2] rfl (sjX5_tasks_27 hd H kI kE)
    · replace H := ip c5 H
      refine v_iload_n (q := 22) 1 dX5_tasks_21 rfl rfl rfl ?_
      refine v_iconst (v := 1) (q := 23) dX5_tasks_22 (by decide) rfl ?_
      refine v_iload_n (q := 24) 2 dX5_tasks_23 rfl rfl rfl ?_
      refine v_ishl (q := 25) dX5_tasks_24 rfl ?_
      refine v_ior (q := 26) dX5_tasks_25 rfl ?_
      replace H := bs H; obtain ⟨x7, x7e, H⟩ := H
      refine v_topi (Option.some.inj x7e) ?_
      refine v_istore_n (L' := [(1, .int x7), (0, .ref u0), (2, .int s4.2)]) (q := 27) dX5_tasks_26 rfl (by decide) rfl rfl ?_
      exact V.sub [1, 0, 2] rfl (sjX5_tasks_27 hd H kI kE)
def fX5_tasks (h : Hp) (v0 : Nat) : Option (Int32) :=
(lp (bX5_tasks_4 v0 h) FU ((0 : Int32), (0 : Int32))).bind fun e8 =>
some e8
set_option maxRecDepth 20000 in
set_option maxHeartbeats 4000000 in
theorem sX5_tasks {Γ : Gm} {d : Nat} (hd : 1 ≤ d) {h : Hp} {v0 : Nat} {r : Int32} (H : fX5_tasks h v0 = some r) : V Γ d mX5_tasks 0 [(0, .ref v0)] [] h (some (.int r), h) := by
  unfold fX5_tasks at H
  refine v_iconst (v := 0) (q := 1) dX5_tasks_0 (by decide) rfl ?_
  refine v_istore_n (L' := [(1, .int (0 : Int32)), (0, .ref v0)]) (q := 2) dX5_tasks_1 rfl (by decide) rfl rfl ?_
  refine v_iconst (v := 0) (q := 3) dX5_tasks_2 (by decide) rfl ?_
  refine v_istore_n (L' := [(2, .int (0 : Int32)), (1, .int (0 : Int32)), (0, .ref v0)]) (q := 4) dX5_tasks_3 rfl (by decide) rfl rfl ?_
  replace H := bs H; obtain ⟨e8, e8L, H⟩ := H
  refine V.sub [2, 1, 0] rfl ?_
  refine lp_V (P := (fun s4 => V Γ d mX5_tasks 4 [(0, .ref v0), (1, .int s4.1), (2, .int s4.2)] [] h (some (.int r), h))) (E := (fun e => V Γ d mX5_tasks 33 [(1, .int e)] [] h (some (.int r), h))) (fun s r hb kI kE => sbX5_tasks_4 hd (s4 := s) (r := r) hb kI kE) FU ((0 : Int32), (0 : Int32)) e8 e8L ?_
  refine v_iload_n (q := 34) 0 dX5_tasks_33 rfl rfl rfl ?_
  cases H
  exact v_ireturn rfl dX5_tasks_34
def mX5_isSet : MI := (yX5_isSet, cX5_isSet, 2, some .boolean)
theorem oX5_isSet : mOK mX5_isSet 1 := ⟨by decide +kernel, by decide +kernel, by decide +kernel, by decide, w1062, w0141⟩
def jX5_isSet_26 (y0 : Int32) (h : Hp) : Option (Int32) :=
(bz y0).bind fun x2 =>
some x2
set_option maxRecDepth 20000 in
set_option maxHeartbeats 4000000 in
theorem sjX5_isSet_26 {Γ : Gm} {d : Nat} (hd : 2 ≤ d) {y0 : Int32} {h : Hp} {r : Int32} (H : jX5_isSet_26 y0 h = some r) : V Γ d mX5_isSet 26 [] [.int y0] h (some (.int r), h) := by
  unfold jX5_isSet_26 at H
  replace H := bs H; obtain ⟨x2, x2e, H⟩ := H
  obtain ⟨x2q, x2z⟩ := bz_sp x2e
  refine v_topi x2q.symm ?_
  cases H
  exact v_zreturn rfl (by rw [x2q]; exact x2z) dX5_isSet_26
def jX5_isSet_25 (h : Hp) : Option (Int32) :=
jX5_isSet_26 (0 : Int32) h
set_option maxRecDepth 20000 in
set_option maxHeartbeats 4000000 in
theorem sjX5_isSet_25 {Γ : Gm} {d : Nat} (hd : 2 ≤ d) {h : Hp} {r : Int32} (H : jX5_isSet_25 h = some r) : V Γ d mX5_isSet 25 [] [] h (some (.int r), h) := by
  unfold jX5_isSet_25 at H
  refine v_iconst (v := 0) (q := 26) dX5_isSet_25 (by decide) rfl ?_
  exact V.sub [] rfl (sjX5_isSet_26 hd H)
def fX5_isSet (h : Hp) (v0 : Nat) (v1 : Int32) : Option (Int32) :=
if v1 ≤ 0 then (
jX5_isSet_25 h) else (
(gO h 5 v0).bind fun _ =>
(fX5_everyone h v0).bind fun x4 =>
if x4 < v1 then (
jX5_isSet_25 h) else (
(gO h 5 v0).bind fun _ =>
(fX5_tasks h v0).bind fun x7 =>
if (v1 &&& x7) = 0 then (
jX5_isSet_25 h) else (
jX5_isSet_26 (1 : Int32) h)))
set_option maxRecDepth 20000 in
set_option maxHeartbeats 4000000 in
theorem sX5_isSet {Γ : Gm} {d : Nat} (hd : 2 ≤ d) {h : Hp} {v0 : Nat} {v1 : Int32} {r : Int32} (H : fX5_isSet h v0 v1 = some r) : V Γ d mX5_isSet 0 [(0, .ref v0), (1, .int v1)] [] h (some (.int r), h) := by
  unfold fX5_isSet at H
  refine v_iload_n (q := 1) 1 dX5_isSet_0 rfl rfl rfl ?_
  refine v_if_le (q1 := 25) (q2 := 4) dX5_isSet_1 (by decide) rfl (fun c1 => ?_) (fun c1 => ?_)
  · replace H := ip c1 H
    exact V.sub [] rfl (sjX5_isSet_25 hd H)
  · replace H := ine c1 H
    refine v_iload_n (q := 5) 1 dX5_isSet_4 rfl rfl rfl ?_
    refine v_aload_n (q := 6) 0 dX5_isSet_5 rfl rfl rfl ?_
    replace H := bs H; obtain ⟨_, o3, H⟩ := H
    replace H := bs H; obtain ⟨x4, x4e, H⟩ := H
    refine u_callV1 (M' := mX5_everyone) (d' := 1) (rc := (RX5, TX5, 7)) (As := []) (st := [.int v1]) (q := 9) oX5_everyone dX5_isSet_6 w1063 w1064 w1065 rfl rfl (gO_sp o3).1 (gO_sp o3).2 rfl (Nat.le_of_ble_eq_true rfl) (Nat.le_of_ble_eq_true rfl) (Nat.lt_of_lt_of_le (by decide) hd) rfl (sX5_everyone (Nat.le_refl _) x4e) rfl ?_
    refine v_icmp_gt (q1 := 25) (q2 := 12) dX5_isSet_9 (by decide) rfl (fun c5 => ?_) (fun c5 => ?_)
    · replace H := ip c5 H
      exact V.sub [] rfl (sjX5_isSet_25 hd H)
    · replace H := ine c5 H
      refine v_iload_n (q := 13) 1 dX5_isSet_12 rfl rfl rfl ?_
      refine v_aload_n (q := 14) 0 dX5_isSet_13 rfl rfl rfl ?_
      replace H := bs H; obtain ⟨_, o6, H⟩ := H
      replace H := bs H; obtain ⟨x7, x7e, H⟩ := H
      refine u_callV1 (M' := mX5_tasks) (d' := 1) (rc := (RX5, TX5, 7)) (As := []) (st := [.int v1]) (q := 17) oX5_tasks dX5_isSet_14 w1067 w1068 w1069 rfl rfl (gO_sp o6).1 (gO_sp o6).2 rfl (Nat.le_of_ble_eq_true rfl) (Nat.le_of_ble_eq_true rfl) (Nat.lt_of_lt_of_le (by decide) hd) rfl (sX5_tasks (Nat.le_refl _) x7e) rfl ?_
      refine v_iand (q := 18) dX5_isSet_17 rfl ?_
      refine v_if_eq (q1 := 25) (q2 := 21) dX5_isSet_18 (by decide) rfl (fun c8 => ?_) (fun c8 => ?_)
      · replace H := ip c8 H
        exact V.sub [] rfl (sjX5_isSet_25 hd H)
      · replace H := ine c8 H
        refine v_iconst (v := 1) (q := 22) dX5_isSet_21 (by decide) rfl ?_
        refine v_goto (q := 26) dX5_isSet_22 (by decide) ?_
        exact V.sub [] rfl (sjX5_isSet_26 hd H)
def mX10_init : MI := (yX10_init, cX10_init, 1, none)
theorem oX10_init : mOK mX10_init 0 := ⟨by decide +kernel, by decide +kernel, by decide +kernel, by decide, w0394, w0146⟩
def fX10_init (h : Hp) (v0 : Nat) : Option (Hp) :=
(nA h .int (17 : Int32)).bind fun h1 =>
(pR h1 10 v0 0 (hN h)).bind fun h2 =>
(nA h2 .int (16 : Int32)).bind fun h3 =>
(pR h3 10 v0 2 (hN h2)).bind fun h4 =>
some h4
set_option maxRecDepth 20000 in
set_option maxHeartbeats 4000000 in
theorem sX10_init {Γ : Gm} {d : Nat} (hd : 1 ≤ d) {h : Hp} {v0 : Nat} {r : Hp} (H : fX10_init h v0 = some r) : V Γ d mX10_init 0 [(0, .ref v0)] [] h (none, r) := by
  unfold fX10_init at H
  refine v_aload_n (q := 1) 0 dX10_init_0 rfl rfl rfl ?_
  refine v_obj (q := 4) dX10_init_1 w0395 w0166 w0167 (Nat.le_of_ble_eq_true rfl) (Nat.lt_of_lt_of_le (by decide) hd) rfl ?_
  refine v_aload_n (q := 5) 0 dX10_init_4 rfl rfl rfl ?_
  refine v_bipush (v := 17) (q := 7) dX10_init_5 (by decide) rfl ?_
  replace H := bs H; obtain ⟨h1, h1e, H⟩ := H
  refine u_nA (q := 9) (ty := .int) rfl (by decide) w0217 h1e dX10_init_7 rfl ?_
  replace H := bs H; obtain ⟨h2, h2e, H⟩ := H
  refine u_pR (q := 12) (r := (RX10, TX10, 3)) h2e dX10_init_9 w0396 rfl (by decide) (Or.inr ⟨rfl, rfl, rfl⟩) rfl rfl ?_
  refine v_aload_n (q := 13) 0 dX10_init_12 rfl rfl rfl ?_
  refine v_bipush (v := 16) (q := 15) dX10_init_13 (by decide) rfl ?_
  replace H := bs H; obtain ⟨h3, h3e, H⟩ := H
  refine u_nA (q := 17) (ty := .int) rfl (by decide) w0217 h3e dX10_init_15 rfl ?_
  replace H := bs H; obtain ⟨h4, h4e, H⟩ := H
  refine u_pR (q := 20) (r := (RX10, TX10, 3)) h4e dX10_init_17 w0406 rfl (by decide) (Or.inr ⟨rfl, rfl, rfl⟩) rfl rfl ?_
  cases H
  exact v_return rfl dX10_init_20
def mX8_init : MI := (yX8_init, cX8_init, 1, none)
theorem oX8_init : mOK mX8_init 0 := ⟨by decide +kernel, by decide +kernel, by decide +kernel, by decide, w1093, w0159⟩
def fX8_init (h : Hp) (v0 : Nat) : Option (Hp) :=
(nA h .int (78 : Int32)).bind fun h1 =>
(pR h1 8 v0 5 (hN h)).bind fun h2 =>
(nA h2 .long (4000 : Int32)).bind fun h3 =>
(pR h3 8 v0 10 (hN h2)).bind fun h4 =>
(nA h4 .long (4000 : Int32)).bind fun h5 =>
(pR h5 8 v0 11 (hN h4)).bind fun h6 =>
(nA h6 .int (4000 : Int32)).bind fun h7 =>
(pR h7 8 v0 12 (hN h6)).bind fun h8 =>
(nA h8 .int (8192 : Int32)).bind fun h9 =>
(pR h9 8 v0 13 (hN h8)).bind fun h10 =>
(nA h10 .int (72 : Int32)).bind fun h11 =>
(pR h11 8 v0 15 (hN h10)).bind fun h12 =>
(nA h12 .int (6 : Int32)).bind fun h13 =>
(pR h13 8 v0 16 (hN h12)).bind fun h14 =>
(nA h14 .int (6 : Int32)).bind fun h15 =>
(pR h15 8 v0 17 (hN h14)).bind fun h16 =>
(some (nw h16 (.inl 10))).bind fun h17 =>
(fX10_init h17 (hN h16)).bind fun x18 =>
(pR x18 8 v0 18 (hN h16)).bind fun h19 =>
some h19
set_option maxRecDepth 20000 in
set_option maxHeartbeats 4000000 in
theorem sX8_init {Γ : Gm} {d : Nat} (hd : 2 ≤ d) {h : Hp} {v0 : Nat} {r : Hp} (H : fX8_init h v0 = some r) : V Γ d mX8_init 0 [(0, .ref v0)] [] h (none, r) := by
  unfold fX8_init at H
  refine v_aload_n (q := 1) 0 dX8_init_0 rfl rfl rfl ?_
  refine v_obj (q := 4) dX8_init_1 w1094 w0166 w0167 (Nat.le_of_ble_eq_true rfl) (Nat.lt_of_lt_of_le (by decide) hd) rfl ?_
  refine v_aload_n (q := 5) 0 dX8_init_4 rfl rfl rfl ?_
  refine v_bipush (v := 78) (q := 7) dX8_init_5 (by decide) rfl ?_
  replace H := bs H; obtain ⟨h1, h1e, H⟩ := H
  refine u_nA (q := 9) (ty := .int) rfl (by decide) w0217 h1e dX8_init_7 rfl ?_
  replace H := bs H; obtain ⟨h2, h2e, H⟩ := H
  refine u_pR (q := 12) (r := (RX8, TX8, 19)) h2e dX8_init_9 w1107 rfl (by decide) (Or.inr ⟨rfl, rfl, rfl⟩) rfl rfl ?_
  refine v_aload_n (q := 13) 0 dX8_init_12 rfl rfl rfl ?_
  refine v_sipush (v := 4000) (q := 16) dX8_init_13 (by decide) rfl ?_
  replace H := bs H; obtain ⟨h3, h3e, H⟩ := H
  refine u_nA (q := 18) (ty := .long) rfl (by decide) w0376 h3e dX8_init_16 rfl ?_
  replace H := bs H; obtain ⟨h4, h4e, H⟩ := H
  refine u_pR (q := 21) (r := (RX8, TX8, 19)) h4e dX8_init_18 w1113 rfl (by decide) (Or.inr ⟨rfl, rfl, rfl⟩) rfl rfl ?_
  refine v_aload_n (q := 22) 0 dX8_init_21 rfl rfl rfl ?_
  refine v_sipush (v := 4000) (q := 25) dX8_init_22 (by decide) rfl ?_
  replace H := bs H; obtain ⟨h5, h5e, H⟩ := H
  refine u_nA (q := 27) (ty := .long) rfl (by decide) w0376 h5e dX8_init_25 rfl ?_
  replace H := bs H; obtain ⟨h6, h6e, H⟩ := H
  refine u_pR (q := 30) (r := (RX8, TX8, 19)) h6e dX8_init_27 w1114 rfl (by decide) (Or.inr ⟨rfl, rfl, rfl⟩) rfl rfl ?_
  refine v_aload_n (q := 31) 0 dX8_init_30 rfl rfl rfl ?_
  refine v_sipush (v := 4000) (q := 34) dX8_init_31 (by decide) rfl ?_
  replace H := bs H; obtain ⟨h7, h7e, H⟩ := H
  refine u_nA (q := 36) (ty := .int) rfl (by decide) w0217 h7e dX8_init_34 rfl ?_
  replace H := bs H; obtain ⟨h8, h8e, H⟩ := H
  refine u_pR (q := 39) (r := (RX8, TX8, 19)) h8e dX8_init_36 w1115 rfl (by decide) (Or.inr ⟨rfl, rfl, rfl⟩) rfl rfl ?_
  refine v_aload_n (q := 40) 0 dX8_init_39 rfl rfl rfl ?_
  refine v_sipush (v := 8192) (q := 43) dX8_init_40 (by decide) rfl ?_
  replace H := bs H; obtain ⟨h9, h9e, H⟩ := H
  refine u_nA (q := 45) (ty := .int) rfl (by decide) w0217 h9e dX8_init_43 rfl ?_
  replace H := bs H; obtain ⟨h10, h10e, H⟩ := H
  refine u_pR (q := 48) (r := (RX8, TX8, 19)) h10e dX8_init_45 w1116 rfl (by decide) (Or.inr ⟨rfl, rfl, rfl⟩) rfl rfl ?_
  refine v_aload_n (q := 49) 0 dX8_init_48 rfl rfl rfl ?_
  refine v_bipush (v := 72) (q := 51) dX8_init_49 (by decide) rfl ?_
  replace H := bs H; obtain ⟨h11, h11e, H⟩ := H
  refine u_nA (q := 53) (ty := .int) rfl (by decide) w0217 h11e dX8_init_51 rfl ?_
  replace H := bs H; obtain ⟨h12, h12e, H⟩ := H
  refine u_pR (q := 56) (r := (RX8, TX8, 19)) h12e dX8_init_53 w1118 rfl (by decide) (Or.inr ⟨rfl, rfl, rfl⟩) rfl rfl ?_
  refine v_aload_n (q := 57) 0 dX8_init_56 rfl rfl rfl ?_
  refine v_bipush (v := 6) (q := 59) dX8_init_57 (by decide) rfl ?_
  replace H := bs H; obtain ⟨h13, h13e, H⟩ := H
  refine u_nA (q := 61) (ty := .int) rfl (by decide) w0217 h13e dX8_init_59 rfl ?_
  replace H := bs H; obtain ⟨h14, h14e, H⟩ := H
  refine u_pR (q := 64) (r := (RX8, TX8, 19)) h14e dX8_init_61 w1119 rfl (by decide) (Or.inr ⟨rfl, rfl, rfl⟩) rfl rfl ?_
  refine v_aload_n (q := 65) 0 dX8_init_64 rfl rfl rfl ?_
  refine v_bipush (v := 6) (q := 67) dX8_init_65 (by decide) rfl ?_
  replace H := bs H; obtain ⟨h15, h15e, H⟩ := H
  refine u_nA (q := 69) (ty := .int) rfl (by decide) w0217 h15e dX8_init_67 rfl ?_
  replace H := bs H; obtain ⟨h16, h16e, H⟩ := H
  refine u_pR (q := 72) (r := (RX8, TX8, 19)) h16e dX8_init_69 w1120 rfl (by decide) (Or.inr ⟨rfl, rfl, rfl⟩) rfl rfl ?_
  refine v_aload_n (q := 73) 0 dX8_init_72 rfl rfl rfl ?_
  replace H := bs H; obtain ⟨h17, h17e, H⟩ := H
  refine v_new (r := (RX10, TX10, 3)) (ci := 10) (q := 76) dX8_init_73 rfl w1095 w0391 w0146 rfl ?_
  rw [Option.some.inj h17e]
  refine v_dup (q := 77) dX8_init_76 rfl rfl ?_
  replace H := bs H; obtain ⟨x18, x18e, H⟩ := H
  refine u_callI (M' := mX10_init) (d' := 1) (As := []) (st := [.ref (hN h16), .ref v0]) (q := 80) oX10_init dX8_init_77 rfl rfl w1096 w0393 rfl (Nat.le_of_ble_eq_true rfl) (Nat.le_of_ble_eq_true rfl) (Nat.lt_of_lt_of_le (by decide) hd) rfl (sX10_init (Nat.le_refl _) x18e) rfl ?_
  replace H := bs H; obtain ⟨h19, h19e, H⟩ := H
  refine u_pR (q := 83) (r := (RX8, TX8, 19)) h19e dX8_init_80 w1121 rfl (by decide) (Or.inr ⟨rfl, rfl, rfl⟩) rfl rfl ?_
  cases H
  exact v_return rfl dX8_init_83
def mX0_readySides : MI := (yX0_readySides, cX0_readySides, 1, some (.object "LockWatch$Sides"))
theorem oX0_readySides : mOK mX0_readySides 0 := ⟨by decide +kernel, by decide +kernel, by decide +kernel, by decide, w1088, w0149⟩
def jX0_readySides_18 (v0 : Nat) (h : Hp) : Option (Nat × Hp) :=
(gR h 0 v0 8).bind fun x6 =>
some (x6, h)
set_option maxRecDepth 20000 in
set_option maxHeartbeats 4000000 in
theorem sjX0_readySides_18 {Γ : Gm} {d : Nat} (hd : 3 ≤ d) {v0 : Nat} {h : Hp} {r : Nat × Hp} (H : jX0_readySides_18 v0 h = some r) : V Γ d mX0_readySides 18 [(0, .ref v0)] [] h (some (.ref r.1), r.2) := by
  unfold jX0_readySides_18 at H
  refine v_aload_n (q := 19) 0 dX0_readySides_18 rfl rfl rfl ?_
  replace H := bs H; obtain ⟨x6, x6e, H⟩ := H
  refine u_gR (q := 22) (r := (RX0, TX0, 9)) x6e dX0_readySides_19 w0501 rfl (by decide) rfl rfl ?_
  cases H
  exact v_areturn rfl (by first | exact Or.inl ⟨_, rfl⟩ | exact Or.inr ⟨_, rfl⟩) dX0_readySides_22
def fX0_readySides (h : Hp) (v0 : Nat) : Option (Nat × Hp) :=
(gQ h 0 v0 8).bind fun x1 =>
(match x1 with
| none => (
(some (nw h (.inl 8))).bind fun h3 =>
(fX8_init h3 (hN h)).bind fun x4 =>
(pR x4 0 v0 8 (hN h)).bind fun h5 =>
jX0_readySides_18 v0 h5)
| some _ => (
jX0_readySides_18 v0 h))
set_option maxRecDepth 20000 in
set_option maxHeartbeats 4000000 in
theorem sX0_readySides {Γ : Gm} {d : Nat} (hd : 3 ≤ d) {h : Hp} {v0 : Nat} {r : Nat × Hp} (H : fX0_readySides h v0 = some r) : V Γ d mX0_readySides 0 [(0, .ref v0)] [] h (some (.ref r.1), r.2) := by
  unfold fX0_readySides at H
  refine v_aload_n (q := 1) 0 dX0_readySides_0 rfl rfl rfl ?_
  replace H := bs H; obtain ⟨x1, x1e, H⟩ := H
  refine u_gQ (q := 4) (r := (RX0, TX0, 9)) x1e dX0_readySides_1 w0501 rfl (by decide) rfl rfl ?_
  rcases x1 with _ | x2
  · refine v_ifnonnullN (q := 7) dX0_readySides_4 rfl ?_
    refine v_aload_n (q := 8) 0 dX0_readySides_7 rfl rfl rfl ?_
    replace H := bs H; obtain ⟨h3, h3e, H⟩ := H
    refine v_new (r := (RX8, TX8, 19)) (ci := 8) (q := 11) dX0_readySides_8 rfl w1089 w1090 w0159 rfl ?_
    rw [Option.some.inj h3e]
    refine v_dup (q := 12) dX0_readySides_11 rfl rfl ?_
    replace H := bs H; obtain ⟨x4, x4e, H⟩ := H
    refine u_callI (M' := mX8_init) (d' := 2) (As := []) (st := [.ref (hN h), .ref v0]) (q := 15) oX8_init dX0_readySides_12 rfl rfl w1091 w1092 rfl (Nat.le_of_ble_eq_true rfl) (Nat.le_of_ble_eq_true rfl) (Nat.lt_of_lt_of_le (by decide) hd) rfl (sX8_init (Nat.le_refl _) x4e) rfl ?_
    replace H := bs H; obtain ⟨h5, h5e, H⟩ := H
    refine u_pR (q := 18) (r := (RX0, TX0, 9)) h5e dX0_readySides_15 w0501 rfl (by decide) (Or.inl rfl) rfl rfl ?_
    exact V.sub [0] rfl (sjX0_readySides_18 hd H)
  · refine v_ifnonnull (q := 18) dX0_readySides_4 (by decide) ?_
    exact V.sub [0] rfl (sjX0_readySides_18 hd H)
def mX8_beginTurn : MI := (yX8_beginTurn, cX8_beginTurn, 1, none)
theorem oX8_beginTurn : mOK mX8_beginTurn 0 := ⟨by decide +kernel, by decide +kernel, by decide +kernel, by decide, w1169, w0159⟩
def jX8_beginTurn_32 (h : Hp) : Option (Hp) :=
some h
set_option maxRecDepth 20000 in
set_option maxHeartbeats 4000000 in
theorem sjX8_beginTurn_32 {Γ : Gm} {d : Nat} (hd : 2 ≤ d) {h : Hp} {r : Hp} (H : jX8_beginTurn_32 h = some r) : V Γ d mX8_beginTurn 32 [] [] h (none, r) := by
  unfold jX8_beginTurn_32 at H
  cases H
  exact v_return rfl dX8_beginTurn_32
def fX8_beginTurn (h : Hp) (v0 : Nat) : Option (Hp) :=
(gI h 8 v0 14).bind fun x1 =>
(pI h 8 v0 14 (x1 + (1 : Int32))).bind fun h2 =>
(gI h2 8 v0 14).bind fun x3 =>
if x3 < (262144 : Int32) then (
jX8_beginTurn_32 h2) else (
(gR h2 8 v0 13).bind fun x5 =>
(fJ7_fill_53178 h2 x5 (0 : Int32)).bind fun x6 =>
(pI x6 8 v0 14 (1 : Int32)).bind fun h7 =>
jX8_beginTurn_32 h7)
set_option maxRecDepth 20000 in
set_option maxHeartbeats 4000000 in
theorem sX8_beginTurn {Γ : Gm} {d : Nat} (hd : 2 ≤ d) {h : Hp} {v0 : Nat} {r : Hp} (H : fX8_beginTurn h v0 = some r) : V Γ d mX8_beginTurn 0 [(0, .ref v0)] [] h (none, r) := by
  unfold fX8_beginTurn at H
  refine v_aload_n (q := 1) 0 dX8_beginTurn_0 rfl rfl rfl ?_
  refine v_dup (q := 2) dX8_beginTurn_1 rfl rfl ?_
  replace H := bs H; obtain ⟨x1, x1e, H⟩ := H
  refine u_gI (q := 5) (r := (RX8, TX8, 19)) x1e dX8_beginTurn_2 w1117 rfl (by decide) rfl rfl ?_
  refine v_iconst (v := 1) (q := 6) dX8_beginTurn_5 (by decide) rfl ?_
  refine v_iadd (q := 7) dX8_beginTurn_6 rfl ?_
  replace H := bs H; obtain ⟨h2, h2e, H⟩ := H
  refine u_pI (q := 10) (r := (RX8, TX8, 19)) h2e dX8_beginTurn_7 w1117 rfl (by decide) (Or.inl rfl) rfl rfl ?_
  refine v_aload_n (q := 11) 0 dX8_beginTurn_10 rfl rfl rfl ?_
  replace H := bs H; obtain ⟨x3, x3e, H⟩ := H
  refine u_gI (q := 14) (r := (RX8, TX8, 19)) x3e dX8_beginTurn_11 w1117 rfl (by decide) rfl rfl ?_
  refine v_ldc (v := 262144) (q := 16) dX8_beginTurn_14 w1170 rfl ?_
  refine v_icmp_lt (q1 := 32) (q2 := 19) dX8_beginTurn_16 (by decide) rfl (fun c4 => ?_) (fun c4 => ?_)
  · replace H := ip c4 H
    exact V.sub [] rfl (sjX8_beginTurn_32 hd H)
  · replace H := ine c4 H
    refine v_aload_n (q := 20) 0 dX8_beginTurn_19 rfl rfl rfl ?_
    replace H := bs H; obtain ⟨x5, x5e, H⟩ := H
    refine u_gR (q := 23) (r := (RX8, TX8, 19)) x5e dX8_beginTurn_20 w1116 rfl (by decide) rfl rfl ?_
    refine v_iconst (v := 0) (q := 24) dX8_beginTurn_23 (by decide) rfl ?_
    replace H := bs H; obtain ⟨x6, x6e, H⟩ := H
    refine u_callS0 (M' := mJ7_fill_53178) (d' := 1) (As := [.ref x5, .int (0 : Int32)]) (st := []) (q := 27) oJ7_fill_53178 dX8_beginTurn_24 w1171 w0592 rfl (Nat.le_of_ble_eq_true rfl) (Nat.le_of_ble_eq_true rfl) (Nat.lt_of_lt_of_le (by decide) hd) rfl (sJ7_fill_53178 (Nat.le_refl _) x6e) rfl ?_
    refine v_aload_n (q := 28) 0 dX8_beginTurn_27 rfl rfl rfl ?_
    refine v_iconst (v := 1) (q := 29) dX8_beginTurn_28 (by decide) rfl ?_
    replace H := bs H; obtain ⟨h7, h7e, H⟩ := H
    refine u_pI (q := 32) (r := (RX8, TX8, 19)) h7e dX8_beginTurn_29 w1117 rfl (by decide) (Or.inl rfl) rfl rfl ?_
    exact V.sub [] rfl (sjX8_beginTurn_32 hd H)
def mX11_contextOf : MI := (yX11_contextOf, cX11_contextOf, 1, some .int)
theorem oX11_contextOf : mOK mX11_contextOf 1 := ⟨by decide +kernel, by decide +kernel, by decide +kernel, by decide, w0775, w0139⟩
def fX11_contextOf (h : Hp) (v0 : Int32) : Option (Int32) :=
if v0 = (0 : Int32) then (
some (6 : Int32)) else (
if v0 = (1 : Int32) then (
some (4 : Int32)) else (
some (0 : Int32)))
set_option maxRecDepth 20000 in
set_option maxHeartbeats 4000000 in
theorem sX11_contextOf {Γ : Gm} {d : Nat} (hd : 1 ≤ d) {h : Hp} {v0 : Int32} {r : Int32} (H : fX11_contextOf h v0 = some r) : V Γ d mX11_contextOf 0 [(0, .int v0)] [] h (some (.int r), h) := by
  unfold fX11_contextOf at H
  refine v_iload_n (q := 1) 0 dX11_contextOf_0 rfl rfl rfl ?_
  by_cases c1 : v0 = (0 : Int32)
  · replace H := ip c1 H
    rw [c1]
    refine v_lookup (off := 27) (q := 28) dX11_contextOf_1 (by decide) (by decide) (by decide) ?_
    refine v_bipush (v := 6) (q := 30) dX11_contextOf_28 (by decide) rfl ?_
    cases H
    exact v_ireturn rfl dX11_contextOf_30
  · replace H := ine c1 H
    by_cases c2 : v0 = (1 : Int32)
    · replace H := ip c2 H
      rw [c2]
      refine v_lookup (off := 30) (q := 31) dX11_contextOf_1 (by decide) (by decide) (by decide) ?_
      refine v_iconst (v := 4) (q := 32) dX11_contextOf_31 (by decide) rfl ?_
      cases H
      exact v_ireturn rfl dX11_contextOf_32
    · replace H := ine c2 H
      refine v_lookup (off := 32) (q := 33) dX11_contextOf_1 (by decide) ((lv_osw c1 (by decide)).trans ((lv_osw c2 (by decide)).trans (rfl))) (by decide) ?_
      refine v_iconst (v := 0) (q := 34) dX11_contextOf_33 (by decide) rfl ?_
      cases H
      exact v_ireturn rfl dX11_contextOf_34
def mX11_whatCanCome : MI := (yX11_whatCanCome, cX11_whatCanCome, 1, some .int)
theorem oX11_whatCanCome : mOK mX11_whatCanCome 1 := ⟨by decide +kernel, by decide +kernel, by decide +kernel, by decide, w0877, w0139⟩
def jX11_whatCanCome_11 (y0 : Int32) (h : Hp) : Option (Int32) :=
some y0
set_option maxRecDepth 20000 in
set_option maxHeartbeats 4000000 in
theorem sjX11_whatCanCome_11 {Γ : Gm} {d : Nat} (hd : 1 ≤ d) {y0 : Int32} {h : Hp} {r : Int32} (H : jX11_whatCanCome_11 y0 h = some r) : V Γ d mX11_whatCanCome 11 [] [.int y0] h (some (.int r), h) := by
  unfold jX11_whatCanCome_11 at H
  cases H
  exact v_ireturn rfl dX11_whatCanCome_11
def fX11_whatCanCome (h : Hp) (v0 : Int32) : Option (Int32) :=
if (v0 &&& (4 : Int32)) = 0 then (
jX11_whatCanCome_11 (0 : Int32) h) else (
jX11_whatCanCome_11 v0 h)
set_option maxRecDepth 20000 in
set_option maxHeartbeats 4000000 in
theorem sX11_whatCanCome {Γ : Gm} {d : Nat} (hd : 1 ≤ d) {h : Hp} {v0 : Int32} {r : Int32} (H : fX11_whatCanCome h v0 = some r) : V Γ d mX11_whatCanCome 0 [(0, .int v0)] [] h (some (.int r), h) := by
  unfold fX11_whatCanCome at H
  refine v_iload_n (q := 1) 0 dX11_whatCanCome_0 rfl rfl rfl ?_
  refine v_iconst (v := 4) (q := 2) dX11_whatCanCome_1 (by decide) rfl ?_
  refine v_iand (q := 3) dX11_whatCanCome_2 rfl ?_
  refine v_if_ne (q1 := 10) (q2 := 6) dX11_whatCanCome_3 (by decide) rfl (fun c1 => ?_) (fun c1 => ?_)
  · replace H := ine c1 H
    refine v_iload_n (q := 11) 0 dX11_whatCanCome_10 rfl rfl rfl ?_
    exact V.sub [] rfl (sjX11_whatCanCome_11 hd H)
  · replace H := ip c1 H
    refine v_iconst (v := 0) (q := 7) dX11_whatCanCome_6 (by decide) rfl ?_
    refine v_goto (q := 11) dX11_whatCanCome_7 (by decide) ?_
    exact V.sub [] rfl (sjX11_whatCanCome_11 hd H)
def mX11_deedOf : MI := (yX11_deedOf, cX11_deedOf, 1, some .int)
theorem oX11_deedOf : mOK mX11_deedOf 1 := ⟨by decide +kernel, by decide +kernel, by decide +kernel, by decide, w0778, w0139⟩
def fX11_deedOf (h : Hp) (v0 : Int32) : Option (Int32) :=
some (v0 >>> ((4 : Int32) &&& 31))
set_option maxRecDepth 20000 in
set_option maxHeartbeats 4000000 in
theorem sX11_deedOf {Γ : Gm} {d : Nat} (hd : 1 ≤ d) {h : Hp} {v0 : Int32} {r : Int32} (H : fX11_deedOf h v0 = some r) : V Γ d mX11_deedOf 0 [(0, .int v0)] [] h (some (.int r), h) := by
  unfold fX11_deedOf at H
  refine v_iload_n (q := 1) 0 dX11_deedOf_0 rfl rfl rfl ?_
  refine v_iconst (v := 4) (q := 2) dX11_deedOf_1 (by decide) rfl ?_
  refine v_ishr (q := 3) dX11_deedOf_2 rfl ?_
  cases H
  exact v_ireturn rfl dX11_deedOf_3
def mX11_turned : MI := (yX11_turned, cX11_turned, 3, some .int)
theorem oX11_turned : mOK mX11_turned 3 := ⟨by decide +kernel, by decide +kernel, by decide +kernel, by decide, w0904, w0139⟩
def fX11_turned (h : Hp) (v0 : Int32) (v1 : Int32) (v2 : Int32) : Option (Int32) :=
if v2 = (5 : Int32) then (
some (v0 &&& (-5 : Int32))) else (
if v2 = (6 : Int32) then (
(fX11_contextOf h v1).bind fun x3 =>
some (v0 ||| (x3 &&& (4 : Int32)))) else (
if v2 = (7 : Int32) then (
some (v0 &&& (-3 : Int32))) else (
if v2 = (8 : Int32) then (
(fX11_contextOf h v1).bind fun x6 =>
some (v0 ||| (x6 &&& (2 : Int32)))) else (
some v0))))
set_option maxRecDepth 20000 in
set_option maxHeartbeats 4000000 in
theorem sX11_turned {Γ : Gm} {d : Nat} (hd : 2 ≤ d) {h : Hp} {v0 : Int32} {v1 : Int32} {v2 : Int32} {r : Int32} (H : fX11_turned h v0 v1 v2 = some r) : V Γ d mX11_turned 0 [(0, .int v0), (1, .int v1), (2, .int v2)] [] h (some (.int r), h) := by
  unfold fX11_turned at H
  refine v_iload_n (q := 1) 2 dX11_turned_0 rfl rfl rfl ?_
  by_cases c1 : v2 = (5 : Int32)
  · replace H := ip c1 H
    rw [c1]
    refine v_tabIn (off := 31) (q := 32) dX11_turned_1 (by decide) (by decide) (by decide) (by decide) ?_
    refine v_iload_n (q := 33) 0 dX11_turned_32 rfl rfl rfl ?_
    refine v_bipush (v := -5) (q := 35) dX11_turned_33 (by decide) rfl ?_
    refine v_iand (q := 36) dX11_turned_35 rfl ?_
    cases H
    exact v_ireturn rfl dX11_turned_36
  · replace H := ine c1 H
    by_cases c2 : v2 = (6 : Int32)
    · replace H := ip c2 H
      rw [c2]
      refine v_tabIn (off := 36) (q := 37) dX11_turned_1 (by decide) (by decide) (by decide) (by decide) ?_
      refine v_iload_n (q := 38) 0 dX11_turned_37 rfl rfl rfl ?_
      refine v_iload_n (q := 39) 1 dX11_turned_38 rfl rfl rfl ?_
      replace H := bs H; obtain ⟨x3, x3e, H⟩ := H
      refine u_callS1 (M' := mX11_contextOf) (d' := 1) (As := [.int v1]) (st := [.int v0]) (q := 42) oX11_contextOf dX11_turned_39 w0905 w0774 rfl (Nat.le_of_ble_eq_true rfl) (Nat.le_of_ble_eq_true rfl) (Nat.lt_of_lt_of_le (by decide) hd) rfl (sX11_contextOf (Nat.le_refl _) x3e) rfl ?_
      refine v_iconst (v := 4) (q := 43) dX11_turned_42 (by decide) rfl ?_
      refine v_iand (q := 44) dX11_turned_43 rfl ?_
      refine v_ior (q := 45) dX11_turned_44 rfl ?_
      cases H
      exact v_ireturn rfl dX11_turned_45
    · replace H := ine c2 H
      by_cases c4 : v2 = (7 : Int32)
      · replace H := ip c4 H
        rw [c4]
        refine v_tabIn (off := 45) (q := 46) dX11_turned_1 (by decide) (by decide) (by decide) (by decide) ?_
        refine v_iload_n (q := 47) 0 dX11_turned_46 rfl rfl rfl ?_
        refine v_bipush (v := -3) (q := 49) dX11_turned_47 (by decide) rfl ?_
        refine v_iand (q := 50) dX11_turned_49 rfl ?_
        cases H
        exact v_ireturn rfl dX11_turned_50
      · replace H := ine c4 H
        by_cases c5 : v2 = (8 : Int32)
        · replace H := ip c5 H
          rw [c5]
          refine v_tabIn (off := 50) (q := 51) dX11_turned_1 (by decide) (by decide) (by decide) (by decide) ?_
          refine v_iload_n (q := 52) 0 dX11_turned_51 rfl rfl rfl ?_
          refine v_iload_n (q := 53) 1 dX11_turned_52 rfl rfl rfl ?_
          replace H := bs H; obtain ⟨x6, x6e, H⟩ := H
          refine u_callS1 (M' := mX11_contextOf) (d' := 1) (As := [.int v1]) (st := [.int v0]) (q := 56) oX11_contextOf dX11_turned_53 w0905 w0774 rfl (Nat.le_of_ble_eq_true rfl) (Nat.le_of_ble_eq_true rfl) (Nat.lt_of_lt_of_le (by decide) hd) rfl (sX11_contextOf (Nat.le_refl _) x6e) rfl ?_
          refine v_iconst (v := 2) (q := 57) dX11_turned_56 (by decide) rfl ?_
          refine v_iand (q := 58) dX11_turned_57 rfl ?_
          refine v_ior (q := 59) dX11_turned_58 rfl ?_
          cases H
          exact v_ireturn rfl dX11_turned_59
        · replace H := ine c5 H
          have c1t := lv_neT (a := 5) c1 (by decide)
          have c2t := lv_neT (a := 6) c2 (by decide)
          have c4t := lv_neT (a := 7) c4 (by decide)
          have c5t := lv_neT (a := 8) c5 (by decide)
          refine v_tabOut (q := 60) dX11_turned_1 (by omega) (by decide) ?_
          refine v_iload_n (q := 61) 0 dX11_turned_60 rfl rfl rfl ?_
          cases H
          exact v_ireturn rfl dX11_turned_61
def mX8_seeWhatCanCome : MI := (yX8_seeWhatCanCome, cX8_seeWhatCanCome, 5, none)
theorem oX8_seeWhatCanCome : mOK mX8_seeWhatCanCome 0 := ⟨by decide +kernel, by decide +kernel, by decide +kernel, by decide, w1175, w0159⟩
def bX8_seeWhatCanCome_28 (u0 : Nat) (u1 : Int32) (s28 : Int32 × Int32 × Hp) : Option ((Int32 × Int32 × Hp) ⊕ (Hp)) :=
(gR s28.2.2 8 u0 6).bind fun x8 =>
(gR s28.2.2 5 x8 5).bind fun x9 =>
(lI s28.2.2 .int x9 u1).bind fun x10 =>
if x10 ≤ s28.2.1 then (
some (.inr s28.2.2)) else (
(gR s28.2.2 8 u0 15).bind fun x12 =>
(fX11_whatCanCome s28.2.2 s28.1).bind fun x13 =>
(tI s28.2.2 x12 ((u1 * (12 : Int32)) + s28.2.1) x13).bind fun h14 =>
(gR h14 8 u0 7).bind fun x15 =>
(lI h14 .int x15 ((u1 * (12 : Int32)) + s28.2.1)).bind fun x16 =>
(fX11_deedOf h14 x16).bind fun x17 =>
(gR h14 8 u0 6).bind fun x18 =>
(gR h14 5 x18 4).bind fun x19 =>
(lI h14 .int x19 u1).bind fun x20 =>
(fX11_turned h14 s28.1 x20 x17).bind fun x21 =>
(some (s28.2.1 + (1 : Int32))).bind fun x22 =>
some (.inl (x21, x22, h14)))
set_option maxRecDepth 20000 in
set_option maxHeartbeats 4000000 in
theorem sbX8_seeWhatCanCome_28 {Γ : Gm} {d : Nat} (hd : 3 ≤ d) {u0 : Nat} {u1 : Int32} {s28 : Int32 × Int32 × Hp} {r : (Int32 × Int32 × Hp) ⊕ (Hp)} {t : Option Value × Hp} (H : bX8_seeWhatCanCome_28 u0 u1 s28 = some r) (kI : ∀ s, r = .inl s → (fun s28 => V Γ d mX8_seeWhatCanCome 28 [(0, .ref u0), (1, .int u1), (2, .int s28.1), (3, .int s28.2.1)] [] s28.2.2 t) s) (kE : ∀ e, r = .inr e → (fun e => V Γ d mX8_seeWhatCanCome 94 [(0, .ref u0), (1, .int u1)] [] e t) e) : V Γ d mX8_seeWhatCanCome 28 [(0, .ref u0), (1, .int u1), (2, .int s28.1), (3, .int s28.2.1)] [] s28.2.2 t := by
  unfold bX8_seeWhatCanCome_28 at H
  refine v_iload_n (q := 29) 3 dX8_seeWhatCanCome_28 rfl rfl rfl ?_
  refine v_aload_n (q := 30) 0 dX8_seeWhatCanCome_29 rfl rfl rfl ?_
  replace H := bs H; obtain ⟨x8, x8e, H⟩ := H
  refine u_gR (q := 33) (r := (RX8, TX8, 19)) x8e dX8_seeWhatCanCome_30 w1109 rfl (by decide) rfl rfl ?_
  replace H := bs H; obtain ⟨x9, x9e, H⟩ := H
  refine u_gR (q := 36) (r := (RX5, TX5, 7)) x9e dX8_seeWhatCanCome_33 w0246 rfl (by decide) rfl rfl ?_
  refine v_iload_n (q := 37) 1 dX8_seeWhatCanCome_36 rfl rfl rfl ?_
  replace H := bs H; obtain ⟨x10, x10e, H⟩ := H
  refine u_lI (q := 38) x10e dX8_seeWhatCanCome_37 rfl ?_
  refine v_icmp_ge (q1 := 94) (q2 := 41) dX8_seeWhatCanCome_38 (by decide) rfl (fun c11 => ?_) (fun c11 => ?_)
  · replace H := ip c11 H
    exact V.sub [0, 1] rfl (kE s28.2.2 (Option.some.inj H).symm)
  · replace H := ine c11 H
    refine v_aload_n (q := 42) 0 dX8_seeWhatCanCome_41 rfl rfl rfl ?_
    replace H := bs H; obtain ⟨x12, x12e, H⟩ := H
    refine u_gR (q := 45) (r := (RX8, TX8, 19)) x12e dX8_seeWhatCanCome_42 w1118 rfl (by decide) rfl rfl ?_
    refine v_iload_n (q := 46) 1 dX8_seeWhatCanCome_45 rfl rfl rfl ?_
    refine v_bipush (v := 12) (q := 48) dX8_seeWhatCanCome_46 (by decide) rfl ?_
    refine v_imul (q := 49) dX8_seeWhatCanCome_48 rfl ?_
    refine v_iload_n (q := 50) 3 dX8_seeWhatCanCome_49 rfl rfl rfl ?_
    refine v_iadd (q := 51) dX8_seeWhatCanCome_50 rfl ?_
    refine v_iload_n (q := 52) 2 dX8_seeWhatCanCome_51 rfl rfl rfl ?_
    replace H := bs H; obtain ⟨x13, x13e, H⟩ := H
    refine u_callSN1 (M' := mX11_whatCanCome) (d' := 1) (As := [.int s28.1]) (st := [.int ((u1 * (12 : Int32)) + s28.2.1), .ref x12]) (q := 55) oX11_whatCanCome dX8_seeWhatCanCome_52 w1177 w0876 rfl (Nat.le_of_ble_eq_true rfl) (Nat.le_of_ble_eq_true rfl) (Nat.lt_of_lt_of_le (by decide) hd) rfl (sX11_whatCanCome (Nat.le_refl _) x13e) rfl ?_
    replace H := bs H; obtain ⟨h14, h14e, H⟩ := H
    refine u_tI (q := 56) h14e dX8_seeWhatCanCome_55 rfl ?_
    refine v_aload_n (q := 57) 0 dX8_seeWhatCanCome_56 rfl rfl rfl ?_
    replace H := bs H; obtain ⟨x15, x15e, H⟩ := H
    refine u_gR (q := 60) (r := (RX8, TX8, 19)) x15e dX8_seeWhatCanCome_57 w1110 rfl (by decide) rfl rfl ?_
    refine v_iload_n (q := 61) 1 dX8_seeWhatCanCome_60 rfl rfl rfl ?_
    refine v_bipush (v := 12) (q := 63) dX8_seeWhatCanCome_61 (by decide) rfl ?_
    refine v_imul (q := 64) dX8_seeWhatCanCome_63 rfl ?_
    refine v_iload_n (q := 65) 3 dX8_seeWhatCanCome_64 rfl rfl rfl ?_
    refine v_iadd (q := 66) dX8_seeWhatCanCome_65 rfl ?_
    replace H := bs H; obtain ⟨x16, x16e, H⟩ := H
    refine u_lI (q := 67) x16e dX8_seeWhatCanCome_66 rfl ?_
    replace H := bs H; obtain ⟨x17, x17e, H⟩ := H
    refine u_callSN1 (M' := mX11_deedOf) (d' := 1) (As := [.int x16]) (st := []) (q := 70) oX11_deedOf dX8_seeWhatCanCome_67 w1178 w0777 rfl (Nat.le_of_ble_eq_true rfl) (Nat.le_of_ble_eq_true rfl) (Nat.lt_of_lt_of_le (by decide) hd) rfl (sX11_deedOf (Nat.le_refl _) x17e) rfl ?_
    refine v_istore (L' := [(4, .int x17), (0, .ref u0), (1, .int u1), (2, .int s28.1), (3, .int s28.2.1)]) (q := 72) dX8_seeWhatCanCome_70 (by decide) rfl rfl ?_
    refine v_iload_n (q := 73) 3 dX8_seeWhatCanCome_72 rfl rfl rfl ?_
    refine v_aload_n (q := 74) 1 dX8_seeWhatCanCome_73 rfl rfl rfl ?_
    replace H := bs H; obtain ⟨x18, x18e, H⟩ := H
    refine u_gR (q := 77) (r := (RX8, TX8, 19)) x18e dX8_seeWhatCanCome_74 w1109 rfl (by decide) rfl rfl ?_
    replace H := bs H; obtain ⟨x19, x19e, H⟩ := H
    refine u_gR (q := 80) (r := (RX5, TX5, 7)) x19e dX8_seeWhatCanCome_77 w0240 rfl (by decide) rfl rfl ?_
    refine v_iload_n (q := 81) 2 dX8_seeWhatCanCome_80 rfl rfl rfl ?_
    replace H := bs H; obtain ⟨x20, x20e, H⟩ := H
    refine u_lI (q := 82) x20e dX8_seeWhatCanCome_81 rfl ?_
    refine v_iload (q := 84) 0 dX8_seeWhatCanCome_82 rfl rfl ?_
    replace H := bs H; obtain ⟨x21, x21e, H⟩ := H
    refine u_callSN1 (M' := mX11_turned) (d' := 2) (As := [.int s28.1, .int x20, .int x17]) (st := []) (q := 87) oX11_turned dX8_seeWhatCanCome_84 w1179 w0903 rfl (Nat.le_of_ble_eq_true rfl) (Nat.le_of_ble_eq_true rfl) (Nat.lt_of_lt_of_le (by decide) hd) rfl (sX11_turned (Nat.le_refl _) x21e) rfl ?_
    refine v_istore_n (L' := [(2, .int x21), (4, .int x17), (0, .ref u0), (1, .int u1), (3, .int s28.2.1)]) (q := 88) dX8_seeWhatCanCome_87 rfl (by decide) rfl rfl ?_
    replace H := bs H; obtain ⟨x22, x22e, H⟩ := H
    refine v_iinc (v := x22) (L' := [(3, .int x22), (2, .int x21), (4, .int x17), (0, .ref u0), (1, .int u1)]) (q := 91) 4 dX8_seeWhatCanCome_88 rfl (Option.some.inj x22e) (by decide) rfl rfl ?_
    refine v_goto (q := 28) dX8_seeWhatCanCome_91 (by decide) ?_
    exact V.sub [3, 4, 1, 0] rfl (kI (x21, x22, h14) (Option.some.inj H).symm)
def bX8_seeWhatCanCome_2 (u0 : Nat) (s2 : Int32 × Hp) : Option ((Int32 × Hp) ⊕ (Hp)) :=
(gR s2.2 8 u0 6).bind fun x1 =>
(gI s2.2 5 x1 2).bind fun x2 =>
if x2 ≤ s2.1 then (
some (.inr s2.2)) else (
(gR s2.2 8 u0 6).bind fun x4 =>
(gR s2.2 5 x4 4).bind fun x5 =>
(lI s2.2 .int x5 s2.1).bind fun x6 =>
(fX11_contextOf s2.2 x6).bind fun x7 =>
(lp (bX8_seeWhatCanCome_28 u0 s2.1) FU (x7, (0 : Int32), s2.2)).bind fun e23 =>
(some (s2.1 + (1 : Int32))).bind fun x24 =>
some (.inl (x24, e23)))
set_option maxRecDepth 20000 in
set_option maxHeartbeats 4000000 in
theorem sbX8_seeWhatCanCome_2 {Γ : Gm} {d : Nat} (hd : 3 ≤ d) {u0 : Nat} {s2 : Int32 × Hp} {r : (Int32 × Hp) ⊕ (Hp)} {t : Option Value × Hp} (H : bX8_seeWhatCanCome_2 u0 s2 = some r) (kI : ∀ s, r = .inl s → (fun s2 => V Γ d mX8_seeWhatCanCome 2 [(0, .ref u0), (1, .int s2.1)] [] s2.2 t) s) (kE : ∀ e, r = .inr e → (fun e => V Γ d mX8_seeWhatCanCome 100 [] [] e t) e) : V Γ d mX8_seeWhatCanCome 2 [(0, .ref u0), (1, .int s2.1)] [] s2.2 t := by
  unfold bX8_seeWhatCanCome_2 at H
  refine v_iload_n (q := 3) 1 dX8_seeWhatCanCome_2 rfl rfl rfl ?_
  refine v_aload_n (q := 4) 0 dX8_seeWhatCanCome_3 rfl rfl rfl ?_
  replace H := bs H; obtain ⟨x1, x1e, H⟩ := H
  refine u_gR (q := 7) (r := (RX8, TX8, 19)) x1e dX8_seeWhatCanCome_4 w1109 rfl (by decide) rfl rfl ?_
  replace H := bs H; obtain ⟨x2, x2e, H⟩ := H
  refine u_gI (q := 10) (r := (RX5, TX5, 7)) x2e dX8_seeWhatCanCome_7 w0231 rfl (by decide) rfl rfl ?_
  refine v_icmp_ge (q1 := 100) (q2 := 13) dX8_seeWhatCanCome_10 (by decide) rfl (fun c3 => ?_) (fun c3 => ?_)
  · replace H := ip c3 H
    exact V.sub [] rfl (kE s2.2 (Option.some.inj H).symm)
  · replace H := ine c3 H
    refine v_aload_n (q := 14) 0 dX8_seeWhatCanCome_13 rfl rfl rfl ?_
    replace H := bs H; obtain ⟨x4, x4e, H⟩ := H
    refine u_gR (q := 17) (r := (RX8, TX8, 19)) x4e dX8_seeWhatCanCome_14 w1109 rfl (by decide) rfl rfl ?_
    replace H := bs H; obtain ⟨x5, x5e, H⟩ := H
    refine u_gR (q := 20) (r := (RX5, TX5, 7)) x5e dX8_seeWhatCanCome_17 w0240 rfl (by decide) rfl rfl ?_
    refine v_iload_n (q := 21) 1 dX8_seeWhatCanCome_20 rfl rfl rfl ?_
    replace H := bs H; obtain ⟨x6, x6e, H⟩ := H
    refine u_lI (q := 22) x6e dX8_seeWhatCanCome_21 rfl ?_
    replace H := bs H; obtain ⟨x7, x7e, H⟩ := H
    refine u_callSN1 (M' := mX11_contextOf) (d' := 1) (As := [.int x6]) (st := []) (q := 25) oX11_contextOf dX8_seeWhatCanCome_22 w1176 w0774 rfl (Nat.le_of_ble_eq_true rfl) (Nat.le_of_ble_eq_true rfl) (Nat.lt_of_lt_of_le (by decide) hd) rfl (sX11_contextOf (Nat.le_refl _) x7e) rfl ?_
    refine v_istore_n (L' := [(2, .int x7), (0, .ref u0), (1, .int s2.1)]) (q := 26) dX8_seeWhatCanCome_25 rfl (by decide) rfl rfl ?_
    refine v_iconst (v := 0) (q := 27) dX8_seeWhatCanCome_26 (by decide) rfl ?_
    refine v_istore_n (L' := [(3, .int (0 : Int32)), (2, .int x7), (0, .ref u0), (1, .int s2.1)]) (q := 28) dX8_seeWhatCanCome_27 rfl (by decide) rfl rfl ?_
    replace H := bs H; obtain ⟨e23, e23L, H⟩ := H
    refine V.sub [2, 3, 1, 0] rfl ?_
    refine lp_V (P := (fun s28 => V Γ d mX8_seeWhatCanCome 28 [(0, .ref u0), (1, .int s2.1), (2, .int s28.1), (3, .int s28.2.1)] [] s28.2.2 t)) (E := (fun e => V Γ d mX8_seeWhatCanCome 94 [(0, .ref u0), (1, .int s2.1)] [] e t)) (fun s r hb kI kE => sbX8_seeWhatCanCome_28 hd (s28 := s) (r := r) hb kI kE) FU (x7, (0 : Int32), s2.2) e23 e23L ?_
    replace H := bs H; obtain ⟨x24, x24e, H⟩ := H
    refine v_iinc (v := x24) (L' := [(1, .int x24), (0, .ref u0)]) (q := 97) 1 dX8_seeWhatCanCome_94 rfl (Option.some.inj x24e) (by decide) rfl rfl ?_
    refine v_goto (q := 2) dX8_seeWhatCanCome_97 (by decide) ?_
    exact V.sub [1, 0] rfl (kI (x24, e23) (Option.some.inj H).symm)
def fX8_seeWhatCanCome (h : Hp) (v0 : Nat) : Option (Hp) :=
(lp (bX8_seeWhatCanCome_2 v0) FU ((0 : Int32), h)).bind fun e25 =>
some e25
set_option maxRecDepth 20000 in
set_option maxHeartbeats 4000000 in
theorem sX8_seeWhatCanCome {Γ : Gm} {d : Nat} (hd : 3 ≤ d) {h : Hp} {v0 : Nat} {r : Hp} (H : fX8_seeWhatCanCome h v0 = some r) : V Γ d mX8_seeWhatCanCome 0 [(0, .ref v0)] [] h (none, r) := by
  unfold fX8_seeWhatCanCome at H
  refine v_iconst (v := 0) (q := 1) dX8_seeWhatCanCome_0 (by decide) rfl ?_
  refine v_istore_n (L' := [(1, .int (0 : Int32)), (0, .ref v0)]) (q := 2) dX8_seeWhatCanCome_1 rfl (by decide) rfl rfl ?_
  replace H := bs H; obtain ⟨e25, e25L, H⟩ := H
  refine V.sub [1, 0] rfl ?_
  refine lp_V (P := (fun s2 => V Γ d mX8_seeWhatCanCome 2 [(0, .ref v0), (1, .int s2.1)] [] s2.2 (none, r))) (E := (fun e => V Γ d mX8_seeWhatCanCome 100 [] [] e (none, r))) (fun s r hb kI kE => sbX8_seeWhatCanCome_2 hd (s2 := s) (r := r) hb kI kE) FU ((0 : Int32), h) e25 e25L ?_
  cases H
  exact v_return rfl dX8_seeWhatCanCome_100
def mX8_slotOf : MI := (yX8_slotOf, cX8_slotOf, 10, some .int)
theorem oX8_slotOf : mOK mX8_slotOf 2 := ⟨by decide +kernel, by decide +kernel, by decide +kernel, by decide, w1187, w0159⟩
def jX8_slotOf_91 (u0 : Nat) (u1 : Int64) (u3 : Int64) (v7 : Int32) (v8 : Int32) (h : Hp) : Option ((Int32 × Int32) ⊕ ((Unit) ⊕ ((Int32) ⊕ (Unit)))) :=
(some ((v7 + (1 : Int32)) &&& (8191 : Int32))).bind fun x14 =>
(some (v8 + (1 : Int32))).bind fun x15 =>
some (.inl (x14, x15))
set_option maxRecDepth 20000 in
set_option maxHeartbeats 4000000 in
theorem sjX8_slotOf_91 {Γ : Gm} {d : Nat} (hd : 1 ≤ d) {u0 : Nat} {u1 : Int64} {u3 : Int64} {v7 : Int32} {v8 : Int32} {h : Hp} {r : (Int32 × Int32) ⊕ ((Unit) ⊕ ((Int32) ⊕ (Unit)))} {t : Option Value × Hp} (H : jX8_slotOf_91 u0 u1 u3 v7 v8 h = some r) (kI : ∀ s, r = .inl s → (fun s24 => V Γ d mX8_slotOf 24 [(0, .ref u0), (1, .long u1), (3, .long u3), (7, .int s24.1), (8, .int s24.2)] [] h t) s) (kE : ∀ e, r = .inr e → (fun e => (match e with | .inl a0 => V Γ d mX8_slotOf 107 [] [] h t | .inr b0 => (match b0 with | .inl a1 => V Γ d mX8_slotOf 49 [(7, .int a1)] [] h t | .inr b1 => V Γ d mX8_slotOf 89 [] [] h t))) e) : V Γ d mX8_slotOf 91 [(0, .ref u0), (1, .long u1), (3, .long u3), (7, .int v7), (8, .int v8)] [] h t := by
  unfold jX8_slotOf_91 at H
  refine v_iload (q := 93) 3 dX8_slotOf_91 rfl rfl ?_
  refine v_iconst (v := 1) (q := 94) dX8_slotOf_93 (by decide) rfl ?_
  refine v_iadd (q := 95) dX8_slotOf_94 rfl ?_
  refine v_sipush (v := 8191) (q := 98) dX8_slotOf_95 (by decide) rfl ?_
  refine v_iand (q := 99) dX8_slotOf_98 rfl ?_
  replace H := bs H; obtain ⟨x14, x14e, H⟩ := H
  refine v_topi (Option.some.inj x14e) ?_
  refine v_istore (L' := [(7, .int x14), (0, .ref u0), (1, .long u1), (3, .long u3), (8, .int v8)]) (q := 101) dX8_slotOf_99 (by decide) rfl rfl ?_
  replace H := bs H; obtain ⟨x15, x15e, H⟩ := H
  refine v_iinc (v := x15) (L' := [(8, .int x15), (7, .int x14), (0, .ref u0), (1, .long u1), (3, .long u3)]) (q := 104) 4 dX8_slotOf_101 rfl (Option.some.inj x15e) (by decide) rfl rfl ?_
  refine v_goto (q := 24) dX8_slotOf_104 (by decide) ?_
  exact V.sub [2, 3, 4, 1, 0] rfl (kI (x14, x15) (Option.some.inj H).symm)
def bX8_slotOf_24 (u0 : Nat) (u1 : Int64) (u3 : Int64) (h : Hp) (s24 : Int32 × Int32) : Option ((Int32 × Int32) ⊕ ((Unit) ⊕ ((Int32) ⊕ (Unit)))) :=
if (8192 : Int32) ≤ s24.2 then (
some (.inr (.inl ()))) else (
(gR h 8 u0 13).bind fun x4 =>
(lI h .int x4 s24.1).bind fun x5 =>
(gI h 8 u0 14).bind fun x6 =>
if ((x5.toUInt32 >>> ((13 : Int32).toUInt32 &&& Int32.toUInt32 31)).toInt32) = x6 then (
(gR h 8 u0 13).bind fun x8 =>
(lI h .int x8 s24.1).bind fun x9 =>
(some (x9 &&& (8191 : Int32))).bind fun x10 =>
(gR h 8 u0 10).bind fun x11 =>
(lJ h x11 x10).bind fun x12 =>
if (lg_cmp x12 u1) = 0 then (
(gR h 8 u0 11).bind fun x16 =>
(lJ h x16 x10).bind fun x17 =>
if (lg_cmp x17 u3) = 0 then (
some (.inr (.inr (.inr ())))) else (
jX8_slotOf_91 u0 u1 u3 s24.1 s24.2 h)) else (
jX8_slotOf_91 u0 u1 u3 s24.1 s24.2 h)) else (
some (.inr (.inr (.inl s24.1)))))
set_option maxRecDepth 20000 in
set_option maxHeartbeats 4000000 in
theorem sbX8_slotOf_24 {Γ : Gm} {d : Nat} (hd : 1 ≤ d) {u0 : Nat} {u1 : Int64} {u3 : Int64} {h : Hp} {s24 : Int32 × Int32} {r : (Int32 × Int32) ⊕ ((Unit) ⊕ ((Int32) ⊕ (Unit)))} {t : Option Value × Hp} (H : bX8_slotOf_24 u0 u1 u3 h s24 = some r) (kI : ∀ s, r = .inl s → (fun s24 => V Γ d mX8_slotOf 24 [(0, .ref u0), (1, .long u1), (3, .long u3), (7, .int s24.1), (8, .int s24.2)] [] h t) s) (kE : ∀ e, r = .inr e → (fun e => (match e with | .inl a0 => V Γ d mX8_slotOf 107 [] [] h t | .inr b0 => (match b0 with | .inl a1 => V Γ d mX8_slotOf 49 [(7, .int a1)] [] h t | .inr b1 => V Γ d mX8_slotOf 89 [] [] h t))) e) : V Γ d mX8_slotOf 24 [(0, .ref u0), (1, .long u1), (3, .long u3), (7, .int s24.1), (8, .int s24.2)] [] h t := by
  unfold bX8_slotOf_24 at H
  refine v_iload (q := 26) 4 dX8_slotOf_24 rfl rfl ?_
  refine v_sipush (v := 8192) (q := 29) dX8_slotOf_26 (by decide) rfl ?_
  refine v_icmp_ge (q1 := 107) (q2 := 32) dX8_slotOf_29 (by decide) rfl (fun c3 => ?_) (fun c3 => ?_)
  · replace H := ip c3 H
    exact V.sub [] rfl (kE (.inl ()) (Option.some.inj H).symm)
  · replace H := ine c3 H
    refine v_aload_n (q := 33) 0 dX8_slotOf_32 rfl rfl rfl ?_
    replace H := bs H; obtain ⟨x4, x4e, H⟩ := H
    refine u_gR (q := 36) (r := (RX8, TX8, 19)) x4e dX8_slotOf_33 w1116 rfl (by decide) rfl rfl ?_
    refine v_iload (q := 38) 3 dX8_slotOf_36 rfl rfl ?_
    replace H := bs H; obtain ⟨x5, x5e, H⟩ := H
    refine u_lI (q := 39) x5e dX8_slotOf_38 rfl ?_
    refine v_bipush (v := 13) (q := 41) dX8_slotOf_39 (by decide) rfl ?_
    refine v_iushr (q := 42) dX8_slotOf_41 rfl ?_
    refine v_aload_n (q := 43) 0 dX8_slotOf_42 rfl rfl rfl ?_
    replace H := bs H; obtain ⟨x6, x6e, H⟩ := H
    refine u_gI (q := 46) (r := (RX8, TX8, 19)) x6e dX8_slotOf_43 w1117 rfl (by decide) rfl rfl ?_
    refine v_icmp_eq (q1 := 52) (q2 := 49) dX8_slotOf_46 (by decide) rfl (fun c7 => ?_) (fun c7 => ?_)
    · replace H := ip c7 H
      refine v_aload_n (q := 53) 0 dX8_slotOf_52 rfl rfl rfl ?_
      replace H := bs H; obtain ⟨x8, x8e, H⟩ := H
      refine u_gR (q := 56) (r := (RX8, TX8, 19)) x8e dX8_slotOf_53 w1116 rfl (by decide) rfl rfl ?_
      refine v_iload (q := 58) 3 dX8_slotOf_56 rfl rfl ?_
      replace H := bs H; obtain ⟨x9, x9e, H⟩ := H
      refine u_lI (q := 59) x9e dX8_slotOf_58 rfl ?_
      refine v_sipush (v := 8191) (q := 62) dX8_slotOf_59 (by decide) rfl ?_
      refine v_iand (q := 63) dX8_slotOf_62 rfl ?_
      replace H := bs H; obtain ⟨x10, x10e, H⟩ := H
      refine v_topi (Option.some.inj x10e) ?_
      refine v_istore (L' := [(9, .int x10), (0, .ref u0), (1, .long u1), (3, .long u3), (7, .int s24.1), (8, .int s24.2)]) (q := 65) dX8_slotOf_63 (by decide) rfl rfl ?_
      refine v_aload_n (q := 66) 1 dX8_slotOf_65 rfl rfl rfl ?_
      replace H := bs H; obtain ⟨x11, x11e, H⟩ := H
      refine u_gR (q := 69) (r := (RX8, TX8, 19)) x11e dX8_slotOf_66 w1113 rfl (by decide) rfl rfl ?_
      refine v_iload (q := 71) 0 dX8_slotOf_69 rfl rfl ?_
      replace H := bs H; obtain ⟨x12, x12e, H⟩ := H
      refine u_lJ (q := 72) x12e dX8_slotOf_71 rfl ?_
      refine v_lload_n (q := 73) 2 dX8_slotOf_72 rfl rfl rfl ?_
      refine v_lcmp (q := 74) dX8_slotOf_73 rfl ?_
      refine v_if_ne (q1 := 91) (q2 := 77) dX8_slotOf_74 (by decide) rfl (fun c13 => ?_) (fun c13 => ?_)
      · replace H := ine c13 H
        exact V.sub [1, 2, 3, 4, 5] rfl (sjX8_slotOf_91 hd H kI kE)
      · replace H := ip c13 H
        refine v_aload_n (q := 78) 1 dX8_slotOf_77 rfl rfl rfl ?_
        replace H := bs H; obtain ⟨x16, x16e, H⟩ := H
        refine u_gR (q := 81) (r := (RX8, TX8, 19)) x16e dX8_slotOf_78 w1114 rfl (by decide) rfl rfl ?_
        refine v_iload (q := 83) 0 dX8_slotOf_81 rfl rfl ?_
        replace H := bs H; obtain ⟨x17, x17e, H⟩ := H
        refine u_lJ (q := 84) x17e dX8_slotOf_83 rfl ?_
        refine v_lload_n (q := 85) 3 dX8_slotOf_84 rfl rfl rfl ?_
        refine v_lcmp (q := 86) dX8_slotOf_85 rfl ?_
        refine v_if_ne (q1 := 91) (q2 := 89) dX8_slotOf_86 (by decide) rfl (fun c18 => ?_) (fun c18 => ?_)
        · replace H := ine c18 H
          exact V.sub [1, 2, 3, 4, 5] rfl (sjX8_slotOf_91 hd H kI kE)
        · replace H := ip c18 H
          exact V.sub [] rfl (kE (.inr (.inr ())) (Option.some.inj H).symm)
    · replace H := ine c7 H
      exact V.sub [3] rfl (kE (.inr (.inl s24.1)) (Option.some.inj H).symm)
def fX8_slotOf (h : Hp) (v0 : Nat) (v1 : Int64) (v3 : Int64) : Option (Int32) :=
(some (((v1 * (-7046029254386353131 : Int64)) ^^^ v3) * (-4417276706812531889 : Int64))).bind fun x1 =>
(some (((x1.toUInt64 >>> ((51 : Int32).toInt64.toUInt64 &&& Int64.toUInt64 63)).toInt64).toInt32)).bind fun x2 =>
(lp (bX8_slotOf_24 v0 v1 v3 h) FU (x2, (0 : Int32))).bind fun e19 =>
(match e19 with
| .inl e20 => (
some (-1 : Int32))
| .inr e21 => (
(match e21 with
| .inl e22 => (
some e22)
| .inr e23 => (
some (-1 : Int32)))))
set_option maxRecDepth 20000 in
set_option maxHeartbeats 4000000 in
theorem sX8_slotOf {Γ : Gm} {d : Nat} (hd : 1 ≤ d) {h : Hp} {v0 : Nat} {v1 : Int64} {v3 : Int64} {r : Int32} (H : fX8_slotOf h v0 v1 v3 = some r) : V Γ d mX8_slotOf 0 [(0, .ref v0), (1, .long v1), (3, .long v3)] [] h (some (.int r), h) := by
  unfold fX8_slotOf at H
  refine v_lload_n (q := 1) 1 dX8_slotOf_0 rfl rfl rfl ?_
  refine v_ldc2 (v := -7046029254386353131) (q := 4) dX8_slotOf_1 w1188 rfl ?_
  refine v_lmul (q := 5) dX8_slotOf_4 rfl ?_
  refine v_lload_n (q := 6) 2 dX8_slotOf_5 rfl rfl rfl ?_
  refine v_lxor (q := 7) dX8_slotOf_6 rfl ?_
  refine v_ldc2 (v := -4417276706812531889) (q := 10) dX8_slotOf_7 w1189 rfl ?_
  refine v_lmul (q := 11) dX8_slotOf_10 rfl ?_
  replace H := bs H; obtain ⟨x1, x1e, H⟩ := H
  refine v_topj (Option.some.inj x1e) ?_
  refine v_lstore (L' := [(5, .long x1), (0, .ref v0), (1, .long v1), (3, .long v3)]) (q := 13) dX8_slotOf_11 (by decide) rfl rfl ?_
  refine v_lload (q := 15) 0 dX8_slotOf_13 rfl rfl ?_
  refine v_bipush (v := 51) (q := 17) dX8_slotOf_15 (by decide) rfl ?_
  refine v_lushr (q := 18) dX8_slotOf_17 rfl ?_
  refine v_l2i (q := 19) dX8_slotOf_18 rfl ?_
  replace H := bs H; obtain ⟨x2, x2e, H⟩ := H
  refine v_topi (Option.some.inj x2e) ?_
  refine v_istore (L' := [(7, .int x2), (5, .long x1), (0, .ref v0), (1, .long v1), (3, .long v3)]) (q := 21) dX8_slotOf_19 (by decide) rfl rfl ?_
  refine v_iconst (v := 0) (q := 22) dX8_slotOf_21 (by decide) rfl ?_
  refine v_istore (L' := [(8, .int (0 : Int32)), (7, .int x2), (5, .long x1), (0, .ref v0), (1, .long v1), (3, .long v3)]) (q := 24) dX8_slotOf_22 (by decide) rfl rfl ?_
  replace H := bs H; obtain ⟨e19, e19L, H⟩ := H
  refine V.sub [3, 4, 5, 1, 0] rfl ?_
  refine lp_V (P := (fun s24 => V Γ d mX8_slotOf 24 [(0, .ref v0), (1, .long v1), (3, .long v3), (7, .int s24.1), (8, .int s24.2)] [] h (some (.int r), h))) (E := (fun e => (match e with | .inl a0 => V Γ d mX8_slotOf 107 [] [] h (some (.int r), h) | .inr b0 => (match b0 with | .inl a1 => V Γ d mX8_slotOf 49 [(7, .int a1)] [] h (some (.int r), h) | .inr b1 => V Γ d mX8_slotOf 89 [] [] h (some (.int r), h))))) (fun s r hb kI kE => sbX8_slotOf_24 hd (s24 := s) (r := r) hb kI kE) FU (x2, (0 : Int32)) e19 e19L ?_
  rcases e19 with e20 | e21
  · skip
    refine v_iconst (v := -1) (q := 108) dX8_slotOf_107 (by decide) rfl ?_
    cases H
    exact v_ireturn rfl dX8_slotOf_108
  · skip
    rcases e21 with e22 | e23
    · skip
      refine v_iload (q := 51) 0 dX8_slotOf_49 rfl rfl ?_
      cases H
      exact v_ireturn rfl dX8_slotOf_51
    · skip
      refine v_iconst (v := -1) (q := 90) dX8_slotOf_89 (by decide) rfl ?_
      cases H
      exact v_ireturn rfl dX8_slotOf_90
def mX8_keep : MI := (yX8_keep, cX8_keep, 7, some .boolean)
theorem oX8_keep : mOK mX8_keep 3 := ⟨by decide +kernel, by decide +kernel, by decide +kernel, by decide, w1183, w0159⟩
def fX8_keep (h : Hp) (v0 : Nat) (v1 : Int64) (v3 : Int64) (v5 : Int32) : Option (Int32 × Hp) :=
(gO h 8 v0).bind fun _ =>
(fX8_slotOf h v0 v1 v3).bind fun x2 =>
if x2 = (-1 : Int32) then (
some (((0 : Int32), h))) else (
(gI h 8 v0 1).bind fun x4 =>
if x4 = (4000 : Int32) then (
(pI h 8 v0 0 (2 : Int32)).bind fun h21 =>
some (((0 : Int32), h21))) else (
(gR h 8 v0 10).bind fun x6 =>
(gI h 8 v0 1).bind fun x7 =>
(tJ h x6 x7 v1).bind fun h8 =>
(gR h8 8 v0 11).bind fun x9 =>
(gI h8 8 v0 1).bind fun x10 =>
(tJ h8 x9 x10 v3).bind fun h11 =>
(gR h11 8 v0 12).bind fun x12 =>
(gI h11 8 v0 1).bind fun x13 =>
(tI h11 x12 x13 v5).bind fun h14 =>
(gR h14 8 v0 13).bind fun x15 =>
(gI h14 8 v0 14).bind fun x16 =>
(gI h14 8 v0 1).bind fun x17 =>
(tI h14 x15 x2 ((x16 <<< ((13 : Int32) &&& 31)) ||| x17)).bind fun h18 =>
(gI h18 8 v0 1).bind fun x19 =>
(pI h18 8 v0 1 (x19 + (1 : Int32))).bind fun h20 =>
some (((1 : Int32), h20))))
set_option maxRecDepth 20000 in
set_option maxHeartbeats 4000000 in
theorem sX8_keep {Γ : Gm} {d : Nat} (hd : 2 ≤ d) {h : Hp} {v0 : Nat} {v1 : Int64} {v3 : Int64} {v5 : Int32} {r : Int32 × Hp} (H : fX8_keep h v0 v1 v3 v5 = some r) : V Γ d mX8_keep 0 [(0, .ref v0), (1, .long v1), (3, .long v3), (5, .int v5)] [] h (some (.int r.1), r.2) := by
  unfold fX8_keep at H
  refine v_aload_n (q := 1) 0 dX8_keep_0 rfl rfl rfl ?_
  refine v_lload_n (q := 2) 1 dX8_keep_1 rfl rfl rfl ?_
  refine v_lload_n (q := 3) 2 dX8_keep_2 rfl rfl rfl ?_
  replace H := bs H; obtain ⟨_, o1, H⟩ := H
  replace H := bs H; obtain ⟨x2, x2e, H⟩ := H
  refine u_callV1 (M' := mX8_slotOf) (d' := 1) (rc := (RX8, TX8, 19)) (As := [.long v1, .long v3]) (st := []) (q := 6) oX8_slotOf dX8_keep_3 w1184 w1186 w0040 rfl rfl (gO_sp o1).1 (gO_sp o1).2 rfl (Nat.le_of_ble_eq_true rfl) (Nat.le_of_ble_eq_true rfl) (Nat.lt_of_lt_of_le (by decide) hd) rfl (sX8_slotOf (Nat.le_refl _) x2e) rfl ?_
  refine v_istore (L' := [(6, .int x2), (0, .ref v0), (1, .long v1), (3, .long v3), (5, .int v5)]) (q := 8) dX8_keep_6 (by decide) rfl rfl ?_
  refine v_iload (q := 10) 0 dX8_keep_8 rfl rfl ?_
  refine v_iconst (v := -1) (q := 11) dX8_keep_10 (by decide) rfl ?_
  refine v_icmp_ne (q1 := 16) (q2 := 14) dX8_keep_11 (by decide) rfl (fun c3 => ?_) (fun c3 => ?_)
  · replace H := ine c3 H
    refine v_aload_n (q := 17) 1 dX8_keep_16 rfl rfl rfl ?_
    replace H := bs H; obtain ⟨x4, x4e, H⟩ := H
    refine u_gI (q := 20) (r := (RX8, TX8, 19)) x4e dX8_keep_17 w1099 rfl (by decide) rfl rfl ?_
    refine v_sipush (v := 4000) (q := 23) dX8_keep_20 (by decide) rfl ?_
    refine v_icmp_ne (q1 := 33) (q2 := 26) dX8_keep_23 (by decide) rfl (fun c5 => ?_) (fun c5 => ?_)
    · replace H := ine c5 H
      refine v_aload_n (q := 34) 1 dX8_keep_33 rfl rfl rfl ?_
      replace H := bs H; obtain ⟨x6, x6e, H⟩ := H
      refine u_gR (q := 37) (r := (RX8, TX8, 19)) x6e dX8_keep_34 w1113 rfl (by decide) rfl rfl ?_
      refine v_aload_n (q := 38) 1 dX8_keep_37 rfl rfl rfl ?_
      replace H := bs H; obtain ⟨x7, x7e, H⟩ := H
      refine u_gI (q := 41) (r := (RX8, TX8, 19)) x7e dX8_keep_38 w1099 rfl (by decide) rfl rfl ?_
      refine v_lload_n (q := 42) 2 dX8_keep_41 rfl rfl rfl ?_
      replace H := bs H; obtain ⟨h8, h8e, H⟩ := H
      refine u_tJ (q := 43) h8e dX8_keep_42 rfl ?_
      refine v_aload_n (q := 44) 1 dX8_keep_43 rfl rfl rfl ?_
      replace H := bs H; obtain ⟨x9, x9e, H⟩ := H
      refine u_gR (q := 47) (r := (RX8, TX8, 19)) x9e dX8_keep_44 w1114 rfl (by decide) rfl rfl ?_
      refine v_aload_n (q := 48) 1 dX8_keep_47 rfl rfl rfl ?_
      replace H := bs H; obtain ⟨x10, x10e, H⟩ := H
      refine u_gI (q := 51) (r := (RX8, TX8, 19)) x10e dX8_keep_48 w1099 rfl (by decide) rfl rfl ?_
      refine v_lload_n (q := 52) 3 dX8_keep_51 rfl rfl rfl ?_
      replace H := bs H; obtain ⟨h11, h11e, H⟩ := H
      refine u_tJ (q := 53) h11e dX8_keep_52 rfl ?_
      refine v_aload_n (q := 54) 1 dX8_keep_53 rfl rfl rfl ?_
      replace H := bs H; obtain ⟨x12, x12e, H⟩ := H
      refine u_gR (q := 57) (r := (RX8, TX8, 19)) x12e dX8_keep_54 w1115 rfl (by decide) rfl rfl ?_
      refine v_aload_n (q := 58) 1 dX8_keep_57 rfl rfl rfl ?_
      replace H := bs H; obtain ⟨x13, x13e, H⟩ := H
      refine u_gI (q := 61) (r := (RX8, TX8, 19)) x13e dX8_keep_58 w1099 rfl (by decide) rfl rfl ?_
      refine v_iload (q := 63) 4 dX8_keep_61 rfl rfl ?_
      replace H := bs H; obtain ⟨h14, h14e, H⟩ := H
      refine u_tI (q := 64) h14e dX8_keep_63 rfl ?_
      refine v_aload_n (q := 65) 1 dX8_keep_64 rfl rfl rfl ?_
      replace H := bs H; obtain ⟨x15, x15e, H⟩ := H
      refine u_gR (q := 68) (r := (RX8, TX8, 19)) x15e dX8_keep_65 w1116 rfl (by decide) rfl rfl ?_
      refine v_iload (q := 70) 0 dX8_keep_68 rfl rfl ?_
      refine v_aload_n (q := 71) 1 dX8_keep_70 rfl rfl rfl ?_
      replace H := bs H; obtain ⟨x16, x16e, H⟩ := H
      refine u_gI (q := 74) (r := (RX8, TX8, 19)) x16e dX8_keep_71 w1117 rfl (by decide) rfl rfl ?_
      refine v_bipush (v := 13) (q := 76) dX8_keep_74 (by decide) rfl ?_
      refine v_ishl (q := 77) dX8_keep_76 rfl ?_
      refine v_aload_n (q := 78) 1 dX8_keep_77 rfl rfl rfl ?_
      replace H := bs H; obtain ⟨x17, x17e, H⟩ := H
      refine u_gI (q := 81) (r := (RX8, TX8, 19)) x17e dX8_keep_78 w1099 rfl (by decide) rfl rfl ?_
      refine v_ior (q := 82) dX8_keep_81 rfl ?_
      replace H := bs H; obtain ⟨h18, h18e, H⟩ := H
      refine u_tI (q := 83) h18e dX8_keep_82 rfl ?_
      refine v_aload_n (q := 84) 1 dX8_keep_83 rfl rfl rfl ?_
      refine v_dup (q := 85) dX8_keep_84 rfl rfl ?_
      replace H := bs H; obtain ⟨x19, x19e, H⟩ := H
      refine u_gI (q := 88) (r := (RX8, TX8, 19)) x19e dX8_keep_85 w1099 rfl (by decide) rfl rfl ?_
      refine v_iconst (v := 1) (q := 89) dX8_keep_88 (by decide) rfl ?_
      refine v_iadd (q := 90) dX8_keep_89 rfl ?_
      replace H := bs H; obtain ⟨h20, h20e, H⟩ := H
      refine u_pI (q := 93) (r := (RX8, TX8, 19)) h20e dX8_keep_90 w1099 rfl (by decide) (Or.inl rfl) rfl rfl ?_
      refine v_iconst (v := 1) (q := 94) dX8_keep_93 (by decide) rfl ?_
      cases H
      exact v_zreturn rfl (by decide) dX8_keep_94
    · replace H := ip c5 H
      refine v_aload_n (q := 27) 1 dX8_keep_26 rfl rfl rfl ?_
      refine v_iconst (v := 2) (q := 28) dX8_keep_27 (by decide) rfl ?_
      replace H := bs H; obtain ⟨h21, h21e, H⟩ := H
      refine u_pI (q := 31) (r := (RX8, TX8, 19)) h21e dX8_keep_28 w1097 rfl (by decide) (Or.inl rfl) rfl rfl ?_
      refine v_iconst (v := 0) (q := 32) dX8_keep_31 (by decide) rfl ?_
      cases H
      exact v_zreturn rfl (by decide) dX8_keep_32
  · replace H := ip c3 H
    refine v_iconst (v := 0) (q := 15) dX8_keep_14 (by decide) rfl ?_
    cases H
    exact v_zreturn rfl (by decide) dX8_keep_15
def mX11_has : MI := (yX11_has, cX11_has, 2, some .boolean)
theorem oX11_has : mOK mX11_has 2 := ⟨by decide +kernel, by decide +kernel, by decide +kernel, by decide, w0784, w0139⟩
def jX11_has_13 (y0 : Int32) (h : Hp) : Option (Int32) :=
(bz y0).bind fun x2 =>
some x2
set_option maxRecDepth 20000 in
set_option maxHeartbeats 4000000 in
theorem sjX11_has_13 {Γ : Gm} {d : Nat} (hd : 1 ≤ d) {y0 : Int32} {h : Hp} {r : Int32} (H : jX11_has_13 y0 h = some r) : V Γ d mX11_has 13 [] [.int y0] h (some (.int r), h) := by
  unfold jX11_has_13 at H
  replace H := bs H; obtain ⟨x2, x2e, H⟩ := H
  obtain ⟨x2q, x2z⟩ := bz_sp x2e
  refine v_topi x2q.symm ?_
  cases H
  exact v_zreturn rfl (by rw [x2q]; exact x2z) dX11_has_13
def fX11_has (h : Hp) (v0 : Int32) (v1 : Int32) : Option (Int32) :=
if ((v0 >>> (v1 &&& 31)) &&& (1 : Int32)) = 0 then (
jX11_has_13 (0 : Int32) h) else (
jX11_has_13 (1 : Int32) h)
set_option maxRecDepth 20000 in
set_option maxHeartbeats 4000000 in
theorem sX11_has {Γ : Gm} {d : Nat} (hd : 1 ≤ d) {h : Hp} {v0 : Int32} {v1 : Int32} {r : Int32} (H : fX11_has h v0 v1 = some r) : V Γ d mX11_has 0 [(0, .int v0), (1, .int v1)] [] h (some (.int r), h) := by
  unfold fX11_has at H
  refine v_iload_n (q := 1) 0 dX11_has_0 rfl rfl rfl ?_
  refine v_iload_n (q := 2) 1 dX11_has_1 rfl rfl rfl ?_
  refine v_ishr (q := 3) dX11_has_2 rfl ?_
  refine v_iconst (v := 1) (q := 4) dX11_has_3 (by decide) rfl ?_
  refine v_iand (q := 5) dX11_has_4 rfl ?_
  refine v_if_eq (q1 := 12) (q2 := 8) dX11_has_5 (by decide) rfl (fun c1 => ?_) (fun c1 => ?_)
  · replace H := ip c1 H
    refine v_iconst (v := 0) (q := 13) dX11_has_12 (by decide) rfl ?_
    exact V.sub [] rfl (sjX11_has_13 hd H)
  · replace H := ine c1 H
    refine v_iconst (v := 1) (q := 9) dX11_has_8 (by decide) rfl ?_
    refine v_goto (q := 13) dX11_has_9 (by decide) ?_
    exact V.sub [] rfl (sjX11_has_13 hd H)
def mX8_onTop : MI := (yX8_onTop, cX8_onTop, 6, some .int)
theorem oX8_onTop : mOK mX8_onTop 2 := ⟨by decide +kernel, by decide +kernel, by decide +kernel, by decide, w1198, w0159⟩
def jX8_onTop_42 (v4 : Int32) (h : Hp) : Option (Int32) :=
some v4
set_option maxRecDepth 20000 in
set_option maxHeartbeats 4000000 in
theorem sjX8_onTop_42 {Γ : Gm} {d : Nat} (hd : 1 ≤ d) {v4 : Int32} {h : Hp} {r : Int32} (H : jX8_onTop_42 v4 h = some r) : V Γ d mX8_onTop 42 [(4, .int v4)] [] h (some (.int r), h) := by
  unfold jX8_onTop_42 at H
  refine v_iload (q := 44) 0 dX8_onTop_42 rfl rfl ?_
  cases H
  exact v_ireturn rfl dX8_onTop_44
def jX8_onTop_144 (u0 : Nat) (u1 : Int64) (u3 : Int32) (v4 : Int32) (v5 : Int32) (h : Hp) : Option ((Int32 × Int32) ⊕ (Int32)) :=
(some (v5 + (1 : Int32))).bind fun x13 =>
some (.inl (v4, x13))
set_option maxRecDepth 20000 in
set_option maxHeartbeats 4000000 in
theorem sjX8_onTop_144 {Γ : Gm} {d : Nat} (hd : 1 ≤ d) {u0 : Nat} {u1 : Int64} {u3 : Int32} {v4 : Int32} {v5 : Int32} {h : Hp} {r : (Int32 × Int32) ⊕ (Int32)} {t : Option Value × Hp} (H : jX8_onTop_144 u0 u1 u3 v4 v5 h = some r) (kI : ∀ s, r = .inl s → (fun s48 => V Γ d mX8_onTop 48 [(0, .ref u0), (1, .long u1), (3, .int u3), (4, .int s48.1), (5, .int s48.2)] [] h t) s) (kE : ∀ e, r = .inr e → (fun e => V Γ d mX8_onTop 150 [(4, .int e)] [] h t) e) : V Γ d mX8_onTop 144 [(0, .ref u0), (1, .long u1), (3, .int u3), (4, .int v4), (5, .int v5)] [] h t := by
  unfold jX8_onTop_144 at H
  replace H := bs H; obtain ⟨x13, x13e, H⟩ := H
  refine v_iinc (v := x13) (L' := [(5, .int x13), (0, .ref u0), (1, .long u1), (3, .int u3), (4, .int v4)]) (q := 147) 4 dX8_onTop_144 rfl (Option.some.inj x13e) (by decide) rfl rfl ?_
  refine v_goto (q := 48) dX8_onTop_147 (by decide) ?_
  exact V.sub [1, 2, 3, 4, 0] rfl (kI (v4, x13) (Option.some.inj H).symm)
def bX8_onTop_48 (u0 : Nat) (u1 : Int64) (u3 : Int32) (h : Hp) (s48 : Int32 × Int32) : Option ((Int32 × Int32) ⊕ (Int32)) :=
(gR h 8 u0 6).bind fun x8 =>
(gI h 5 x8 2).bind fun x9 =>
if x9 ≤ s48.2 then (
some (.inr s48.1)) else (
(gI h 8 u0 9).bind fun x11 =>
if ((x11 >>> (s48.2 &&& 31)) &&& (1 : Int32)) = 0 then (
jX8_onTop_144 u0 u1 u3 s48.1 s48.2 h) else (
if (lg_cmp (((u1.toUInt64 >>> (((24 : Int32) + ((3 : Int32) * s48.2)).toInt64.toUInt64 &&& Int64.toUInt64 63)).toInt64) &&& (7 : Int64)) ((u3 + (1 : Int32)).toInt64)) = 0 then (
(gR h 8 u0 6).bind fun x15 =>
(gR h 5 x15 5).bind fun x16 =>
(lI h .int x16 s48.2).bind fun x17 =>
if x17 ≤ ((((u1.toUInt64 >>> (((4 : Int32) * s48.2).toInt64.toUInt64 &&& Int64.toUInt64 63)).toInt64) &&& (15 : Int64)).toInt32) then (
jX8_onTop_144 u0 u1 u3 s48.1 s48.2 h) else (
(gR h 8 u0 6).bind fun x19 =>
(gR h 5 x19 4).bind fun x20 =>
(lI h .int x20 s48.2).bind fun x21 =>
(gR h 8 u0 6).bind fun x22 =>
(gR h 5 x22 4).bind fun x23 =>
(lI h .int x23 s48.1).bind fun x24 =>
if x21 ≤ x24 then (
jX8_onTop_144 u0 u1 u3 s48.1 s48.2 h) else (
jX8_onTop_144 u0 u1 u3 s48.2 s48.2 h))) else (
jX8_onTop_144 u0 u1 u3 s48.1 s48.2 h)))
set_option maxRecDepth 20000 in
set_option maxHeartbeats 4000000 in
theorem sbX8_onTop_48 {Γ : Gm} {d : Nat} (hd : 1 ≤ d) {u0 : Nat} {u1 : Int64} {u3 : Int32} {h : Hp} {s48 : Int32 × Int32} {r : (Int32 × Int32) ⊕ (Int32)} {t : Option Value × Hp} (H : bX8_onTop_48 u0 u1 u3 h s48 = some r) (kI : ∀ s, r = .inl s → (fun s48 => V Γ d mX8_onTop 48 [(0, .ref u0), (1, .long u1), (3, .int u3), (4, .int s48.1), (5, .int s48.2)] [] h t) s) (kE : ∀ e, r = .inr e → (fun e => V Γ d mX8_onTop 150 [(4, .int e)] [] h t) e) : V Γ d mX8_onTop 48 [(0, .ref u0), (1, .long u1), (3, .int u3), (4, .int s48.1), (5, .int s48.2)] [] h t := by
  unfold bX8_onTop_48 at H
  refine v_iload (q := 50) 4 dX8_onTop_48 rfl rfl ?_
  refine v_aload_n (q := 51) 0 dX8_onTop_50 rfl rfl rfl ?_
  replace H := bs H; obtain ⟨x8, x8e, H⟩ := H
  refine u_gR (q := 54) (r := (RX8, TX8, 19)) x8e dX8_onTop_51 w1109 rfl (by decide) rfl rfl ?_
  replace H := bs H; obtain ⟨x9, x9e, H⟩ := H
  refine u_gI (q := 57) (r := (RX5, TX5, 7)) x9e dX8_onTop_54 w0231 rfl (by decide) rfl rfl ?_
  refine v_icmp_ge (q1 := 150) (q2 := 60) dX8_onTop_57 (by decide) rfl (fun c10 => ?_) (fun c10 => ?_)
  · replace H := ip c10 H
    exact V.sub [3] rfl (kE s48.1 (Option.some.inj H).symm)
  · replace H := ine c10 H
    refine v_aload_n (q := 61) 0 dX8_onTop_60 rfl rfl rfl ?_
    replace H := bs H; obtain ⟨x11, x11e, H⟩ := H
    refine u_gI (q := 64) (r := (RX8, TX8, 19)) x11e dX8_onTop_61 w1112 rfl (by decide) rfl rfl ?_
    refine v_iload (q := 66) 4 dX8_onTop_64 rfl rfl ?_
    refine v_ishr (q := 67) dX8_onTop_66 rfl ?_
    refine v_iconst (v := 1) (q := 68) dX8_onTop_67 (by decide) rfl ?_
    refine v_iand (q := 69) dX8_onTop_68 rfl ?_
    refine v_if_eq (q1 := 144) (q2 := 72) dX8_onTop_69 (by decide) rfl (fun c12 => ?_) (fun c12 => ?_)
    · replace H := ip c12 H
      exact V.sub [0, 1, 2, 3, 4] rfl (sjX8_onTop_144 hd H kI kE)
    · replace H := ine c12 H
      refine v_lload_n (q := 73) 1 dX8_onTop_72 rfl rfl rfl ?_
      refine v_bipush (v := 24) (q := 75) dX8_onTop_73 (by decide) rfl ?_
      refine v_iconst (v := 3) (q := 76) dX8_onTop_75 (by decide) rfl ?_
      refine v_iload (q := 78) 4 dX8_onTop_76 rfl rfl ?_
      refine v_imul (q := 79) dX8_onTop_78 rfl ?_
      refine v_iadd (q := 80) dX8_onTop_79 rfl ?_
      refine v_lushr (q := 81) dX8_onTop_80 rfl ?_
      refine v_ldc2 (v := 7) (q := 84) dX8_onTop_81 w1200 rfl ?_
      refine v_land (q := 85) dX8_onTop_84 rfl ?_
      refine v_iload_n (q := 86) 2 dX8_onTop_85 rfl rfl rfl ?_
      refine v_iconst (v := 1) (q := 87) dX8_onTop_86 (by decide) rfl ?_
      refine v_iadd (q := 88) dX8_onTop_87 rfl ?_
      refine v_i2l (q := 89) dX8_onTop_88 rfl ?_
      refine v_lcmp (q := 90) dX8_onTop_89 rfl ?_
      refine v_if_ne (q1 := 144) (q2 := 93) dX8_onTop_90 (by decide) rfl (fun c14 => ?_) (fun c14 => ?_)
      · replace H := ine c14 H
        exact V.sub [0, 1, 2, 3, 4] rfl (sjX8_onTop_144 hd H kI kE)
      · replace H := ip c14 H
        refine v_lload_n (q := 94) 1 dX8_onTop_93 rfl rfl rfl ?_
        refine v_iconst (v := 4) (q := 95) dX8_onTop_94 (by decide) rfl ?_
        refine v_iload (q := 97) 4 dX8_onTop_95 rfl rfl ?_
        refine v_imul (q := 98) dX8_onTop_97 rfl ?_
        refine v_lushr (q := 99) dX8_onTop_98 rfl ?_
        refine v_ldc2 (v := 15) (q := 102) dX8_onTop_99 w1199 rfl ?_
        refine v_land (q := 103) dX8_onTop_102 rfl ?_
        refine v_l2i (q := 104) dX8_onTop_103 rfl ?_
        refine v_aload_n (q := 105) 0 dX8_onTop_104 rfl rfl rfl ?_
        replace H := bs H; obtain ⟨x15, x15e, H⟩ := H
        refine u_gR (q := 108) (r := (RX8, TX8, 19)) x15e dX8_onTop_105 w1109 rfl (by decide) rfl rfl ?_
        replace H := bs H; obtain ⟨x16, x16e, H⟩ := H
        refine u_gR (q := 111) (r := (RX5, TX5, 7)) x16e dX8_onTop_108 w0246 rfl (by decide) rfl rfl ?_
        refine v_iload (q := 113) 4 dX8_onTop_111 rfl rfl ?_
        replace H := bs H; obtain ⟨x17, x17e, H⟩ := H
        refine u_lI (q := 114) x17e dX8_onTop_113 rfl ?_
        refine v_icmp_ge (q1 := 144) (q2 := 117) dX8_onTop_114 (by decide) rfl (fun c18 => ?_) (fun c18 => ?_)
        · replace H := ip c18 H
          exact V.sub [0, 1, 2, 3, 4] rfl (sjX8_onTop_144 hd H kI kE)
        · replace H := ine c18 H
          refine v_aload_n (q := 118) 0 dX8_onTop_117 rfl rfl rfl ?_
          replace H := bs H; obtain ⟨x19, x19e, H⟩ := H
          refine u_gR (q := 121) (r := (RX8, TX8, 19)) x19e dX8_onTop_118 w1109 rfl (by decide) rfl rfl ?_
          replace H := bs H; obtain ⟨x20, x20e, H⟩ := H
          refine u_gR (q := 124) (r := (RX5, TX5, 7)) x20e dX8_onTop_121 w0240 rfl (by decide) rfl rfl ?_
          refine v_iload (q := 126) 4 dX8_onTop_124 rfl rfl ?_
          replace H := bs H; obtain ⟨x21, x21e, H⟩ := H
          refine u_lI (q := 127) x21e dX8_onTop_126 rfl ?_
          refine v_aload_n (q := 128) 0 dX8_onTop_127 rfl rfl rfl ?_
          replace H := bs H; obtain ⟨x22, x22e, H⟩ := H
          refine u_gR (q := 131) (r := (RX8, TX8, 19)) x22e dX8_onTop_128 w1109 rfl (by decide) rfl rfl ?_
          replace H := bs H; obtain ⟨x23, x23e, H⟩ := H
          refine u_gR (q := 134) (r := (RX5, TX5, 7)) x23e dX8_onTop_131 w0240 rfl (by decide) rfl rfl ?_
          refine v_iload (q := 136) 3 dX8_onTop_134 rfl rfl ?_
          replace H := bs H; obtain ⟨x24, x24e, H⟩ := H
          refine u_lI (q := 137) x24e dX8_onTop_136 rfl ?_
          refine v_icmp_le (q1 := 144) (q2 := 140) dX8_onTop_137 (by decide) rfl (fun c25 => ?_) (fun c25 => ?_)
          · replace H := ip c25 H
            exact V.sub [0, 1, 2, 3, 4] rfl (sjX8_onTop_144 hd H kI kE)
          · replace H := ine c25 H
            refine v_iload (q := 142) 4 dX8_onTop_140 rfl rfl ?_
            refine v_istore (L' := [(4, .int s48.2), (0, .ref u0), (1, .long u1), (3, .int u3), (5, .int s48.2)]) (q := 144) dX8_onTop_142 (by decide) rfl rfl ?_
            exact V.sub [1, 2, 3, 0, 4] rfl (sjX8_onTop_144 hd H kI kE)
def jX8_onTop_27 (v0 : Nat) (v1 : Int64) (v3 : Int32) (y0 : Int32) (h : Hp) : Option (Int32) :=
(gI h 8 v0 9).bind fun x5 =>
if x5 = 0 then (
jX8_onTop_42 y0 h) else (
if y0 = (-1 : Int32) then (
jX8_onTop_42 y0 h) else (
(lp (bX8_onTop_48 v0 v1 v3 h) FU (y0, (0 : Int32))).bind fun e26 =>
some e26))
set_option maxRecDepth 20000 in
set_option maxHeartbeats 4000000 in
theorem sjX8_onTop_27 {Γ : Gm} {d : Nat} (hd : 1 ≤ d) {v0 : Nat} {v1 : Int64} {v3 : Int32} {y0 : Int32} {h : Hp} {r : Int32} (H : jX8_onTop_27 v0 v1 v3 y0 h = some r) : V Γ d mX8_onTop 27 [(0, .ref v0), (1, .long v1), (3, .int v3)] [.int y0] h (some (.int r), h) := by
  unfold jX8_onTop_27 at H
  refine v_istore (L' := [(4, .int y0), (0, .ref v0), (1, .long v1), (3, .int v3)]) (q := 29) dX8_onTop_27 (by decide) rfl rfl ?_
  refine v_aload_n (q := 30) 1 dX8_onTop_29 rfl rfl rfl ?_
  replace H := bs H; obtain ⟨x5, x5e, H⟩ := H
  refine u_gI (q := 33) (r := (RX8, TX8, 19)) x5e dX8_onTop_30 w1112 rfl (by decide) rfl rfl ?_
  refine v_if_eq (q1 := 42) (q2 := 36) dX8_onTop_33 (by decide) rfl (fun c6 => ?_) (fun c6 => ?_)
  · replace H := ip c6 H
    exact V.sub [0] rfl (sjX8_onTop_42 hd H)
  · replace H := ine c6 H
    refine v_iload (q := 38) 0 dX8_onTop_36 rfl rfl ?_
    refine v_iconst (v := -1) (q := 39) dX8_onTop_38 (by decide) rfl ?_
    refine v_icmp_ne (q1 := 45) (q2 := 42) dX8_onTop_39 (by decide) rfl (fun c7 => ?_) (fun c7 => ?_)
    · replace H := ine c7 H
      refine v_iconst (v := 0) (q := 46) dX8_onTop_45 (by decide) rfl ?_
      refine v_istore (L' := [(5, .int (0 : Int32)), (4, .int y0), (0, .ref v0), (1, .long v1), (3, .int v3)]) (q := 48) dX8_onTop_46 (by decide) rfl rfl ?_
      replace H := bs H; obtain ⟨e26, e26L, H⟩ := H
      refine V.sub [2, 3, 4, 1, 0] rfl ?_
      refine lp_V (P := (fun s48 => V Γ d mX8_onTop 48 [(0, .ref v0), (1, .long v1), (3, .int v3), (4, .int s48.1), (5, .int s48.2)] [] h (some (.int r), h))) (E := (fun e => V Γ d mX8_onTop 150 [(4, .int e)] [] h (some (.int r), h))) (fun s r hb kI kE => sbX8_onTop_48 hd (s48 := s) (r := r) hb kI kE) FU (y0, (0 : Int32)) e26 e26L ?_
      refine v_iload (q := 152) 0 dX8_onTop_150 rfl rfl ?_
      cases H
      exact v_ireturn rfl dX8_onTop_152
    · replace H := ip c7 H
      exact V.sub [0] rfl (sjX8_onTop_42 hd H)
def fX8_onTop (h : Hp) (v0 : Nat) (v1 : Int64) (v3 : Int32) : Option (Int32) :=
(gR h 8 v0 6).bind fun x1 =>
(gR h 5 x1 5).bind fun x2 =>
(lI h .int x2 v3).bind fun x3 =>
if x3 ≤ ((((v1.toUInt64 >>> (((4 : Int32) * v3).toInt64.toUInt64 &&& Int64.toUInt64 63)).toInt64) &&& (15 : Int64)).toInt32) then (
jX8_onTop_27 v0 v1 v3 (-1 : Int32) h) else (
jX8_onTop_27 v0 v1 v3 v3 h)
set_option maxRecDepth 20000 in
set_option maxHeartbeats 4000000 in
theorem sX8_onTop {Γ : Gm} {d : Nat} (hd : 1 ≤ d) {h : Hp} {v0 : Nat} {v1 : Int64} {v3 : Int32} {r : Int32} (H : fX8_onTop h v0 v1 v3 = some r) : V Γ d mX8_onTop 0 [(0, .ref v0), (1, .long v1), (3, .int v3)] [] h (some (.int r), h) := by
  unfold fX8_onTop at H
  refine v_lload_n (q := 1) 1 dX8_onTop_0 rfl rfl rfl ?_
  refine v_iconst (v := 4) (q := 2) dX8_onTop_1 (by decide) rfl ?_
  refine v_iload_n (q := 3) 2 dX8_onTop_2 rfl rfl rfl ?_
  refine v_imul (q := 4) dX8_onTop_3 rfl ?_
  refine v_lushr (q := 5) dX8_onTop_4 rfl ?_
  refine v_ldc2 (v := 15) (q := 8) dX8_onTop_5 w1199 rfl ?_
  refine v_land (q := 9) dX8_onTop_8 rfl ?_
  refine v_l2i (q := 10) dX8_onTop_9 rfl ?_
  refine v_aload_n (q := 11) 0 dX8_onTop_10 rfl rfl rfl ?_
  replace H := bs H; obtain ⟨x1, x1e, H⟩ := H
  refine u_gR (q := 14) (r := (RX8, TX8, 19)) x1e dX8_onTop_11 w1109 rfl (by decide) rfl rfl ?_
  replace H := bs H; obtain ⟨x2, x2e, H⟩ := H
  refine u_gR (q := 17) (r := (RX5, TX5, 7)) x2e dX8_onTop_14 w0246 rfl (by decide) rfl rfl ?_
  refine v_iload_n (q := 18) 2 dX8_onTop_17 rfl rfl rfl ?_
  replace H := bs H; obtain ⟨x3, x3e, H⟩ := H
  refine u_lI (q := 19) x3e dX8_onTop_18 rfl ?_
  refine v_icmp_ge (q1 := 26) (q2 := 22) dX8_onTop_19 (by decide) rfl (fun c4 => ?_) (fun c4 => ?_)
  · replace H := ip c4 H
    refine v_iconst (v := -1) (q := 27) dX8_onTop_26 (by decide) rfl ?_
    exact V.sub [0, 1, 2] rfl (sjX8_onTop_27 hd H)
  · replace H := ine c4 H
    refine v_iload_n (q := 23) 2 dX8_onTop_22 rfl rfl rfl ?_
    refine v_goto (q := 27) dX8_onTop_23 (by decide) ?_
    exact V.sub [0, 1, 2] rfl (sjX8_onTop_27 hd H)
def mX8_doneBy : MI := (yX8_doneBy, cX8_doneBy, 3, some .int)
theorem oX8_doneBy : mOK mX8_doneBy 2 := ⟨by decide +kernel, by decide +kernel, by decide +kernel, by decide, w1207, w0159⟩
def fX8_doneBy (h : Hp) (v0 : Int64) (v2 : Int32) : Option (Int32) :=
some ((((v0.toUInt64 >>> (((4 : Int32) * v2).toInt64.toUInt64 &&& Int64.toUInt64 63)).toInt64) &&& (15 : Int64)).toInt32)
set_option maxRecDepth 20000 in
set_option maxHeartbeats 4000000 in
theorem sX8_doneBy {Γ : Gm} {d : Nat} (hd : 1 ≤ d) {h : Hp} {v0 : Int64} {v2 : Int32} {r : Int32} (H : fX8_doneBy h v0 v2 = some r) : V Γ d mX8_doneBy 0 [(0, .long v0), (2, .int v2)] [] h (some (.int r), h) := by
  unfold fX8_doneBy at H
  refine v_lload_n (q := 1) 0 dX8_doneBy_0 rfl rfl rfl ?_
  refine v_iconst (v := 4) (q := 2) dX8_doneBy_1 (by decide) rfl ?_
  refine v_iload_n (q := 3) 1 dX8_doneBy_2 rfl rfl rfl ?_
  refine v_imul (q := 4) dX8_doneBy_3 rfl ?_
  refine v_lushr (q := 5) dX8_doneBy_4 rfl ?_
  refine v_ldc2 (v := 15) (q := 8) dX8_doneBy_5 w1199 rfl ?_
  refine v_land (q := 9) dX8_doneBy_8 rfl ?_
  refine v_l2i (q := 10) dX8_doneBy_9 rfl ?_
  cases H
  exact v_ireturn rfl dX8_doneBy_10
def mX11_lockOf : MI := (yX11_lockOf, cX11_lockOf, 1, some .int)
theorem oX11_lockOf : mOK mX11_lockOf 1 := ⟨by decide +kernel, by decide +kernel, by decide +kernel, by decide, w0781, w0139⟩
def fX11_lockOf (h : Hp) (v0 : Int32) : Option (Int32) :=
some (v0 &&& (15 : Int32))
set_option maxRecDepth 20000 in
set_option maxHeartbeats 4000000 in
theorem sX11_lockOf {Γ : Gm} {d : Nat} (hd : 1 ≤ d) {h : Hp} {v0 : Int32} {r : Int32} (H : fX11_lockOf h v0 = some r) : V Γ d mX11_lockOf 0 [(0, .int v0)] [] h (some (.int r), h) := by
  unfold fX11_lockOf at H
  refine v_iload_n (q := 1) 0 dX11_lockOf_0 rfl rfl rfl ?_
  refine v_bipush (v := 15) (q := 3) dX11_lockOf_1 (by decide) rfl ?_
  refine v_iand (q := 4) dX11_lockOf_3 rfl ?_
  cases H
  exact v_ireturn rfl dX11_lockOf_4
def mX8_ownersOf : MI := (yX8_ownersOf, cX8_ownersOf, 3, some .int)
theorem oX8_ownersOf : mOK mX8_ownersOf 2 := ⟨by decide +kernel, by decide +kernel, by decide +kernel, by decide, w1211, w0159⟩
def fX8_ownersOf (h : Hp) (v0 : Int64) (v2 : Int32) : Option (Int32) :=
some ((((v0.toUInt64 >>> (((6 : Int32) * v2).toInt64.toUInt64 &&& Int64.toUInt64 63)).toInt64).toInt32) &&& (63 : Int32))
set_option maxRecDepth 20000 in
set_option maxHeartbeats 4000000 in
theorem sX8_ownersOf {Γ : Gm} {d : Nat} (hd : 1 ≤ d) {h : Hp} {v0 : Int64} {v2 : Int32} {r : Int32} (H : fX8_ownersOf h v0 v2 = some r) : V Γ d mX8_ownersOf 0 [(0, .long v0), (2, .int v2)] [] h (some (.int r), h) := by
  unfold fX8_ownersOf at H
  refine v_lload_n (q := 1) 0 dX8_ownersOf_0 rfl rfl rfl ?_
  refine v_bipush (v := 6) (q := 3) dX8_ownersOf_1 (by decide) rfl ?_
  refine v_iload_n (q := 4) 1 dX8_ownersOf_3 rfl rfl rfl ?_
  refine v_imul (q := 5) dX8_ownersOf_4 rfl ?_
  refine v_lushr (q := 6) dX8_ownersOf_5 rfl ?_
  refine v_l2i (q := 7) dX8_ownersOf_6 rfl ?_
  refine v_bipush (v := 63) (q := 9) dX8_ownersOf_7 (by decide) rfl ?_
  refine v_iand (q := 10) dX8_ownersOf_9 rfl ?_
  cases H
  exact v_ireturn rfl dX8_ownersOf_10
def mX8_waitsFor : MI := (yX8_waitsFor, cX8_waitsFor, 9, some .int)
theorem oX8_waitsFor : mOK mX8_waitsFor 3 := ⟨by decide +kernel, by decide +kernel, by decide +kernel, by decide, w1204, w0159⟩
def jX8_waitsFor_91 (y0 : Int32) (h : Hp) : Option (Int32) :=
some y0
set_option maxRecDepth 20000 in
set_option maxHeartbeats 4000000 in
theorem sjX8_waitsFor_91 {Γ : Gm} {d : Nat} (hd : 2 ≤ d) {y0 : Int32} {h : Hp} {r : Int32} (H : jX8_waitsFor_91 y0 h = some r) : V Γ d mX8_waitsFor 91 [] [.int y0] h (some (.int r), h) := by
  unfold jX8_waitsFor_91 at H
  cases H
  exact v_ireturn rfl dX8_waitsFor_91
def jX8_waitsFor_112 (y0 : Int32) (h : Hp) : Option (Int32) :=
some y0
set_option maxRecDepth 20000 in
set_option maxHeartbeats 4000000 in
theorem sjX8_waitsFor_112 {Γ : Gm} {d : Nat} (hd : 2 ≤ d) {y0 : Int32} {h : Hp} {r : Int32} (H : jX8_waitsFor_112 y0 h = some r) : V Γ d mX8_waitsFor 112 [] [.int y0] h (some (.int r), h) := by
  unfold jX8_waitsFor_112 at H
  cases H
  exact v_ireturn rfl dX8_waitsFor_112
def fX8_waitsFor (h : Hp) (v0 : Nat) (v1 : Int64) (v3 : Int64) (v5 : Int32) : Option (Int32) :=
(gO h 8 v0).bind fun _ =>
(fX8_onTop h v0 v1 v5).bind fun x2 =>
if x2 = (-1 : Int32) then (
some (-1 : Int32)) else (
(gR h 8 v0 7).bind fun x4 =>
(fX8_doneBy h v1 x2).bind fun x5 =>
(lI h .int x4 ((x2 * (12 : Int32)) + x5)).bind fun x6 =>
(fX11_lockOf h x6).bind fun x7 =>
(fX11_deedOf h x6).bind fun x8 =>
if x8 = (0 : Int32) then (
(fX8_ownersOf h v3 x7).bind fun x10 =>
if x10 = 0 then (
jX8_waitsFor_91 (-1 : Int32) h) else (
jX8_waitsFor_91 x7 h)) else (
if x8 = (1 : Int32) then (
(fX8_ownersOf h v3 x7).bind fun x13 =>
if x13 = 0 then (
jX8_waitsFor_91 (-1 : Int32) h) else (
jX8_waitsFor_91 x7 h)) else (
if x8 = (2 : Int32) then (
if (lg_cmp (((v1.toUInt64 >>> (((42 : Int32) + x7).toInt64.toUInt64 &&& Int64.toUInt64 63)).toInt64) &&& (1 : Int64)) (0 : Int64)) = 0 then (
jX8_waitsFor_112 (-1 : Int32) h) else (
jX8_waitsFor_112 x7 h)) else (
some (-1 : Int32)))))
set_option maxRecDepth 20000 in
set_option maxHeartbeats 4000000 in
theorem sX8_waitsFor {Γ : Gm} {d : Nat} (hd : 2 ≤ d) {h : Hp} {v0 : Nat} {v1 : Int64} {v3 : Int64} {v5 : Int32} {r : Int32} (H : fX8_waitsFor h v0 v1 v3 v5 = some r) : V Γ d mX8_waitsFor 0 [(0, .ref v0), (1, .long v1), (3, .long v3), (5, .int v5)] [] h (some (.int r), h) := by
  unfold fX8_waitsFor at H
  refine v_aload_n (q := 1) 0 dX8_waitsFor_0 rfl rfl rfl ?_
  refine v_lload_n (q := 2) 1 dX8_waitsFor_1 rfl rfl rfl ?_
  refine v_iload (q := 4) 3 dX8_waitsFor_2 rfl rfl ?_
  replace H := bs H; obtain ⟨_, o1, H⟩ := H
  replace H := bs H; obtain ⟨x2, x2e, H⟩ := H
  refine u_callV1 (M' := mX8_onTop) (d' := 1) (rc := (RX8, TX8, 19)) (As := [.long v1, .int v5]) (st := []) (q := 7) oX8_onTop dX8_waitsFor_4 w1195 w1197 w0042 rfl rfl (gO_sp o1).1 (gO_sp o1).2 rfl (Nat.le_of_ble_eq_true rfl) (Nat.le_of_ble_eq_true rfl) (Nat.lt_of_lt_of_le (by decide) hd) rfl (sX8_onTop (Nat.le_refl _) x2e) rfl ?_
  refine v_istore (L' := [(6, .int x2), (0, .ref v0), (1, .long v1), (3, .long v3), (5, .int v5)]) (q := 9) dX8_waitsFor_7 (by decide) rfl rfl ?_
  refine v_iload (q := 11) 0 dX8_waitsFor_9 rfl rfl ?_
  refine v_iconst (v := -1) (q := 12) dX8_waitsFor_11 (by decide) rfl ?_
  refine v_icmp_ne (q1 := 17) (q2 := 15) dX8_waitsFor_12 (by decide) rfl (fun c3 => ?_) (fun c3 => ?_)
  · replace H := ine c3 H
    refine v_aload_n (q := 18) 1 dX8_waitsFor_17 rfl rfl rfl ?_
    replace H := bs H; obtain ⟨x4, x4e, H⟩ := H
    refine u_gR (q := 21) (r := (RX8, TX8, 19)) x4e dX8_waitsFor_18 w1110 rfl (by decide) rfl rfl ?_
    refine v_iload (q := 23) 0 dX8_waitsFor_21 rfl rfl ?_
    refine v_bipush (v := 12) (q := 25) dX8_waitsFor_23 (by decide) rfl ?_
    refine v_imul (q := 26) dX8_waitsFor_25 rfl ?_
    refine v_lload_n (q := 27) 2 dX8_waitsFor_26 rfl rfl rfl ?_
    refine v_iload (q := 29) 0 dX8_waitsFor_27 rfl rfl ?_
    replace H := bs H; obtain ⟨x5, x5e, H⟩ := H
    refine u_callS1 (M' := mX8_doneBy) (d' := 1) (As := [.long v1, .int x2]) (st := [.int (x2 * (12 : Int32)), .ref x4]) (q := 32) oX8_doneBy dX8_waitsFor_29 w1205 w1206 rfl (Nat.le_of_ble_eq_true rfl) (Nat.le_of_ble_eq_true rfl) (Nat.lt_of_lt_of_le (by decide) hd) rfl (sX8_doneBy (Nat.le_refl _) x5e) rfl ?_
    refine v_iadd (q := 33) dX8_waitsFor_32 rfl ?_
    replace H := bs H; obtain ⟨x6, x6e, H⟩ := H
    refine u_lI (q := 34) x6e dX8_waitsFor_33 rfl ?_
    refine v_istore (L' := [(7, .int x6), (6, .int x2), (0, .ref v0), (1, .long v1), (3, .long v3), (5, .int v5)]) (q := 36) dX8_waitsFor_34 (by decide) rfl rfl ?_
    refine v_iload (q := 38) 0 dX8_waitsFor_36 rfl rfl ?_
    replace H := bs H; obtain ⟨x7, x7e, H⟩ := H
    refine u_callSN1 (M' := mX11_lockOf) (d' := 1) (As := [.int x6]) (st := []) (q := 41) oX11_lockOf dX8_waitsFor_38 w1208 w0780 rfl (Nat.le_of_ble_eq_true rfl) (Nat.le_of_ble_eq_true rfl) (Nat.lt_of_lt_of_le (by decide) hd) rfl (sX11_lockOf (Nat.le_refl _) x7e) rfl ?_
    refine v_istore (L' := [(8, .int x7), (7, .int x6), (6, .int x2), (0, .ref v0), (1, .long v1), (3, .long v3), (5, .int v5)]) (q := 43) dX8_waitsFor_41 (by decide) rfl rfl ?_
    refine v_iload (q := 45) 1 dX8_waitsFor_43 rfl rfl ?_
    replace H := bs H; obtain ⟨x8, x8e, H⟩ := H
    refine u_callSN1 (M' := mX11_deedOf) (d' := 1) (As := [.int x6]) (st := []) (q := 48) oX11_deedOf dX8_waitsFor_45 w1178 w0777 rfl (Nat.le_of_ble_eq_true rfl) (Nat.le_of_ble_eq_true rfl) (Nat.lt_of_lt_of_le (by decide) hd) rfl (sX11_deedOf (Nat.le_refl _) x8e) rfl ?_
    by_cases c9 : x8 = (0 : Int32)
    · replace H := ip c9 H
      rw [c9]
      refine v_tabIn (off := 28) (q := 76) dX8_waitsFor_48 (by decide) (by decide) (by decide) (by decide) ?_
      refine v_lload_n (q := 77) 5 dX8_waitsFor_76 rfl rfl rfl ?_
      refine v_iload (q := 79) 0 dX8_waitsFor_77 rfl rfl ?_
      replace H := bs H; obtain ⟨x10, x10e, H⟩ := H
      refine u_callS1 (M' := mX8_ownersOf) (d' := 1) (As := [.long v3, .int x7]) (st := []) (q := 82) oX8_ownersOf dX8_waitsFor_79 w1209 w1210 rfl (Nat.le_of_ble_eq_true rfl) (Nat.le_of_ble_eq_true rfl) (Nat.lt_of_lt_of_le (by decide) hd) rfl (sX8_ownersOf (Nat.le_refl _) x10e) rfl ?_
      refine v_if_eq (q1 := 90) (q2 := 85) dX8_waitsFor_82 (by decide) rfl (fun c11 => ?_) (fun c11 => ?_)
      · replace H := ip c11 H
        refine v_iconst (v := -1) (q := 91) dX8_waitsFor_90 (by decide) rfl ?_
        exact V.sub [] rfl (sjX8_waitsFor_91 hd H)
      · replace H := ine c11 H
        refine v_iload (q := 87) 0 dX8_waitsFor_85 rfl rfl ?_
        refine v_goto (q := 91) dX8_waitsFor_87 (by decide) ?_
        exact V.sub [] rfl (sjX8_waitsFor_91 hd H)
    · replace H := ine c9 H
      by_cases c12 : x8 = (1 : Int32)
      · replace H := ip c12 H
        rw [c12]
        refine v_tabIn (off := 28) (q := 76) dX8_waitsFor_48 (by decide) (by decide) (by decide) (by decide) ?_
        refine v_lload_n (q := 77) 5 dX8_waitsFor_76 rfl rfl rfl ?_
        refine v_iload (q := 79) 0 dX8_waitsFor_77 rfl rfl ?_
        replace H := bs H; obtain ⟨x13, x13e, H⟩ := H
        refine u_callS1 (M' := mX8_ownersOf) (d' := 1) (As := [.long v3, .int x7]) (st := []) (q := 82) oX8_ownersOf dX8_waitsFor_79 w1209 w1210 rfl (Nat.le_of_ble_eq_true rfl) (Nat.le_of_ble_eq_true rfl) (Nat.lt_of_lt_of_le (by decide) hd) rfl (sX8_ownersOf (Nat.le_refl _) x13e) rfl ?_
        refine v_if_eq (q1 := 90) (q2 := 85) dX8_waitsFor_82 (by decide) rfl (fun c14 => ?_) (fun c14 => ?_)
        · replace H := ip c14 H
          refine v_iconst (v := -1) (q := 91) dX8_waitsFor_90 (by decide) rfl ?_
          exact V.sub [] rfl (sjX8_waitsFor_91 hd H)
        · replace H := ine c14 H
          refine v_iload (q := 87) 0 dX8_waitsFor_85 rfl rfl ?_
          refine v_goto (q := 91) dX8_waitsFor_87 (by decide) ?_
          exact V.sub [] rfl (sjX8_waitsFor_91 hd H)
      · replace H := ine c12 H
        by_cases c15 : x8 = (2 : Int32)
        · replace H := ip c15 H
          rw [c15]
          refine v_tabIn (off := 44) (q := 92) dX8_waitsFor_48 (by decide) (by decide) (by decide) (by decide) ?_
          refine v_lload_n (q := 93) 4 dX8_waitsFor_92 rfl rfl rfl ?_
          refine v_bipush (v := 42) (q := 95) dX8_waitsFor_93 (by decide) rfl ?_
          refine v_iload (q := 97) 0 dX8_waitsFor_95 rfl rfl ?_
          refine v_iadd (q := 98) dX8_waitsFor_97 rfl ?_
          refine v_lushr (q := 99) dX8_waitsFor_98 rfl ?_
          refine v_lconst (v := 1) (q := 100) dX8_waitsFor_99 (by decide) rfl ?_
          refine v_land (q := 101) dX8_waitsFor_100 rfl ?_
          refine v_lconst (v := 0) (q := 102) dX8_waitsFor_101 (by decide) rfl ?_
          refine v_lcmp (q := 103) dX8_waitsFor_102 rfl ?_
          refine v_if_eq (q1 := 111) (q2 := 106) dX8_waitsFor_103 (by decide) rfl (fun c16 => ?_) (fun c16 => ?_)
          · replace H := ip c16 H
            refine v_iconst (v := -1) (q := 112) dX8_waitsFor_111 (by decide) rfl ?_
            exact V.sub [] rfl (sjX8_waitsFor_112 hd H)
          · replace H := ine c16 H
            refine v_iload (q := 108) 0 dX8_waitsFor_106 rfl rfl ?_
            refine v_goto (q := 112) dX8_waitsFor_108 (by decide) ?_
            exact V.sub [] rfl (sjX8_waitsFor_112 hd H)
        · replace H := ine c15 H
          have c9t := lv_neT (a := 0) c9 (by decide)
          have c12t := lv_neT (a := 1) c12 (by decide)
          have c15t := lv_neT (a := 2) c15 (by decide)
          refine v_tabOut (q := 113) dX8_waitsFor_48 (by omega) (by decide) ?_
          refine v_iconst (v := -1) (q := 114) dX8_waitsFor_113 (by decide) rfl ?_
          cases H
          exact v_ireturn rfl dX8_waitsFor_114
  · replace H := ip c3 H
    refine v_iconst (v := -1) (q := 16) dX8_waitsFor_15 (by decide) rfl ?_
    cases H
    exact v_ireturn rfl dX8_waitsFor_16

def mL : MI := (yL_law, cL_law, 4, some .boolean)
def KL : Nat := 13
def opC (k X : Nat) (h : Hp) (a b c e g : Int32) : Option (Int32 × Hp) := match k with
  | 0 => fX11_feed h X a b c e g
  | 1 => fX11_end h X a
  | 2 => fX11_store h X
  | 3 => (fX11_fault h X a).bind fun r => some (r, h)
  | 4 => fX11_runs h X a
  | 5 => fX11_forget h X
  | 6 => fX11_swap h X a b
  | 7 => fX11_undo h X
  | 8 => fX11_redo h X
  | 9 => (fX11_lock h X a).bind fun r => some (r, h)
  | 10 => (fX11_program h X a b).bind fun r => some (r, h)
  | 11 => (fX11_step h X a b c).bind fun r => some (r, h)
  | 12 => (fX11_edge h X a b c).bind fun r => some (r, h)
  | 13 => (fX11_uses h X a).bind fun r => some (r, h)
  | 14 => fX11_way h X a b c
  | 15 => (fX11_reaches h X a).bind fun r => some (r, h)
  | 16 => (fX11_report h X a b).bind fun r => some (r, h)
  | 17 => (fX11_chain h X a b).bind fun r => some (r, h)
  | 18 => fX11_would h X a b
  | 19 => fX11_mends h X a
  | 20 => (fX11_order h X a).bind fun r => some (r, h)
  | 21 => fX11_all h X a
  | 22 => fX11_stuck h X a b
  | 23 => fX11_move h X a b c
  | 24 => fX11_clash h X a b
  | 25 => fX11_least h X
  | 26 => fX11_missed h X
  | 27 => fX11_proves h X a
  | 28 => fX11_bestSwap h X a
  | 29 => fX11_eased h X a b
  | 30 => fX11_spell h X a b c
  | 31 => fX11_depth h X a b
  | 32 => fX11_image h X a
  | 33 => fX11_back h X a
  | 34 => (fX11_about h X a).bind fun r => some (r, h)
  | _ => none
def opR (k : Nat) (m : Mem) (a b c e g : Int32) : Option (Int32 × Mem) := match k with
  | 0 => gX12_feed m a b c e g
  | 1 => gX12_end m a
  | 2 => gX12_store m
  | 3 => (gX12_fault m a).bind fun r => some (r, m)
  | 4 => gX12_runs m a
  | 5 => gX12_forget m
  | 6 => gX12_swap m a b
  | 7 => gX12_undo m
  | 8 => gX12_redo m
  | 9 => (gX12_lock m a).bind fun r => some (r, m)
  | 10 => (gX12_program m a b).bind fun r => some (r, m)
  | 11 => (gX12_step m a b c).bind fun r => some (r, m)
  | 12 => (gX12_edge m a b c).bind fun r => some (r, m)
  | 13 => (gX12_uses m a).bind fun r => some (r, m)
  | 14 => gX12_way m a b c
  | 15 => gX12_reaches m a
  | 16 => (gX12_report_ m a b).bind fun r => some (r, m)
  | 17 => (gX12_chain m a b).bind fun r => some (r, m)
  | 18 => gX12_would m a b
  | 19 => gX12_mends m a
  | 20 => gX12_order m a
  | 21 => gX12_all m a
  | 22 => gX12_stuck m a b
  | 23 => gX12_move m a b c
  | 24 => gX12_clash m a b
  | 25 => gX12_least m
  | 26 => gX12_missed m
  | 27 => gX12_proves m a
  | 28 => gX12_bestSwap m a
  | 29 => gX12_eased m a b
  | 30 => (gX12_spell m a b c).bind fun r => some (r, m)
  | 31 => gX12_depth m a b
  | 32 => gX12_image m a
  | 33 => gX12_back m a
  | 34 => (gX12_about m a).bind fun r => some (r, m)
  | _ => none
set_option maxRecDepth 20000 in
set_option maxHeartbeats 4000000 in
theorem law_0 {Γ : Gm} {d : Nat} (hd : 13 ≤ d) {X T : Nat} {h h1 : Hp} {m1 : Mem} {r i : Int32} {t : Option Value × Hp} (hX : X < hN h ∧ hS h X = .inl 11) (rs : RS T h1) (hj1 : vp_in (i + 1) Γ.2.2.2.2.2.2.1) (hj2 : vp_in (i + 2) Γ.2.2.2.2.2.2.1) (hj3 : vp_in (i + 3) Γ.2.2.2.2.2.2.1) (hj4 : vp_in (i + 4) Γ.2.2.2.2.2.2.1) (hj5 : vp_in (i + 5) Γ.2.2.2.2.2.2.1) (e1 : opC 0 X h (Γ.2.2.2.2.2.2.2 (i + 1).toNatClampNeg) (Γ.2.2.2.2.2.2.2 (i + 2).toNatClampNeg) (Γ.2.2.2.2.2.2.2 (i + 3).toNatClampNeg) (Γ.2.2.2.2.2.2.2 (i + 4).toNatClampNeg) (Γ.2.2.2.2.2.2.2 (i + 5).toNatClampNeg) = some (r, h1)) (e2 : opR 0 (mOf T h1) (Γ.2.2.2.2.2.2.2 (i + 1).toNatClampNeg) (Γ.2.2.2.2.2.2.2 (i + 2).toNatClampNeg) (Γ.2.2.2.2.2.2.2 (i + 3).toNatClampNeg) (Γ.2.2.2.2.2.2.2 (i + 4).toNatClampNeg) (Γ.2.2.2.2.2.2.2 (i + 5).toNatClampNeg) = some (r, m1)) (kk : V Γ d mL 1163 [(0, .retAddr 3), (1, .ref X), (2, .ref T), (3, .int i)] [] (hm T h1 m1) t) : V Γ d mL 188 [(0, .retAddr 3), (1, .ref X), (2, .ref T), (3, .int i)] [] h t := by
  replace e2 : gX12_feed (mOf T h1) (Γ.2.2.2.2.2.2.2 (i + 1).toNatClampNeg) (Γ.2.2.2.2.2.2.2 (i + 2).toNatClampNeg) (Γ.2.2.2.2.2.2.2 (i + 3).toNatClampNeg) (Γ.2.2.2.2.2.2.2 (i + 4).toNatClampNeg) (Γ.2.2.2.2.2.2.2 (i + 5).toNatClampNeg) = some (r, m1) := e2
  have step2 : V Γ d mL 217 [(0, .retAddr 3), (1, .ref X), (2, .ref T), (3, .int i)] [.int r] (hm T h1 (mOf T h1)) t := by
    refine v_aload_n (q := 218) 2 dL_law_217 rfl rfl rfl ?_
    refine v_aload_nX (q := 219) 0 dL_law_218 rfl rfl rfl ?_
    refine v_iload_n (q := 220) 3 dL_law_219 rfl rfl rfl ?_
    refine v_iconst (v := 1) (q := 221) dL_law_220 (by decide) rfl ?_
    refine v_iadd (q := 222) dL_law_221 rfl ?_
    refine v_sld (q := 223) dL_law_222 hj1 rfl ?_
    refine v_aload_nX (q := 224) 0 dL_law_223 rfl rfl rfl ?_
    refine v_iload_n (q := 225) 3 dL_law_224 rfl rfl rfl ?_
    refine v_iconst (v := 2) (q := 226) dL_law_225 (by decide) rfl ?_
    refine v_iadd (q := 227) dL_law_226 rfl ?_
    refine v_sld (q := 228) dL_law_227 hj2 rfl ?_
    refine v_aload_nX (q := 229) 0 dL_law_228 rfl rfl rfl ?_
    refine v_iload_n (q := 230) 3 dL_law_229 rfl rfl rfl ?_
    refine v_iconst (v := 3) (q := 231) dL_law_230 (by decide) rfl ?_
    refine v_iadd (q := 232) dL_law_231 rfl ?_
    refine v_sld (q := 233) dL_law_232 hj3 rfl ?_
    refine v_aload_nX (q := 234) 0 dL_law_233 rfl rfl rfl ?_
    refine v_iload_n (q := 235) 3 dL_law_234 rfl rfl rfl ?_
    refine v_iconst (v := 4) (q := 236) dL_law_235 (by decide) rfl ?_
    refine v_iadd (q := 237) dL_law_236 rfl ?_
    refine v_sld (q := 238) dL_law_237 hj4 rfl ?_
    refine v_aload_nX (q := 239) 0 dL_law_238 rfl rfl rfl ?_
    refine v_iload_n (q := 240) 3 dL_law_239 rfl rfl rfl ?_
    refine v_iconst (v := 5) (q := 241) dL_law_240 (by decide) rfl ?_
    refine v_iadd (q := 242) dL_law_241 rfl ?_
    refine v_sld (q := 243) dL_law_242 hj5 rfl ?_
    refine u_callV1 (M' := mX12_feed) (d' := 1) (rc := (RX12, TX12, 58)) (As := [.int (Γ.2.2.2.2.2.2.2 (i + 1).toNatClampNeg), .int (Γ.2.2.2.2.2.2.2 (i + 2).toNatClampNeg), .int (Γ.2.2.2.2.2.2.2 (i + 3).toNatClampNeg), .int (Γ.2.2.2.2.2.2.2 (i + 4).toNatClampNeg), .int (Γ.2.2.2.2.2.2.2 (i + 5).toNatClampNeg)]) (st := [.int r]) (q := 246) oX12_feed dL_law_243 w1531 w1532 w1533 rfl rfl (RS.rc rs).1 (RS.rc rs).2 rfl (Nat.le_of_ble_eq_true rfl) (Nat.le_of_ble_eq_true rfl) (Nat.lt_of_lt_of_le (by decide) hd) rfl (sgX12_feed (Nat.le_refl _) rs e2) rfl ?_
    refine v_icmp_eq (q1 := 1163) (q2 := 249) dL_law_246 (by decide) rfl (fun _ => ?_) (fun z => absurd rfl z)
    exact kk
  rw [hm_mOf] at step2
  replace e1 : fX11_feed h X (Γ.2.2.2.2.2.2.2 (i + 1).toNatClampNeg) (Γ.2.2.2.2.2.2.2 (i + 2).toNatClampNeg) (Γ.2.2.2.2.2.2.2 (i + 3).toNatClampNeg) (Γ.2.2.2.2.2.2.2 (i + 4).toNatClampNeg) (Γ.2.2.2.2.2.2.2 (i + 5).toNatClampNeg) = some (r, h1) := e1
  refine v_aload_n (q := 189) 1 dL_law_188 rfl rfl rfl ?_
  refine v_aload_nX (q := 190) 0 dL_law_189 rfl rfl rfl ?_
  refine v_iload_n (q := 191) 3 dL_law_190 rfl rfl rfl ?_
  refine v_iconst (v := 1) (q := 192) dL_law_191 (by decide) rfl ?_
  refine v_iadd (q := 193) dL_law_192 rfl ?_
  refine v_sld (q := 194) dL_law_193 hj1 rfl ?_
  refine v_aload_nX (q := 195) 0 dL_law_194 rfl rfl rfl ?_
  refine v_iload_n (q := 196) 3 dL_law_195 rfl rfl rfl ?_
  refine v_iconst (v := 2) (q := 197) dL_law_196 (by decide) rfl ?_
  refine v_iadd (q := 198) dL_law_197 rfl ?_
  refine v_sld (q := 199) dL_law_198 hj2 rfl ?_
  refine v_aload_nX (q := 200) 0 dL_law_199 rfl rfl rfl ?_
  refine v_iload_n (q := 201) 3 dL_law_200 rfl rfl rfl ?_
  refine v_iconst (v := 3) (q := 202) dL_law_201 (by decide) rfl ?_
  refine v_iadd (q := 203) dL_law_202 rfl ?_
  refine v_sld (q := 204) dL_law_203 hj3 rfl ?_
  refine v_aload_nX (q := 205) 0 dL_law_204 rfl rfl rfl ?_
  refine v_iload_n (q := 206) 3 dL_law_205 rfl rfl rfl ?_
  refine v_iconst (v := 4) (q := 207) dL_law_206 (by decide) rfl ?_
  refine v_iadd (q := 208) dL_law_207 rfl ?_
  refine v_sld (q := 209) dL_law_208 hj4 rfl ?_
  refine v_aload_nX (q := 210) 0 dL_law_209 rfl rfl rfl ?_
  refine v_iload_n (q := 211) 3 dL_law_210 rfl rfl rfl ?_
  refine v_iconst (v := 5) (q := 212) dL_law_211 (by decide) rfl ?_
  refine v_iadd (q := 213) dL_law_212 rfl ?_
  refine v_sld (q := 214) dL_law_213 hj5 rfl ?_
  exact u_callV1 (M' := mX11_feed) (d' := 2) (rc := (RX11, TX11, 14)) (As := [.int (Γ.2.2.2.2.2.2.2 (i + 1).toNatClampNeg), .int (Γ.2.2.2.2.2.2.2 (i + 2).toNatClampNeg), .int (Γ.2.2.2.2.2.2.2 (i + 3).toNatClampNeg), .int (Γ.2.2.2.2.2.2.2 (i + 4).toNatClampNeg), .int (Γ.2.2.2.2.2.2.2 (i + 5).toNatClampNeg)]) (st := []) (q := 217) oX11_feed dL_law_214 w0564 w0565 w0566 rfl rfl hX.1 hX.2 rfl (Nat.le_of_ble_eq_true rfl) (Nat.le_of_ble_eq_true rfl) (Nat.lt_of_lt_of_le (by decide) hd) rfl (sX11_feed (Nat.le_refl _) e1) rfl step2
set_option maxRecDepth 20000 in
set_option maxHeartbeats 4000000 in
theorem law_1 {Γ : Gm} {d : Nat} (hd : 13 ≤ d) {X T : Nat} {h h1 : Hp} {m1 : Mem} {r i : Int32} {t : Option Value × Hp} (hX : X < hN h ∧ hS h X = .inl 11) (rs : RS T h1) (hj1 : vp_in (i + 1) Γ.2.2.2.2.2.2.1) (hj2 : vp_in (i + 2) Γ.2.2.2.2.2.2.1) (hj3 : vp_in (i + 3) Γ.2.2.2.2.2.2.1) (hj4 : vp_in (i + 4) Γ.2.2.2.2.2.2.1) (hj5 : vp_in (i + 5) Γ.2.2.2.2.2.2.1) (e1 : opC 1 X h (Γ.2.2.2.2.2.2.2 (i + 1).toNatClampNeg) (Γ.2.2.2.2.2.2.2 (i + 2).toNatClampNeg) (Γ.2.2.2.2.2.2.2 (i + 3).toNatClampNeg) (Γ.2.2.2.2.2.2.2 (i + 4).toNatClampNeg) (Γ.2.2.2.2.2.2.2 (i + 5).toNatClampNeg) = some (r, h1)) (e2 : opR 1 (mOf T h1) (Γ.2.2.2.2.2.2.2 (i + 1).toNatClampNeg) (Γ.2.2.2.2.2.2.2 (i + 2).toNatClampNeg) (Γ.2.2.2.2.2.2.2 (i + 3).toNatClampNeg) (Γ.2.2.2.2.2.2.2 (i + 4).toNatClampNeg) (Γ.2.2.2.2.2.2.2 (i + 5).toNatClampNeg) = some (r, m1)) (kk : V Γ d mL 1163 [(0, .retAddr 3), (1, .ref X), (2, .ref T), (3, .int i)] [] (hm T h1 m1) t) : V Γ d mL 251 [(0, .retAddr 3), (1, .ref X), (2, .ref T), (3, .int i)] [] h t := by
  replace e2 : gX12_end (mOf T h1) (Γ.2.2.2.2.2.2.2 (i + 1).toNatClampNeg) = some (r, m1) := e2
  have step2 : V Γ d mL 260 [(0, .retAddr 3), (1, .ref X), (2, .ref T), (3, .int i)] [.int r] (hm T h1 (mOf T h1)) t := by
    refine v_aload_n (q := 261) 2 dL_law_260 rfl rfl rfl ?_
    refine v_aload_nX (q := 262) 0 dL_law_261 rfl rfl rfl ?_
    refine v_iload_n (q := 263) 3 dL_law_262 rfl rfl rfl ?_
    refine v_iconst (v := 1) (q := 264) dL_law_263 (by decide) rfl ?_
    refine v_iadd (q := 265) dL_law_264 rfl ?_
    refine v_sld (q := 266) dL_law_265 hj1 rfl ?_
    refine u_callV1 (M' := mX12_end) (d' := 1) (rc := (RX12, TX12, 58)) (As := [.int (Γ.2.2.2.2.2.2.2 (i + 1).toNatClampNeg)]) (st := [.int r]) (q := 269) oX12_end dL_law_266 w1535 w1536 w1537 rfl rfl (RS.rc rs).1 (RS.rc rs).2 rfl (Nat.le_of_ble_eq_true rfl) (Nat.le_of_ble_eq_true rfl) (Nat.lt_of_lt_of_le (by decide) hd) rfl (sgX12_end (Nat.le_refl _) rs e2) rfl ?_
    refine v_icmp_eq (q1 := 1163) (q2 := 272) dL_law_269 (by decide) rfl (fun _ => ?_) (fun z => absurd rfl z)
    exact kk
  rw [hm_mOf] at step2
  replace e1 : fX11_end h X (Γ.2.2.2.2.2.2.2 (i + 1).toNatClampNeg) = some (r, h1) := e1
  refine v_aload_n (q := 252) 1 dL_law_251 rfl rfl rfl ?_
  refine v_aload_nX (q := 253) 0 dL_law_252 rfl rfl rfl ?_
  refine v_iload_n (q := 254) 3 dL_law_253 rfl rfl rfl ?_
  refine v_iconst (v := 1) (q := 255) dL_law_254 (by decide) rfl ?_
  refine v_iadd (q := 256) dL_law_255 rfl ?_
  refine v_sld (q := 257) dL_law_256 hj1 rfl ?_
  exact u_callV1 (M' := mX11_end) (d' := 1) (rc := (RX11, TX11, 14)) (As := [.int (Γ.2.2.2.2.2.2.2 (i + 1).toNatClampNeg)]) (st := []) (q := 260) oX11_end dL_law_257 w0572 w0573 w0574 rfl rfl hX.1 hX.2 rfl (Nat.le_of_ble_eq_true rfl) (Nat.le_of_ble_eq_true rfl) (Nat.lt_of_lt_of_le (by decide) hd) rfl (sX11_end (Nat.le_refl _) e1) rfl step2
set_option maxRecDepth 20000 in
set_option maxHeartbeats 4000000 in
theorem law_2 {Γ : Gm} {d : Nat} (hd : 13 ≤ d) {X T : Nat} {h h1 : Hp} {m1 : Mem} {r i : Int32} {t : Option Value × Hp} (hX : X < hN h ∧ hS h X = .inl 11) (rs : RS T h1) (hj1 : vp_in (i + 1) Γ.2.2.2.2.2.2.1) (hj2 : vp_in (i + 2) Γ.2.2.2.2.2.2.1) (hj3 : vp_in (i + 3) Γ.2.2.2.2.2.2.1) (hj4 : vp_in (i + 4) Γ.2.2.2.2.2.2.1) (hj5 : vp_in (i + 5) Γ.2.2.2.2.2.2.1) (e1 : opC 2 X h (Γ.2.2.2.2.2.2.2 (i + 1).toNatClampNeg) (Γ.2.2.2.2.2.2.2 (i + 2).toNatClampNeg) (Γ.2.2.2.2.2.2.2 (i + 3).toNatClampNeg) (Γ.2.2.2.2.2.2.2 (i + 4).toNatClampNeg) (Γ.2.2.2.2.2.2.2 (i + 5).toNatClampNeg) = some (r, h1)) (e2 : opR 2 (mOf T h1) (Γ.2.2.2.2.2.2.2 (i + 1).toNatClampNeg) (Γ.2.2.2.2.2.2.2 (i + 2).toNatClampNeg) (Γ.2.2.2.2.2.2.2 (i + 3).toNatClampNeg) (Γ.2.2.2.2.2.2.2 (i + 4).toNatClampNeg) (Γ.2.2.2.2.2.2.2 (i + 5).toNatClampNeg) = some (r, m1)) (kk : V Γ d mL 1163 [(0, .retAddr 3), (1, .ref X), (2, .ref T), (3, .int i)] [] (hm T h1 m1) t) : V Γ d mL 274 [(0, .retAddr 3), (1, .ref X), (2, .ref T), (3, .int i)] [] h t := by
  replace e2 : gX12_store (mOf T h1) = some (r, m1) := e2
  have step2 : V Γ d mL 278 [(0, .retAddr 3), (1, .ref X), (2, .ref T), (3, .int i)] [.int r] (hm T h1 (mOf T h1)) t := by
    refine v_aload_n (q := 279) 2 dL_law_278 rfl rfl rfl ?_
    refine u_callV1 (M' := mX12_store) (d' := 9) (rc := (RX12, TX12, 58)) (As := []) (st := [.int r]) (q := 282) oX12_store dL_law_279 w1539 w1540 w1541 rfl rfl (RS.rc rs).1 (RS.rc rs).2 rfl (Nat.le_of_ble_eq_true rfl) (Nat.le_of_ble_eq_true rfl) (Nat.lt_of_lt_of_le (by decide) hd) rfl (sgX12_store (Nat.le_refl _) rs e2) rfl ?_
    refine v_icmp_eq (q1 := 1163) (q2 := 285) dL_law_282 (by decide) rfl (fun _ => ?_) (fun z => absurd rfl z)
    exact kk
  rw [hm_mOf] at step2
  replace e1 : fX11_store h X = some (r, h1) := e1
  refine v_aload_n (q := 275) 1 dL_law_274 rfl rfl rfl ?_
  exact u_callV1 (M' := mX11_store) (d' := 12) (rc := (RX11, TX11, 14)) (As := []) (st := []) (q := 278) oX11_store dL_law_275 w0576 w0577 w0578 rfl rfl hX.1 hX.2 rfl (Nat.le_of_ble_eq_true rfl) (Nat.le_of_ble_eq_true rfl) (Nat.lt_of_lt_of_le (by decide) hd) rfl (sX11_store (Nat.le_refl _) e1) rfl step2
set_option maxRecDepth 20000 in
set_option maxHeartbeats 4000000 in
theorem law_3 {Γ : Gm} {d : Nat} (hd : 13 ≤ d) {X T : Nat} {h h1 : Hp} {m1 : Mem} {r i : Int32} {t : Option Value × Hp} (hX : X < hN h ∧ hS h X = .inl 11) (rs : RS T h1) (hj1 : vp_in (i + 1) Γ.2.2.2.2.2.2.1) (hj2 : vp_in (i + 2) Γ.2.2.2.2.2.2.1) (hj3 : vp_in (i + 3) Γ.2.2.2.2.2.2.1) (hj4 : vp_in (i + 4) Γ.2.2.2.2.2.2.1) (hj5 : vp_in (i + 5) Γ.2.2.2.2.2.2.1) (e1 : opC 3 X h (Γ.2.2.2.2.2.2.2 (i + 1).toNatClampNeg) (Γ.2.2.2.2.2.2.2 (i + 2).toNatClampNeg) (Γ.2.2.2.2.2.2.2 (i + 3).toNatClampNeg) (Γ.2.2.2.2.2.2.2 (i + 4).toNatClampNeg) (Γ.2.2.2.2.2.2.2 (i + 5).toNatClampNeg) = some (r, h1)) (e2 : opR 3 (mOf T h1) (Γ.2.2.2.2.2.2.2 (i + 1).toNatClampNeg) (Γ.2.2.2.2.2.2.2 (i + 2).toNatClampNeg) (Γ.2.2.2.2.2.2.2 (i + 3).toNatClampNeg) (Γ.2.2.2.2.2.2.2 (i + 4).toNatClampNeg) (Γ.2.2.2.2.2.2.2 (i + 5).toNatClampNeg) = some (r, m1)) (kk : V Γ d mL 1163 [(0, .retAddr 3), (1, .ref X), (2, .ref T), (3, .int i)] [] (hm T h1 m1) t) : V Γ d mL 287 [(0, .retAddr 3), (1, .ref X), (2, .ref T), (3, .int i)] [] h t := by
  obtain ⟨r8, e2, e8⟩ := bs e2
  obtain ⟨q8, q9⟩ := Prod.mk.inj (Option.some.inj e8)
  rw [q8] at e2
  rw [← q9] at kk
  have step2 : V Γ d mL 296 [(0, .retAddr 3), (1, .ref X), (2, .ref T), (3, .int i)] [.int r] (hm T h1 (mOf T h1)) t := by
    refine v_aload_n (q := 297) 2 dL_law_296 rfl rfl rfl ?_
    refine v_aload_nX (q := 298) 0 dL_law_297 rfl rfl rfl ?_
    refine v_iload_n (q := 299) 3 dL_law_298 rfl rfl rfl ?_
    refine v_iconst (v := 1) (q := 300) dL_law_299 (by decide) rfl ?_
    refine v_iadd (q := 301) dL_law_300 rfl ?_
    refine v_sld (q := 302) dL_law_301 hj1 rfl ?_
    refine u_callV1 (M' := mX12_fault) (d' := 1) (rc := (RX12, TX12, 58)) (As := [.int (Γ.2.2.2.2.2.2.2 (i + 1).toNatClampNeg)]) (st := [.int r]) (q := 305) oX12_fault dL_law_302 w1621 w1622 w1623 rfl rfl (RS.rc rs).1 (RS.rc rs).2 rfl (Nat.le_of_ble_eq_true rfl) (Nat.le_of_ble_eq_true rfl) (Nat.lt_of_lt_of_le (by decide) hd) rfl (sgX12_fault (Nat.le_refl _) rs e2) rfl ?_
    refine v_icmp_eq (q1 := 1163) (q2 := 308) dL_law_305 (by decide) rfl (fun _ => ?_) (fun z => absurd rfl z)
    exact kk
  rw [hm_mOf] at step2
  obtain ⟨r9, e1, e9⟩ := bs e1
  obtain ⟨p8, p9⟩ := Prod.mk.inj (Option.some.inj e9)
  rw [p8] at e1
  rw [← p9] at step2
  refine v_aload_n (q := 288) 1 dL_law_287 rfl rfl rfl ?_
  refine v_aload_nX (q := 289) 0 dL_law_288 rfl rfl rfl ?_
  refine v_iload_n (q := 290) 3 dL_law_289 rfl rfl rfl ?_
  refine v_iconst (v := 1) (q := 291) dL_law_290 (by decide) rfl ?_
  refine v_iadd (q := 292) dL_law_291 rfl ?_
  refine v_sld (q := 293) dL_law_292 hj1 rfl ?_
  exact u_callV1 (M' := mX11_fault) (d' := 1) (rc := (RX11, TX11, 14)) (As := [.int (Γ.2.2.2.2.2.2.2 (i + 1).toNatClampNeg)]) (st := []) (q := 296) oX11_fault dL_law_293 w0731 w0732 w0733 rfl rfl hX.1 hX.2 rfl (Nat.le_of_ble_eq_true rfl) (Nat.le_of_ble_eq_true rfl) (Nat.lt_of_lt_of_le (by decide) hd) rfl (sX11_fault (Nat.le_refl _) e1) rfl step2
set_option maxRecDepth 20000 in
set_option maxHeartbeats 4000000 in
theorem law_4 {Γ : Gm} {d : Nat} (hd : 13 ≤ d) {X T : Nat} {h h1 : Hp} {m1 : Mem} {r i : Int32} {t : Option Value × Hp} (hX : X < hN h ∧ hS h X = .inl 11) (rs : RS T h1) (hj1 : vp_in (i + 1) Γ.2.2.2.2.2.2.1) (hj2 : vp_in (i + 2) Γ.2.2.2.2.2.2.1) (hj3 : vp_in (i + 3) Γ.2.2.2.2.2.2.1) (hj4 : vp_in (i + 4) Γ.2.2.2.2.2.2.1) (hj5 : vp_in (i + 5) Γ.2.2.2.2.2.2.1) (e1 : opC 4 X h (Γ.2.2.2.2.2.2.2 (i + 1).toNatClampNeg) (Γ.2.2.2.2.2.2.2 (i + 2).toNatClampNeg) (Γ.2.2.2.2.2.2.2 (i + 3).toNatClampNeg) (Γ.2.2.2.2.2.2.2 (i + 4).toNatClampNeg) (Γ.2.2.2.2.2.2.2 (i + 5).toNatClampNeg) = some (r, h1)) (e2 : opR 4 (mOf T h1) (Γ.2.2.2.2.2.2.2 (i + 1).toNatClampNeg) (Γ.2.2.2.2.2.2.2 (i + 2).toNatClampNeg) (Γ.2.2.2.2.2.2.2 (i + 3).toNatClampNeg) (Γ.2.2.2.2.2.2.2 (i + 4).toNatClampNeg) (Γ.2.2.2.2.2.2.2 (i + 5).toNatClampNeg) = some (r, m1)) (kk : V Γ d mL 1163 [(0, .retAddr 3), (1, .ref X), (2, .ref T), (3, .int i)] [] (hm T h1 m1) t) : V Γ d mL 310 [(0, .retAddr 3), (1, .ref X), (2, .ref T), (3, .int i)] [] h t := by
  replace e2 : gX12_runs (mOf T h1) (Γ.2.2.2.2.2.2.2 (i + 1).toNatClampNeg) = some (r, m1) := e2
  have step2 : V Γ d mL 319 [(0, .retAddr 3), (1, .ref X), (2, .ref T), (3, .int i)] [.int r] (hm T h1 (mOf T h1)) t := by
    refine v_aload_n (q := 320) 2 dL_law_319 rfl rfl rfl ?_
    refine v_aload_nX (q := 321) 0 dL_law_320 rfl rfl rfl ?_
    refine v_iload_n (q := 322) 3 dL_law_321 rfl rfl rfl ?_
    refine v_iconst (v := 1) (q := 323) dL_law_322 (by decide) rfl ?_
    refine v_iadd (q := 324) dL_law_323 rfl ?_
    refine v_sld (q := 325) dL_law_324 hj1 rfl ?_
    refine u_callV1 (M' := mX12_runs) (d' := 8) (rc := (RX12, TX12, 58)) (As := [.int (Γ.2.2.2.2.2.2.2 (i + 1).toNatClampNeg)]) (st := [.int r]) (q := 328) oX12_runs dL_law_325 w1625 w1626 w1627 rfl rfl (RS.rc rs).1 (RS.rc rs).2 rfl (Nat.le_of_ble_eq_true rfl) (Nat.le_of_ble_eq_true rfl) (Nat.lt_of_lt_of_le (by decide) hd) rfl (sgX12_runs (Nat.le_refl _) rs e2) rfl ?_
    refine v_icmp_eq (q1 := 1163) (q2 := 331) dL_law_328 (by decide) rfl (fun _ => ?_) (fun z => absurd rfl z)
    exact kk
  rw [hm_mOf] at step2
  replace e1 : fX11_runs h X (Γ.2.2.2.2.2.2.2 (i + 1).toNatClampNeg) = some (r, h1) := e1
  refine v_aload_n (q := 311) 1 dL_law_310 rfl rfl rfl ?_
  refine v_aload_nX (q := 312) 0 dL_law_311 rfl rfl rfl ?_
  refine v_iload_n (q := 313) 3 dL_law_312 rfl rfl rfl ?_
  refine v_iconst (v := 1) (q := 314) dL_law_313 (by decide) rfl ?_
  refine v_iadd (q := 315) dL_law_314 rfl ?_
  refine v_sld (q := 316) dL_law_315 hj1 rfl ?_
  exact u_callV1 (M' := mX11_runs) (d' := 7) (rc := (RX11, TX11, 14)) (As := [.int (Γ.2.2.2.2.2.2.2 (i + 1).toNatClampNeg)]) (st := []) (q := 319) oX11_runs dL_law_316 w0735 w0736 w0737 rfl rfl hX.1 hX.2 rfl (Nat.le_of_ble_eq_true rfl) (Nat.le_of_ble_eq_true rfl) (Nat.lt_of_lt_of_le (by decide) hd) rfl (sX11_runs (Nat.le_refl _) e1) rfl step2
set_option maxRecDepth 20000 in
set_option maxHeartbeats 4000000 in
theorem law_5 {Γ : Gm} {d : Nat} (hd : 13 ≤ d) {X T : Nat} {h h1 : Hp} {m1 : Mem} {r i : Int32} {t : Option Value × Hp} (hX : X < hN h ∧ hS h X = .inl 11) (rs : RS T h1) (hj1 : vp_in (i + 1) Γ.2.2.2.2.2.2.1) (hj2 : vp_in (i + 2) Γ.2.2.2.2.2.2.1) (hj3 : vp_in (i + 3) Γ.2.2.2.2.2.2.1) (hj4 : vp_in (i + 4) Γ.2.2.2.2.2.2.1) (hj5 : vp_in (i + 5) Γ.2.2.2.2.2.2.1) (e1 : opC 5 X h (Γ.2.2.2.2.2.2.2 (i + 1).toNatClampNeg) (Γ.2.2.2.2.2.2.2 (i + 2).toNatClampNeg) (Γ.2.2.2.2.2.2.2 (i + 3).toNatClampNeg) (Γ.2.2.2.2.2.2.2 (i + 4).toNatClampNeg) (Γ.2.2.2.2.2.2.2 (i + 5).toNatClampNeg) = some (r, h1)) (e2 : opR 5 (mOf T h1) (Γ.2.2.2.2.2.2.2 (i + 1).toNatClampNeg) (Γ.2.2.2.2.2.2.2 (i + 2).toNatClampNeg) (Γ.2.2.2.2.2.2.2 (i + 3).toNatClampNeg) (Γ.2.2.2.2.2.2.2 (i + 4).toNatClampNeg) (Γ.2.2.2.2.2.2.2 (i + 5).toNatClampNeg) = some (r, m1)) (kk : V Γ d mL 1163 [(0, .retAddr 3), (1, .ref X), (2, .ref T), (3, .int i)] [] (hm T h1 m1) t) : V Γ d mL 333 [(0, .retAddr 3), (1, .ref X), (2, .ref T), (3, .int i)] [] h t := by
  replace e2 : gX12_forget (mOf T h1) = some (r, m1) := e2
  have step2 : V Γ d mL 337 [(0, .retAddr 3), (1, .ref X), (2, .ref T), (3, .int i)] [.int r] (hm T h1 (mOf T h1)) t := by
    refine v_aload_n (q := 338) 2 dL_law_337 rfl rfl rfl ?_
    refine u_callV1 (M' := mX12_forget) (d' := 2) (rc := (RX12, TX12, 58)) (As := []) (st := [.int r]) (q := 341) oX12_forget dL_law_338 w1738 w1739 w1740 rfl rfl (RS.rc rs).1 (RS.rc rs).2 rfl (Nat.le_of_ble_eq_true rfl) (Nat.le_of_ble_eq_true rfl) (Nat.lt_of_lt_of_le (by decide) hd) rfl (sgX12_forget (Nat.le_refl _) rs e2) rfl ?_
    refine v_icmp_eq (q1 := 1163) (q2 := 344) dL_law_341 (by decide) rfl (fun _ => ?_) (fun z => absurd rfl z)
    exact kk
  rw [hm_mOf] at step2
  replace e1 : fX11_forget h X = some (r, h1) := e1
  refine v_aload_n (q := 334) 1 dL_law_333 rfl rfl rfl ?_
  exact u_callV1 (M' := mX11_forget) (d' := 4) (rc := (RX11, TX11, 14)) (As := []) (st := []) (q := 337) oX11_forget dL_law_334 w0906 w0907 w0908 rfl rfl hX.1 hX.2 rfl (Nat.le_of_ble_eq_true rfl) (Nat.le_of_ble_eq_true rfl) (Nat.lt_of_lt_of_le (by decide) hd) rfl (sX11_forget (Nat.le_refl _) e1) rfl step2
set_option maxRecDepth 20000 in
set_option maxHeartbeats 4000000 in
theorem law_6 {Γ : Gm} {d : Nat} (hd : 13 ≤ d) {X T : Nat} {h h1 : Hp} {m1 : Mem} {r i : Int32} {t : Option Value × Hp} (hX : X < hN h ∧ hS h X = .inl 11) (rs : RS T h1) (hj1 : vp_in (i + 1) Γ.2.2.2.2.2.2.1) (hj2 : vp_in (i + 2) Γ.2.2.2.2.2.2.1) (hj3 : vp_in (i + 3) Γ.2.2.2.2.2.2.1) (hj4 : vp_in (i + 4) Γ.2.2.2.2.2.2.1) (hj5 : vp_in (i + 5) Γ.2.2.2.2.2.2.1) (e1 : opC 6 X h (Γ.2.2.2.2.2.2.2 (i + 1).toNatClampNeg) (Γ.2.2.2.2.2.2.2 (i + 2).toNatClampNeg) (Γ.2.2.2.2.2.2.2 (i + 3).toNatClampNeg) (Γ.2.2.2.2.2.2.2 (i + 4).toNatClampNeg) (Γ.2.2.2.2.2.2.2 (i + 5).toNatClampNeg) = some (r, h1)) (e2 : opR 6 (mOf T h1) (Γ.2.2.2.2.2.2.2 (i + 1).toNatClampNeg) (Γ.2.2.2.2.2.2.2 (i + 2).toNatClampNeg) (Γ.2.2.2.2.2.2.2 (i + 3).toNatClampNeg) (Γ.2.2.2.2.2.2.2 (i + 4).toNatClampNeg) (Γ.2.2.2.2.2.2.2 (i + 5).toNatClampNeg) = some (r, m1)) (kk : V Γ d mL 1163 [(0, .retAddr 3), (1, .ref X), (2, .ref T), (3, .int i)] [] (hm T h1 m1) t) : V Γ d mL 346 [(0, .retAddr 3), (1, .ref X), (2, .ref T), (3, .int i)] [] h t := by
  replace e2 : gX12_swap (mOf T h1) (Γ.2.2.2.2.2.2.2 (i + 1).toNatClampNeg) (Γ.2.2.2.2.2.2.2 (i + 2).toNatClampNeg) = some (r, m1) := e2
  have step2 : V Γ d mL 360 [(0, .retAddr 3), (1, .ref X), (2, .ref T), (3, .int i)] [.int r] (hm T h1 (mOf T h1)) t := by
    refine v_aload_n (q := 361) 2 dL_law_360 rfl rfl rfl ?_
    refine v_aload_nX (q := 362) 0 dL_law_361 rfl rfl rfl ?_
    refine v_iload_n (q := 363) 3 dL_law_362 rfl rfl rfl ?_
    refine v_iconst (v := 1) (q := 364) dL_law_363 (by decide) rfl ?_
    refine v_iadd (q := 365) dL_law_364 rfl ?_
    refine v_sld (q := 366) dL_law_365 hj1 rfl ?_
    refine v_aload_nX (q := 367) 0 dL_law_366 rfl rfl rfl ?_
    refine v_iload_n (q := 368) 3 dL_law_367 rfl rfl rfl ?_
    refine v_iconst (v := 2) (q := 369) dL_law_368 (by decide) rfl ?_
    refine v_iadd (q := 370) dL_law_369 rfl ?_
    refine v_sld (q := 371) dL_law_370 hj2 rfl ?_
    refine u_callV1 (M' := mX12_swap) (d' := 4) (rc := (RX12, TX12, 58)) (As := [.int (Γ.2.2.2.2.2.2.2 (i + 1).toNatClampNeg), .int (Γ.2.2.2.2.2.2.2 (i + 2).toNatClampNeg)]) (st := [.int r]) (q := 374) oX12_swap dL_law_371 w1742 w1743 w1744 rfl rfl (RS.rc rs).1 (RS.rc rs).2 rfl (Nat.le_of_ble_eq_true rfl) (Nat.le_of_ble_eq_true rfl) (Nat.lt_of_lt_of_le (by decide) hd) rfl (sgX12_swap (Nat.le_refl _) rs e2) rfl ?_
    refine v_icmp_eq (q1 := 1163) (q2 := 377) dL_law_374 (by decide) rfl (fun _ => ?_) (fun z => absurd rfl z)
    exact kk
  rw [hm_mOf] at step2
  replace e1 : fX11_swap h X (Γ.2.2.2.2.2.2.2 (i + 1).toNatClampNeg) (Γ.2.2.2.2.2.2.2 (i + 2).toNatClampNeg) = some (r, h1) := e1
  refine v_aload_n (q := 347) 1 dL_law_346 rfl rfl rfl ?_
  refine v_aload_nX (q := 348) 0 dL_law_347 rfl rfl rfl ?_
  refine v_iload_n (q := 349) 3 dL_law_348 rfl rfl rfl ?_
  refine v_iconst (v := 1) (q := 350) dL_law_349 (by decide) rfl ?_
  refine v_iadd (q := 351) dL_law_350 rfl ?_
  refine v_sld (q := 352) dL_law_351 hj1 rfl ?_
  refine v_aload_nX (q := 353) 0 dL_law_352 rfl rfl rfl ?_
  refine v_iload_n (q := 354) 3 dL_law_353 rfl rfl rfl ?_
  refine v_iconst (v := 2) (q := 355) dL_law_354 (by decide) rfl ?_
  refine v_iadd (q := 356) dL_law_355 rfl ?_
  refine v_sld (q := 357) dL_law_356 hj2 rfl ?_
  exact u_callV1 (M' := mX11_swap) (d' := 4) (rc := (RX11, TX11, 14)) (As := [.int (Γ.2.2.2.2.2.2.2 (i + 1).toNatClampNeg), .int (Γ.2.2.2.2.2.2.2 (i + 2).toNatClampNeg)]) (st := []) (q := 360) oX11_swap dL_law_357 w0911 w0912 w0913 rfl rfl hX.1 hX.2 rfl (Nat.le_of_ble_eq_true rfl) (Nat.le_of_ble_eq_true rfl) (Nat.lt_of_lt_of_le (by decide) hd) rfl (sX11_swap (Nat.le_refl _) e1) rfl step2
set_option maxRecDepth 20000 in
set_option maxHeartbeats 4000000 in
theorem law_7 {Γ : Gm} {d : Nat} (hd : 13 ≤ d) {X T : Nat} {h h1 : Hp} {m1 : Mem} {r i : Int32} {t : Option Value × Hp} (hX : X < hN h ∧ hS h X = .inl 11) (rs : RS T h1) (hj1 : vp_in (i + 1) Γ.2.2.2.2.2.2.1) (hj2 : vp_in (i + 2) Γ.2.2.2.2.2.2.1) (hj3 : vp_in (i + 3) Γ.2.2.2.2.2.2.1) (hj4 : vp_in (i + 4) Γ.2.2.2.2.2.2.1) (hj5 : vp_in (i + 5) Γ.2.2.2.2.2.2.1) (e1 : opC 7 X h (Γ.2.2.2.2.2.2.2 (i + 1).toNatClampNeg) (Γ.2.2.2.2.2.2.2 (i + 2).toNatClampNeg) (Γ.2.2.2.2.2.2.2 (i + 3).toNatClampNeg) (Γ.2.2.2.2.2.2.2 (i + 4).toNatClampNeg) (Γ.2.2.2.2.2.2.2 (i + 5).toNatClampNeg) = some (r, h1)) (e2 : opR 7 (mOf T h1) (Γ.2.2.2.2.2.2.2 (i + 1).toNatClampNeg) (Γ.2.2.2.2.2.2.2 (i + 2).toNatClampNeg) (Γ.2.2.2.2.2.2.2 (i + 3).toNatClampNeg) (Γ.2.2.2.2.2.2.2 (i + 4).toNatClampNeg) (Γ.2.2.2.2.2.2.2 (i + 5).toNatClampNeg) = some (r, m1)) (kk : V Γ d mL 1163 [(0, .retAddr 3), (1, .ref X), (2, .ref T), (3, .int i)] [] (hm T h1 m1) t) : V Γ d mL 379 [(0, .retAddr 3), (1, .ref X), (2, .ref T), (3, .int i)] [] h t := by
  replace e2 : gX12_undo (mOf T h1) = some (r, m1) := e2
  have step2 : V Γ d mL 383 [(0, .retAddr 3), (1, .ref X), (2, .ref T), (3, .int i)] [.int r] (hm T h1 (mOf T h1)) t := by
    refine v_aload_n (q := 384) 2 dL_law_383 rfl rfl rfl ?_
    refine u_callV1 (M' := mX12_undo) (d' := 2) (rc := (RX12, TX12, 58)) (As := []) (st := [.int r]) (q := 387) oX12_undo dL_law_384 w2008 w2009 w2010 rfl rfl (RS.rc rs).1 (RS.rc rs).2 rfl (Nat.le_of_ble_eq_true rfl) (Nat.le_of_ble_eq_true rfl) (Nat.lt_of_lt_of_le (by decide) hd) rfl (sgX12_undo (Nat.le_refl _) rs e2) rfl ?_
    refine v_icmp_eq (q1 := 1163) (q2 := 390) dL_law_387 (by decide) rfl (fun _ => ?_) (fun z => absurd rfl z)
    exact kk
  rw [hm_mOf] at step2
  replace e1 : fX11_undo h X = some (r, h1) := e1
  refine v_aload_n (q := 380) 1 dL_law_379 rfl rfl rfl ?_
  exact u_callV1 (M' := mX11_undo) (d' := 2) (rc := (RX11, TX11, 14)) (As := []) (st := []) (q := 383) oX11_undo dL_law_380 w0923 w0924 w0925 rfl rfl hX.1 hX.2 rfl (Nat.le_of_ble_eq_true rfl) (Nat.le_of_ble_eq_true rfl) (Nat.lt_of_lt_of_le (by decide) hd) rfl (sX11_undo (Nat.le_refl _) e1) rfl step2
set_option maxRecDepth 20000 in
set_option maxHeartbeats 4000000 in
theorem law_8 {Γ : Gm} {d : Nat} (hd : 13 ≤ d) {X T : Nat} {h h1 : Hp} {m1 : Mem} {r i : Int32} {t : Option Value × Hp} (hX : X < hN h ∧ hS h X = .inl 11) (rs : RS T h1) (hj1 : vp_in (i + 1) Γ.2.2.2.2.2.2.1) (hj2 : vp_in (i + 2) Γ.2.2.2.2.2.2.1) (hj3 : vp_in (i + 3) Γ.2.2.2.2.2.2.1) (hj4 : vp_in (i + 4) Γ.2.2.2.2.2.2.1) (hj5 : vp_in (i + 5) Γ.2.2.2.2.2.2.1) (e1 : opC 8 X h (Γ.2.2.2.2.2.2.2 (i + 1).toNatClampNeg) (Γ.2.2.2.2.2.2.2 (i + 2).toNatClampNeg) (Γ.2.2.2.2.2.2.2 (i + 3).toNatClampNeg) (Γ.2.2.2.2.2.2.2 (i + 4).toNatClampNeg) (Γ.2.2.2.2.2.2.2 (i + 5).toNatClampNeg) = some (r, h1)) (e2 : opR 8 (mOf T h1) (Γ.2.2.2.2.2.2.2 (i + 1).toNatClampNeg) (Γ.2.2.2.2.2.2.2 (i + 2).toNatClampNeg) (Γ.2.2.2.2.2.2.2 (i + 3).toNatClampNeg) (Γ.2.2.2.2.2.2.2 (i + 4).toNatClampNeg) (Γ.2.2.2.2.2.2.2 (i + 5).toNatClampNeg) = some (r, m1)) (kk : V Γ d mL 1163 [(0, .retAddr 3), (1, .ref X), (2, .ref T), (3, .int i)] [] (hm T h1 m1) t) : V Γ d mL 392 [(0, .retAddr 3), (1, .ref X), (2, .ref T), (3, .int i)] [] h t := by
  replace e2 : gX12_redo (mOf T h1) = some (r, m1) := e2
  have step2 : V Γ d mL 396 [(0, .retAddr 3), (1, .ref X), (2, .ref T), (3, .int i)] [.int r] (hm T h1 (mOf T h1)) t := by
    refine v_aload_n (q := 397) 2 dL_law_396 rfl rfl rfl ?_
    refine u_callV1 (M' := mX12_redo) (d' := 2) (rc := (RX12, TX12, 58)) (As := []) (st := [.int r]) (q := 400) oX12_redo dL_law_397 w2016 w2017 w2018 rfl rfl (RS.rc rs).1 (RS.rc rs).2 rfl (Nat.le_of_ble_eq_true rfl) (Nat.le_of_ble_eq_true rfl) (Nat.lt_of_lt_of_le (by decide) hd) rfl (sgX12_redo (Nat.le_refl _) rs e2) rfl ?_
    refine v_icmp_eq (q1 := 1163) (q2 := 403) dL_law_400 (by decide) rfl (fun _ => ?_) (fun z => absurd rfl z)
    exact kk
  rw [hm_mOf] at step2
  replace e1 : fX11_redo h X = some (r, h1) := e1
  refine v_aload_n (q := 393) 1 dL_law_392 rfl rfl rfl ?_
  exact u_callV1 (M' := mX11_redo) (d' := 2) (rc := (RX11, TX11, 14)) (As := []) (st := []) (q := 396) oX11_redo dL_law_393 w0931 w0932 w0933 rfl rfl hX.1 hX.2 rfl (Nat.le_of_ble_eq_true rfl) (Nat.le_of_ble_eq_true rfl) (Nat.lt_of_lt_of_le (by decide) hd) rfl (sX11_redo (Nat.le_refl _) e1) rfl step2
set_option maxRecDepth 20000 in
set_option maxHeartbeats 4000000 in
theorem law_9 {Γ : Gm} {d : Nat} (hd : 13 ≤ d) {X T : Nat} {h h1 : Hp} {m1 : Mem} {r i : Int32} {t : Option Value × Hp} (hX : X < hN h ∧ hS h X = .inl 11) (rs : RS T h1) (hj1 : vp_in (i + 1) Γ.2.2.2.2.2.2.1) (hj2 : vp_in (i + 2) Γ.2.2.2.2.2.2.1) (hj3 : vp_in (i + 3) Γ.2.2.2.2.2.2.1) (hj4 : vp_in (i + 4) Γ.2.2.2.2.2.2.1) (hj5 : vp_in (i + 5) Γ.2.2.2.2.2.2.1) (e1 : opC 9 X h (Γ.2.2.2.2.2.2.2 (i + 1).toNatClampNeg) (Γ.2.2.2.2.2.2.2 (i + 2).toNatClampNeg) (Γ.2.2.2.2.2.2.2 (i + 3).toNatClampNeg) (Γ.2.2.2.2.2.2.2 (i + 4).toNatClampNeg) (Γ.2.2.2.2.2.2.2 (i + 5).toNatClampNeg) = some (r, h1)) (e2 : opR 9 (mOf T h1) (Γ.2.2.2.2.2.2.2 (i + 1).toNatClampNeg) (Γ.2.2.2.2.2.2.2 (i + 2).toNatClampNeg) (Γ.2.2.2.2.2.2.2 (i + 3).toNatClampNeg) (Γ.2.2.2.2.2.2.2 (i + 4).toNatClampNeg) (Γ.2.2.2.2.2.2.2 (i + 5).toNatClampNeg) = some (r, m1)) (kk : V Γ d mL 1163 [(0, .retAddr 3), (1, .ref X), (2, .ref T), (3, .int i)] [] (hm T h1 m1) t) : V Γ d mL 405 [(0, .retAddr 3), (1, .ref X), (2, .ref T), (3, .int i)] [] h t := by
  obtain ⟨r8, e2, e8⟩ := bs e2
  obtain ⟨q8, q9⟩ := Prod.mk.inj (Option.some.inj e8)
  rw [q8] at e2
  rw [← q9] at kk
  have step2 : V Γ d mL 414 [(0, .retAddr 3), (1, .ref X), (2, .ref T), (3, .int i)] [.int r] (hm T h1 (mOf T h1)) t := by
    refine v_aload_n (q := 415) 2 dL_law_414 rfl rfl rfl ?_
    refine v_aload_nX (q := 416) 0 dL_law_415 rfl rfl rfl ?_
    refine v_iload_n (q := 417) 3 dL_law_416 rfl rfl rfl ?_
    refine v_iconst (v := 1) (q := 418) dL_law_417 (by decide) rfl ?_
    refine v_iadd (q := 419) dL_law_418 rfl ?_
    refine v_sld (q := 420) dL_law_419 hj1 rfl ?_
    refine u_callV1 (M' := mX12_lock) (d' := 2) (rc := (RX12, TX12, 58)) (As := [.int (Γ.2.2.2.2.2.2.2 (i + 1).toNatClampNeg)]) (st := [.int r]) (q := 423) oX12_lock dL_law_420 w1758 w1759 w1760 rfl rfl (RS.rc rs).1 (RS.rc rs).2 rfl (Nat.le_of_ble_eq_true rfl) (Nat.le_of_ble_eq_true rfl) (Nat.lt_of_lt_of_le (by decide) hd) rfl (sgX12_lock (Nat.le_refl _) rs e2) rfl ?_
    refine v_icmp_eq (q1 := 1163) (q2 := 426) dL_law_423 (by decide) rfl (fun _ => ?_) (fun z => absurd rfl z)
    exact kk
  rw [hm_mOf] at step2
  obtain ⟨r9, e1, e9⟩ := bs e1
  obtain ⟨p8, p9⟩ := Prod.mk.inj (Option.some.inj e9)
  rw [p8] at e1
  rw [← p9] at step2
  refine v_aload_n (q := 406) 1 dL_law_405 rfl rfl rfl ?_
  refine v_aload_nX (q := 407) 0 dL_law_406 rfl rfl rfl ?_
  refine v_iload_n (q := 408) 3 dL_law_407 rfl rfl rfl ?_
  refine v_iconst (v := 1) (q := 409) dL_law_408 (by decide) rfl ?_
  refine v_iadd (q := 410) dL_law_409 rfl ?_
  refine v_sld (q := 411) dL_law_410 hj1 rfl ?_
  exact u_callV1 (M' := mX11_lock) (d' := 2) (rc := (RX11, TX11, 14)) (As := [.int (Γ.2.2.2.2.2.2.2 (i + 1).toNatClampNeg)]) (st := []) (q := 414) oX11_lock dL_law_411 w0939 w0940 w0941 rfl rfl hX.1 hX.2 rfl (Nat.le_of_ble_eq_true rfl) (Nat.le_of_ble_eq_true rfl) (Nat.lt_of_lt_of_le (by decide) hd) rfl (sX11_lock (Nat.le_refl _) e1) rfl step2
set_option maxRecDepth 20000 in
set_option maxHeartbeats 4000000 in
theorem law_10 {Γ : Gm} {d : Nat} (hd : 13 ≤ d) {X T : Nat} {h h1 : Hp} {m1 : Mem} {r i : Int32} {t : Option Value × Hp} (hX : X < hN h ∧ hS h X = .inl 11) (rs : RS T h1) (hj1 : vp_in (i + 1) Γ.2.2.2.2.2.2.1) (hj2 : vp_in (i + 2) Γ.2.2.2.2.2.2.1) (hj3 : vp_in (i + 3) Γ.2.2.2.2.2.2.1) (hj4 : vp_in (i + 4) Γ.2.2.2.2.2.2.1) (hj5 : vp_in (i + 5) Γ.2.2.2.2.2.2.1) (e1 : opC 10 X h (Γ.2.2.2.2.2.2.2 (i + 1).toNatClampNeg) (Γ.2.2.2.2.2.2.2 (i + 2).toNatClampNeg) (Γ.2.2.2.2.2.2.2 (i + 3).toNatClampNeg) (Γ.2.2.2.2.2.2.2 (i + 4).toNatClampNeg) (Γ.2.2.2.2.2.2.2 (i + 5).toNatClampNeg) = some (r, h1)) (e2 : opR 10 (mOf T h1) (Γ.2.2.2.2.2.2.2 (i + 1).toNatClampNeg) (Γ.2.2.2.2.2.2.2 (i + 2).toNatClampNeg) (Γ.2.2.2.2.2.2.2 (i + 3).toNatClampNeg) (Γ.2.2.2.2.2.2.2 (i + 4).toNatClampNeg) (Γ.2.2.2.2.2.2.2 (i + 5).toNatClampNeg) = some (r, m1)) (kk : V Γ d mL 1163 [(0, .retAddr 3), (1, .ref X), (2, .ref T), (3, .int i)] [] (hm T h1 m1) t) : V Γ d mL 428 [(0, .retAddr 3), (1, .ref X), (2, .ref T), (3, .int i)] [] h t := by
  obtain ⟨r8, e2, e8⟩ := bs e2
  obtain ⟨q8, q9⟩ := Prod.mk.inj (Option.some.inj e8)
  rw [q8] at e2
  rw [← q9] at kk
  have step2 : V Γ d mL 442 [(0, .retAddr 3), (1, .ref X), (2, .ref T), (3, .int i)] [.int r] (hm T h1 (mOf T h1)) t := by
    refine v_aload_n (q := 443) 2 dL_law_442 rfl rfl rfl ?_
    refine v_aload_nX (q := 444) 0 dL_law_443 rfl rfl rfl ?_
    refine v_iload_n (q := 445) 3 dL_law_444 rfl rfl rfl ?_
    refine v_iconst (v := 1) (q := 446) dL_law_445 (by decide) rfl ?_
    refine v_iadd (q := 447) dL_law_446 rfl ?_
    refine v_sld (q := 448) dL_law_447 hj1 rfl ?_
    refine v_aload_nX (q := 449) 0 dL_law_448 rfl rfl rfl ?_
    refine v_iload_n (q := 450) 3 dL_law_449 rfl rfl rfl ?_
    refine v_iconst (v := 2) (q := 451) dL_law_450 (by decide) rfl ?_
    refine v_iadd (q := 452) dL_law_451 rfl ?_
    refine v_sld (q := 453) dL_law_452 hj2 rfl ?_
    refine u_callV1 (M' := mX12_program) (d' := 3) (rc := (RX12, TX12, 58)) (As := [.int (Γ.2.2.2.2.2.2.2 (i + 1).toNatClampNeg), .int (Γ.2.2.2.2.2.2.2 (i + 2).toNatClampNeg)]) (st := [.int r]) (q := 456) oX12_program dL_law_453 w1762 w1763 w1764 rfl rfl (RS.rc rs).1 (RS.rc rs).2 rfl (Nat.le_of_ble_eq_true rfl) (Nat.le_of_ble_eq_true rfl) (Nat.lt_of_lt_of_le (by decide) hd) rfl (sgX12_program (Nat.le_refl _) rs e2) rfl ?_
    refine v_icmp_eq (q1 := 1163) (q2 := 459) dL_law_456 (by decide) rfl (fun _ => ?_) (fun z => absurd rfl z)
    exact kk
  rw [hm_mOf] at step2
  obtain ⟨r9, e1, e9⟩ := bs e1
  obtain ⟨p8, p9⟩ := Prod.mk.inj (Option.some.inj e9)
  rw [p8] at e1
  rw [← p9] at step2
  refine v_aload_n (q := 429) 1 dL_law_428 rfl rfl rfl ?_
  refine v_aload_nX (q := 430) 0 dL_law_429 rfl rfl rfl ?_
  refine v_iload_n (q := 431) 3 dL_law_430 rfl rfl rfl ?_
  refine v_iconst (v := 1) (q := 432) dL_law_431 (by decide) rfl ?_
  refine v_iadd (q := 433) dL_law_432 rfl ?_
  refine v_sld (q := 434) dL_law_433 hj1 rfl ?_
  refine v_aload_nX (q := 435) 0 dL_law_434 rfl rfl rfl ?_
  refine v_iload_n (q := 436) 3 dL_law_435 rfl rfl rfl ?_
  refine v_iconst (v := 2) (q := 437) dL_law_436 (by decide) rfl ?_
  refine v_iadd (q := 438) dL_law_437 rfl ?_
  refine v_sld (q := 439) dL_law_438 hj2 rfl ?_
  exact u_callV1 (M' := mX11_program) (d' := 2) (rc := (RX11, TX11, 14)) (As := [.int (Γ.2.2.2.2.2.2.2 (i + 1).toNatClampNeg), .int (Γ.2.2.2.2.2.2.2 (i + 2).toNatClampNeg)]) (st := []) (q := 442) oX11_program dL_law_439 w0947 w0948 w0949 rfl rfl hX.1 hX.2 rfl (Nat.le_of_ble_eq_true rfl) (Nat.le_of_ble_eq_true rfl) (Nat.lt_of_lt_of_le (by decide) hd) rfl (sX11_program (Nat.le_refl _) e1) rfl step2
set_option maxRecDepth 20000 in
set_option maxHeartbeats 4000000 in
theorem law_11 {Γ : Gm} {d : Nat} (hd : 13 ≤ d) {X T : Nat} {h h1 : Hp} {m1 : Mem} {r i : Int32} {t : Option Value × Hp} (hX : X < hN h ∧ hS h X = .inl 11) (rs : RS T h1) (hj1 : vp_in (i + 1) Γ.2.2.2.2.2.2.1) (hj2 : vp_in (i + 2) Γ.2.2.2.2.2.2.1) (hj3 : vp_in (i + 3) Γ.2.2.2.2.2.2.1) (hj4 : vp_in (i + 4) Γ.2.2.2.2.2.2.1) (hj5 : vp_in (i + 5) Γ.2.2.2.2.2.2.1) (e1 : opC 11 X h (Γ.2.2.2.2.2.2.2 (i + 1).toNatClampNeg) (Γ.2.2.2.2.2.2.2 (i + 2).toNatClampNeg) (Γ.2.2.2.2.2.2.2 (i + 3).toNatClampNeg) (Γ.2.2.2.2.2.2.2 (i + 4).toNatClampNeg) (Γ.2.2.2.2.2.2.2 (i + 5).toNatClampNeg) = some (r, h1)) (e2 : opR 11 (mOf T h1) (Γ.2.2.2.2.2.2.2 (i + 1).toNatClampNeg) (Γ.2.2.2.2.2.2.2 (i + 2).toNatClampNeg) (Γ.2.2.2.2.2.2.2 (i + 3).toNatClampNeg) (Γ.2.2.2.2.2.2.2 (i + 4).toNatClampNeg) (Γ.2.2.2.2.2.2.2 (i + 5).toNatClampNeg) = some (r, m1)) (kk : V Γ d mL 1163 [(0, .retAddr 3), (1, .ref X), (2, .ref T), (3, .int i)] [] (hm T h1 m1) t) : V Γ d mL 461 [(0, .retAddr 3), (1, .ref X), (2, .ref T), (3, .int i)] [] h t := by
  obtain ⟨r8, e2, e8⟩ := bs e2
  obtain ⟨q8, q9⟩ := Prod.mk.inj (Option.some.inj e8)
  rw [q8] at e2
  rw [← q9] at kk
  have step2 : V Γ d mL 480 [(0, .retAddr 3), (1, .ref X), (2, .ref T), (3, .int i)] [.int r] (hm T h1 (mOf T h1)) t := by
    refine v_aload_n (q := 481) 2 dL_law_480 rfl rfl rfl ?_
    refine v_aload_nX (q := 482) 0 dL_law_481 rfl rfl rfl ?_
    refine v_iload_n (q := 483) 3 dL_law_482 rfl rfl rfl ?_
    refine v_iconst (v := 1) (q := 484) dL_law_483 (by decide) rfl ?_
    refine v_iadd (q := 485) dL_law_484 rfl ?_
    refine v_sld (q := 486) dL_law_485 hj1 rfl ?_
    refine v_aload_nX (q := 487) 0 dL_law_486 rfl rfl rfl ?_
    refine v_iload_n (q := 488) 3 dL_law_487 rfl rfl rfl ?_
    refine v_iconst (v := 2) (q := 489) dL_law_488 (by decide) rfl ?_
    refine v_iadd (q := 490) dL_law_489 rfl ?_
    refine v_sld (q := 491) dL_law_490 hj2 rfl ?_
    refine v_aload_nX (q := 492) 0 dL_law_491 rfl rfl rfl ?_
    refine v_iload_n (q := 493) 3 dL_law_492 rfl rfl rfl ?_
    refine v_iconst (v := 3) (q := 494) dL_law_493 (by decide) rfl ?_
    refine v_iadd (q := 495) dL_law_494 rfl ?_
    refine v_sld (q := 496) dL_law_495 hj3 rfl ?_
    refine u_callV1 (M' := mX12_step) (d' := 3) (rc := (RX12, TX12, 58)) (As := [.int (Γ.2.2.2.2.2.2.2 (i + 1).toNatClampNeg), .int (Γ.2.2.2.2.2.2.2 (i + 2).toNatClampNeg), .int (Γ.2.2.2.2.2.2.2 (i + 3).toNatClampNeg)]) (st := [.int r]) (q := 499) oX12_step dL_law_496 w1766 w1767 w1768 rfl rfl (RS.rc rs).1 (RS.rc rs).2 rfl (Nat.le_of_ble_eq_true rfl) (Nat.le_of_ble_eq_true rfl) (Nat.lt_of_lt_of_le (by decide) hd) rfl (sgX12_step (Nat.le_refl _) rs e2) rfl ?_
    refine v_icmp_eq (q1 := 1163) (q2 := 502) dL_law_499 (by decide) rfl (fun _ => ?_) (fun z => absurd rfl z)
    exact kk
  rw [hm_mOf] at step2
  obtain ⟨r9, e1, e9⟩ := bs e1
  obtain ⟨p8, p9⟩ := Prod.mk.inj (Option.some.inj e9)
  rw [p8] at e1
  rw [← p9] at step2
  refine v_aload_n (q := 462) 1 dL_law_461 rfl rfl rfl ?_
  refine v_aload_nX (q := 463) 0 dL_law_462 rfl rfl rfl ?_
  refine v_iload_n (q := 464) 3 dL_law_463 rfl rfl rfl ?_
  refine v_iconst (v := 1) (q := 465) dL_law_464 (by decide) rfl ?_
  refine v_iadd (q := 466) dL_law_465 rfl ?_
  refine v_sld (q := 467) dL_law_466 hj1 rfl ?_
  refine v_aload_nX (q := 468) 0 dL_law_467 rfl rfl rfl ?_
  refine v_iload_n (q := 469) 3 dL_law_468 rfl rfl rfl ?_
  refine v_iconst (v := 2) (q := 470) dL_law_469 (by decide) rfl ?_
  refine v_iadd (q := 471) dL_law_470 rfl ?_
  refine v_sld (q := 472) dL_law_471 hj2 rfl ?_
  refine v_aload_nX (q := 473) 0 dL_law_472 rfl rfl rfl ?_
  refine v_iload_n (q := 474) 3 dL_law_473 rfl rfl rfl ?_
  refine v_iconst (v := 3) (q := 475) dL_law_474 (by decide) rfl ?_
  refine v_iadd (q := 476) dL_law_475 rfl ?_
  refine v_sld (q := 477) dL_law_476 hj3 rfl ?_
  exact u_callV1 (M' := mX11_step) (d' := 3) (rc := (RX11, TX11, 14)) (As := [.int (Γ.2.2.2.2.2.2.2 (i + 1).toNatClampNeg), .int (Γ.2.2.2.2.2.2.2 (i + 2).toNatClampNeg), .int (Γ.2.2.2.2.2.2.2 (i + 3).toNatClampNeg)]) (st := []) (q := 480) oX11_step dL_law_477 w0951 w0952 w0953 rfl rfl hX.1 hX.2 rfl (Nat.le_of_ble_eq_true rfl) (Nat.le_of_ble_eq_true rfl) (Nat.lt_of_lt_of_le (by decide) hd) rfl (sX11_step (Nat.le_refl _) e1) rfl step2
set_option maxRecDepth 20000 in
set_option maxHeartbeats 4000000 in
theorem law_12 {Γ : Gm} {d : Nat} (hd : 13 ≤ d) {X T : Nat} {h h1 : Hp} {m1 : Mem} {r i : Int32} {t : Option Value × Hp} (hX : X < hN h ∧ hS h X = .inl 11) (rs : RS T h1) (hj1 : vp_in (i + 1) Γ.2.2.2.2.2.2.1) (hj2 : vp_in (i + 2) Γ.2.2.2.2.2.2.1) (hj3 : vp_in (i + 3) Γ.2.2.2.2.2.2.1) (hj4 : vp_in (i + 4) Γ.2.2.2.2.2.2.1) (hj5 : vp_in (i + 5) Γ.2.2.2.2.2.2.1) (e1 : opC 12 X h (Γ.2.2.2.2.2.2.2 (i + 1).toNatClampNeg) (Γ.2.2.2.2.2.2.2 (i + 2).toNatClampNeg) (Γ.2.2.2.2.2.2.2 (i + 3).toNatClampNeg) (Γ.2.2.2.2.2.2.2 (i + 4).toNatClampNeg) (Γ.2.2.2.2.2.2.2 (i + 5).toNatClampNeg) = some (r, h1)) (e2 : opR 12 (mOf T h1) (Γ.2.2.2.2.2.2.2 (i + 1).toNatClampNeg) (Γ.2.2.2.2.2.2.2 (i + 2).toNatClampNeg) (Γ.2.2.2.2.2.2.2 (i + 3).toNatClampNeg) (Γ.2.2.2.2.2.2.2 (i + 4).toNatClampNeg) (Γ.2.2.2.2.2.2.2 (i + 5).toNatClampNeg) = some (r, m1)) (kk : V Γ d mL 1163 [(0, .retAddr 3), (1, .ref X), (2, .ref T), (3, .int i)] [] (hm T h1 m1) t) : V Γ d mL 504 [(0, .retAddr 3), (1, .ref X), (2, .ref T), (3, .int i)] [] h t := by
  obtain ⟨r8, e2, e8⟩ := bs e2
  obtain ⟨q8, q9⟩ := Prod.mk.inj (Option.some.inj e8)
  rw [q8] at e2
  rw [← q9] at kk
  have step2 : V Γ d mL 523 [(0, .retAddr 3), (1, .ref X), (2, .ref T), (3, .int i)] [.int r] (hm T h1 (mOf T h1)) t := by
    refine v_aload_n (q := 524) 2 dL_law_523 rfl rfl rfl ?_
    refine v_aload_nX (q := 525) 0 dL_law_524 rfl rfl rfl ?_
    refine v_iload_n (q := 526) 3 dL_law_525 rfl rfl rfl ?_
    refine v_iconst (v := 1) (q := 527) dL_law_526 (by decide) rfl ?_
    refine v_iadd (q := 528) dL_law_527 rfl ?_
    refine v_sld (q := 529) dL_law_528 hj1 rfl ?_
    refine v_aload_nX (q := 530) 0 dL_law_529 rfl rfl rfl ?_
    refine v_iload_n (q := 531) 3 dL_law_530 rfl rfl rfl ?_
    refine v_iconst (v := 2) (q := 532) dL_law_531 (by decide) rfl ?_
    refine v_iadd (q := 533) dL_law_532 rfl ?_
    refine v_sld (q := 534) dL_law_533 hj2 rfl ?_
    refine v_aload_nX (q := 535) 0 dL_law_534 rfl rfl rfl ?_
    refine v_iload_n (q := 536) 3 dL_law_535 rfl rfl rfl ?_
    refine v_iconst (v := 3) (q := 537) dL_law_536 (by decide) rfl ?_
    refine v_iadd (q := 538) dL_law_537 rfl ?_
    refine v_sld (q := 539) dL_law_538 hj3 rfl ?_
    refine u_callV1 (M' := mX12_edge) (d' := 3) (rc := (RX12, TX12, 58)) (As := [.int (Γ.2.2.2.2.2.2.2 (i + 1).toNatClampNeg), .int (Γ.2.2.2.2.2.2.2 (i + 2).toNatClampNeg), .int (Γ.2.2.2.2.2.2.2 (i + 3).toNatClampNeg)]) (st := [.int r]) (q := 542) oX12_edge dL_law_539 w1770 w1771 w1772 rfl rfl (RS.rc rs).1 (RS.rc rs).2 rfl (Nat.le_of_ble_eq_true rfl) (Nat.le_of_ble_eq_true rfl) (Nat.lt_of_lt_of_le (by decide) hd) rfl (sgX12_edge (Nat.le_refl _) rs e2) rfl ?_
    refine v_icmp_eq (q1 := 1163) (q2 := 545) dL_law_542 (by decide) rfl (fun _ => ?_) (fun z => absurd rfl z)
    exact kk
  rw [hm_mOf] at step2
  obtain ⟨r9, e1, e9⟩ := bs e1
  obtain ⟨p8, p9⟩ := Prod.mk.inj (Option.some.inj e9)
  rw [p8] at e1
  rw [← p9] at step2
  refine v_aload_n (q := 505) 1 dL_law_504 rfl rfl rfl ?_
  refine v_aload_nX (q := 506) 0 dL_law_505 rfl rfl rfl ?_
  refine v_iload_n (q := 507) 3 dL_law_506 rfl rfl rfl ?_
  refine v_iconst (v := 1) (q := 508) dL_law_507 (by decide) rfl ?_
  refine v_iadd (q := 509) dL_law_508 rfl ?_
  refine v_sld (q := 510) dL_law_509 hj1 rfl ?_
  refine v_aload_nX (q := 511) 0 dL_law_510 rfl rfl rfl ?_
  refine v_iload_n (q := 512) 3 dL_law_511 rfl rfl rfl ?_
  refine v_iconst (v := 2) (q := 513) dL_law_512 (by decide) rfl ?_
  refine v_iadd (q := 514) dL_law_513 rfl ?_
  refine v_sld (q := 515) dL_law_514 hj2 rfl ?_
  refine v_aload_nX (q := 516) 0 dL_law_515 rfl rfl rfl ?_
  refine v_iload_n (q := 517) 3 dL_law_516 rfl rfl rfl ?_
  refine v_iconst (v := 3) (q := 518) dL_law_517 (by decide) rfl ?_
  refine v_iadd (q := 519) dL_law_518 rfl ?_
  refine v_sld (q := 520) dL_law_519 hj3 rfl ?_
  exact u_callV1 (M' := mX11_edge) (d' := 3) (rc := (RX11, TX11, 14)) (As := [.int (Γ.2.2.2.2.2.2.2 (i + 1).toNatClampNeg), .int (Γ.2.2.2.2.2.2.2 (i + 2).toNatClampNeg), .int (Γ.2.2.2.2.2.2.2 (i + 3).toNatClampNeg)]) (st := []) (q := 523) oX11_edge dL_law_520 w0961 w0962 w0963 rfl rfl hX.1 hX.2 rfl (Nat.le_of_ble_eq_true rfl) (Nat.le_of_ble_eq_true rfl) (Nat.lt_of_lt_of_le (by decide) hd) rfl (sX11_edge (Nat.le_refl _) e1) rfl step2
set_option maxRecDepth 20000 in
set_option maxHeartbeats 4000000 in
theorem law_13 {Γ : Gm} {d : Nat} (hd : 13 ≤ d) {X T : Nat} {h h1 : Hp} {m1 : Mem} {r i : Int32} {t : Option Value × Hp} (hX : X < hN h ∧ hS h X = .inl 11) (rs : RS T h1) (hj1 : vp_in (i + 1) Γ.2.2.2.2.2.2.1) (hj2 : vp_in (i + 2) Γ.2.2.2.2.2.2.1) (hj3 : vp_in (i + 3) Γ.2.2.2.2.2.2.1) (hj4 : vp_in (i + 4) Γ.2.2.2.2.2.2.1) (hj5 : vp_in (i + 5) Γ.2.2.2.2.2.2.1) (e1 : opC 13 X h (Γ.2.2.2.2.2.2.2 (i + 1).toNatClampNeg) (Γ.2.2.2.2.2.2.2 (i + 2).toNatClampNeg) (Γ.2.2.2.2.2.2.2 (i + 3).toNatClampNeg) (Γ.2.2.2.2.2.2.2 (i + 4).toNatClampNeg) (Γ.2.2.2.2.2.2.2 (i + 5).toNatClampNeg) = some (r, h1)) (e2 : opR 13 (mOf T h1) (Γ.2.2.2.2.2.2.2 (i + 1).toNatClampNeg) (Γ.2.2.2.2.2.2.2 (i + 2).toNatClampNeg) (Γ.2.2.2.2.2.2.2 (i + 3).toNatClampNeg) (Γ.2.2.2.2.2.2.2 (i + 4).toNatClampNeg) (Γ.2.2.2.2.2.2.2 (i + 5).toNatClampNeg) = some (r, m1)) (kk : V Γ d mL 1163 [(0, .retAddr 3), (1, .ref X), (2, .ref T), (3, .int i)] [] (hm T h1 m1) t) : V Γ d mL 547 [(0, .retAddr 3), (1, .ref X), (2, .ref T), (3, .int i)] [] h t := by
  obtain ⟨r8, e2, e8⟩ := bs e2
  obtain ⟨q8, q9⟩ := Prod.mk.inj (Option.some.inj e8)
  rw [q8] at e2
  rw [← q9] at kk
  have step2 : V Γ d mL 556 [(0, .retAddr 3), (1, .ref X), (2, .ref T), (3, .int i)] [.int r] (hm T h1 (mOf T h1)) t := by
    refine v_aload_n (q := 557) 2 dL_law_556 rfl rfl rfl ?_
    refine v_aload_nX (q := 558) 0 dL_law_557 rfl rfl rfl ?_
    refine v_iload_n (q := 559) 3 dL_law_558 rfl rfl rfl ?_
    refine v_iconst (v := 1) (q := 560) dL_law_559 (by decide) rfl ?_
    refine v_iadd (q := 561) dL_law_560 rfl ?_
    refine v_sld (q := 562) dL_law_561 hj1 rfl ?_
    refine u_callV1 (M' := mX12_uses) (d' := 3) (rc := (RX12, TX12, 58)) (As := [.int (Γ.2.2.2.2.2.2.2 (i + 1).toNatClampNeg)]) (st := [.int r]) (q := 565) oX12_uses dL_law_562 w1777 w1778 w1779 rfl rfl (RS.rc rs).1 (RS.rc rs).2 rfl (Nat.le_of_ble_eq_true rfl) (Nat.le_of_ble_eq_true rfl) (Nat.lt_of_lt_of_le (by decide) hd) rfl (sgX12_uses (Nat.le_refl _) rs e2) rfl ?_
    refine v_icmp_eq (q1 := 1163) (q2 := 568) dL_law_565 (by decide) rfl (fun _ => ?_) (fun z => absurd rfl z)
    exact kk
  rw [hm_mOf] at step2
  obtain ⟨r9, e1, e9⟩ := bs e1
  obtain ⟨p8, p9⟩ := Prod.mk.inj (Option.some.inj e9)
  rw [p8] at e1
  rw [← p9] at step2
  refine v_aload_n (q := 548) 1 dL_law_547 rfl rfl rfl ?_
  refine v_aload_nX (q := 549) 0 dL_law_548 rfl rfl rfl ?_
  refine v_iload_n (q := 550) 3 dL_law_549 rfl rfl rfl ?_
  refine v_iconst (v := 1) (q := 551) dL_law_550 (by decide) rfl ?_
  refine v_iadd (q := 552) dL_law_551 rfl ?_
  refine v_sld (q := 553) dL_law_552 hj1 rfl ?_
  exact u_callV1 (M' := mX11_uses) (d' := 2) (rc := (RX11, TX11, 14)) (As := [.int (Γ.2.2.2.2.2.2.2 (i + 1).toNatClampNeg)]) (st := []) (q := 556) oX11_uses dL_law_553 w0969 w0970 w0971 rfl rfl hX.1 hX.2 rfl (Nat.le_of_ble_eq_true rfl) (Nat.le_of_ble_eq_true rfl) (Nat.lt_of_lt_of_le (by decide) hd) rfl (sX11_uses (Nat.le_refl _) e1) rfl step2
set_option maxRecDepth 20000 in
set_option maxHeartbeats 4000000 in
theorem law_14 {Γ : Gm} {d : Nat} (hd : 13 ≤ d) {X T : Nat} {h h1 : Hp} {m1 : Mem} {r i : Int32} {t : Option Value × Hp} (hX : X < hN h ∧ hS h X = .inl 11) (rs : RS T h1) (hj1 : vp_in (i + 1) Γ.2.2.2.2.2.2.1) (hj2 : vp_in (i + 2) Γ.2.2.2.2.2.2.1) (hj3 : vp_in (i + 3) Γ.2.2.2.2.2.2.1) (hj4 : vp_in (i + 4) Γ.2.2.2.2.2.2.1) (hj5 : vp_in (i + 5) Γ.2.2.2.2.2.2.1) (e1 : opC 14 X h (Γ.2.2.2.2.2.2.2 (i + 1).toNatClampNeg) (Γ.2.2.2.2.2.2.2 (i + 2).toNatClampNeg) (Γ.2.2.2.2.2.2.2 (i + 3).toNatClampNeg) (Γ.2.2.2.2.2.2.2 (i + 4).toNatClampNeg) (Γ.2.2.2.2.2.2.2 (i + 5).toNatClampNeg) = some (r, h1)) (e2 : opR 14 (mOf T h1) (Γ.2.2.2.2.2.2.2 (i + 1).toNatClampNeg) (Γ.2.2.2.2.2.2.2 (i + 2).toNatClampNeg) (Γ.2.2.2.2.2.2.2 (i + 3).toNatClampNeg) (Γ.2.2.2.2.2.2.2 (i + 4).toNatClampNeg) (Γ.2.2.2.2.2.2.2 (i + 5).toNatClampNeg) = some (r, m1)) (kk : V Γ d mL 1163 [(0, .retAddr 3), (1, .ref X), (2, .ref T), (3, .int i)] [] (hm T h1 m1) t) : V Γ d mL 570 [(0, .retAddr 3), (1, .ref X), (2, .ref T), (3, .int i)] [] h t := by
  replace e2 : gX12_way (mOf T h1) (Γ.2.2.2.2.2.2.2 (i + 1).toNatClampNeg) (Γ.2.2.2.2.2.2.2 (i + 2).toNatClampNeg) (Γ.2.2.2.2.2.2.2 (i + 3).toNatClampNeg) = some (r, m1) := e2
  have step2 : V Γ d mL 589 [(0, .retAddr 3), (1, .ref X), (2, .ref T), (3, .int i)] [.int r] (hm T h1 (mOf T h1)) t := by
    refine v_aload_n (q := 590) 2 dL_law_589 rfl rfl rfl ?_
    refine v_aload_nX (q := 591) 0 dL_law_590 rfl rfl rfl ?_
    refine v_iload_n (q := 592) 3 dL_law_591 rfl rfl rfl ?_
    refine v_iconst (v := 1) (q := 593) dL_law_592 (by decide) rfl ?_
    refine v_iadd (q := 594) dL_law_593 rfl ?_
    refine v_sld (q := 595) dL_law_594 hj1 rfl ?_
    refine v_aload_nX (q := 596) 0 dL_law_595 rfl rfl rfl ?_
    refine v_iload_n (q := 597) 3 dL_law_596 rfl rfl rfl ?_
    refine v_iconst (v := 2) (q := 598) dL_law_597 (by decide) rfl ?_
    refine v_iadd (q := 599) dL_law_598 rfl ?_
    refine v_sld (q := 600) dL_law_599 hj2 rfl ?_
    refine v_aload_nX (q := 601) 0 dL_law_600 rfl rfl rfl ?_
    refine v_iload_n (q := 602) 3 dL_law_601 rfl rfl rfl ?_
    refine v_iconst (v := 3) (q := 603) dL_law_602 (by decide) rfl ?_
    refine v_iadd (q := 604) dL_law_603 rfl ?_
    refine v_sld (q := 605) dL_law_604 hj3 rfl ?_
    refine u_callV1 (M' := mX12_way) (d' := 3) (rc := (RX12, TX12, 58)) (As := [.int (Γ.2.2.2.2.2.2.2 (i + 1).toNatClampNeg), .int (Γ.2.2.2.2.2.2.2 (i + 2).toNatClampNeg), .int (Γ.2.2.2.2.2.2.2 (i + 3).toNatClampNeg)]) (st := [.int r]) (q := 608) oX12_way dL_law_605 w1781 w1782 w1783 rfl rfl (RS.rc rs).1 (RS.rc rs).2 rfl (Nat.le_of_ble_eq_true rfl) (Nat.le_of_ble_eq_true rfl) (Nat.lt_of_lt_of_le (by decide) hd) rfl (sgX12_way (Nat.le_refl _) rs e2) rfl ?_
    refine v_icmp_eq (q1 := 1163) (q2 := 611) dL_law_608 (by decide) rfl (fun _ => ?_) (fun z => absurd rfl z)
    exact kk
  rw [hm_mOf] at step2
  replace e1 : fX11_way h X (Γ.2.2.2.2.2.2.2 (i + 1).toNatClampNeg) (Γ.2.2.2.2.2.2.2 (i + 2).toNatClampNeg) (Γ.2.2.2.2.2.2.2 (i + 3).toNatClampNeg) = some (r, h1) := e1
  refine v_aload_n (q := 571) 1 dL_law_570 rfl rfl rfl ?_
  refine v_aload_nX (q := 572) 0 dL_law_571 rfl rfl rfl ?_
  refine v_iload_n (q := 573) 3 dL_law_572 rfl rfl rfl ?_
  refine v_iconst (v := 1) (q := 574) dL_law_573 (by decide) rfl ?_
  refine v_iadd (q := 575) dL_law_574 rfl ?_
  refine v_sld (q := 576) dL_law_575 hj1 rfl ?_
  refine v_aload_nX (q := 577) 0 dL_law_576 rfl rfl rfl ?_
  refine v_iload_n (q := 578) 3 dL_law_577 rfl rfl rfl ?_
  refine v_iconst (v := 2) (q := 579) dL_law_578 (by decide) rfl ?_
  refine v_iadd (q := 580) dL_law_579 rfl ?_
  refine v_sld (q := 581) dL_law_580 hj2 rfl ?_
  refine v_aload_nX (q := 582) 0 dL_law_581 rfl rfl rfl ?_
  refine v_iload_n (q := 583) 3 dL_law_582 rfl rfl rfl ?_
  refine v_iconst (v := 3) (q := 584) dL_law_583 (by decide) rfl ?_
  refine v_iadd (q := 585) dL_law_584 rfl ?_
  refine v_sld (q := 586) dL_law_585 hj3 rfl ?_
  exact u_callV1 (M' := mX11_way) (d' := 3) (rc := (RX11, TX11, 14)) (As := [.int (Γ.2.2.2.2.2.2.2 (i + 1).toNatClampNeg), .int (Γ.2.2.2.2.2.2.2 (i + 2).toNatClampNeg), .int (Γ.2.2.2.2.2.2.2 (i + 3).toNatClampNeg)]) (st := []) (q := 589) oX11_way dL_law_586 w0973 w0974 w0975 rfl rfl hX.1 hX.2 rfl (Nat.le_of_ble_eq_true rfl) (Nat.le_of_ble_eq_true rfl) (Nat.lt_of_lt_of_le (by decide) hd) rfl (sX11_way (Nat.le_refl _) e1) rfl step2
set_option maxRecDepth 20000 in
set_option maxHeartbeats 4000000 in
theorem law_15 {Γ : Gm} {d : Nat} (hd : 13 ≤ d) {X T : Nat} {h h1 : Hp} {m1 : Mem} {r i : Int32} {t : Option Value × Hp} (hX : X < hN h ∧ hS h X = .inl 11) (rs : RS T h1) (hj1 : vp_in (i + 1) Γ.2.2.2.2.2.2.1) (hj2 : vp_in (i + 2) Γ.2.2.2.2.2.2.1) (hj3 : vp_in (i + 3) Γ.2.2.2.2.2.2.1) (hj4 : vp_in (i + 4) Γ.2.2.2.2.2.2.1) (hj5 : vp_in (i + 5) Γ.2.2.2.2.2.2.1) (e1 : opC 15 X h (Γ.2.2.2.2.2.2.2 (i + 1).toNatClampNeg) (Γ.2.2.2.2.2.2.2 (i + 2).toNatClampNeg) (Γ.2.2.2.2.2.2.2 (i + 3).toNatClampNeg) (Γ.2.2.2.2.2.2.2 (i + 4).toNatClampNeg) (Γ.2.2.2.2.2.2.2 (i + 5).toNatClampNeg) = some (r, h1)) (e2 : opR 15 (mOf T h1) (Γ.2.2.2.2.2.2.2 (i + 1).toNatClampNeg) (Γ.2.2.2.2.2.2.2 (i + 2).toNatClampNeg) (Γ.2.2.2.2.2.2.2 (i + 3).toNatClampNeg) (Γ.2.2.2.2.2.2.2 (i + 4).toNatClampNeg) (Γ.2.2.2.2.2.2.2 (i + 5).toNatClampNeg) = some (r, m1)) (kk : V Γ d mL 1163 [(0, .retAddr 3), (1, .ref X), (2, .ref T), (3, .int i)] [] (hm T h1 m1) t) : V Γ d mL 613 [(0, .retAddr 3), (1, .ref X), (2, .ref T), (3, .int i)] [] h t := by
  replace e2 : gX12_reaches (mOf T h1) (Γ.2.2.2.2.2.2.2 (i + 1).toNatClampNeg) = some (r, m1) := e2
  have step2 : V Γ d mL 622 [(0, .retAddr 3), (1, .ref X), (2, .ref T), (3, .int i)] [.int r] (hm T h1 (mOf T h1)) t := by
    refine v_aload_n (q := 623) 2 dL_law_622 rfl rfl rfl ?_
    refine v_aload_nX (q := 624) 0 dL_law_623 rfl rfl rfl ?_
    refine v_iload_n (q := 625) 3 dL_law_624 rfl rfl rfl ?_
    refine v_iconst (v := 1) (q := 626) dL_law_625 (by decide) rfl ?_
    refine v_iadd (q := 627) dL_law_626 rfl ?_
    refine v_sld (q := 628) dL_law_627 hj1 rfl ?_
    refine u_callV1 (M' := mX12_reaches) (d' := 4) (rc := (RX12, TX12, 58)) (As := [.int (Γ.2.2.2.2.2.2.2 (i + 1).toNatClampNeg)]) (st := [.int r]) (q := 631) oX12_reaches dL_law_628 w1785 w1786 w1787 rfl rfl (RS.rc rs).1 (RS.rc rs).2 rfl (Nat.le_of_ble_eq_true rfl) (Nat.le_of_ble_eq_true rfl) (Nat.lt_of_lt_of_le (by decide) hd) rfl (sgX12_reaches (Nat.le_refl _) rs e2) rfl ?_
    refine v_icmp_eq (q1 := 1163) (q2 := 634) dL_law_631 (by decide) rfl (fun _ => ?_) (fun z => absurd rfl z)
    exact kk
  rw [hm_mOf] at step2
  obtain ⟨r9, e1, e9⟩ := bs e1
  obtain ⟨p8, p9⟩ := Prod.mk.inj (Option.some.inj e9)
  rw [p8] at e1
  rw [← p9] at step2
  refine v_aload_n (q := 614) 1 dL_law_613 rfl rfl rfl ?_
  refine v_aload_nX (q := 615) 0 dL_law_614 rfl rfl rfl ?_
  refine v_iload_n (q := 616) 3 dL_law_615 rfl rfl rfl ?_
  refine v_iconst (v := 1) (q := 617) dL_law_616 (by decide) rfl ?_
  refine v_iadd (q := 618) dL_law_617 rfl ?_
  refine v_sld (q := 619) dL_law_618 hj1 rfl ?_
  exact u_callV1 (M' := mX11_reaches) (d' := 2) (rc := (RX11, TX11, 14)) (As := [.int (Γ.2.2.2.2.2.2.2 (i + 1).toNatClampNeg)]) (st := []) (q := 622) oX11_reaches dL_law_619 w0978 w0979 w0980 rfl rfl hX.1 hX.2 rfl (Nat.le_of_ble_eq_true rfl) (Nat.le_of_ble_eq_true rfl) (Nat.lt_of_lt_of_le (by decide) hd) rfl (sX11_reaches (Nat.le_refl _) e1) rfl step2
set_option maxRecDepth 20000 in
set_option maxHeartbeats 4000000 in
theorem law_16 {Γ : Gm} {d : Nat} (hd : 13 ≤ d) {X T : Nat} {h h1 : Hp} {m1 : Mem} {r i : Int32} {t : Option Value × Hp} (hX : X < hN h ∧ hS h X = .inl 11) (rs : RS T h1) (hj1 : vp_in (i + 1) Γ.2.2.2.2.2.2.1) (hj2 : vp_in (i + 2) Γ.2.2.2.2.2.2.1) (hj3 : vp_in (i + 3) Γ.2.2.2.2.2.2.1) (hj4 : vp_in (i + 4) Γ.2.2.2.2.2.2.1) (hj5 : vp_in (i + 5) Γ.2.2.2.2.2.2.1) (e1 : opC 16 X h (Γ.2.2.2.2.2.2.2 (i + 1).toNatClampNeg) (Γ.2.2.2.2.2.2.2 (i + 2).toNatClampNeg) (Γ.2.2.2.2.2.2.2 (i + 3).toNatClampNeg) (Γ.2.2.2.2.2.2.2 (i + 4).toNatClampNeg) (Γ.2.2.2.2.2.2.2 (i + 5).toNatClampNeg) = some (r, h1)) (e2 : opR 16 (mOf T h1) (Γ.2.2.2.2.2.2.2 (i + 1).toNatClampNeg) (Γ.2.2.2.2.2.2.2 (i + 2).toNatClampNeg) (Γ.2.2.2.2.2.2.2 (i + 3).toNatClampNeg) (Γ.2.2.2.2.2.2.2 (i + 4).toNatClampNeg) (Γ.2.2.2.2.2.2.2 (i + 5).toNatClampNeg) = some (r, m1)) (kk : V Γ d mL 1163 [(0, .retAddr 3), (1, .ref X), (2, .ref T), (3, .int i)] [] (hm T h1 m1) t) : V Γ d mL 636 [(0, .retAddr 3), (1, .ref X), (2, .ref T), (3, .int i)] [] h t := by
  obtain ⟨r8, e2, e8⟩ := bs e2
  obtain ⟨q8, q9⟩ := Prod.mk.inj (Option.some.inj e8)
  rw [q8] at e2
  rw [← q9] at kk
  have step2 : V Γ d mL 650 [(0, .retAddr 3), (1, .ref X), (2, .ref T), (3, .int i)] [.int r] (hm T h1 (mOf T h1)) t := by
    refine v_aload_n (q := 651) 2 dL_law_650 rfl rfl rfl ?_
    refine v_aload_nX (q := 652) 0 dL_law_651 rfl rfl rfl ?_
    refine v_iload_n (q := 653) 3 dL_law_652 rfl rfl rfl ?_
    refine v_iconst (v := 1) (q := 654) dL_law_653 (by decide) rfl ?_
    refine v_iadd (q := 655) dL_law_654 rfl ?_
    refine v_sld (q := 656) dL_law_655 hj1 rfl ?_
    refine v_aload_nX (q := 657) 0 dL_law_656 rfl rfl rfl ?_
    refine v_iload_n (q := 658) 3 dL_law_657 rfl rfl rfl ?_
    refine v_iconst (v := 2) (q := 659) dL_law_658 (by decide) rfl ?_
    refine v_iadd (q := 660) dL_law_659 rfl ?_
    refine v_sld (q := 661) dL_law_660 hj2 rfl ?_
    refine u_callV1 (M' := mX12_report_) (d' := 3) (rc := (RX12, TX12, 58)) (As := [.int (Γ.2.2.2.2.2.2.2 (i + 1).toNatClampNeg), .int (Γ.2.2.2.2.2.2.2 (i + 2).toNatClampNeg)]) (st := [.int r]) (q := 664) oX12_report_ dL_law_661 w1793 w1794 w1795 rfl rfl (RS.rc rs).1 (RS.rc rs).2 rfl (Nat.le_of_ble_eq_true rfl) (Nat.le_of_ble_eq_true rfl) (Nat.lt_of_lt_of_le (by decide) hd) rfl (sgX12_report_ (Nat.le_refl _) rs e2) rfl ?_
    refine v_icmp_eq (q1 := 1163) (q2 := 667) dL_law_664 (by decide) rfl (fun _ => ?_) (fun z => absurd rfl z)
    exact kk
  rw [hm_mOf] at step2
  obtain ⟨r9, e1, e9⟩ := bs e1
  obtain ⟨p8, p9⟩ := Prod.mk.inj (Option.some.inj e9)
  rw [p8] at e1
  rw [← p9] at step2
  refine v_aload_n (q := 637) 1 dL_law_636 rfl rfl rfl ?_
  refine v_aload_nX (q := 638) 0 dL_law_637 rfl rfl rfl ?_
  refine v_iload_n (q := 639) 3 dL_law_638 rfl rfl rfl ?_
  refine v_iconst (v := 1) (q := 640) dL_law_639 (by decide) rfl ?_
  refine v_iadd (q := 641) dL_law_640 rfl ?_
  refine v_sld (q := 642) dL_law_641 hj1 rfl ?_
  refine v_aload_nX (q := 643) 0 dL_law_642 rfl rfl rfl ?_
  refine v_iload_n (q := 644) 3 dL_law_643 rfl rfl rfl ?_
  refine v_iconst (v := 2) (q := 645) dL_law_644 (by decide) rfl ?_
  refine v_iadd (q := 646) dL_law_645 rfl ?_
  refine v_sld (q := 647) dL_law_646 hj2 rfl ?_
  exact u_callV1 (M' := mX11_report) (d' := 2) (rc := (RX11, TX11, 14)) (As := [.int (Γ.2.2.2.2.2.2.2 (i + 1).toNatClampNeg), .int (Γ.2.2.2.2.2.2.2 (i + 2).toNatClampNeg)]) (st := []) (q := 650) oX11_report dL_law_647 w0982 w0983 w0984 rfl rfl hX.1 hX.2 rfl (Nat.le_of_ble_eq_true rfl) (Nat.le_of_ble_eq_true rfl) (Nat.lt_of_lt_of_le (by decide) hd) rfl (sX11_report (Nat.le_refl _) e1) rfl step2
set_option maxRecDepth 20000 in
set_option maxHeartbeats 4000000 in
theorem law_17 {Γ : Gm} {d : Nat} (hd : 13 ≤ d) {X T : Nat} {h h1 : Hp} {m1 : Mem} {r i : Int32} {t : Option Value × Hp} (hX : X < hN h ∧ hS h X = .inl 11) (rs : RS T h1) (hj1 : vp_in (i + 1) Γ.2.2.2.2.2.2.1) (hj2 : vp_in (i + 2) Γ.2.2.2.2.2.2.1) (hj3 : vp_in (i + 3) Γ.2.2.2.2.2.2.1) (hj4 : vp_in (i + 4) Γ.2.2.2.2.2.2.1) (hj5 : vp_in (i + 5) Γ.2.2.2.2.2.2.1) (e1 : opC 17 X h (Γ.2.2.2.2.2.2.2 (i + 1).toNatClampNeg) (Γ.2.2.2.2.2.2.2 (i + 2).toNatClampNeg) (Γ.2.2.2.2.2.2.2 (i + 3).toNatClampNeg) (Γ.2.2.2.2.2.2.2 (i + 4).toNatClampNeg) (Γ.2.2.2.2.2.2.2 (i + 5).toNatClampNeg) = some (r, h1)) (e2 : opR 17 (mOf T h1) (Γ.2.2.2.2.2.2.2 (i + 1).toNatClampNeg) (Γ.2.2.2.2.2.2.2 (i + 2).toNatClampNeg) (Γ.2.2.2.2.2.2.2 (i + 3).toNatClampNeg) (Γ.2.2.2.2.2.2.2 (i + 4).toNatClampNeg) (Γ.2.2.2.2.2.2.2 (i + 5).toNatClampNeg) = some (r, m1)) (kk : V Γ d mL 1163 [(0, .retAddr 3), (1, .ref X), (2, .ref T), (3, .int i)] [] (hm T h1 m1) t) : V Γ d mL 669 [(0, .retAddr 3), (1, .ref X), (2, .ref T), (3, .int i)] [] h t := by
  obtain ⟨r8, e2, e8⟩ := bs e2
  obtain ⟨q8, q9⟩ := Prod.mk.inj (Option.some.inj e8)
  rw [q8] at e2
  rw [← q9] at kk
  have step2 : V Γ d mL 683 [(0, .retAddr 3), (1, .ref X), (2, .ref T), (3, .int i)] [.int r] (hm T h1 (mOf T h1)) t := by
    refine v_aload_n (q := 684) 2 dL_law_683 rfl rfl rfl ?_
    refine v_aload_nX (q := 685) 0 dL_law_684 rfl rfl rfl ?_
    refine v_iload_n (q := 686) 3 dL_law_685 rfl rfl rfl ?_
    refine v_iconst (v := 1) (q := 687) dL_law_686 (by decide) rfl ?_
    refine v_iadd (q := 688) dL_law_687 rfl ?_
    refine v_sld (q := 689) dL_law_688 hj1 rfl ?_
    refine v_aload_nX (q := 690) 0 dL_law_689 rfl rfl rfl ?_
    refine v_iload_n (q := 691) 3 dL_law_690 rfl rfl rfl ?_
    refine v_iconst (v := 2) (q := 692) dL_law_691 (by decide) rfl ?_
    refine v_iadd (q := 693) dL_law_692 rfl ?_
    refine v_sld (q := 694) dL_law_693 hj2 rfl ?_
    refine u_callV1 (M' := mX12_chain) (d' := 3) (rc := (RX12, TX12, 58)) (As := [.int (Γ.2.2.2.2.2.2.2 (i + 1).toNatClampNeg), .int (Γ.2.2.2.2.2.2.2 (i + 2).toNatClampNeg)]) (st := [.int r]) (q := 697) oX12_chain dL_law_694 w1801 w1802 w1803 rfl rfl (RS.rc rs).1 (RS.rc rs).2 rfl (Nat.le_of_ble_eq_true rfl) (Nat.le_of_ble_eq_true rfl) (Nat.lt_of_lt_of_le (by decide) hd) rfl (sgX12_chain (Nat.le_refl _) rs e2) rfl ?_
    refine v_icmp_eq (q1 := 1163) (q2 := 700) dL_law_697 (by decide) rfl (fun _ => ?_) (fun z => absurd rfl z)
    exact kk
  rw [hm_mOf] at step2
  obtain ⟨r9, e1, e9⟩ := bs e1
  obtain ⟨p8, p9⟩ := Prod.mk.inj (Option.some.inj e9)
  rw [p8] at e1
  rw [← p9] at step2
  refine v_aload_n (q := 670) 1 dL_law_669 rfl rfl rfl ?_
  refine v_aload_nX (q := 671) 0 dL_law_670 rfl rfl rfl ?_
  refine v_iload_n (q := 672) 3 dL_law_671 rfl rfl rfl ?_
  refine v_iconst (v := 1) (q := 673) dL_law_672 (by decide) rfl ?_
  refine v_iadd (q := 674) dL_law_673 rfl ?_
  refine v_sld (q := 675) dL_law_674 hj1 rfl ?_
  refine v_aload_nX (q := 676) 0 dL_law_675 rfl rfl rfl ?_
  refine v_iload_n (q := 677) 3 dL_law_676 rfl rfl rfl ?_
  refine v_iconst (v := 2) (q := 678) dL_law_677 (by decide) rfl ?_
  refine v_iadd (q := 679) dL_law_678 rfl ?_
  refine v_sld (q := 680) dL_law_679 hj2 rfl ?_
  exact u_callV1 (M' := mX11_chain) (d' := 2) (rc := (RX11, TX11, 14)) (As := [.int (Γ.2.2.2.2.2.2.2 (i + 1).toNatClampNeg), .int (Γ.2.2.2.2.2.2.2 (i + 2).toNatClampNeg)]) (st := []) (q := 683) oX11_chain dL_law_680 w0990 w0991 w0992 rfl rfl hX.1 hX.2 rfl (Nat.le_of_ble_eq_true rfl) (Nat.le_of_ble_eq_true rfl) (Nat.lt_of_lt_of_le (by decide) hd) rfl (sX11_chain (Nat.le_refl _) e1) rfl step2
set_option maxRecDepth 20000 in
set_option maxHeartbeats 4000000 in
theorem law_18 {Γ : Gm} {d : Nat} (hd : 13 ≤ d) {X T : Nat} {h h1 : Hp} {m1 : Mem} {r i : Int32} {t : Option Value × Hp} (hX : X < hN h ∧ hS h X = .inl 11) (rs : RS T h1) (hj1 : vp_in (i + 1) Γ.2.2.2.2.2.2.1) (hj2 : vp_in (i + 2) Γ.2.2.2.2.2.2.1) (hj3 : vp_in (i + 3) Γ.2.2.2.2.2.2.1) (hj4 : vp_in (i + 4) Γ.2.2.2.2.2.2.1) (hj5 : vp_in (i + 5) Γ.2.2.2.2.2.2.1) (e1 : opC 18 X h (Γ.2.2.2.2.2.2.2 (i + 1).toNatClampNeg) (Γ.2.2.2.2.2.2.2 (i + 2).toNatClampNeg) (Γ.2.2.2.2.2.2.2 (i + 3).toNatClampNeg) (Γ.2.2.2.2.2.2.2 (i + 4).toNatClampNeg) (Γ.2.2.2.2.2.2.2 (i + 5).toNatClampNeg) = some (r, h1)) (e2 : opR 18 (mOf T h1) (Γ.2.2.2.2.2.2.2 (i + 1).toNatClampNeg) (Γ.2.2.2.2.2.2.2 (i + 2).toNatClampNeg) (Γ.2.2.2.2.2.2.2 (i + 3).toNatClampNeg) (Γ.2.2.2.2.2.2.2 (i + 4).toNatClampNeg) (Γ.2.2.2.2.2.2.2 (i + 5).toNatClampNeg) = some (r, m1)) (kk : V Γ d mL 1163 [(0, .retAddr 3), (1, .ref X), (2, .ref T), (3, .int i)] [] (hm T h1 m1) t) : V Γ d mL 702 [(0, .retAddr 3), (1, .ref X), (2, .ref T), (3, .int i)] [] h t := by
  replace e2 : gX12_would (mOf T h1) (Γ.2.2.2.2.2.2.2 (i + 1).toNatClampNeg) (Γ.2.2.2.2.2.2.2 (i + 2).toNatClampNeg) = some (r, m1) := e2
  have step2 : V Γ d mL 716 [(0, .retAddr 3), (1, .ref X), (2, .ref T), (3, .int i)] [.int r] (hm T h1 (mOf T h1)) t := by
    refine v_aload_n (q := 717) 2 dL_law_716 rfl rfl rfl ?_
    refine v_aload_nX (q := 718) 0 dL_law_717 rfl rfl rfl ?_
    refine v_iload_n (q := 719) 3 dL_law_718 rfl rfl rfl ?_
    refine v_iconst (v := 1) (q := 720) dL_law_719 (by decide) rfl ?_
    refine v_iadd (q := 721) dL_law_720 rfl ?_
    refine v_sld (q := 722) dL_law_721 hj1 rfl ?_
    refine v_aload_nX (q := 723) 0 dL_law_722 rfl rfl rfl ?_
    refine v_iload_n (q := 724) 3 dL_law_723 rfl rfl rfl ?_
    refine v_iconst (v := 2) (q := 725) dL_law_724 (by decide) rfl ?_
    refine v_iadd (q := 726) dL_law_725 rfl ?_
    refine v_sld (q := 727) dL_law_726 hj2 rfl ?_
    refine u_callV1 (M' := mX12_would) (d' := 8) (rc := (RX12, TX12, 58)) (As := [.int (Γ.2.2.2.2.2.2.2 (i + 1).toNatClampNeg), .int (Γ.2.2.2.2.2.2.2 (i + 2).toNatClampNeg)]) (st := [.int r]) (q := 730) oX12_would dL_law_727 w1805 w1806 w1807 rfl rfl (RS.rc rs).1 (RS.rc rs).2 rfl (Nat.le_of_ble_eq_true rfl) (Nat.le_of_ble_eq_true rfl) (Nat.lt_of_lt_of_le (by decide) hd) rfl (sgX12_would (Nat.le_refl _) rs e2) rfl ?_
    refine v_icmp_eq (q1 := 1163) (q2 := 733) dL_law_730 (by decide) rfl (fun _ => ?_) (fun z => absurd rfl z)
    exact kk
  rw [hm_mOf] at step2
  replace e1 : fX11_would h X (Γ.2.2.2.2.2.2.2 (i + 1).toNatClampNeg) (Γ.2.2.2.2.2.2.2 (i + 2).toNatClampNeg) = some (r, h1) := e1
  refine v_aload_n (q := 703) 1 dL_law_702 rfl rfl rfl ?_
  refine v_aload_nX (q := 704) 0 dL_law_703 rfl rfl rfl ?_
  refine v_iload_n (q := 705) 3 dL_law_704 rfl rfl rfl ?_
  refine v_iconst (v := 1) (q := 706) dL_law_705 (by decide) rfl ?_
  refine v_iadd (q := 707) dL_law_706 rfl ?_
  refine v_sld (q := 708) dL_law_707 hj1 rfl ?_
  refine v_aload_nX (q := 709) 0 dL_law_708 rfl rfl rfl ?_
  refine v_iload_n (q := 710) 3 dL_law_709 rfl rfl rfl ?_
  refine v_iconst (v := 2) (q := 711) dL_law_710 (by decide) rfl ?_
  refine v_iadd (q := 712) dL_law_711 rfl ?_
  refine v_sld (q := 713) dL_law_712 hj2 rfl ?_
  exact u_callV1 (M' := mX11_would) (d' := 7) (rc := (RX11, TX11, 14)) (As := [.int (Γ.2.2.2.2.2.2.2 (i + 1).toNatClampNeg), .int (Γ.2.2.2.2.2.2.2 (i + 2).toNatClampNeg)]) (st := []) (q := 716) oX11_would dL_law_713 w0994 w0995 w0996 rfl rfl hX.1 hX.2 rfl (Nat.le_of_ble_eq_true rfl) (Nat.le_of_ble_eq_true rfl) (Nat.lt_of_lt_of_le (by decide) hd) rfl (sX11_would (Nat.le_refl _) e1) rfl step2
set_option maxRecDepth 20000 in
set_option maxHeartbeats 4000000 in
theorem law_19 {Γ : Gm} {d : Nat} (hd : 13 ≤ d) {X T : Nat} {h h1 : Hp} {m1 : Mem} {r i : Int32} {t : Option Value × Hp} (hX : X < hN h ∧ hS h X = .inl 11) (rs : RS T h1) (hj1 : vp_in (i + 1) Γ.2.2.2.2.2.2.1) (hj2 : vp_in (i + 2) Γ.2.2.2.2.2.2.1) (hj3 : vp_in (i + 3) Γ.2.2.2.2.2.2.1) (hj4 : vp_in (i + 4) Γ.2.2.2.2.2.2.1) (hj5 : vp_in (i + 5) Γ.2.2.2.2.2.2.1) (e1 : opC 19 X h (Γ.2.2.2.2.2.2.2 (i + 1).toNatClampNeg) (Γ.2.2.2.2.2.2.2 (i + 2).toNatClampNeg) (Γ.2.2.2.2.2.2.2 (i + 3).toNatClampNeg) (Γ.2.2.2.2.2.2.2 (i + 4).toNatClampNeg) (Γ.2.2.2.2.2.2.2 (i + 5).toNatClampNeg) = some (r, h1)) (e2 : opR 19 (mOf T h1) (Γ.2.2.2.2.2.2.2 (i + 1).toNatClampNeg) (Γ.2.2.2.2.2.2.2 (i + 2).toNatClampNeg) (Γ.2.2.2.2.2.2.2 (i + 3).toNatClampNeg) (Γ.2.2.2.2.2.2.2 (i + 4).toNatClampNeg) (Γ.2.2.2.2.2.2.2 (i + 5).toNatClampNeg) = some (r, m1)) (kk : V Γ d mL 1163 [(0, .retAddr 3), (1, .ref X), (2, .ref T), (3, .int i)] [] (hm T h1 m1) t) : V Γ d mL 735 [(0, .retAddr 3), (1, .ref X), (2, .ref T), (3, .int i)] [] h t := by
  replace e2 : gX12_mends (mOf T h1) (Γ.2.2.2.2.2.2.2 (i + 1).toNatClampNeg) = some (r, m1) := e2
  have step2 : V Γ d mL 744 [(0, .retAddr 3), (1, .ref X), (2, .ref T), (3, .int i)] [.int r] (hm T h1 (mOf T h1)) t := by
    refine v_aload_n (q := 745) 2 dL_law_744 rfl rfl rfl ?_
    refine v_aload_nX (q := 746) 0 dL_law_745 rfl rfl rfl ?_
    refine v_iload_n (q := 747) 3 dL_law_746 rfl rfl rfl ?_
    refine v_iconst (v := 1) (q := 748) dL_law_747 (by decide) rfl ?_
    refine v_iadd (q := 749) dL_law_748 rfl ?_
    refine v_sld (q := 750) dL_law_749 hj1 rfl ?_
    refine u_callV1 (M' := mX12_mends) (d' := 7) (rc := (RX12, TX12, 58)) (As := [.int (Γ.2.2.2.2.2.2.2 (i + 1).toNatClampNeg)]) (st := [.int r]) (q := 753) oX12_mends dL_law_750 w1948 w1949 w1950 rfl rfl (RS.rc rs).1 (RS.rc rs).2 rfl (Nat.le_of_ble_eq_true rfl) (Nat.le_of_ble_eq_true rfl) (Nat.lt_of_lt_of_le (by decide) hd) rfl (sgX12_mends (Nat.le_refl _) rs e2) rfl ?_
    refine v_icmp_eq (q1 := 1163) (q2 := 756) dL_law_753 (by decide) rfl (fun _ => ?_) (fun z => absurd rfl z)
    exact kk
  rw [hm_mOf] at step2
  replace e1 : fX11_mends h X (Γ.2.2.2.2.2.2.2 (i + 1).toNatClampNeg) = some (r, h1) := e1
  refine v_aload_n (q := 736) 1 dL_law_735 rfl rfl rfl ?_
  refine v_aload_nX (q := 737) 0 dL_law_736 rfl rfl rfl ?_
  refine v_iload_n (q := 738) 3 dL_law_737 rfl rfl rfl ?_
  refine v_iconst (v := 1) (q := 739) dL_law_738 (by decide) rfl ?_
  refine v_iadd (q := 740) dL_law_739 rfl ?_
  refine v_sld (q := 741) dL_law_740 hj1 rfl ?_
  exact u_callV1 (M' := mX11_mends) (d' := 12) (rc := (RX11, TX11, 14)) (As := [.int (Γ.2.2.2.2.2.2.2 (i + 1).toNatClampNeg)]) (st := []) (q := 744) oX11_mends dL_law_741 w0999 w1000 w1001 rfl rfl hX.1 hX.2 rfl (Nat.le_of_ble_eq_true rfl) (Nat.le_of_ble_eq_true rfl) (Nat.lt_of_lt_of_le (by decide) hd) rfl (sX11_mends (Nat.le_refl _) e1) rfl step2
set_option maxRecDepth 20000 in
set_option maxHeartbeats 4000000 in
theorem law_20 {Γ : Gm} {d : Nat} (hd : 13 ≤ d) {X T : Nat} {h h1 : Hp} {m1 : Mem} {r i : Int32} {t : Option Value × Hp} (hX : X < hN h ∧ hS h X = .inl 11) (rs : RS T h1) (hj1 : vp_in (i + 1) Γ.2.2.2.2.2.2.1) (hj2 : vp_in (i + 2) Γ.2.2.2.2.2.2.1) (hj3 : vp_in (i + 3) Γ.2.2.2.2.2.2.1) (hj4 : vp_in (i + 4) Γ.2.2.2.2.2.2.1) (hj5 : vp_in (i + 5) Γ.2.2.2.2.2.2.1) (e1 : opC 20 X h (Γ.2.2.2.2.2.2.2 (i + 1).toNatClampNeg) (Γ.2.2.2.2.2.2.2 (i + 2).toNatClampNeg) (Γ.2.2.2.2.2.2.2 (i + 3).toNatClampNeg) (Γ.2.2.2.2.2.2.2 (i + 4).toNatClampNeg) (Γ.2.2.2.2.2.2.2 (i + 5).toNatClampNeg) = some (r, h1)) (e2 : opR 20 (mOf T h1) (Γ.2.2.2.2.2.2.2 (i + 1).toNatClampNeg) (Γ.2.2.2.2.2.2.2 (i + 2).toNatClampNeg) (Γ.2.2.2.2.2.2.2 (i + 3).toNatClampNeg) (Γ.2.2.2.2.2.2.2 (i + 4).toNatClampNeg) (Γ.2.2.2.2.2.2.2 (i + 5).toNatClampNeg) = some (r, m1)) (kk : V Γ d mL 1163 [(0, .retAddr 3), (1, .ref X), (2, .ref T), (3, .int i)] [] (hm T h1 m1) t) : V Γ d mL 758 [(0, .retAddr 3), (1, .ref X), (2, .ref T), (3, .int i)] [] h t := by
  replace e2 : gX12_order (mOf T h1) (Γ.2.2.2.2.2.2.2 (i + 1).toNatClampNeg) = some (r, m1) := e2
  have step2 : V Γ d mL 767 [(0, .retAddr 3), (1, .ref X), (2, .ref T), (3, .int i)] [.int r] (hm T h1 (mOf T h1)) t := by
    refine v_aload_n (q := 768) 2 dL_law_767 rfl rfl rfl ?_
    refine v_aload_nX (q := 769) 0 dL_law_768 rfl rfl rfl ?_
    refine v_iload_n (q := 770) 3 dL_law_769 rfl rfl rfl ?_
    refine v_iconst (v := 1) (q := 771) dL_law_770 (by decide) rfl ?_
    refine v_iadd (q := 772) dL_law_771 rfl ?_
    refine v_sld (q := 773) dL_law_772 hj1 rfl ?_
    refine u_callV1 (M' := mX12_order) (d' := 4) (rc := (RX12, TX12, 58)) (As := [.int (Γ.2.2.2.2.2.2.2 (i + 1).toNatClampNeg)]) (st := [.int r]) (q := 776) oX12_order dL_law_773 w1936 w1937 w1938 rfl rfl (RS.rc rs).1 (RS.rc rs).2 rfl (Nat.le_of_ble_eq_true rfl) (Nat.le_of_ble_eq_true rfl) (Nat.lt_of_lt_of_le (by decide) hd) rfl (sgX12_order (Nat.le_refl _) rs e2) rfl ?_
    refine v_icmp_eq (q1 := 1163) (q2 := 779) dL_law_776 (by decide) rfl (fun _ => ?_) (fun z => absurd rfl z)
    exact kk
  rw [hm_mOf] at step2
  obtain ⟨r9, e1, e9⟩ := bs e1
  obtain ⟨p8, p9⟩ := Prod.mk.inj (Option.some.inj e9)
  rw [p8] at e1
  rw [← p9] at step2
  refine v_aload_n (q := 759) 1 dL_law_758 rfl rfl rfl ?_
  refine v_aload_nX (q := 760) 0 dL_law_759 rfl rfl rfl ?_
  refine v_iload_n (q := 761) 3 dL_law_760 rfl rfl rfl ?_
  refine v_iconst (v := 1) (q := 762) dL_law_761 (by decide) rfl ?_
  refine v_iadd (q := 763) dL_law_762 rfl ?_
  refine v_sld (q := 764) dL_law_763 hj1 rfl ?_
  exact u_callV1 (M' := mX11_order) (d' := 4) (rc := (RX11, TX11, 14)) (As := [.int (Γ.2.2.2.2.2.2.2 (i + 1).toNatClampNeg)]) (st := []) (q := 767) oX11_order dL_law_764 w1027 w1028 w1029 rfl rfl hX.1 hX.2 rfl (Nat.le_of_ble_eq_true rfl) (Nat.le_of_ble_eq_true rfl) (Nat.lt_of_lt_of_le (by decide) hd) rfl (sX11_order (Nat.le_refl _) e1) rfl step2
set_option maxRecDepth 20000 in
set_option maxHeartbeats 4000000 in
theorem law_21 {Γ : Gm} {d : Nat} (hd : 13 ≤ d) {X T : Nat} {h h1 : Hp} {m1 : Mem} {r i : Int32} {t : Option Value × Hp} (hX : X < hN h ∧ hS h X = .inl 11) (rs : RS T h1) (hj1 : vp_in (i + 1) Γ.2.2.2.2.2.2.1) (hj2 : vp_in (i + 2) Γ.2.2.2.2.2.2.1) (hj3 : vp_in (i + 3) Γ.2.2.2.2.2.2.1) (hj4 : vp_in (i + 4) Γ.2.2.2.2.2.2.1) (hj5 : vp_in (i + 5) Γ.2.2.2.2.2.2.1) (e1 : opC 21 X h (Γ.2.2.2.2.2.2.2 (i + 1).toNatClampNeg) (Γ.2.2.2.2.2.2.2 (i + 2).toNatClampNeg) (Γ.2.2.2.2.2.2.2 (i + 3).toNatClampNeg) (Γ.2.2.2.2.2.2.2 (i + 4).toNatClampNeg) (Γ.2.2.2.2.2.2.2 (i + 5).toNatClampNeg) = some (r, h1)) (e2 : opR 21 (mOf T h1) (Γ.2.2.2.2.2.2.2 (i + 1).toNatClampNeg) (Γ.2.2.2.2.2.2.2 (i + 2).toNatClampNeg) (Γ.2.2.2.2.2.2.2 (i + 3).toNatClampNeg) (Γ.2.2.2.2.2.2.2 (i + 4).toNatClampNeg) (Γ.2.2.2.2.2.2.2 (i + 5).toNatClampNeg) = some (r, m1)) (kk : V Γ d mL 1163 [(0, .retAddr 3), (1, .ref X), (2, .ref T), (3, .int i)] [] (hm T h1 m1) t) : V Γ d mL 781 [(0, .retAddr 3), (1, .ref X), (2, .ref T), (3, .int i)] [] h t := by
  replace e2 : gX12_all (mOf T h1) (Γ.2.2.2.2.2.2.2 (i + 1).toNatClampNeg) = some (r, m1) := e2
  have step2 : V Γ d mL 790 [(0, .retAddr 3), (1, .ref X), (2, .ref T), (3, .int i)] [.int r] (hm T h1 (mOf T h1)) t := by
    refine v_aload_n (q := 791) 2 dL_law_790 rfl rfl rfl ?_
    refine v_aload_nX (q := 792) 0 dL_law_791 rfl rfl rfl ?_
    refine v_iload_n (q := 793) 3 dL_law_792 rfl rfl rfl ?_
    refine v_iconst (v := 1) (q := 794) dL_law_793 (by decide) rfl ?_
    refine v_iadd (q := 795) dL_law_794 rfl ?_
    refine v_sld (q := 796) dL_law_795 hj1 rfl ?_
    refine u_callV1 (M' := mX12_all) (d' := 9) (rc := (RX12, TX12, 58)) (As := [.int (Γ.2.2.2.2.2.2.2 (i + 1).toNatClampNeg)]) (st := [.int r]) (q := 799) oX12_all dL_law_796 w1821 w1822 w1823 rfl rfl (RS.rc rs).1 (RS.rc rs).2 rfl (Nat.le_of_ble_eq_true rfl) (Nat.le_of_ble_eq_true rfl) (Nat.lt_of_lt_of_le (by decide) hd) rfl (sgX12_all (Nat.le_refl _) rs e2) rfl ?_
    refine v_icmp_eq (q1 := 1163) (q2 := 802) dL_law_799 (by decide) rfl (fun _ => ?_) (fun z => absurd rfl z)
    exact kk
  rw [hm_mOf] at step2
  replace e1 : fX11_all h X (Γ.2.2.2.2.2.2.2 (i + 1).toNatClampNeg) = some (r, h1) := e1
  refine v_aload_n (q := 782) 1 dL_law_781 rfl rfl rfl ?_
  refine v_aload_nX (q := 783) 0 dL_law_782 rfl rfl rfl ?_
  refine v_iload_n (q := 784) 3 dL_law_783 rfl rfl rfl ?_
  refine v_iconst (v := 1) (q := 785) dL_law_784 (by decide) rfl ?_
  refine v_iadd (q := 786) dL_law_785 rfl ?_
  refine v_sld (q := 787) dL_law_786 hj1 rfl ?_
  exact u_callV1 (M' := mX11_all) (d' := 8) (rc := (RX11, TX11, 14)) (As := [.int (Γ.2.2.2.2.2.2.2 (i + 1).toNatClampNeg)]) (st := []) (q := 790) oX11_all dL_law_787 w1043 w1044 w1045 rfl rfl hX.1 hX.2 rfl (Nat.le_of_ble_eq_true rfl) (Nat.le_of_ble_eq_true rfl) (Nat.lt_of_lt_of_le (by decide) hd) rfl (sX11_all (Nat.le_refl _) e1) rfl step2
set_option maxRecDepth 20000 in
set_option maxHeartbeats 4000000 in
theorem law_22 {Γ : Gm} {d : Nat} (hd : 13 ≤ d) {X T : Nat} {h h1 : Hp} {m1 : Mem} {r i : Int32} {t : Option Value × Hp} (hX : X < hN h ∧ hS h X = .inl 11) (rs : RS T h1) (hj1 : vp_in (i + 1) Γ.2.2.2.2.2.2.1) (hj2 : vp_in (i + 2) Γ.2.2.2.2.2.2.1) (hj3 : vp_in (i + 3) Γ.2.2.2.2.2.2.1) (hj4 : vp_in (i + 4) Γ.2.2.2.2.2.2.1) (hj5 : vp_in (i + 5) Γ.2.2.2.2.2.2.1) (e1 : opC 22 X h (Γ.2.2.2.2.2.2.2 (i + 1).toNatClampNeg) (Γ.2.2.2.2.2.2.2 (i + 2).toNatClampNeg) (Γ.2.2.2.2.2.2.2 (i + 3).toNatClampNeg) (Γ.2.2.2.2.2.2.2 (i + 4).toNatClampNeg) (Γ.2.2.2.2.2.2.2 (i + 5).toNatClampNeg) = some (r, h1)) (e2 : opR 22 (mOf T h1) (Γ.2.2.2.2.2.2.2 (i + 1).toNatClampNeg) (Γ.2.2.2.2.2.2.2 (i + 2).toNatClampNeg) (Γ.2.2.2.2.2.2.2 (i + 3).toNatClampNeg) (Γ.2.2.2.2.2.2.2 (i + 4).toNatClampNeg) (Γ.2.2.2.2.2.2.2 (i + 5).toNatClampNeg) = some (r, m1)) (kk : V Γ d mL 1163 [(0, .retAddr 3), (1, .ref X), (2, .ref T), (3, .int i)] [] (hm T h1 m1) t) : V Γ d mL 804 [(0, .retAddr 3), (1, .ref X), (2, .ref T), (3, .int i)] [] h t := by
  replace e2 : gX12_stuck (mOf T h1) (Γ.2.2.2.2.2.2.2 (i + 1).toNatClampNeg) (Γ.2.2.2.2.2.2.2 (i + 2).toNatClampNeg) = some (r, m1) := e2
  have step2 : V Γ d mL 818 [(0, .retAddr 3), (1, .ref X), (2, .ref T), (3, .int i)] [.int r] (hm T h1 (mOf T h1)) t := by
    refine v_aload_n (q := 819) 2 dL_law_818 rfl rfl rfl ?_
    refine v_aload_nX (q := 820) 0 dL_law_819 rfl rfl rfl ?_
    refine v_iload_n (q := 821) 3 dL_law_820 rfl rfl rfl ?_
    refine v_iconst (v := 1) (q := 822) dL_law_821 (by decide) rfl ?_
    refine v_iadd (q := 823) dL_law_822 rfl ?_
    refine v_sld (q := 824) dL_law_823 hj1 rfl ?_
    refine v_aload_nX (q := 825) 0 dL_law_824 rfl rfl rfl ?_
    refine v_iload_n (q := 826) 3 dL_law_825 rfl rfl rfl ?_
    refine v_iconst (v := 2) (q := 827) dL_law_826 (by decide) rfl ?_
    refine v_iadd (q := 828) dL_law_827 rfl ?_
    refine v_sld (q := 829) dL_law_828 hj2 rfl ?_
    refine u_callV1 (M' := mX12_stuck) (d' := 9) (rc := (RX12, TX12, 58)) (As := [.int (Γ.2.2.2.2.2.2.2 (i + 1).toNatClampNeg), .int (Γ.2.2.2.2.2.2.2 (i + 2).toNatClampNeg)]) (st := [.int r]) (q := 832) oX12_stuck dL_law_829 w1968 w1839 w1840 rfl rfl (RS.rc rs).1 (RS.rc rs).2 rfl (Nat.le_of_ble_eq_true rfl) (Nat.le_of_ble_eq_true rfl) (Nat.lt_of_lt_of_le (by decide) hd) rfl (sgX12_stuck (Nat.le_refl _) rs e2) rfl ?_
    refine v_icmp_eq (q1 := 1163) (q2 := 835) dL_law_832 (by decide) rfl (fun _ => ?_) (fun z => absurd rfl z)
    exact kk
  rw [hm_mOf] at step2
  replace e1 : fX11_stuck h X (Γ.2.2.2.2.2.2.2 (i + 1).toNatClampNeg) (Γ.2.2.2.2.2.2.2 (i + 2).toNatClampNeg) = some (r, h1) := e1
  refine v_aload_n (q := 805) 1 dL_law_804 rfl rfl rfl ?_
  refine v_aload_nX (q := 806) 0 dL_law_805 rfl rfl rfl ?_
  refine v_iload_n (q := 807) 3 dL_law_806 rfl rfl rfl ?_
  refine v_iconst (v := 1) (q := 808) dL_law_807 (by decide) rfl ?_
  refine v_iadd (q := 809) dL_law_808 rfl ?_
  refine v_sld (q := 810) dL_law_809 hj1 rfl ?_
  refine v_aload_nX (q := 811) 0 dL_law_810 rfl rfl rfl ?_
  refine v_iload_n (q := 812) 3 dL_law_811 rfl rfl rfl ?_
  refine v_iconst (v := 2) (q := 813) dL_law_812 (by decide) rfl ?_
  refine v_iadd (q := 814) dL_law_813 rfl ?_
  refine v_sld (q := 815) dL_law_814 hj2 rfl ?_
  exact u_callV1 (M' := mX11_stuck) (d' := 8) (rc := (RX11, TX11, 14)) (As := [.int (Γ.2.2.2.2.2.2.2 (i + 1).toNatClampNeg), .int (Γ.2.2.2.2.2.2.2 (i + 2).toNatClampNeg)]) (st := []) (q := 818) oX11_stuck dL_law_815 w1055 w1056 w1057 rfl rfl hX.1 hX.2 rfl (Nat.le_of_ble_eq_true rfl) (Nat.le_of_ble_eq_true rfl) (Nat.lt_of_lt_of_le (by decide) hd) rfl (sX11_stuck (Nat.le_refl _) e1) rfl step2
set_option maxRecDepth 20000 in
set_option maxHeartbeats 4000000 in
theorem law_23 {Γ : Gm} {d : Nat} (hd : 13 ≤ d) {X T : Nat} {h h1 : Hp} {m1 : Mem} {r i : Int32} {t : Option Value × Hp} (hX : X < hN h ∧ hS h X = .inl 11) (rs : RS T h1) (hj1 : vp_in (i + 1) Γ.2.2.2.2.2.2.1) (hj2 : vp_in (i + 2) Γ.2.2.2.2.2.2.1) (hj3 : vp_in (i + 3) Γ.2.2.2.2.2.2.1) (hj4 : vp_in (i + 4) Γ.2.2.2.2.2.2.1) (hj5 : vp_in (i + 5) Γ.2.2.2.2.2.2.1) (e1 : opC 23 X h (Γ.2.2.2.2.2.2.2 (i + 1).toNatClampNeg) (Γ.2.2.2.2.2.2.2 (i + 2).toNatClampNeg) (Γ.2.2.2.2.2.2.2 (i + 3).toNatClampNeg) (Γ.2.2.2.2.2.2.2 (i + 4).toNatClampNeg) (Γ.2.2.2.2.2.2.2 (i + 5).toNatClampNeg) = some (r, h1)) (e2 : opR 23 (mOf T h1) (Γ.2.2.2.2.2.2.2 (i + 1).toNatClampNeg) (Γ.2.2.2.2.2.2.2 (i + 2).toNatClampNeg) (Γ.2.2.2.2.2.2.2 (i + 3).toNatClampNeg) (Γ.2.2.2.2.2.2.2 (i + 4).toNatClampNeg) (Γ.2.2.2.2.2.2.2 (i + 5).toNatClampNeg) = some (r, m1)) (kk : V Γ d mL 1163 [(0, .retAddr 3), (1, .ref X), (2, .ref T), (3, .int i)] [] (hm T h1 m1) t) : V Γ d mL 837 [(0, .retAddr 3), (1, .ref X), (2, .ref T), (3, .int i)] [] h t := by
  replace e2 : gX12_move (mOf T h1) (Γ.2.2.2.2.2.2.2 (i + 1).toNatClampNeg) (Γ.2.2.2.2.2.2.2 (i + 2).toNatClampNeg) (Γ.2.2.2.2.2.2.2 (i + 3).toNatClampNeg) = some (r, m1) := e2
  have step2 : V Γ d mL 856 [(0, .retAddr 3), (1, .ref X), (2, .ref T), (3, .int i)] [.int r] (hm T h1 (mOf T h1)) t := by
    refine v_aload_n (q := 857) 2 dL_law_856 rfl rfl rfl ?_
    refine v_aload_nX (q := 858) 0 dL_law_857 rfl rfl rfl ?_
    refine v_iload_n (q := 859) 3 dL_law_858 rfl rfl rfl ?_
    refine v_iconst (v := 1) (q := 860) dL_law_859 (by decide) rfl ?_
    refine v_iadd (q := 861) dL_law_860 rfl ?_
    refine v_sld (q := 862) dL_law_861 hj1 rfl ?_
    refine v_aload_nX (q := 863) 0 dL_law_862 rfl rfl rfl ?_
    refine v_iload_n (q := 864) 3 dL_law_863 rfl rfl rfl ?_
    refine v_iconst (v := 2) (q := 865) dL_law_864 (by decide) rfl ?_
    refine v_iadd (q := 866) dL_law_865 rfl ?_
    refine v_sld (q := 867) dL_law_866 hj2 rfl ?_
    refine v_aload_nX (q := 868) 0 dL_law_867 rfl rfl rfl ?_
    refine v_iload_n (q := 869) 3 dL_law_868 rfl rfl rfl ?_
    refine v_iconst (v := 3) (q := 870) dL_law_869 (by decide) rfl ?_
    refine v_iadd (q := 871) dL_law_870 rfl ?_
    refine v_sld (q := 872) dL_law_871 hj3 rfl ?_
    refine u_callV1 (M' := mX12_move) (d' := 9) (rc := (RX12, TX12, 58)) (As := [.int (Γ.2.2.2.2.2.2.2 (i + 1).toNatClampNeg), .int (Γ.2.2.2.2.2.2.2 (i + 2).toNatClampNeg), .int (Γ.2.2.2.2.2.2.2 (i + 3).toNatClampNeg)]) (st := [.int r]) (q := 875) oX12_move dL_law_872 w1969 w1970 w1971 rfl rfl (RS.rc rs).1 (RS.rc rs).2 rfl (Nat.le_of_ble_eq_true rfl) (Nat.le_of_ble_eq_true rfl) (Nat.lt_of_lt_of_le (by decide) hd) rfl (sgX12_move (Nat.le_refl _) rs e2) rfl ?_
    refine v_icmp_eq (q1 := 1163) (q2 := 878) dL_law_875 (by decide) rfl (fun _ => ?_) (fun z => absurd rfl z)
    exact kk
  rw [hm_mOf] at step2
  replace e1 : fX11_move h X (Γ.2.2.2.2.2.2.2 (i + 1).toNatClampNeg) (Γ.2.2.2.2.2.2.2 (i + 2).toNatClampNeg) (Γ.2.2.2.2.2.2.2 (i + 3).toNatClampNeg) = some (r, h1) := e1
  refine v_aload_n (q := 838) 1 dL_law_837 rfl rfl rfl ?_
  refine v_aload_nX (q := 839) 0 dL_law_838 rfl rfl rfl ?_
  refine v_iload_n (q := 840) 3 dL_law_839 rfl rfl rfl ?_
  refine v_iconst (v := 1) (q := 841) dL_law_840 (by decide) rfl ?_
  refine v_iadd (q := 842) dL_law_841 rfl ?_
  refine v_sld (q := 843) dL_law_842 hj1 rfl ?_
  refine v_aload_nX (q := 844) 0 dL_law_843 rfl rfl rfl ?_
  refine v_iload_n (q := 845) 3 dL_law_844 rfl rfl rfl ?_
  refine v_iconst (v := 2) (q := 846) dL_law_845 (by decide) rfl ?_
  refine v_iadd (q := 847) dL_law_846 rfl ?_
  refine v_sld (q := 848) dL_law_847 hj2 rfl ?_
  refine v_aload_nX (q := 849) 0 dL_law_848 rfl rfl rfl ?_
  refine v_iload_n (q := 850) 3 dL_law_849 rfl rfl rfl ?_
  refine v_iconst (v := 3) (q := 851) dL_law_850 (by decide) rfl ?_
  refine v_iadd (q := 852) dL_law_851 rfl ?_
  refine v_sld (q := 853) dL_law_852 hj3 rfl ?_
  exact u_callV1 (M' := mX11_move) (d' := 8) (rc := (RX11, TX11, 14)) (As := [.int (Γ.2.2.2.2.2.2.2 (i + 1).toNatClampNeg), .int (Γ.2.2.2.2.2.2.2 (i + 2).toNatClampNeg), .int (Γ.2.2.2.2.2.2.2 (i + 3).toNatClampNeg)]) (st := []) (q := 856) oX11_move dL_law_853 w1238 w1239 w1240 rfl rfl hX.1 hX.2 rfl (Nat.le_of_ble_eq_true rfl) (Nat.le_of_ble_eq_true rfl) (Nat.lt_of_lt_of_le (by decide) hd) rfl (sX11_move (Nat.le_refl _) e1) rfl step2
set_option maxRecDepth 20000 in
set_option maxHeartbeats 4000000 in
theorem law_24 {Γ : Gm} {d : Nat} (hd : 13 ≤ d) {X T : Nat} {h h1 : Hp} {m1 : Mem} {r i : Int32} {t : Option Value × Hp} (hX : X < hN h ∧ hS h X = .inl 11) (rs : RS T h1) (hj1 : vp_in (i + 1) Γ.2.2.2.2.2.2.1) (hj2 : vp_in (i + 2) Γ.2.2.2.2.2.2.1) (hj3 : vp_in (i + 3) Γ.2.2.2.2.2.2.1) (hj4 : vp_in (i + 4) Γ.2.2.2.2.2.2.1) (hj5 : vp_in (i + 5) Γ.2.2.2.2.2.2.1) (e1 : opC 24 X h (Γ.2.2.2.2.2.2.2 (i + 1).toNatClampNeg) (Γ.2.2.2.2.2.2.2 (i + 2).toNatClampNeg) (Γ.2.2.2.2.2.2.2 (i + 3).toNatClampNeg) (Γ.2.2.2.2.2.2.2 (i + 4).toNatClampNeg) (Γ.2.2.2.2.2.2.2 (i + 5).toNatClampNeg) = some (r, h1)) (e2 : opR 24 (mOf T h1) (Γ.2.2.2.2.2.2.2 (i + 1).toNatClampNeg) (Γ.2.2.2.2.2.2.2 (i + 2).toNatClampNeg) (Γ.2.2.2.2.2.2.2 (i + 3).toNatClampNeg) (Γ.2.2.2.2.2.2.2 (i + 4).toNatClampNeg) (Γ.2.2.2.2.2.2.2 (i + 5).toNatClampNeg) = some (r, m1)) (kk : V Γ d mL 1163 [(0, .retAddr 3), (1, .ref X), (2, .ref T), (3, .int i)] [] (hm T h1 m1) t) : V Γ d mL 880 [(0, .retAddr 3), (1, .ref X), (2, .ref T), (3, .int i)] [] h t := by
  replace e2 : gX12_clash (mOf T h1) (Γ.2.2.2.2.2.2.2 (i + 1).toNatClampNeg) (Γ.2.2.2.2.2.2.2 (i + 2).toNatClampNeg) = some (r, m1) := e2
  have step2 : V Γ d mL 894 [(0, .retAddr 3), (1, .ref X), (2, .ref T), (3, .int i)] [.int r] (hm T h1 (mOf T h1)) t := by
    refine v_aload_n (q := 895) 2 dL_law_894 rfl rfl rfl ?_
    refine v_aload_nX (q := 896) 0 dL_law_895 rfl rfl rfl ?_
    refine v_iload_n (q := 897) 3 dL_law_896 rfl rfl rfl ?_
    refine v_iconst (v := 1) (q := 898) dL_law_897 (by decide) rfl ?_
    refine v_iadd (q := 899) dL_law_898 rfl ?_
    refine v_sld (q := 900) dL_law_899 hj1 rfl ?_
    refine v_aload_nX (q := 901) 0 dL_law_900 rfl rfl rfl ?_
    refine v_iload_n (q := 902) 3 dL_law_901 rfl rfl rfl ?_
    refine v_iconst (v := 2) (q := 903) dL_law_902 (by decide) rfl ?_
    refine v_iadd (q := 904) dL_law_903 rfl ?_
    refine v_sld (q := 905) dL_law_904 hj2 rfl ?_
    refine u_callV1 (M' := mX12_clash) (d' := 10) (rc := (RX12, TX12, 58)) (As := [.int (Γ.2.2.2.2.2.2.2 (i + 1).toNatClampNeg), .int (Γ.2.2.2.2.2.2.2 (i + 2).toNatClampNeg)]) (st := [.int r]) (q := 908) oX12_clash dL_law_905 w1973 w1974 w1975 rfl rfl (RS.rc rs).1 (RS.rc rs).2 rfl (Nat.le_of_ble_eq_true rfl) (Nat.le_of_ble_eq_true rfl) (Nat.lt_of_lt_of_le (by decide) hd) rfl (sgX12_clash (Nat.le_refl _) rs e2) rfl ?_
    refine v_icmp_eq (q1 := 1163) (q2 := 911) dL_law_908 (by decide) rfl (fun _ => ?_) (fun z => absurd rfl z)
    exact kk
  rw [hm_mOf] at step2
  replace e1 : fX11_clash h X (Γ.2.2.2.2.2.2.2 (i + 1).toNatClampNeg) (Γ.2.2.2.2.2.2.2 (i + 2).toNatClampNeg) = some (r, h1) := e1
  refine v_aload_n (q := 881) 1 dL_law_880 rfl rfl rfl ?_
  refine v_aload_nX (q := 882) 0 dL_law_881 rfl rfl rfl ?_
  refine v_iload_n (q := 883) 3 dL_law_882 rfl rfl rfl ?_
  refine v_iconst (v := 1) (q := 884) dL_law_883 (by decide) rfl ?_
  refine v_iadd (q := 885) dL_law_884 rfl ?_
  refine v_sld (q := 886) dL_law_885 hj1 rfl ?_
  refine v_aload_nX (q := 887) 0 dL_law_886 rfl rfl rfl ?_
  refine v_iload_n (q := 888) 3 dL_law_887 rfl rfl rfl ?_
  refine v_iconst (v := 2) (q := 889) dL_law_888 (by decide) rfl ?_
  refine v_iadd (q := 890) dL_law_889 rfl ?_
  refine v_sld (q := 891) dL_law_890 hj2 rfl ?_
  exact u_callV1 (M' := mX11_clash) (d' := 8) (rc := (RX11, TX11, 14)) (As := [.int (Γ.2.2.2.2.2.2.2 (i + 1).toNatClampNeg), .int (Γ.2.2.2.2.2.2.2 (i + 2).toNatClampNeg)]) (st := []) (q := 894) oX11_clash dL_law_891 w1246 w1247 w1248 rfl rfl hX.1 hX.2 rfl (Nat.le_of_ble_eq_true rfl) (Nat.le_of_ble_eq_true rfl) (Nat.lt_of_lt_of_le (by decide) hd) rfl (sX11_clash (Nat.le_refl _) e1) rfl step2
set_option maxRecDepth 20000 in
set_option maxHeartbeats 4000000 in
theorem law_25 {Γ : Gm} {d : Nat} (hd : 13 ≤ d) {X T : Nat} {h h1 : Hp} {m1 : Mem} {r i : Int32} {t : Option Value × Hp} (hX : X < hN h ∧ hS h X = .inl 11) (rs : RS T h1) (hj1 : vp_in (i + 1) Γ.2.2.2.2.2.2.1) (hj2 : vp_in (i + 2) Γ.2.2.2.2.2.2.1) (hj3 : vp_in (i + 3) Γ.2.2.2.2.2.2.1) (hj4 : vp_in (i + 4) Γ.2.2.2.2.2.2.1) (hj5 : vp_in (i + 5) Γ.2.2.2.2.2.2.1) (e1 : opC 25 X h (Γ.2.2.2.2.2.2.2 (i + 1).toNatClampNeg) (Γ.2.2.2.2.2.2.2 (i + 2).toNatClampNeg) (Γ.2.2.2.2.2.2.2 (i + 3).toNatClampNeg) (Γ.2.2.2.2.2.2.2 (i + 4).toNatClampNeg) (Γ.2.2.2.2.2.2.2 (i + 5).toNatClampNeg) = some (r, h1)) (e2 : opR 25 (mOf T h1) (Γ.2.2.2.2.2.2.2 (i + 1).toNatClampNeg) (Γ.2.2.2.2.2.2.2 (i + 2).toNatClampNeg) (Γ.2.2.2.2.2.2.2 (i + 3).toNatClampNeg) (Γ.2.2.2.2.2.2.2 (i + 4).toNatClampNeg) (Γ.2.2.2.2.2.2.2 (i + 5).toNatClampNeg) = some (r, m1)) (kk : V Γ d mL 1163 [(0, .retAddr 3), (1, .ref X), (2, .ref T), (3, .int i)] [] (hm T h1 m1) t) : V Γ d mL 913 [(0, .retAddr 3), (1, .ref X), (2, .ref T), (3, .int i)] [] h t := by
  replace e2 : gX12_least (mOf T h1) = some (r, m1) := e2
  have step2 : V Γ d mL 917 [(0, .retAddr 3), (1, .ref X), (2, .ref T), (3, .int i)] [.int r] (hm T h1 (mOf T h1)) t := by
    refine v_aload_n (q := 918) 2 dL_law_917 rfl rfl rfl ?_
    refine u_callV1 (M' := mX12_least) (d' := 11) (rc := (RX12, TX12, 58)) (As := []) (st := [.int r]) (q := 921) oX12_least dL_law_918 w1977 w1978 w1979 rfl rfl (RS.rc rs).1 (RS.rc rs).2 rfl (Nat.le_of_ble_eq_true rfl) (Nat.le_of_ble_eq_true rfl) (Nat.lt_of_lt_of_le (by decide) hd) rfl (sgX12_least (Nat.le_refl _) rs e2) rfl ?_
    refine v_icmp_eq (q1 := 1163) (q2 := 924) dL_law_921 (by decide) rfl (fun _ => ?_) (fun z => absurd rfl z)
    exact kk
  rw [hm_mOf] at step2
  replace e1 : fX11_least h X = some (r, h1) := e1
  refine v_aload_n (q := 914) 1 dL_law_913 rfl rfl rfl ?_
  exact u_callV1 (M' := mX11_least) (d' := 8) (rc := (RX11, TX11, 14)) (As := []) (st := []) (q := 917) oX11_least dL_law_914 w1256 w1257 w1258 rfl rfl hX.1 hX.2 rfl (Nat.le_of_ble_eq_true rfl) (Nat.le_of_ble_eq_true rfl) (Nat.lt_of_lt_of_le (by decide) hd) rfl (sX11_least (Nat.le_refl _) e1) rfl step2
set_option maxRecDepth 20000 in
set_option maxHeartbeats 4000000 in
theorem law_26 {Γ : Gm} {d : Nat} (hd : 13 ≤ d) {X T : Nat} {h h1 : Hp} {m1 : Mem} {r i : Int32} {t : Option Value × Hp} (hX : X < hN h ∧ hS h X = .inl 11) (rs : RS T h1) (hj1 : vp_in (i + 1) Γ.2.2.2.2.2.2.1) (hj2 : vp_in (i + 2) Γ.2.2.2.2.2.2.1) (hj3 : vp_in (i + 3) Γ.2.2.2.2.2.2.1) (hj4 : vp_in (i + 4) Γ.2.2.2.2.2.2.1) (hj5 : vp_in (i + 5) Γ.2.2.2.2.2.2.1) (e1 : opC 26 X h (Γ.2.2.2.2.2.2.2 (i + 1).toNatClampNeg) (Γ.2.2.2.2.2.2.2 (i + 2).toNatClampNeg) (Γ.2.2.2.2.2.2.2 (i + 3).toNatClampNeg) (Γ.2.2.2.2.2.2.2 (i + 4).toNatClampNeg) (Γ.2.2.2.2.2.2.2 (i + 5).toNatClampNeg) = some (r, h1)) (e2 : opR 26 (mOf T h1) (Γ.2.2.2.2.2.2.2 (i + 1).toNatClampNeg) (Γ.2.2.2.2.2.2.2 (i + 2).toNatClampNeg) (Γ.2.2.2.2.2.2.2 (i + 3).toNatClampNeg) (Γ.2.2.2.2.2.2.2 (i + 4).toNatClampNeg) (Γ.2.2.2.2.2.2.2 (i + 5).toNatClampNeg) = some (r, m1)) (kk : V Γ d mL 1163 [(0, .retAddr 3), (1, .ref X), (2, .ref T), (3, .int i)] [] (hm T h1 m1) t) : V Γ d mL 926 [(0, .retAddr 3), (1, .ref X), (2, .ref T), (3, .int i)] [] h t := by
  replace e2 : gX12_missed (mOf T h1) = some (r, m1) := e2
  have step2 : V Γ d mL 930 [(0, .retAddr 3), (1, .ref X), (2, .ref T), (3, .int i)] [.int r] (hm T h1 (mOf T h1)) t := by
    refine v_aload_n (q := 931) 2 dL_law_930 rfl rfl rfl ?_
    refine u_callV1 (M' := mX12_missed) (d' := 11) (rc := (RX12, TX12, 58)) (As := []) (st := [.int r]) (q := 934) oX12_missed dL_law_931 w1988 w1989 w1990 rfl rfl (RS.rc rs).1 (RS.rc rs).2 rfl (Nat.le_of_ble_eq_true rfl) (Nat.le_of_ble_eq_true rfl) (Nat.lt_of_lt_of_le (by decide) hd) rfl (sgX12_missed (Nat.le_refl _) rs e2) rfl ?_
    refine v_icmp_eq (q1 := 1163) (q2 := 937) dL_law_934 (by decide) rfl (fun _ => ?_) (fun z => absurd rfl z)
    exact kk
  rw [hm_mOf] at step2
  replace e1 : fX11_missed h X = some (r, h1) := e1
  refine v_aload_n (q := 927) 1 dL_law_926 rfl rfl rfl ?_
  exact u_callV1 (M' := mX11_missed) (d' := 8) (rc := (RX11, TX11, 14)) (As := []) (st := []) (q := 930) oX11_missed dL_law_927 w1267 w1268 w1269 rfl rfl hX.1 hX.2 rfl (Nat.le_of_ble_eq_true rfl) (Nat.le_of_ble_eq_true rfl) (Nat.lt_of_lt_of_le (by decide) hd) rfl (sX11_missed (Nat.le_refl _) e1) rfl step2
set_option maxRecDepth 20000 in
set_option maxHeartbeats 4000000 in
theorem law_27 {Γ : Gm} {d : Nat} (hd : 13 ≤ d) {X T : Nat} {h h1 : Hp} {m1 : Mem} {r i : Int32} {t : Option Value × Hp} (hX : X < hN h ∧ hS h X = .inl 11) (rs : RS T h1) (hj1 : vp_in (i + 1) Γ.2.2.2.2.2.2.1) (hj2 : vp_in (i + 2) Γ.2.2.2.2.2.2.1) (hj3 : vp_in (i + 3) Γ.2.2.2.2.2.2.1) (hj4 : vp_in (i + 4) Γ.2.2.2.2.2.2.1) (hj5 : vp_in (i + 5) Γ.2.2.2.2.2.2.1) (e1 : opC 27 X h (Γ.2.2.2.2.2.2.2 (i + 1).toNatClampNeg) (Γ.2.2.2.2.2.2.2 (i + 2).toNatClampNeg) (Γ.2.2.2.2.2.2.2 (i + 3).toNatClampNeg) (Γ.2.2.2.2.2.2.2 (i + 4).toNatClampNeg) (Γ.2.2.2.2.2.2.2 (i + 5).toNatClampNeg) = some (r, h1)) (e2 : opR 27 (mOf T h1) (Γ.2.2.2.2.2.2.2 (i + 1).toNatClampNeg) (Γ.2.2.2.2.2.2.2 (i + 2).toNatClampNeg) (Γ.2.2.2.2.2.2.2 (i + 3).toNatClampNeg) (Γ.2.2.2.2.2.2.2 (i + 4).toNatClampNeg) (Γ.2.2.2.2.2.2.2 (i + 5).toNatClampNeg) = some (r, m1)) (kk : V Γ d mL 1163 [(0, .retAddr 3), (1, .ref X), (2, .ref T), (3, .int i)] [] (hm T h1 m1) t) : V Γ d mL 939 [(0, .retAddr 3), (1, .ref X), (2, .ref T), (3, .int i)] [] h t := by
  replace e2 : gX12_proves (mOf T h1) (Γ.2.2.2.2.2.2.2 (i + 1).toNatClampNeg) = some (r, m1) := e2
  have step2 : V Γ d mL 948 [(0, .retAddr 3), (1, .ref X), (2, .ref T), (3, .int i)] [.int r] (hm T h1 (mOf T h1)) t := by
    refine v_aload_n (q := 949) 2 dL_law_948 rfl rfl rfl ?_
    refine v_aload_nX (q := 950) 0 dL_law_949 rfl rfl rfl ?_
    refine v_iload_n (q := 951) 3 dL_law_950 rfl rfl rfl ?_
    refine v_iconst (v := 1) (q := 952) dL_law_951 (by decide) rfl ?_
    refine v_iadd (q := 953) dL_law_952 rfl ?_
    refine v_sld (q := 954) dL_law_953 hj1 rfl ?_
    refine u_callV1 (M' := mX12_proves) (d' := 10) (rc := (RX12, TX12, 58)) (As := [.int (Γ.2.2.2.2.2.2.2 (i + 1).toNatClampNeg)]) (st := [.int r]) (q := 957) oX12_proves dL_law_954 w2000 w2001 w2002 rfl rfl (RS.rc rs).1 (RS.rc rs).2 rfl (Nat.le_of_ble_eq_true rfl) (Nat.le_of_ble_eq_true rfl) (Nat.lt_of_lt_of_le (by decide) hd) rfl (sgX12_proves (Nat.le_refl _) rs e2) rfl ?_
    refine v_icmp_eq (q1 := 1163) (q2 := 960) dL_law_957 (by decide) rfl (fun _ => ?_) (fun z => absurd rfl z)
    exact kk
  rw [hm_mOf] at step2
  replace e1 : fX11_proves h X (Γ.2.2.2.2.2.2.2 (i + 1).toNatClampNeg) = some (r, h1) := e1
  refine v_aload_n (q := 940) 1 dL_law_939 rfl rfl rfl ?_
  refine v_aload_nX (q := 941) 0 dL_law_940 rfl rfl rfl ?_
  refine v_iload_n (q := 942) 3 dL_law_941 rfl rfl rfl ?_
  refine v_iconst (v := 1) (q := 943) dL_law_942 (by decide) rfl ?_
  refine v_iadd (q := 944) dL_law_943 rfl ?_
  refine v_sld (q := 945) dL_law_944 hj1 rfl ?_
  exact u_callV1 (M' := mX11_proves) (d' := 8) (rc := (RX11, TX11, 14)) (As := [.int (Γ.2.2.2.2.2.2.2 (i + 1).toNatClampNeg)]) (st := []) (q := 948) oX11_proves dL_law_945 w1284 w1285 w1286 rfl rfl hX.1 hX.2 rfl (Nat.le_of_ble_eq_true rfl) (Nat.le_of_ble_eq_true rfl) (Nat.lt_of_lt_of_le (by decide) hd) rfl (sX11_proves (Nat.le_refl _) e1) rfl step2
set_option maxRecDepth 20000 in
set_option maxHeartbeats 4000000 in
theorem law_28 {Γ : Gm} {d : Nat} (hd : 13 ≤ d) {X T : Nat} {h h1 : Hp} {m1 : Mem} {r i : Int32} {t : Option Value × Hp} (hX : X < hN h ∧ hS h X = .inl 11) (rs : RS T h1) (hj1 : vp_in (i + 1) Γ.2.2.2.2.2.2.1) (hj2 : vp_in (i + 2) Γ.2.2.2.2.2.2.1) (hj3 : vp_in (i + 3) Γ.2.2.2.2.2.2.1) (hj4 : vp_in (i + 4) Γ.2.2.2.2.2.2.1) (hj5 : vp_in (i + 5) Γ.2.2.2.2.2.2.1) (e1 : opC 28 X h (Γ.2.2.2.2.2.2.2 (i + 1).toNatClampNeg) (Γ.2.2.2.2.2.2.2 (i + 2).toNatClampNeg) (Γ.2.2.2.2.2.2.2 (i + 3).toNatClampNeg) (Γ.2.2.2.2.2.2.2 (i + 4).toNatClampNeg) (Γ.2.2.2.2.2.2.2 (i + 5).toNatClampNeg) = some (r, h1)) (e2 : opR 28 (mOf T h1) (Γ.2.2.2.2.2.2.2 (i + 1).toNatClampNeg) (Γ.2.2.2.2.2.2.2 (i + 2).toNatClampNeg) (Γ.2.2.2.2.2.2.2 (i + 3).toNatClampNeg) (Γ.2.2.2.2.2.2.2 (i + 4).toNatClampNeg) (Γ.2.2.2.2.2.2.2 (i + 5).toNatClampNeg) = some (r, m1)) (kk : V Γ d mL 1163 [(0, .retAddr 3), (1, .ref X), (2, .ref T), (3, .int i)] [] (hm T h1 m1) t) : V Γ d mL 962 [(0, .retAddr 3), (1, .ref X), (2, .ref T), (3, .int i)] [] h t := by
  replace e2 : gX12_bestSwap (mOf T h1) (Γ.2.2.2.2.2.2.2 (i + 1).toNatClampNeg) = some (r, m1) := e2
  have step2 : V Γ d mL 971 [(0, .retAddr 3), (1, .ref X), (2, .ref T), (3, .int i)] [.int r] (hm T h1 (mOf T h1)) t := by
    refine v_aload_n (q := 972) 2 dL_law_971 rfl rfl rfl ?_
    refine v_aload_nX (q := 973) 0 dL_law_972 rfl rfl rfl ?_
    refine v_iload_n (q := 974) 3 dL_law_973 rfl rfl rfl ?_
    refine v_iconst (v := 1) (q := 975) dL_law_974 (by decide) rfl ?_
    refine v_iadd (q := 976) dL_law_975 rfl ?_
    refine v_sld (q := 977) dL_law_976 hj1 rfl ?_
    refine u_callV1 (M' := mX12_bestSwap) (d' := 10) (rc := (RX12, TX12, 58)) (As := [.int (Γ.2.2.2.2.2.2.2 (i + 1).toNatClampNeg)]) (st := [.int r]) (q := 980) oX12_bestSwap dL_law_977 w1829 w1830 w1831 rfl rfl (RS.rc rs).1 (RS.rc rs).2 rfl (Nat.le_of_ble_eq_true rfl) (Nat.le_of_ble_eq_true rfl) (Nat.lt_of_lt_of_le (by decide) hd) rfl (sgX12_bestSwap (Nat.le_refl _) rs e2) rfl ?_
    refine v_icmp_eq (q1 := 1163) (q2 := 983) dL_law_980 (by decide) rfl (fun _ => ?_) (fun z => absurd rfl z)
    exact kk
  rw [hm_mOf] at step2
  replace e1 : fX11_bestSwap h X (Γ.2.2.2.2.2.2.2 (i + 1).toNatClampNeg) = some (r, h1) := e1
  refine v_aload_n (q := 963) 1 dL_law_962 rfl rfl rfl ?_
  refine v_aload_nX (q := 964) 0 dL_law_963 rfl rfl rfl ?_
  refine v_iload_n (q := 965) 3 dL_law_964 rfl rfl rfl ?_
  refine v_iconst (v := 1) (q := 966) dL_law_965 (by decide) rfl ?_
  refine v_iadd (q := 967) dL_law_966 rfl ?_
  refine v_sld (q := 968) dL_law_967 hj1 rfl ?_
  exact u_callV1 (M' := mX11_bestSwap) (d' := 8) (rc := (RX11, TX11, 14)) (As := [.int (Γ.2.2.2.2.2.2.2 (i + 1).toNatClampNeg)]) (st := []) (q := 971) oX11_bestSwap dL_law_968 w1289 w1290 w1291 rfl rfl hX.1 hX.2 rfl (Nat.le_of_ble_eq_true rfl) (Nat.le_of_ble_eq_true rfl) (Nat.lt_of_lt_of_le (by decide) hd) rfl (sX11_bestSwap (Nat.le_refl _) e1) rfl step2
set_option maxRecDepth 20000 in
set_option maxHeartbeats 4000000 in
theorem law_29 {Γ : Gm} {d : Nat} (hd : 13 ≤ d) {X T : Nat} {h h1 : Hp} {m1 : Mem} {r i : Int32} {t : Option Value × Hp} (hX : X < hN h ∧ hS h X = .inl 11) (rs : RS T h1) (hj1 : vp_in (i + 1) Γ.2.2.2.2.2.2.1) (hj2 : vp_in (i + 2) Γ.2.2.2.2.2.2.1) (hj3 : vp_in (i + 3) Γ.2.2.2.2.2.2.1) (hj4 : vp_in (i + 4) Γ.2.2.2.2.2.2.1) (hj5 : vp_in (i + 5) Γ.2.2.2.2.2.2.1) (e1 : opC 29 X h (Γ.2.2.2.2.2.2.2 (i + 1).toNatClampNeg) (Γ.2.2.2.2.2.2.2 (i + 2).toNatClampNeg) (Γ.2.2.2.2.2.2.2 (i + 3).toNatClampNeg) (Γ.2.2.2.2.2.2.2 (i + 4).toNatClampNeg) (Γ.2.2.2.2.2.2.2 (i + 5).toNatClampNeg) = some (r, h1)) (e2 : opR 29 (mOf T h1) (Γ.2.2.2.2.2.2.2 (i + 1).toNatClampNeg) (Γ.2.2.2.2.2.2.2 (i + 2).toNatClampNeg) (Γ.2.2.2.2.2.2.2 (i + 3).toNatClampNeg) (Γ.2.2.2.2.2.2.2 (i + 4).toNatClampNeg) (Γ.2.2.2.2.2.2.2 (i + 5).toNatClampNeg) = some (r, m1)) (kk : V Γ d mL 1163 [(0, .retAddr 3), (1, .ref X), (2, .ref T), (3, .int i)] [] (hm T h1 m1) t) : V Γ d mL 985 [(0, .retAddr 3), (1, .ref X), (2, .ref T), (3, .int i)] [] h t := by
  replace e2 : gX12_eased (mOf T h1) (Γ.2.2.2.2.2.2.2 (i + 1).toNatClampNeg) (Γ.2.2.2.2.2.2.2 (i + 2).toNatClampNeg) = some (r, m1) := e2
  have step2 : V Γ d mL 999 [(0, .retAddr 3), (1, .ref X), (2, .ref T), (3, .int i)] [.int r] (hm T h1 (mOf T h1)) t := by
    refine v_aload_n (q := 1000) 2 dL_law_999 rfl rfl rfl ?_
    refine v_aload_nX (q := 1001) 0 dL_law_1000 rfl rfl rfl ?_
    refine v_iload_n (q := 1002) 3 dL_law_1001 rfl rfl rfl ?_
    refine v_iconst (v := 1) (q := 1003) dL_law_1002 (by decide) rfl ?_
    refine v_iadd (q := 1004) dL_law_1003 rfl ?_
    refine v_sld (q := 1005) dL_law_1004 hj1 rfl ?_
    refine v_aload_nX (q := 1006) 0 dL_law_1005 rfl rfl rfl ?_
    refine v_iload_n (q := 1007) 3 dL_law_1006 rfl rfl rfl ?_
    refine v_iconst (v := 2) (q := 1008) dL_law_1007 (by decide) rfl ?_
    refine v_iadd (q := 1009) dL_law_1008 rfl ?_
    refine v_sld (q := 1010) dL_law_1009 hj2 rfl ?_
    refine u_callV1 (M' := mX12_eased) (d' := 10) (rc := (RX12, TX12, 58)) (As := [.int (Γ.2.2.2.2.2.2.2 (i + 1).toNatClampNeg), .int (Γ.2.2.2.2.2.2.2 (i + 2).toNatClampNeg)]) (st := [.int r]) (q := 1013) oX12_eased dL_law_1010 w1834 w1835 w1836 rfl rfl (RS.rc rs).1 (RS.rc rs).2 rfl (Nat.le_of_ble_eq_true rfl) (Nat.le_of_ble_eq_true rfl) (Nat.lt_of_lt_of_le (by decide) hd) rfl (sgX12_eased (Nat.le_refl _) rs e2) rfl ?_
    refine v_icmp_eq (q1 := 1163) (q2 := 1016) dL_law_1013 (by decide) rfl (fun _ => ?_) (fun z => absurd rfl z)
    exact kk
  rw [hm_mOf] at step2
  replace e1 : fX11_eased h X (Γ.2.2.2.2.2.2.2 (i + 1).toNatClampNeg) (Γ.2.2.2.2.2.2.2 (i + 2).toNatClampNeg) = some (r, h1) := e1
  refine v_aload_n (q := 986) 1 dL_law_985 rfl rfl rfl ?_
  refine v_aload_nX (q := 987) 0 dL_law_986 rfl rfl rfl ?_
  refine v_iload_n (q := 988) 3 dL_law_987 rfl rfl rfl ?_
  refine v_iconst (v := 1) (q := 989) dL_law_988 (by decide) rfl ?_
  refine v_iadd (q := 990) dL_law_989 rfl ?_
  refine v_sld (q := 991) dL_law_990 hj1 rfl ?_
  refine v_aload_nX (q := 992) 0 dL_law_991 rfl rfl rfl ?_
  refine v_iload_n (q := 993) 3 dL_law_992 rfl rfl rfl ?_
  refine v_iconst (v := 2) (q := 994) dL_law_993 (by decide) rfl ?_
  refine v_iadd (q := 995) dL_law_994 rfl ?_
  refine v_sld (q := 996) dL_law_995 hj2 rfl ?_
  exact u_callV1 (M' := mX11_eased) (d' := 8) (rc := (RX11, TX11, 14)) (As := [.int (Γ.2.2.2.2.2.2.2 (i + 1).toNatClampNeg), .int (Γ.2.2.2.2.2.2.2 (i + 2).toNatClampNeg)]) (st := []) (q := 999) oX11_eased dL_law_996 w1294 w1295 w1296 rfl rfl hX.1 hX.2 rfl (Nat.le_of_ble_eq_true rfl) (Nat.le_of_ble_eq_true rfl) (Nat.lt_of_lt_of_le (by decide) hd) rfl (sX11_eased (Nat.le_refl _) e1) rfl step2
set_option maxRecDepth 20000 in
set_option maxHeartbeats 4000000 in
theorem law_30 {Γ : Gm} {d : Nat} (hd : 13 ≤ d) {X T : Nat} {h h1 : Hp} {m1 : Mem} {r i : Int32} {t : Option Value × Hp} (hX : X < hN h ∧ hS h X = .inl 11) (rs : RS T h1) (hj1 : vp_in (i + 1) Γ.2.2.2.2.2.2.1) (hj2 : vp_in (i + 2) Γ.2.2.2.2.2.2.1) (hj3 : vp_in (i + 3) Γ.2.2.2.2.2.2.1) (hj4 : vp_in (i + 4) Γ.2.2.2.2.2.2.1) (hj5 : vp_in (i + 5) Γ.2.2.2.2.2.2.1) (e1 : opC 30 X h (Γ.2.2.2.2.2.2.2 (i + 1).toNatClampNeg) (Γ.2.2.2.2.2.2.2 (i + 2).toNatClampNeg) (Γ.2.2.2.2.2.2.2 (i + 3).toNatClampNeg) (Γ.2.2.2.2.2.2.2 (i + 4).toNatClampNeg) (Γ.2.2.2.2.2.2.2 (i + 5).toNatClampNeg) = some (r, h1)) (e2 : opR 30 (mOf T h1) (Γ.2.2.2.2.2.2.2 (i + 1).toNatClampNeg) (Γ.2.2.2.2.2.2.2 (i + 2).toNatClampNeg) (Γ.2.2.2.2.2.2.2 (i + 3).toNatClampNeg) (Γ.2.2.2.2.2.2.2 (i + 4).toNatClampNeg) (Γ.2.2.2.2.2.2.2 (i + 5).toNatClampNeg) = some (r, m1)) (kk : V Γ d mL 1163 [(0, .retAddr 3), (1, .ref X), (2, .ref T), (3, .int i)] [] (hm T h1 m1) t) : V Γ d mL 1018 [(0, .retAddr 3), (1, .ref X), (2, .ref T), (3, .int i)] [] h t := by
  obtain ⟨r8, e2, e8⟩ := bs e2
  obtain ⟨q8, q9⟩ := Prod.mk.inj (Option.some.inj e8)
  rw [q8] at e2
  rw [← q9] at kk
  have step2 : V Γ d mL 1037 [(0, .retAddr 3), (1, .ref X), (2, .ref T), (3, .int i)] [.int r] (hm T h1 (mOf T h1)) t := by
    refine v_aload_n (q := 1038) 2 dL_law_1037 rfl rfl rfl ?_
    refine v_aload_nX (q := 1039) 0 dL_law_1038 rfl rfl rfl ?_
    refine v_iload_n (q := 1040) 3 dL_law_1039 rfl rfl rfl ?_
    refine v_iconst (v := 1) (q := 1041) dL_law_1040 (by decide) rfl ?_
    refine v_iadd (q := 1042) dL_law_1041 rfl ?_
    refine v_sld (q := 1043) dL_law_1042 hj1 rfl ?_
    refine v_aload_nX (q := 1044) 0 dL_law_1043 rfl rfl rfl ?_
    refine v_iload_n (q := 1045) 3 dL_law_1044 rfl rfl rfl ?_
    refine v_iconst (v := 2) (q := 1046) dL_law_1045 (by decide) rfl ?_
    refine v_iadd (q := 1047) dL_law_1046 rfl ?_
    refine v_sld (q := 1048) dL_law_1047 hj2 rfl ?_
    refine v_aload_nX (q := 1049) 0 dL_law_1048 rfl rfl rfl ?_
    refine v_iload_n (q := 1050) 3 dL_law_1049 rfl rfl rfl ?_
    refine v_iconst (v := 3) (q := 1051) dL_law_1050 (by decide) rfl ?_
    refine v_iadd (q := 1052) dL_law_1051 rfl ?_
    refine v_sld (q := 1053) dL_law_1052 hj3 rfl ?_
    refine u_callV1 (M' := mX12_spell) (d' := 3) (rc := (RX12, TX12, 58)) (As := [.int (Γ.2.2.2.2.2.2.2 (i + 1).toNatClampNeg), .int (Γ.2.2.2.2.2.2.2 (i + 2).toNatClampNeg), .int (Γ.2.2.2.2.2.2.2 (i + 3).toNatClampNeg)]) (st := [.int r]) (q := 1056) oX12_spell dL_law_1053 w1929 w1930 w1931 rfl rfl (RS.rc rs).1 (RS.rc rs).2 rfl (Nat.le_of_ble_eq_true rfl) (Nat.le_of_ble_eq_true rfl) (Nat.lt_of_lt_of_le (by decide) hd) rfl (sgX12_spell (Nat.le_refl _) rs e2) rfl ?_
    refine v_icmp_eq (q1 := 1163) (q2 := 1059) dL_law_1056 (by decide) rfl (fun _ => ?_) (fun z => absurd rfl z)
    exact kk
  rw [hm_mOf] at step2
  replace e1 : fX11_spell h X (Γ.2.2.2.2.2.2.2 (i + 1).toNatClampNeg) (Γ.2.2.2.2.2.2.2 (i + 2).toNatClampNeg) (Γ.2.2.2.2.2.2.2 (i + 3).toNatClampNeg) = some (r, h1) := e1
  refine v_aload_n (q := 1019) 1 dL_law_1018 rfl rfl rfl ?_
  refine v_aload_nX (q := 1020) 0 dL_law_1019 rfl rfl rfl ?_
  refine v_iload_n (q := 1021) 3 dL_law_1020 rfl rfl rfl ?_
  refine v_iconst (v := 1) (q := 1022) dL_law_1021 (by decide) rfl ?_
  refine v_iadd (q := 1023) dL_law_1022 rfl ?_
  refine v_sld (q := 1024) dL_law_1023 hj1 rfl ?_
  refine v_aload_nX (q := 1025) 0 dL_law_1024 rfl rfl rfl ?_
  refine v_iload_n (q := 1026) 3 dL_law_1025 rfl rfl rfl ?_
  refine v_iconst (v := 2) (q := 1027) dL_law_1026 (by decide) rfl ?_
  refine v_iadd (q := 1028) dL_law_1027 rfl ?_
  refine v_sld (q := 1029) dL_law_1028 hj2 rfl ?_
  refine v_aload_nX (q := 1030) 0 dL_law_1029 rfl rfl rfl ?_
  refine v_iload_n (q := 1031) 3 dL_law_1030 rfl rfl rfl ?_
  refine v_iconst (v := 3) (q := 1032) dL_law_1031 (by decide) rfl ?_
  refine v_iadd (q := 1033) dL_law_1032 rfl ?_
  refine v_sld (q := 1034) dL_law_1033 hj3 rfl ?_
  exact u_callV1 (M' := mX11_spell) (d' := 5) (rc := (RX11, TX11, 14)) (As := [.int (Γ.2.2.2.2.2.2.2 (i + 1).toNatClampNeg), .int (Γ.2.2.2.2.2.2.2 (i + 2).toNatClampNeg), .int (Γ.2.2.2.2.2.2.2 (i + 3).toNatClampNeg)]) (st := []) (q := 1037) oX11_spell dL_law_1034 w1302 w1303 w1304 rfl rfl hX.1 hX.2 rfl (Nat.le_of_ble_eq_true rfl) (Nat.le_of_ble_eq_true rfl) (Nat.lt_of_lt_of_le (by decide) hd) rfl (sX11_spell (Nat.le_refl _) e1) rfl step2
set_option maxRecDepth 20000 in
set_option maxHeartbeats 4000000 in
theorem law_31 {Γ : Gm} {d : Nat} (hd : 13 ≤ d) {X T : Nat} {h h1 : Hp} {m1 : Mem} {r i : Int32} {t : Option Value × Hp} (hX : X < hN h ∧ hS h X = .inl 11) (rs : RS T h1) (hj1 : vp_in (i + 1) Γ.2.2.2.2.2.2.1) (hj2 : vp_in (i + 2) Γ.2.2.2.2.2.2.1) (hj3 : vp_in (i + 3) Γ.2.2.2.2.2.2.1) (hj4 : vp_in (i + 4) Γ.2.2.2.2.2.2.1) (hj5 : vp_in (i + 5) Γ.2.2.2.2.2.2.1) (e1 : opC 31 X h (Γ.2.2.2.2.2.2.2 (i + 1).toNatClampNeg) (Γ.2.2.2.2.2.2.2 (i + 2).toNatClampNeg) (Γ.2.2.2.2.2.2.2 (i + 3).toNatClampNeg) (Γ.2.2.2.2.2.2.2 (i + 4).toNatClampNeg) (Γ.2.2.2.2.2.2.2 (i + 5).toNatClampNeg) = some (r, h1)) (e2 : opR 31 (mOf T h1) (Γ.2.2.2.2.2.2.2 (i + 1).toNatClampNeg) (Γ.2.2.2.2.2.2.2 (i + 2).toNatClampNeg) (Γ.2.2.2.2.2.2.2 (i + 3).toNatClampNeg) (Γ.2.2.2.2.2.2.2 (i + 4).toNatClampNeg) (Γ.2.2.2.2.2.2.2 (i + 5).toNatClampNeg) = some (r, m1)) (kk : V Γ d mL 1163 [(0, .retAddr 3), (1, .ref X), (2, .ref T), (3, .int i)] [] (hm T h1 m1) t) : V Γ d mL 1061 [(0, .retAddr 3), (1, .ref X), (2, .ref T), (3, .int i)] [] h t := by
  replace e2 : gX12_depth (mOf T h1) (Γ.2.2.2.2.2.2.2 (i + 1).toNatClampNeg) (Γ.2.2.2.2.2.2.2 (i + 2).toNatClampNeg) = some (r, m1) := e2
  have step2 : V Γ d mL 1075 [(0, .retAddr 3), (1, .ref X), (2, .ref T), (3, .int i)] [.int r] (hm T h1 (mOf T h1)) t := by
    refine v_aload_n (q := 1076) 2 dL_law_1075 rfl rfl rfl ?_
    refine v_aload_nX (q := 1077) 0 dL_law_1076 rfl rfl rfl ?_
    refine v_iload_n (q := 1078) 3 dL_law_1077 rfl rfl rfl ?_
    refine v_iconst (v := 1) (q := 1079) dL_law_1078 (by decide) rfl ?_
    refine v_iadd (q := 1080) dL_law_1079 rfl ?_
    refine v_sld (q := 1081) dL_law_1080 hj1 rfl ?_
    refine v_aload_nX (q := 1082) 0 dL_law_1081 rfl rfl rfl ?_
    refine v_iload_n (q := 1083) 3 dL_law_1082 rfl rfl rfl ?_
    refine v_iconst (v := 2) (q := 1084) dL_law_1083 (by decide) rfl ?_
    refine v_iadd (q := 1085) dL_law_1084 rfl ?_
    refine v_sld (q := 1086) dL_law_1085 hj2 rfl ?_
    refine u_callV1 (M' := mX12_depth) (d' := 7) (rc := (RX12, TX12, 58)) (As := [.int (Γ.2.2.2.2.2.2.2 (i + 1).toNatClampNeg), .int (Γ.2.2.2.2.2.2.2 (i + 2).toNatClampNeg)]) (st := [.int r]) (q := 1089) oX12_depth dL_law_1086 w1964 w1965 w1966 rfl rfl (RS.rc rs).1 (RS.rc rs).2 rfl (Nat.le_of_ble_eq_true rfl) (Nat.le_of_ble_eq_true rfl) (Nat.lt_of_lt_of_le (by decide) hd) rfl (sgX12_depth (Nat.le_refl _) rs e2) rfl ?_
    refine v_icmp_eq (q1 := 1163) (q2 := 1092) dL_law_1089 (by decide) rfl (fun _ => ?_) (fun z => absurd rfl z)
    exact kk
  rw [hm_mOf] at step2
  replace e1 : fX11_depth h X (Γ.2.2.2.2.2.2.2 (i + 1).toNatClampNeg) (Γ.2.2.2.2.2.2.2 (i + 2).toNatClampNeg) = some (r, h1) := e1
  refine v_aload_n (q := 1062) 1 dL_law_1061 rfl rfl rfl ?_
  refine v_aload_nX (q := 1063) 0 dL_law_1062 rfl rfl rfl ?_
  refine v_iload_n (q := 1064) 3 dL_law_1063 rfl rfl rfl ?_
  refine v_iconst (v := 1) (q := 1065) dL_law_1064 (by decide) rfl ?_
  refine v_iadd (q := 1066) dL_law_1065 rfl ?_
  refine v_sld (q := 1067) dL_law_1066 hj1 rfl ?_
  refine v_aload_nX (q := 1068) 0 dL_law_1067 rfl rfl rfl ?_
  refine v_iload_n (q := 1069) 3 dL_law_1068 rfl rfl rfl ?_
  refine v_iconst (v := 2) (q := 1070) dL_law_1069 (by decide) rfl ?_
  refine v_iadd (q := 1071) dL_law_1070 rfl ?_
  refine v_sld (q := 1072) dL_law_1071 hj2 rfl ?_
  exact u_callV1 (M' := mX11_depth) (d' := 5) (rc := (RX11, TX11, 14)) (As := [.int (Γ.2.2.2.2.2.2.2 (i + 1).toNatClampNeg), .int (Γ.2.2.2.2.2.2.2 (i + 2).toNatClampNeg)]) (st := []) (q := 1075) oX11_depth dL_law_1072 w1313 w1314 w1315 rfl rfl hX.1 hX.2 rfl (Nat.le_of_ble_eq_true rfl) (Nat.le_of_ble_eq_true rfl) (Nat.lt_of_lt_of_le (by decide) hd) rfl (sX11_depth (Nat.le_refl _) e1) rfl step2
set_option maxRecDepth 20000 in
set_option maxHeartbeats 4000000 in
theorem law_32 {Γ : Gm} {d : Nat} (hd : 13 ≤ d) {X T : Nat} {h h1 : Hp} {m1 : Mem} {r i : Int32} {t : Option Value × Hp} (hX : X < hN h ∧ hS h X = .inl 11) (rs : RS T h1) (hj1 : vp_in (i + 1) Γ.2.2.2.2.2.2.1) (hj2 : vp_in (i + 2) Γ.2.2.2.2.2.2.1) (hj3 : vp_in (i + 3) Γ.2.2.2.2.2.2.1) (hj4 : vp_in (i + 4) Γ.2.2.2.2.2.2.1) (hj5 : vp_in (i + 5) Γ.2.2.2.2.2.2.1) (e1 : opC 32 X h (Γ.2.2.2.2.2.2.2 (i + 1).toNatClampNeg) (Γ.2.2.2.2.2.2.2 (i + 2).toNatClampNeg) (Γ.2.2.2.2.2.2.2 (i + 3).toNatClampNeg) (Γ.2.2.2.2.2.2.2 (i + 4).toNatClampNeg) (Γ.2.2.2.2.2.2.2 (i + 5).toNatClampNeg) = some (r, h1)) (e2 : opR 32 (mOf T h1) (Γ.2.2.2.2.2.2.2 (i + 1).toNatClampNeg) (Γ.2.2.2.2.2.2.2 (i + 2).toNatClampNeg) (Γ.2.2.2.2.2.2.2 (i + 3).toNatClampNeg) (Γ.2.2.2.2.2.2.2 (i + 4).toNatClampNeg) (Γ.2.2.2.2.2.2.2 (i + 5).toNatClampNeg) = some (r, m1)) (kk : V Γ d mL 1163 [(0, .retAddr 3), (1, .ref X), (2, .ref T), (3, .int i)] [] (hm T h1 m1) t) : V Γ d mL 1094 [(0, .retAddr 3), (1, .ref X), (2, .ref T), (3, .int i)] [] h t := by
  replace e2 : gX12_image (mOf T h1) (Γ.2.2.2.2.2.2.2 (i + 1).toNatClampNeg) = some (r, m1) := e2
  have step2 : V Γ d mL 1103 [(0, .retAddr 3), (1, .ref X), (2, .ref T), (3, .int i)] [.int r] (hm T h1 (mOf T h1)) t := by
    refine v_aload_n (q := 1104) 2 dL_law_1103 rfl rfl rfl ?_
    refine v_aload_nX (q := 1105) 0 dL_law_1104 rfl rfl rfl ?_
    refine v_iload_n (q := 1106) 3 dL_law_1105 rfl rfl rfl ?_
    refine v_iconst (v := 1) (q := 1107) dL_law_1106 (by decide) rfl ?_
    refine v_iadd (q := 1108) dL_law_1107 rfl ?_
    refine v_sld (q := 1109) dL_law_1108 hj1 rfl ?_
    refine u_callV1 (M' := mX12_image) (d' := 2) (rc := (RX12, TX12, 58)) (As := [.int (Γ.2.2.2.2.2.2.2 (i + 1).toNatClampNeg)]) (st := [.int r]) (q := 1112) oX12_image dL_law_1109 w2020 w2021 w2022 rfl rfl (RS.rc rs).1 (RS.rc rs).2 rfl (Nat.le_of_ble_eq_true rfl) (Nat.le_of_ble_eq_true rfl) (Nat.lt_of_lt_of_le (by decide) hd) rfl (sgX12_image (Nat.le_refl _) rs e2) rfl ?_
    refine v_icmp_eq (q1 := 1163) (q2 := 1115) dL_law_1112 (by decide) rfl (fun _ => ?_) (fun z => absurd rfl z)
    exact kk
  rw [hm_mOf] at step2
  replace e1 : fX11_image h X (Γ.2.2.2.2.2.2.2 (i + 1).toNatClampNeg) = some (r, h1) := e1
  refine v_aload_n (q := 1095) 1 dL_law_1094 rfl rfl rfl ?_
  refine v_aload_nX (q := 1096) 0 dL_law_1095 rfl rfl rfl ?_
  refine v_iload_n (q := 1097) 3 dL_law_1096 rfl rfl rfl ?_
  refine v_iconst (v := 1) (q := 1098) dL_law_1097 (by decide) rfl ?_
  refine v_iadd (q := 1099) dL_law_1098 rfl ?_
  refine v_sld (q := 1100) dL_law_1099 hj1 rfl ?_
  exact u_callV1 (M' := mX11_image) (d' := 3) (rc := (RX11, TX11, 14)) (As := [.int (Γ.2.2.2.2.2.2.2 (i + 1).toNatClampNeg)]) (st := []) (q := 1103) oX11_image dL_law_1100 w1321 w1322 w1323 rfl rfl hX.1 hX.2 rfl (Nat.le_of_ble_eq_true rfl) (Nat.le_of_ble_eq_true rfl) (Nat.lt_of_lt_of_le (by decide) hd) rfl (sX11_image (Nat.le_refl _) e1) rfl step2
set_option maxRecDepth 20000 in
set_option maxHeartbeats 4000000 in
theorem law_33 {Γ : Gm} {d : Nat} (hd : 13 ≤ d) {X T : Nat} {h h1 : Hp} {m1 : Mem} {r i : Int32} {t : Option Value × Hp} (hX : X < hN h ∧ hS h X = .inl 11) (rs : RS T h1) (hj1 : vp_in (i + 1) Γ.2.2.2.2.2.2.1) (hj2 : vp_in (i + 2) Γ.2.2.2.2.2.2.1) (hj3 : vp_in (i + 3) Γ.2.2.2.2.2.2.1) (hj4 : vp_in (i + 4) Γ.2.2.2.2.2.2.1) (hj5 : vp_in (i + 5) Γ.2.2.2.2.2.2.1) (e1 : opC 33 X h (Γ.2.2.2.2.2.2.2 (i + 1).toNatClampNeg) (Γ.2.2.2.2.2.2.2 (i + 2).toNatClampNeg) (Γ.2.2.2.2.2.2.2 (i + 3).toNatClampNeg) (Γ.2.2.2.2.2.2.2 (i + 4).toNatClampNeg) (Γ.2.2.2.2.2.2.2 (i + 5).toNatClampNeg) = some (r, h1)) (e2 : opR 33 (mOf T h1) (Γ.2.2.2.2.2.2.2 (i + 1).toNatClampNeg) (Γ.2.2.2.2.2.2.2 (i + 2).toNatClampNeg) (Γ.2.2.2.2.2.2.2 (i + 3).toNatClampNeg) (Γ.2.2.2.2.2.2.2 (i + 4).toNatClampNeg) (Γ.2.2.2.2.2.2.2 (i + 5).toNatClampNeg) = some (r, m1)) (kk : V Γ d mL 1163 [(0, .retAddr 3), (1, .ref X), (2, .ref T), (3, .int i)] [] (hm T h1 m1) t) : V Γ d mL 1117 [(0, .retAddr 3), (1, .ref X), (2, .ref T), (3, .int i)] [] h t := by
  replace e2 : gX12_back (mOf T h1) (Γ.2.2.2.2.2.2.2 (i + 1).toNatClampNeg) = some (r, m1) := e2
  have step2 : V Γ d mL 1126 [(0, .retAddr 3), (1, .ref X), (2, .ref T), (3, .int i)] [.int r] (hm T h1 (mOf T h1)) t := by
    refine v_aload_n (q := 1127) 2 dL_law_1126 rfl rfl rfl ?_
    refine v_aload_nX (q := 1128) 0 dL_law_1127 rfl rfl rfl ?_
    refine v_iload_n (q := 1129) 3 dL_law_1128 rfl rfl rfl ?_
    refine v_iconst (v := 1) (q := 1130) dL_law_1129 (by decide) rfl ?_
    refine v_iadd (q := 1131) dL_law_1130 rfl ?_
    refine v_sld (q := 1132) dL_law_1131 hj1 rfl ?_
    refine u_callV1 (M' := mX12_back) (d' := 2) (rc := (RX12, TX12, 58)) (As := [.int (Γ.2.2.2.2.2.2.2 (i + 1).toNatClampNeg)]) (st := [.int r]) (q := 1135) oX12_back dL_law_1132 w2024 w2025 w2026 rfl rfl (RS.rc rs).1 (RS.rc rs).2 rfl (Nat.le_of_ble_eq_true rfl) (Nat.le_of_ble_eq_true rfl) (Nat.lt_of_lt_of_le (by decide) hd) rfl (sgX12_back (Nat.le_refl _) rs e2) rfl ?_
    refine v_icmp_eq (q1 := 1163) (q2 := 1138) dL_law_1135 (by decide) rfl (fun _ => ?_) (fun z => absurd rfl z)
    exact kk
  rw [hm_mOf] at step2
  replace e1 : fX11_back h X (Γ.2.2.2.2.2.2.2 (i + 1).toNatClampNeg) = some (r, h1) := e1
  refine v_aload_n (q := 1118) 1 dL_law_1117 rfl rfl rfl ?_
  refine v_aload_nX (q := 1119) 0 dL_law_1118 rfl rfl rfl ?_
  refine v_iload_n (q := 1120) 3 dL_law_1119 rfl rfl rfl ?_
  refine v_iconst (v := 1) (q := 1121) dL_law_1120 (by decide) rfl ?_
  refine v_iadd (q := 1122) dL_law_1121 rfl ?_
  refine v_sld (q := 1123) dL_law_1122 hj1 rfl ?_
  exact u_callV1 (M' := mX11_back) (d' := 3) (rc := (RX11, TX11, 14)) (As := [.int (Γ.2.2.2.2.2.2.2 (i + 1).toNatClampNeg)]) (st := []) (q := 1126) oX11_back dL_law_1123 w1325 w1326 w1327 rfl rfl hX.1 hX.2 rfl (Nat.le_of_ble_eq_true rfl) (Nat.le_of_ble_eq_true rfl) (Nat.lt_of_lt_of_le (by decide) hd) rfl (sX11_back (Nat.le_refl _) e1) rfl step2
set_option maxRecDepth 20000 in
set_option maxHeartbeats 4000000 in
theorem law_34 {Γ : Gm} {d : Nat} (hd : 13 ≤ d) {X T : Nat} {h h1 : Hp} {m1 : Mem} {r i : Int32} {t : Option Value × Hp} (hX : X < hN h ∧ hS h X = .inl 11) (rs : RS T h1) (hj1 : vp_in (i + 1) Γ.2.2.2.2.2.2.1) (hj2 : vp_in (i + 2) Γ.2.2.2.2.2.2.1) (hj3 : vp_in (i + 3) Γ.2.2.2.2.2.2.1) (hj4 : vp_in (i + 4) Γ.2.2.2.2.2.2.1) (hj5 : vp_in (i + 5) Γ.2.2.2.2.2.2.1) (e1 : opC 34 X h (Γ.2.2.2.2.2.2.2 (i + 1).toNatClampNeg) (Γ.2.2.2.2.2.2.2 (i + 2).toNatClampNeg) (Γ.2.2.2.2.2.2.2 (i + 3).toNatClampNeg) (Γ.2.2.2.2.2.2.2 (i + 4).toNatClampNeg) (Γ.2.2.2.2.2.2.2 (i + 5).toNatClampNeg) = some (r, h1)) (e2 : opR 34 (mOf T h1) (Γ.2.2.2.2.2.2.2 (i + 1).toNatClampNeg) (Γ.2.2.2.2.2.2.2 (i + 2).toNatClampNeg) (Γ.2.2.2.2.2.2.2 (i + 3).toNatClampNeg) (Γ.2.2.2.2.2.2.2 (i + 4).toNatClampNeg) (Γ.2.2.2.2.2.2.2 (i + 5).toNatClampNeg) = some (r, m1)) (kk : V Γ d mL 1163 [(0, .retAddr 3), (1, .ref X), (2, .ref T), (3, .int i)] [] (hm T h1 m1) t) : V Γ d mL 1140 [(0, .retAddr 3), (1, .ref X), (2, .ref T), (3, .int i)] [] h t := by
  obtain ⟨r8, e2, e8⟩ := bs e2
  obtain ⟨q8, q9⟩ := Prod.mk.inj (Option.some.inj e8)
  rw [q8] at e2
  rw [← q9] at kk
  have step2 : V Γ d mL 1149 [(0, .retAddr 3), (1, .ref X), (2, .ref T), (3, .int i)] [.int r] (hm T h1 (mOf T h1)) t := by
    refine v_aload_n (q := 1150) 2 dL_law_1149 rfl rfl rfl ?_
    refine v_aload_nX (q := 1151) 0 dL_law_1150 rfl rfl rfl ?_
    refine v_iload_n (q := 1152) 3 dL_law_1151 rfl rfl rfl ?_
    refine v_iconst (v := 1) (q := 1153) dL_law_1152 (by decide) rfl ?_
    refine v_iadd (q := 1154) dL_law_1153 rfl ?_
    refine v_sld (q := 1155) dL_law_1154 hj1 rfl ?_
    refine u_callV1 (M' := mX12_about) (d' := 2) (rc := (RX12, TX12, 58)) (As := [.int (Γ.2.2.2.2.2.2.2 (i + 1).toNatClampNeg)]) (st := [.int r]) (q := 1158) oX12_about dL_law_1155 w2028 w2029 w2030 rfl rfl (RS.rc rs).1 (RS.rc rs).2 rfl (Nat.le_of_ble_eq_true rfl) (Nat.le_of_ble_eq_true rfl) (Nat.lt_of_lt_of_le (by decide) hd) rfl (sgX12_about (Nat.le_refl _) rs e2) rfl ?_
    refine v_icmp_eq (q1 := 1163) (q2 := 1161) dL_law_1158 (by decide) rfl (fun _ => ?_) (fun z => absurd rfl z)
    exact kk
  rw [hm_mOf] at step2
  obtain ⟨r9, e1, e9⟩ := bs e1
  obtain ⟨p8, p9⟩ := Prod.mk.inj (Option.some.inj e9)
  rw [p8] at e1
  rw [← p9] at step2
  refine v_aload_n (q := 1141) 1 dL_law_1140 rfl rfl rfl ?_
  refine v_aload_nX (q := 1142) 0 dL_law_1141 rfl rfl rfl ?_
  refine v_iload_n (q := 1143) 3 dL_law_1142 rfl rfl rfl ?_
  refine v_iconst (v := 1) (q := 1144) dL_law_1143 (by decide) rfl ?_
  refine v_iadd (q := 1145) dL_law_1144 rfl ?_
  refine v_sld (q := 1146) dL_law_1145 hj1 rfl ?_
  exact u_callV1 (M' := mX11_about) (d' := 2) (rc := (RX11, TX11, 14)) (As := [.int (Γ.2.2.2.2.2.2.2 (i + 1).toNatClampNeg)]) (st := []) (q := 1149) oX11_about dL_law_1146 w1329 w1330 w1331 rfl rfl hX.1 hX.2 rfl (Nat.le_of_ble_eq_true rfl) (Nat.le_of_ble_eq_true rfl) (Nat.lt_of_lt_of_le (by decide) hd) rfl (sX11_about (Nat.le_refl _) e1) rfl step2

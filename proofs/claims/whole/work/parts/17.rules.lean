section VW
variable {Γ : Gm} {d : Nat} {M : MI} {pc q : Nat} {L : List (Nat × Value)} {st : List Value} {h : Hp} {t : Option Value × Hp}
theorem V.sub {L' : List (Nat × Value)} (ks : List Nat) (hl : lv_pick L ks = L') (k : V Γ d M pc L' st h t) : V Γ d M pc L st h t := by
  subst hl
  refine ⟨k.1, fun p e s m args below meth c H locs ls n0 t0 C h1 h2 hRl hSl hl => k.2 p e s m args below meth c H locs ls n0 t0 C h1 h2 hRl hSl ?_⟩
  refine lv_sub hl ks ?_
  unfold lv_pick
  rw [List.map_filterMap]
  congr 1
  funext x
  exact List.getElem?_map
theorem v_topi {x y : Int32} (e : x = y) (k : V Γ d M pc L (.int y :: st) h t) : V Γ d M pc L (.int x :: st) h t := e ▸ k
theorem v_topj {x y : Int64} (e : x = y) (k : V Γ d M pc L (.long y :: st) h t) : V Γ d M pc L (.long x :: st) h t := e ▸ k
theorem u_callS1 {stk : List Value} {M' : MI} {d' n idx : Nat} {As : List Value} {v : Value} {h1 : Hp} (hM : mOK M' n) (hd : decode M.2.1 pc = .ok (.invokestatic idx, 3)) (hlk : Cond.methodLink M.1.cls idx M'.1 ∈ lw_tbl) (hst : Cond.static M'.1 ∈ lw_tbl) (hn : As.length = n) (hlen : (lg_sl As).length ≤ M'.2.2.1) (hc : (st.map fun v => v.category).sum ≤ 8) (hdd : d' < d) (hq : pc + 3 = q)
    (hV : V Γ d' M' 0 (lv_args 0 As) [] h (some v, h1)) (hstk : stk = As.reverse ++ st) (k : V Γ d M q L (v :: st) h1 t) : V Γ d M pc L stk h t := v_callS hM hd hlk hst hn hlen hc hdd hq hV hstk k
theorem u_callS0 {stk : List Value} {M' : MI} {d' n idx : Nat} {As : List Value} {h1 : Hp} (hM : mOK M' n) (hd : decode M.2.1 pc = .ok (.invokestatic idx, 3)) (hlk : Cond.methodLink M.1.cls idx M'.1 ∈ lw_tbl) (hst : Cond.static M'.1 ∈ lw_tbl) (hn : As.length = n) (hlen : (lg_sl As).length ≤ M'.2.2.1) (hc : (st.map fun v => v.category).sum ≤ 8) (hdd : d' < d) (hq : pc + 3 = q)
    (hV : V Γ d' M' 0 (lv_args 0 As) [] h (none, h1)) (hstk : stk = As.reverse ++ st) (k : V Γ d M q L st h1 t) : V Γ d M pc L stk h t := v_callS hM hd hlk hst hn hlen hc hdd hq hV hstk k
theorem u_callSN1 {stk : List Value} {M' : MI} {d' n idx : Nat} {host : String} {As : List Value} {v : Value} {h1 : Hp} (hM : mOK M' n) (hd : decode M.2.1 pc = .ok (.invokestatic idx, 3)) (hlk : Cond.methodLinkNest M.1.cls idx M'.1 host ∈ lw_tbl) (hst : Cond.static M'.1 ∈ lw_tbl) (hn : As.length = n) (hlen : (lg_sl As).length ≤ M'.2.2.1) (hc : (st.map fun v => v.category).sum ≤ 8) (hdd : d' < d) (hq : pc + 3 = q)
    (hV : V Γ d' M' 0 (lv_args 0 As) [] h (some v, h1)) (hstk : stk = As.reverse ++ st) (k : V Γ d M q L (v :: st) h1 t) : V Γ d M pc L stk h t := v_callSN hM hd hlk hst hn hlen hc hdd hq hV hstk k
theorem u_callSN0 {stk : List Value} {M' : MI} {d' n idx : Nat} {host : String} {As : List Value} {h1 : Hp} (hM : mOK M' n) (hd : decode M.2.1 pc = .ok (.invokestatic idx, 3)) (hlk : Cond.methodLinkNest M.1.cls idx M'.1 host ∈ lw_tbl) (hst : Cond.static M'.1 ∈ lw_tbl) (hn : As.length = n) (hlen : (lg_sl As).length ≤ M'.2.2.1) (hc : (st.map fun v => v.category).sum ≤ 8) (hdd : d' < d) (hq : pc + 3 = q)
    (hV : V Γ d' M' 0 (lv_args 0 As) [] h (none, h1)) (hstk : stk = As.reverse ++ st) (k : V Γ d M q L st h1 t) : V Γ d M pc L stk h t := v_callSN hM hd hlk hst hn hlen hc hdd hq hV hstk k
theorem u_callV1 {stk : List Value} {M' : MI} {d' n idx ci a : Nat} {rc : vw_C} {As : List Value} {v : Value} {h1 : Hp} (hM : mOK M' n) (hd : decode M.2.1 pc = .ok (.invokevirtual idx, 3)) (hlk : Cond.methodLink M.1.cls idx M'.1 ∈ lw_tbl) (hst : Cond.instanceMethod M'.1 ∈ lw_tbl) (hse : Cond.selects M'.1.cls M'.1 M'.1 ∈ lw_tbl) (hcl0 : vwCl[ci]? = some rc) (hcl1 : rc.1 = M'.1.cls) (ha : a < hN h) (hs : hS h a = .inl ci) (hn : As.length = n) (hlen : (lg_sl (.ref a :: As)).length ≤ M'.2.2.1) (hc : (st.map fun v => v.category).sum ≤ 8) (hdd : d' < d) (hq : pc + 3 = q)
    (hV : V Γ d' M' 0 (lv_args 0 (.ref a :: As)) [] h (some v, h1)) (hstk : stk = As.reverse ++ .ref a :: st) (k : V Γ d M q L (v :: st) h1 t) : V Γ d M pc L stk h t := v_callV hM hd hlk hst hse hcl0 hcl1 ha hs hn hlen hc hdd hq hV hstk k
theorem u_callV0 {stk : List Value} {M' : MI} {d' n idx ci a : Nat} {rc : vw_C} {As : List Value} {h1 : Hp} (hM : mOK M' n) (hd : decode M.2.1 pc = .ok (.invokevirtual idx, 3)) (hlk : Cond.methodLink M.1.cls idx M'.1 ∈ lw_tbl) (hst : Cond.instanceMethod M'.1 ∈ lw_tbl) (hse : Cond.selects M'.1.cls M'.1 M'.1 ∈ lw_tbl) (hcl0 : vwCl[ci]? = some rc) (hcl1 : rc.1 = M'.1.cls) (ha : a < hN h) (hs : hS h a = .inl ci) (hn : As.length = n) (hlen : (lg_sl (.ref a :: As)).length ≤ M'.2.2.1) (hc : (st.map fun v => v.category).sum ≤ 8) (hdd : d' < d) (hq : pc + 3 = q)
    (hV : V Γ d' M' 0 (lv_args 0 (.ref a :: As)) [] h (none, h1)) (hstk : stk = As.reverse ++ .ref a :: st) (k : V Γ d M q L st h1 t) : V Γ d M pc L stk h t := v_callV hM hd hlk hst hse hcl0 hcl1 ha hs hn hlen hc hdd hq hV hstk k
theorem v_mmax {idx : Nat} {x y : Int32} (hd : decode M.2.1 pc = .ok (.invokestatic idx, 3)) (hlk : Cond.methodLink M.1.cls idx Lib.Math.max.name ∈ lw_tbl) (hw1 : Cond.static Lib.Math.max.name ∈ lw_tbl) (hw2 : Cond.initialized "java/lang/Math" ∈ lw_tbl) (hw3 : Cond.code Lib.Math.max.name Lib.Math.max.code 2 (some .int) ∈ lw_tbl) (hc : (st.map fun v => v.category).sum ≤ 8) (hdd : 0 < d) (hq : pc + 3 = q) (kk : V Γ d M q L (.int (if x < y then y else x) :: st) h t) : V Γ d M pc L (.int y :: .int x :: st) h t := by
  subst hq
  refine ⟨kk.1, fun p e s m args below meth c H locs ls n0 t0 C h1 h2 hRl hSl hl => ?_⟩
  have hE := C.2.2.2.2.2.2.2.1
  have k1 := kk.1.1
  have k2 := kk.1.2
  have hr : ((st.map (cV Γ)).map fun v => v.category).sum ≤ 8 := by
    have := st_room (Γ := Γ) (st := st) (pc := pc) (m := m) (ls := ls) (sk := []) hc
    omega
  exact va_mmax C.1 C.2.1 (C.2.2.1.trans hl.1.symm) C.2.2.2.1 (hE.w hlk rfl args) (hE.w hw1 rfl args) (hE.w hw2 rfl args) (hE.w hw3 rfl args) (by show 1 ≤ d; omega) (by show _ ≤ 64 * d; omega) (by show hN h - n0 ≤ hN t.2 - n0; omega) (by show hZ h - t0 ≤ hZ t.2 - t0; omega) hd (kk.2 p e s m args below meth c H locs ls n0 t0 C h1 h2 hRl hSl hl)
theorem v_mmin {idx : Nat} {x y : Int32} (hd : decode M.2.1 pc = .ok (.invokestatic idx, 3)) (hlk : Cond.methodLink M.1.cls idx Lib.Math.min.name ∈ lw_tbl) (hw1 : Cond.static Lib.Math.min.name ∈ lw_tbl) (hw2 : Cond.initialized "java/lang/Math" ∈ lw_tbl) (hw3 : Cond.code Lib.Math.min.name Lib.Math.min.code 2 (some .int) ∈ lw_tbl) (hc : (st.map fun v => v.category).sum ≤ 8) (hdd : 0 < d) (hq : pc + 3 = q) (kk : V Γ d M q L (.int (if y < x then y else x) :: st) h t) : V Γ d M pc L (.int y :: .int x :: st) h t := by
  subst hq
  refine ⟨kk.1, fun p e s m args below meth c H locs ls n0 t0 C h1 h2 hRl hSl hl => ?_⟩
  have hE := C.2.2.2.2.2.2.2.1
  have k1 := kk.1.1
  have k2 := kk.1.2
  have hr : ((st.map (cV Γ)).map fun v => v.category).sum ≤ 8 := by
    have := st_room (Γ := Γ) (st := st) (pc := pc) (m := m) (ls := ls) (sk := []) hc
    omega
  exact va_mmin C.1 C.2.1 (C.2.2.1.trans hl.1.symm) C.2.2.2.1 (hE.w hlk rfl args) (hE.w hw1 rfl args) (hE.w hw2 rfl args) (hE.w hw3 rfl args) (by show 1 ≤ d; omega) (by show _ ≤ 64 * d; omega) (by show hN h - n0 ≤ hN t.2 - n0; omega) (by show hZ h - t0 ≤ hZ t.2 - t0; omega) hd (kk.2 p e s m args below meth c H locs ls n0 t0 C h1 h2 hRl hSl hl)
theorem u_callI {stk : List Value} {M' : MI} {d' n idx a : Nat} {As : List Value} {h1 : Hp} (hM : mOK M' n) (hd : decode M.2.1 pc = .ok (.invokespecial idx, 3)) (hnm : M'.1.name = "<init>") (hnr : M'.2.2.2 = none) (hlk : Cond.methodLink M.1.cls idx M'.1 ∈ lw_tbl) (hst : Cond.instanceMethod M'.1 ∈ lw_tbl) (hn : As.length = n) (hlen : (lg_sl (.ref a :: As)).length ≤ M'.2.2.1) (hc : (st.map fun v => v.category).sum ≤ 8) (hdd : d' < d) (hq : pc + 3 = q)
    (hV : V Γ d' M' 0 (lv_args 0 (.ref a :: As)) [] h (none, h1)) (hstk : stk = As.reverse ++ .ref a :: st) (k : V Γ d M q L st h1 t) : V Γ d M pc L stk h t := v_callI hM hd hnm hnr hlk hst hn hlen hc hdd hq hV hstk k
end VW

/-! the reader's text constant -/
section VX
variable {Γ : Gm} {d : Nat} {M : MI} {pc q : Nat} {L : List (Nat × Value)} {st : List Value} {h : Hp} {t : Option Value × Hp}
theorem v_i2c {x : Int32} (hd : decode M.2.1 pc = .ok (.i2c, 1)) (hq : pc + 1 = q) (k : V Γ d M q L (.int (x.toUInt32 % 65536).toInt32 :: st) h t) : V Γ d M pc L (.int x :: st) h t := by
  subst hq; exact V.pure k (fun p e R s m args below meth c H locs cells slots Q ls hx hb _ kk => lv_i2c hx hb hd rfl kk)
theorem v_creturn {x : Int32} (hr : M.2.2.2 = some .char) (hx : narrow .char (.int x) = .int x) (hd : decode M.2.1 pc = .ok (.ireturn, 1)) : V Γ d M pc L [.int x] h (some (.int x), h) :=
  ⟨⟨Nat.le_refl _, Nat.le_refl _⟩, fun p e s m args below meth c H locs ls n0 t0 C h1 h2 hRl hSl hl => W.zret C.1 C.2.1 (C.2.2.2.2.1.trans hr) hx (fun t ht hW => ⟨rfl, by rw [ht]; exact hRl, hSl.F ht⟩) hSl.2.2 hd C.2.2.2.2.2.1⟩
theorem v_breturn {x : Int32} (hr : M.2.2.2 = some .byte) (hx : narrow .byte (.int x) = .int x) (hd : decode M.2.1 pc = .ok (.ireturn, 1)) : V Γ d M pc L [.int x] h (some (.int x), h) :=
  ⟨⟨Nat.le_refl _, Nat.le_refl _⟩, fun p e s m args below meth c H locs ls n0 t0 C h1 h2 hRl hSl hl => W.zret C.1 C.2.1 (C.2.2.2.2.1.trans hr) hx (fun t ht hW => ⟨rfl, by rw [ht]; exact hRl, hSl.F ht⟩) hSl.2.2 hd C.2.2.2.2.2.1⟩
theorem v_ldcS (hM : M.1.cls = "LockWatch$Reader") (hd : decode M.2.1 pc = .ok (.ldc 134, 2)) (hq : pc + 2 = q) (k : V Γ d M q L (.retAddr 0 :: st) h t) : V Γ d M pc L st h t := by
  subst hq
  refine V.ctx k (fun p e R s m args below meth c H locs cells slots Q ls n0 C hRl hSl _ kk => ?_)
  obtain ⟨a0, a1, g0, g1, h1, h2, h3, h4, h5, h6, h7⟩ := C.2.2.2.2.2.2.2.1.2.2.2.2.2.2.2.1
  have kk' : W p Γ.1 e R s m args below meth c H locs cells slots Q (F0 m (pc + 2) ls (va_rf (Γ.2.2.2.2.1 0) :: st.map (cV Γ))) := kk
  rw [g0] at kk'
  exact va_ldcS C.1 C.2.1 (by rw [← hM]; exact C.2.2.2.1) h1 hd kk'
theorem v_getC {idx : Nat} (hd : decode M.2.1 pc = .ok (.getfield idx, 3)) (hw : Cond.fieldLink M.1.cls idx "java/lang/String" "coder" "B" ∈ lw_tbl) (hq : pc + 3 = q) (k : V Γ d M q L (.int 0 :: st) h t) : V Γ d M pc L (.retAddr 0 :: st) h t := by
  subst hq
  refine V.ctx k (fun p e R s m args below meth c H locs cells slots Q ls n0 C hRl hSl _ kk => ?_)
  have hE := C.2.2.2.2.2.2.2.1
  obtain ⟨a0, a1, g0, g1, h1, h2, h3, h4, h5, h6, h7⟩ := hE.2.2.2.2.2.2.2.1
  show W p Γ.1 e R s m args below meth c H locs cells slots Q (F0 m pc ls (va_rf (Γ.2.2.2.2.1 0) :: st.map (cV Γ)))
  rw [g0]
  exact vk_getf C.1 C.2.1 h3 hSl C.2.2.2.1 (hE.w hw rfl args) (fun _ z => z) hd kk
theorem v_getV {idx : Nat} (hd : decode M.2.1 pc = .ok (.getfield idx, 3)) (hw : Cond.fieldLink M.1.cls idx "java/lang/String" "value" "[B" ∈ lw_tbl) (hq : pc + 3 = q) (k : V Γ d M q L (.retAddr 1 :: st) h t) : V Γ d M pc L (.retAddr 0 :: st) h t := by
  subst hq
  refine V.ctx k (fun p e R s m args below meth c H locs cells slots Q ls n0 C hRl hSl _ kk => ?_)
  have hE := C.2.2.2.2.2.2.2.1
  obtain ⟨a0, a1, g0, g1, h1, h2, h3, h4, h5, h6, h7⟩ := hE.2.2.2.2.2.2.2.1
  have kk' : W p Γ.1 e R s m args below meth c H locs cells slots Q (F0 m (pc + 3) ls (va_rf (Γ.2.2.2.2.1 1) :: st.map (cV Γ))) := kk
  rw [g1] at kk'
  show W p Γ.1 e R s m args below meth c H locs cells slots Q (F0 m pc ls (va_rf (Γ.2.2.2.2.1 0) :: st.map (cV Γ)))
  rw [g0]
  exact vk_getf C.1 C.2.1 h4 hSl C.2.2.2.1 (hE.w hw rfl args) (fun _ z => z) hd kk'
theorem v_getsC {idx : Nat} (hd : decode M.2.1 pc = .ok (.getstatic idx, 3)) (hw : Cond.fieldLink M.1.cls idx "java/lang/String" "COMPACT_STRINGS" "Z" ∈ lw_tbl) (hq : pc + 3 = q) (k : V Γ d M q L (.int 1 :: st) h t) : V Γ d M pc L st h t := by
  subst hq
  refine V.ctx k (fun p e R s m args below meth c H locs cells slots Q ls n0 C hRl hSl _ kk => ?_)
  have hE := C.2.2.2.2.2.2.2.1
  obtain ⟨a0, a1, g0, g1, h1, h2, h3, h4, h5, h6, h7⟩ := hE.2.2.2.2.2.2.2.1
  exact va_gets C.1 C.2.1 h6 hSl C.2.2.2.1 (hE.w hw rfl args) (fun _ z => z) hd kk
theorem v_getsF {idx : Nat} (hd : decode M.2.1 pc = .ok (.getstatic idx, 3)) (hw : Cond.fieldLink M.1.cls idx "jdk/internal/util/Preconditions" "SIOOBE_FORMATTER" "Ljava/util/function/BiFunction;" ∈ lw_tbl) (hq : pc + 3 = q) (k : V Γ d M q L (.retAddr 2 :: st) h t) : V Γ d M pc L st h t := by
  subst hq
  refine V.ctx k (fun p e R s m args below meth c H locs cells slots Q ls n0 C hRl hSl _ kk => ?_)
  have hE := C.2.2.2.2.2.2.2.1
  obtain ⟨a0, a1, g0, g1, h1, h2, h3, h4, h5, h6, h7⟩ := hE.2.2.2.2.2.2.2.1
  exact va_gets C.1 C.2.1 h7 hSl C.2.2.2.1 (hE.w hw rfl args) (fun _ z => z) hd kk
theorem v_alenX (hd : decode M.2.1 pc = .ok (.arraylength, 1)) (hq : pc + 1 = q) (k : V Γ d M q L (.int 71 :: st) h t) : V Γ d M pc L (.retAddr 1 :: st) h t := by
  subst hq
  refine V.ctx k (fun p e R s m args below meth c H locs cells slots Q ls n0 C hRl hSl _ kk => ?_)
  have hE := C.2.2.2.2.2.2.2.1
  obtain ⟨a0, a1, g0, g1, h1, h2, h3, h4, h5, h6, h7⟩ := hE.2.2.2.2.2.2.2.1
  obtain ⟨cell, c1, c2, c3, c4, c5, c6, c7⟩ := h5.kept hSl.2.1
  show W p Γ.1 e R s m args below meth c H locs cells slots Q (F0 m pc ls (va_rf (Γ.2.2.2.2.1 1) :: st.map (cV Γ)))
  rw [g1]
  exact W.alen (n := 71) C.1 C.2.1 c1 c2 (by rw [c5]; rfl) rfl rfl hd kk
theorem v_baldX {i : Int32} (hd : decode M.2.1 pc = .ok (.baload, 1)) (hin : vp_in i 71) (hq : pc + 1 = q) (k : V Γ d M q L (.int (wBy.getD i.toNatClampNeg 0) :: st) h t) : V Γ d M pc L (.int i :: .retAddr 1 :: st) h t := by
  subst hq
  refine V.ctx k (fun p e R s m args below meth c H locs cells slots Q ls n0 C hRl hSl _ kk => ?_)
  have hE := C.2.2.2.2.2.2.2.1
  obtain ⟨a0, a1, g0, g1, h1, h2, h3, h4, h5, h6, h7⟩ := hE.2.2.2.2.2.2.2.1
  obtain ⟨cell, c1, c2, c3, c4, c5, c6, c7⟩ := h5.kept hSl.2.1
  show W p Γ.1 e R s m args below meth c H locs cells slots Q (F0 m pc ls (.int i :: va_rf (Γ.2.2.2.2.1 1) :: st.map (cV Γ)))
  rw [g1]
  exact W.bald C.1 C.2.1 c1 c2 c3 (fun z => hin (z.imp id (fun z => Nat.le_trans c4 z))) (c6 _ (jin hin)) rfl rfl hd kk
/-- a call on the text constant -/
theorem v_callX {stk : List Value} {M' : MI} {d' n idx : Nat} {As : List Value} {v : Value} {h1 : Hp} (hM : mOK M' n) (hMc : M'.1.cls = "java/lang/String") (hd : decode M.2.1 pc = .ok (.invokevirtual idx, 3)) (hlk : Cond.methodLink M.1.cls idx M'.1 ∈ lw_tbl) (hst : Cond.instanceMethod M'.1 ∈ lw_tbl) (hse : Cond.selects M'.1.cls M'.1 M'.1 ∈ lw_tbl) (hn : As.length = n) (hlen : (lg_sl (.retAddr 0 :: As)).length ≤ M'.2.2.1) (hc : (st.map fun v => v.category).sum ≤ 8) (hdd : d' < d) (hq : pc + 3 = q)
    (hV : V Γ d' M' 0 (lv_args 0 (.retAddr 0 :: As)) [] h (some v, h1)) (hstk : stk = As.reverse ++ .retAddr 0 :: st) (k : V Γ d M q L (v :: st) h1 t) : V Γ d M pc L stk h t := by
  subst hstk
  refine V.call (r := some v) (a0 := ((Value.retAddr 0 :: As).map (cV Γ)).toArray) hV.1 hq k (fun p e R s m args below meth c H locs cells slots ls n0 mc ms C h0 hRl hSl hl hf hlo emc ems hcl hsl => ?_)
  subst emc; subst ems
  have hE := C.2.2.2.2.2.2.2.1
  obtain ⟨a0, a1, g0, g1, k1, k2, k3, k4, k5, k6, k7⟩ := hE.2.2.2.2.2.2.2.1
  have hm0 := met_of (d := d') hM.1 hlen hV
  have ec : (Value.retAddr 0 :: As).map (cV Γ) = .ref a0 :: As.map (cV Γ) := by
    show va_rf (Γ.2.2.2.2.1 0) :: As.map (cV Γ) = _
    rw [g0]; rfl
  rw [ec]
  obtain ⟨cell, c1, c2, c3, -⟩ := k2.kept hSl.2.1
  refine va_runV (Ts := []) (cc := M.2.1) (nL := M.2.2.1) (own := M.1.cls) (C := M'.1.cls) (y := M'.1) (bytes := M'.2.1) (maxL := M'.2.2.1) (ret := M'.2.2.2) (n := n) (rm := rmD d' (hN h1 - hN h) (hZ h1 - hZ h)) (ws := w1 M') (As := As.map (cV Γ)) ⟨C.1, C.2.1, C.2.2.1, C.2.2.2.1, fun w hw => by cases hw⟩ hm0
    ⟨⟨rfl, rfl, by rw [hf]; exact hdd, by rw [hlo]; have := hM.2.2.2.1; show 8 + (M'.2.2.1 + 11) + 64 * d' ≤ 64 * d; omega, fun w hw a' U hW => ?_, List.mem_cons_self, hE.w hM.2.2.2.2.1 rfl args, hE.w hM.2.2.2.2.2 rfl args, hM.2.1, fun sig hsg => ?_, hE.w hlk rfl args⟩, hE.w hst rfl args, hE.w hse rfl args⟩
    ⟨Pv.blind, ⟨cell, c1, c2, by rw [hMc]; exact c3⟩, by rw [← ec]; exact Pv.pre (As := .retAddr 0 :: As) hE C.2.2.2.2.2.2.2.2 hRl hSl⟩ rfl (by rw [List.length_map]; exact hn) hl.1 (by show (As.reverse ++ .retAddr 0 :: st).map (cV Γ) = _; rw [List.map_append, List.map_reverse]; show _ ++ va_rf (Γ.2.2.2.2.1 0) :: _ = _; rw [g0]; rfl) (st_room hc) hd ⟨hcl, hsl⟩
  · have hw' : w = Cond.code M'.1 M'.2.1 M'.2.2.1 M'.2.2.2 := List.mem_singleton.mp hw
    rw [hw']
    exact word_at hW (good_of_word rfl) (hE.w hM.2.2.2.2.1 rfl args)
  · have h2 := hM.2.2.1
    rw [hsg] at h2
    exact (Option.some.inj h2).symm
/-- the script: a place, its length -/
theorem v_sld {i : Int32} (hd : decode M.2.1 pc = .ok (.iaload, 1)) (hin : vp_in i Γ.2.2.2.2.2.2.1) (hq : pc + 1 = q) (k : V Γ d M q L (.int (Γ.2.2.2.2.2.2.2 i.toNatClampNeg) :: st) h t) : V Γ d M pc L (.int i :: .retAddr 3 :: st) h t := by
  subst hq
  refine V.ctx k (fun p e R s m args below meth c H locs cells slots Q ls n0 C hRl hSl _ kk => ?_)
  obtain ⟨b, g0, g1, scr, h1, h2, h3, h4, h5⟩ := C.2.2.2.2.2.2.2.1.2.2.2.2.2.2.2.2
  show W p Γ.1 e R s m args below meth c H locs cells slots Q (F0 m pc ls (.int i :: va_rf (Γ.2.2.2.2.1 3) :: st.map (cV Γ)))
  rw [g0]
  exact W.iald C.1 C.2.1 (by rw [S_low C.2.2.2.2.2.2.2.2 hSl b g1]; exact h1) h2 h3 (by rw [h4]; exact hin) (h5 _ (jin hin)) rfl rfl hd kk
theorem v_slen (hd : decode M.2.1 pc = .ok (.arraylength, 1)) (hq : pc + 1 = q) (k : V Γ d M q L (.int (Int32.ofNat Γ.2.2.2.2.2.2.1) :: st) h t) : V Γ d M pc L (.retAddr 3 :: st) h t := by
  subst hq
  refine V.ctx k (fun p e R s m args below meth c H locs cells slots Q ls n0 C hRl hSl _ kk => ?_)
  obtain ⟨b, g0, g1, scr, h1, h2, h3, h4, h5⟩ := C.2.2.2.2.2.2.2.1.2.2.2.2.2.2.2.2
  show W p Γ.1 e R s m args below meth c H locs cells slots Q (F0 m pc ls (va_rf (Γ.2.2.2.2.1 3) :: st.map (cV Γ)))
  rw [g0]
  exact W.alen (n := Int32.ofNat Γ.2.2.2.2.2.2.1) C.1 C.2.1 (by rw [S_low C.2.2.2.2.2.2.2.2 hSl b g1]; exact h1) h2 (by rw [h4] <;> rfl) rfl rfl hd kk
end VX
def bc (x : Int32) : Option Int32 := if narrow .char (.int x) = .int x then some x else none
theorem bc_sp {x y : Int32} (e : bc x = some y) : y = x ∧ narrow .char (.int y) = .int y := by
  unfold bc at e; split at e
  · cases e; exact ⟨rfl, by assumption⟩
  · cases e
def bb (x : Int32) : Option Int32 := if narrow .byte (.int x) = .int x then some x else none
theorem bb_sp {x y : Int32} (e : bb x = some y) : y = x ∧ narrow .byte (.int y) = .int y := by
  unfold bb at e; split at e
  · cases e; exact ⟨rfl, by assumption⟩
  · cases e

theorem lg_len (Γ : Gm) (vs : List Value) : (lg_sl (vs.map (cV Γ))).length = (lg_sl vs).length := by
  induction vs with
  | nil => rfl
  | cons v vs ih =>
    simp only [lg_sl, List.map_cons, List.flatMap_cons, List.length_append, cV_cat] at ih ⊢
    rw [ih]
    by_cases hc : v.category = 2 <;> simp [hc]
theorem lv_args_map (Γ : Gm) (vs : List Value) : ∀ i : Nat, lv_args i (vs.map (cV Γ)) = (lv_args i vs).map (cL Γ) := by
  induction vs with
  | nil => intro i; rfl
  | cons v vs ih =>
    intro i
    simp only [List.map_cons, lv_args, cV_cat, ih]
    rfl
def Pv (Γ : Gm) (As : List Value) (h : Hp) : Array Value → State → Prop := va_Pc (As.map (cV Γ)) (fun U => En Γ U ∧ U.heap.size = Γ.2.1 + hN h ∧ Rl Γ h U.heap)
theorem Pv.blind {Γ : Gm} {As : List Value} {h : Hp} : FrameBlind (Pv Γ As h) := fun a U g mk q => ⟨q.1, En.moved (U := U.calling g mk a) (State.WarmedH.refl U) (fun _ _ => rfl) q.2.1, q.2.2.1, q.2.2.2⟩
def w1 (M : MI) : List Cond := [Cond.code M.1 M.2.1 M.2.2.1 M.2.2.2]
theorem met_of {Γ : Gm} {d : Nat} {M : MI} {As : List Value} {h : Hp} {t : Option Value × Hp} (hp : plainName M.1.cls = true) (hl : (lg_sl As).length ≤ M.2.2.1) (hV : V Γ d M 0 (lv_args 0 As) [] h t) : Met Γ.1 M.1 (w1 M) (rmD d (hN t.2 - hN h) (hZ t.2 - hZ h)) (Pv Γ As h) (Qt Γ t) (hN t.2 - hN h) (hZ t.2 - hZ h) (fun q => Γ.2.1 ≤ q) := by
  refine Met.ofW (cc := M.2.1) (maxL := M.2.2.1) (ret := M.2.2.2) hp rfl ?_
  intro p e s m args below meth c s₁ B hml hv
  obtain ⟨rfl, hE, hsz, hR⟩ := hv
  rw [lg_entry_eq]
  have hl' := lv_entry (As.map (cV Γ)) (n := M.2.2.1) (by rw [lg_len]; exact hl)
  rw [lv_args_map] at hl'
  exact W.cs (Nat.sub_self _).symm (Nat.sub_self _).symm (hV.2 p e s m (As.map (cV Γ)).toArray below meth c s.heap [] _ (hN h) (hZ h) ⟨B.exec, B.bytes, hml, findClass_of_methodNamed B.named, B.returns, B.notSynchronized, fun _ => (name_of_methodNamed B.named B.method).1, hE, hsz⟩ (Nat.le_refl _) (Nat.le_refl _) hR va_S.rf hl')
section VC
variable {Γ : Gm} {d : Nat} {M : MI} {pc q : Nat} {L : List (Nat × Value)} {st : List Value} {h : Hp} {t : Option Value × Hp}
theorem V.call {r : Option Value} {h1 : Hp} {a0 : Array Value} {stk : List Value} (hm : hN h ≤ hN h1 ∧ hZ h ≤ hZ h1) (hq : pc + 3 = q) (k : V Γ d M q L (r.toList ++ st) h1 t)
    (run : ∀ (p : Program) (e : Env) (R : Room) (s : State) (m : MethodId) (args : Array Value) (below : List Frame) (meth : Method) (c : Code) (H : Heap) (locs : List Loc) (cells slots : Nat) (ls : Array Slot) (n0 mc ms : Nat), Cx Γ M p s m meth c n0 → n0 ≤ hN h → Rl Γ h H → va_S (fun q => Γ.2.1 ≤ q) s.heap H locs → lv_has ls M.2.2.1 (L.map (cL Γ)) → R.frames = d → R.locals = 64 * d → mc = hN h1 - hN h → ms = hZ h1 - hZ h → cells + mc ≤ R.cells → slots + ms ≤ R.slots →
      va_Run p Γ.1 e R s m args below meth c H locs cells slots mc ms (F0 m pc ls (stk.map (cV Γ))) (st.map (cV Γ)) (Qt Γ (r, h1) a0) (fun q => Γ.2.1 ≤ q)) : V Γ d M pc L stk h t := by
  subst hq
  obtain ⟨⟨km1, km2⟩, kk⟩ := k
  refine ⟨⟨Nat.le_trans hm.1 km1, Nat.le_trans hm.2 km2⟩, fun p e s m args below meth c H locs ls n0 t0 C h1' h2' hRl hSl hl => ?_⟩
  have hm1 := hm.1
  have hm2 := hm.2
  have hr := run p e (rmD d (hN t.2 - n0) (hZ t.2 - t0)) s m args below meth c H locs (hN h - n0) (hZ h - t0) ls n0 _ _ C h1' hRl hSl hl rfl rfl rfl rfl (by show _ ≤ hN t.2 - n0; omega) (by show _ ≤ hZ t.2 - t0; omega)
  intro T hT X
  obtain ⟨v, st₀, u, T', Lc, e0, X', hL, e1, e2, ⟨ev, hRl1, hF1, hF2⟩, step⟩ := hr T hT X
  have ev : v = r.map (cV Γ) := by injection ev
  subst ev
  have hS1 : va_S (fun q => Γ.2.1 ≤ q) s.heap T'.heap (locs ++ Lc) := by
    refine ⟨?_, fun q g1 g2 => ?_, fun q hq => ?_⟩
    · rw [e1]; rw [e0] at hF1; exact Nat.le_trans hSl.1 hF1
    · rw [e1, hF2 q (by rw [e0]; exact Nat.lt_of_lt_of_le g1 hSl.1) g2, e0]; exact hSl.2.1 q g1 g2
    · rcases List.mem_append.mp hq with z | z
      · exact hSl.2.2 q z
      · exact hL q z
  have kw := kk p e s m args below meth c T'.heap (locs ++ Lc) ls n0 t0 C (Nat.le_trans h1' hm1) (Nat.le_trans h2' hm2) (by rw [e1]; exact hRl1) hS1 hl
  have e3 : (r.map (cV Γ)).toList ++ st.map (cV Γ) = (r.toList ++ st).map (cV Γ) := by
    rw [List.map_append]; cases r <;> rfl
  obtain ⟨t2, a1, b1⟩ := W.cs (show hN h - n0 + (hN h1 - hN h) = hN h1 - n0 by omega) (show hZ h - t0 + (hZ h1 - hZ h) = hZ h1 - t0 by omega) kw T' rfl X'
  refine ⟨t2, step t2 ?_, b1⟩
  have e4 : ({ F0 m pc ls (stk.map (cV Γ)) with pc := (F0 m pc ls (stk.map (cV Γ))).pc + 3, stack := (r.map (cV Γ)).toList ++ st.map (cV Γ) } : JFrame) = F0 m (pc + 3) ls ((r.toList ++ st).map (cV Γ)) := by rw [e3]
  rw [e4]
  exact a1
/-- what a callee must be -/
def mOK (M' : MI) (n : Nat) : Prop := plainName M'.1.cls = true ∧ (M'.1.cls ≠ "java/lang/invoke/MethodHandle" ∧ M'.1.cls ≠ "java/lang/invoke/VarHandle") ∧ (parseMethodDescriptor M'.1.desc).map (fun d => d.parameters.length) = some n ∧ M'.2.2.1 ≤ 45 ∧ Cond.code M'.1 M'.2.1 M'.2.2.1 M'.2.2.2 ∈ lw_tbl ∧ Cond.initialized M'.1.cls ∈ lw_tbl
theorem S_low {Γ : Gm} {s : State} {H : Heap} {locs : List Loc} {n0 : Nat} (hz : s.heap.size = Γ.2.1 + n0) (hSl : va_S (fun q => Γ.2.1 ≤ q) s.heap H locs) : ∀ q, q < Γ.2.1 → H[q]? = s.heap[q]? := fun q hq => hSl.2.1 q (by omega) (by omega)
theorem Pv.pre {s : State} {As : List Value} {H : Heap} {locs : List Loc} {n0 : Nat} (hE : En Γ s) (hz : s.heap.size = Γ.2.1 + n0) (hRl : Rl Γ h H) (hSl : va_S (fun q => Γ.2.1 ≤ q) s.heap H locs) : ∀ U : State, U.heap = H → s.WarmedH U.vm → Pv Γ As h (As.map (cV Γ)).toArray U := fun U hU hW =>
  ⟨rfl, En.moved hW (fun q hq => by rw [hU]; exact S_low hz hSl q hq) hE, by rw [hU]; exact hRl.1, by rw [hU]; exact hRl⟩
theorem st_room {m : MethodId} {ls : Array Slot} {sk : List Value} (hc : (st.map fun v => v.category).sum ≤ 8) : 2 * (F0 m pc ls sk).monitorRoom + ((st.map (cV Γ)).map fun v => v.category).sum ≤ 8 := by
  rw [List.map_map]
  have : ((fun v => v.category) ∘ cV Γ) = (fun v : Value => v.category) := funext fun v => cV_cat Γ v
  rw [this]
  exact lv_room hc
theorem v_callS {M' : MI} {d' n idx : Nat} {As : List Value} {r : Option Value} {h1 : Hp} (hM : mOK M' n) (hd : decode M.2.1 pc = .ok (.invokestatic idx, 3)) (hlk : Cond.methodLink M.1.cls idx M'.1 ∈ lw_tbl) (hst : Cond.static M'.1 ∈ lw_tbl) (hn : As.length = n) (hlen : (lg_sl As).length ≤ M'.2.2.1) (hc : (st.map fun v => v.category).sum ≤ 8) (hdd : d' < d) (hq : pc + 3 = q)
    (hV : V Γ d' M' 0 (lv_args 0 As) [] h (r, h1)) {stk : List Value} (hstk : stk = As.reverse ++ st) (k : V Γ d M q L (r.toList ++ st) h1 t) : V Γ d M pc L stk h t := by
  subst hstk
  refine V.call (a0 := (As.map (cV Γ)).toArray) hV.1 hq k (fun p e R s m args below meth c H locs cells slots ls n0 mc ms C h0 hRl hSl hl hf hlo emc ems hcl hsl => ?_)
  subst emc; subst ems
  have hE := C.2.2.2.2.2.2.2.1
  have hm0 := met_of (d := d') hM.1 hlen hV
  refine va_runS (Ts := []) (cc := M.2.1) (nL := M.2.2.1) (own := M.1.cls) (y := M'.1) (bytes := M'.2.1) (maxL := M'.2.2.1) (ret := M'.2.2.2) (n := n) (rm := rmD d' (hN h1 - hN h) (hZ h1 - hZ h)) (ws := w1 M') (As := As.map (cV Γ)) ⟨C.1, C.2.1, C.2.2.1, C.2.2.2.1, fun w hw => by cases hw⟩ hm0
    ⟨⟨rfl, rfl, by rw [hf]; exact hdd, by rw [hlo]; have := hM.2.2.2.1; show 8 + (M'.2.2.1 + 11) + 64 * d' ≤ 64 * d; omega, fun w hw a' U hW => ?_, List.mem_cons_self, hE.w hM.2.2.2.2.1 rfl args, hE.w hM.2.2.2.2.2 rfl args, hM.2.1, fun sig hsg => ?_, hE.w hlk rfl args⟩, hE.w hst rfl args⟩
    ⟨Pv.blind, Pv.pre hE C.2.2.2.2.2.2.2.2 hRl hSl⟩ rfl (by rw [List.length_map]; exact hn) hl.1 (by show (As.reverse ++ st).map (cV Γ) = _; rw [List.map_append, List.map_reverse]) (st_room hc) hd ⟨hcl, hsl⟩
  · have hw' : w = Cond.code M'.1 M'.2.1 M'.2.2.1 M'.2.2.2 := List.mem_singleton.mp hw
    rw [hw']
    exact word_at hW (good_of_word rfl) (hE.w hM.2.2.2.2.1 rfl args)
  · have h2 := hM.2.2.1
    rw [hsg] at h2
    exact (Option.some.inj h2).symm
theorem v_callSN {M' : MI} {d' n idx : Nat} {host : String} {As : List Value} {r : Option Value} {h1 : Hp} (hM : mOK M' n) (hd : decode M.2.1 pc = .ok (.invokestatic idx, 3)) (hlk : Cond.methodLinkNest M.1.cls idx M'.1 host ∈ lw_tbl) (hst : Cond.static M'.1 ∈ lw_tbl) (hn : As.length = n) (hlen : (lg_sl As).length ≤ M'.2.2.1) (hc : (st.map fun v => v.category).sum ≤ 8) (hdd : d' < d) (hq : pc + 3 = q)
    (hV : V Γ d' M' 0 (lv_args 0 As) [] h (r, h1)) {stk : List Value} (hstk : stk = As.reverse ++ st) (k : V Γ d M q L (r.toList ++ st) h1 t) : V Γ d M pc L stk h t := by
  subst hstk
  refine V.call (a0 := (As.map (cV Γ)).toArray) hV.1 hq k (fun p e R s m args below meth c H locs cells slots ls n0 mc ms C h0 hRl hSl hl hf hlo emc ems hcl hsl => ?_)
  subst emc; subst ems
  have hE := C.2.2.2.2.2.2.2.1
  have hm0 := met_of (d := d') hM.1 hlen hV
  refine va_runSN (Ts := []) (cc := M.2.1) (nL := M.2.2.1) (own := M.1.cls) (host := host) (y := M'.1) (bytes := M'.2.1) (maxL := M'.2.2.1) (ret := M'.2.2.2) (n := n) (rm := rmD d' (hN h1 - hN h) (hZ h1 - hZ h)) (ws := w1 M') (As := As.map (cV Γ)) ⟨C.1, C.2.1, C.2.2.1, C.2.2.2.1, fun w hw => by cases hw⟩ hm0
    ⟨⟨⟨rfl, rfl, by rw [hf]; exact hdd, by rw [hlo]; have := hM.2.2.2.1; show 8 + (M'.2.2.1 + 11) + 64 * d' ≤ 64 * d; omega, fun w hw a' U hW => ?_, List.mem_cons_self⟩, hE.w hM.2.2.2.2.1 rfl args, hE.w hM.2.2.2.2.2 rfl args, hM.2.1, fun sig hsg => ?_, va_Nw.use rfl (hE.2.1 _ _ _ _ hlk)⟩, hE.w hst rfl args, trivial⟩
    ⟨Pv.blind, Pv.pre hE C.2.2.2.2.2.2.2.2 hRl hSl⟩ rfl (by rw [List.length_map]; exact hn) hl.1 (by show (As.reverse ++ st).map (cV Γ) = _; rw [List.map_append, List.map_reverse]) (st_room hc) hd ⟨hcl, hsl⟩
  · have hw' : w = Cond.code M'.1 M'.2.1 M'.2.2.1 M'.2.2.2 := List.mem_singleton.mp hw
    rw [hw']
    exact word_at hW (good_of_word rfl) (hE.w hM.2.2.2.2.1 rfl args)
  · have h2 := hM.2.2.1
    rw [hsg] at h2
    exact (Option.some.inj h2).symm
/-- the receiver: a cell of a class of ours -/
theorem Rl.recv {s : State} {H : Heap} {a ci : Nat} {r : vw_C} (hE : En Γ s) (hRl : Rl Γ h H) (ha : a < hN h) (hs : hS h a = .inl ci) (hc : vwCl[ci]? = some r) : ∃ cell : Cell, H[Γ.2.1 + a]? = some cell ∧ cell.vm.isStatics = false ∧ s.vm.findClass r.1 = some cell.cls := by
  obtain ⟨r', h1, cell, g1, g2, g3, -⟩ := hRl.obj ha hs
  cases hc.symm.trans h1
  exact ⟨cell, g1, by rw [g3]; rfl, by rw [g2]; exact (hE.2.2.1 ci _ hc).2.1⟩
theorem v_callV {M' : MI} {d' n idx ci a : Nat} {rc : vw_C} {As : List Value} {r : Option Value} {h1 : Hp} (hM : mOK M' n) (hd : decode M.2.1 pc = .ok (.invokevirtual idx, 3)) (hlk : Cond.methodLink M.1.cls idx M'.1 ∈ lw_tbl) (hst : Cond.instanceMethod M'.1 ∈ lw_tbl) (hse : Cond.selects M'.1.cls M'.1 M'.1 ∈ lw_tbl) (hcl0 : vwCl[ci]? = some rc) (hcl1 : rc.1 = M'.1.cls) (ha : a < hN h) (hs : hS h a = .inl ci) (hn : As.length = n) (hlen : (lg_sl (.ref a :: As)).length ≤ M'.2.2.1) (hc : (st.map fun v => v.category).sum ≤ 8) (hdd : d' < d) (hq : pc + 3 = q)
    (hV : V Γ d' M' 0 (lv_args 0 (.ref a :: As)) [] h (r, h1)) {stk : List Value} (hstk : stk = As.reverse ++ .ref a :: st) (k : V Γ d M q L (r.toList ++ st) h1 t) : V Γ d M pc L stk h t := by
  subst hstk
  refine V.call (a0 := (Value.ref (Γ.2.1 + a) :: As.map (cV Γ)).toArray) hV.1 hq k (fun p e R s m args below meth c H locs cells slots ls n0 mc ms C h0 hRl hSl hl hf hlo emc ems hcl hsl => ?_)
  subst emc; subst ems
  have hE := C.2.2.2.2.2.2.2.1
  have hm0 := met_of (d := d') hM.1 hlen hV
  refine va_runV (Ts := []) (cc := M.2.1) (nL := M.2.2.1) (own := M.1.cls) (C := M'.1.cls) (y := M'.1) (bytes := M'.2.1) (maxL := M'.2.2.1) (ret := M'.2.2.2) (n := n) (rm := rmD d' (hN h1 - hN h) (hZ h1 - hZ h)) (ws := w1 M') (As := As.map (cV Γ)) ⟨C.1, C.2.1, C.2.2.1, C.2.2.2.1, fun w hw => by cases hw⟩ hm0
    ⟨⟨rfl, rfl, by rw [hf]; exact hdd, by rw [hlo]; have := hM.2.2.2.1; show 8 + (M'.2.2.1 + 11) + 64 * d' ≤ 64 * d; omega, fun w hw a' U hW => ?_, List.mem_cons_self, hE.w hM.2.2.2.2.1 rfl args, hE.w hM.2.2.2.2.2 rfl args, hM.2.1, fun sig hsg => ?_, hE.w hlk rfl args⟩, hE.w hst rfl args, hE.w hse rfl args⟩
    ⟨Pv.blind, by rw [← hcl1]; exact Rl.recv hE hRl ha hs hcl0, Pv.pre (As := .ref a :: As) hE C.2.2.2.2.2.2.2.2 hRl hSl⟩ rfl (by rw [List.length_map]; exact hn) hl.1 (by show (As.reverse ++ .ref a :: st).map (cV Γ) = _; rw [List.map_append, List.map_reverse]; rfl) (st_room hc) hd ⟨hcl, hsl⟩
  · have hw' : w = Cond.code M'.1 M'.2.1 M'.2.2.1 M'.2.2.2 := List.mem_singleton.mp hw
    rw [hw']
    exact word_at hW (good_of_word rfl) (hE.w hM.2.2.2.2.1 rfl args)
  · have h2 := hM.2.2.1
    rw [hsg] at h2
    exact (Option.some.inj h2).symm
theorem v_callI {M' : MI} {d' n idx a : Nat} {As : List Value} {h1 : Hp} (hM : mOK M' n) (hd : decode M.2.1 pc = .ok (.invokespecial idx, 3)) (hnm : M'.1.name = "<init>") (hnr : M'.2.2.2 = none) (hlk : Cond.methodLink M.1.cls idx M'.1 ∈ lw_tbl) (hst : Cond.instanceMethod M'.1 ∈ lw_tbl) (hn : As.length = n) (hlen : (lg_sl (.ref a :: As)).length ≤ M'.2.2.1) (hc : (st.map fun v => v.category).sum ≤ 8) (hdd : d' < d) (hq : pc + 3 = q)
    (hV : V Γ d' M' 0 (lv_args 0 (.ref a :: As)) [] h (none, h1)) {stk : List Value} (hstk : stk = As.reverse ++ .ref a :: st) (k : V Γ d M q L st h1 t) : V Γ d M pc L stk h t := by
  subst hstk
  refine V.call (r := none) (a0 := (Value.ref (Γ.2.1 + a) :: As.map (cV Γ)).toArray) hV.1 hq k (fun p e R s m args below meth c H locs cells slots ls n0 mc ms C h0 hRl hSl hl hf hlo emc ems hcl hsl => ?_)
  subst emc; subst ems
  have hE := C.2.2.2.2.2.2.2.1
  have hcw := hM.2.2.2.2.1
  have hm0 := met_of (d := d') hM.1 hlen hV
  refine va_runI (Ts := []) (cc := M.2.1) (nL := M.2.2.1) (own := M.1.cls) (y := M'.1) (bytes := M'.2.1) (maxL := M'.2.2.1) (n := n) (rm := rmD d' (hN h1 - hN h) (hZ h1 - hZ h)) (ws := w1 M') (As := As.map (cV Γ)) ⟨C.1, C.2.1, C.2.2.1, C.2.2.2.1, fun w hw => by cases hw⟩ hm0
    ⟨⟨rfl, rfl, by rw [hf]; exact hdd, by rw [hlo]; have := hM.2.2.2.1; show 8 + (M'.2.2.1 + 11) + 64 * d' ≤ 64 * d; omega, fun w hw a' U hW => ?_, by rw [w1, hnr]; exact List.mem_cons_self, by rw [hnr] at hcw; exact hE.w hcw rfl args, hE.w hM.2.2.2.2.2 rfl args, hM.2.1, fun sig hsg => ?_, hE.w hlk rfl args⟩, hnm, hE.w hst rfl args⟩
    ⟨Pv.blind, Pv.pre (As := .ref a :: As) hE C.2.2.2.2.2.2.2.2 hRl hSl⟩ rfl (by rw [List.length_map]; exact hn) hl.1 (by show (As.reverse ++ .ref a :: st).map (cV Γ) = _; rw [List.map_append, List.map_reverse]; rfl) (st_room hc) hd ⟨hcl, hsl⟩
  · have hw' : w = Cond.code M'.1 M'.2.1 M'.2.2.1 M'.2.2.2 := List.mem_singleton.mp hw
    rw [hw']
    exact word_at hW (good_of_word rfl) (hE.w hM.2.2.2.2.1 rfl args)
  · have h2 := hM.2.2.1
    rw [hsg] at h2
    exact (Option.some.inj h2).symm
end VC

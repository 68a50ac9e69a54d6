/-! The machine's heap as plain functions: shapes, ints, longs, references by cell and place; cells are counted from the law's start. -/
abbrev jSh : Type := Nat ⊕ (FieldType × Nat)
abbrev Hp : Type := (Nat → jSh) × (Nat → Nat → Int32) × (Nat → Nat → Int64) × (Nat → Nat → Option Nat) × Nat × Nat
def hS (h : Hp) (a : Nat) : jSh := h.1 a
def hI (h : Hp) (a k : Nat) : Int32 := h.2.1 a k
def hJ (h : Hp) (a k : Nat) : Int64 := h.2.2.1 a k
def hR (h : Hp) (a k : Nat) : Option Nat := h.2.2.2.1 a k
def hN (h : Hp) : Nat := h.2.2.2.2.1
def hZ (h : Hp) : Nat := h.2.2.2.2.2
def sI (h : Hp) (a k : Nat) (v : Int32) : Hp := (h.1, fun b j => if b = a ∧ j = k then v else h.2.1 b j, h.2.2)
def sJ (h : Hp) (a k : Nat) (v : Int64) : Hp := (h.1, h.2.1, fun b j => if b = a ∧ j = k then v else h.2.2.1 b j, h.2.2.2)
def sR (h : Hp) (a k : Nat) (v : Option Nat) : Hp := (h.1, h.2.1, h.2.2.1, fun b j => if b = a ∧ j = k then v else h.2.2.2.1 b j, h.2.2.2.2)
def szC : Nat → Nat
  | 0 => 9 | 1 => 4 | 2 => 3 | 3 => 8 | 4 => 5 | 5 => 7 | 6 => 13 | 7 => 7 | 8 => 19 | 9 => 10 | 10 => 3 | 11 => 14 | _ => 58
def jsz : jSh → Nat
  | .inl ci => szC ci
  | .inr q => q.2
def nw (h : Hp) (s : jSh) : Hp := (fun b => if b = hN h then s else h.1 b, fun b j => if b = hN h then 0 else h.2.1 b j, fun b j => if b = hN h then 0 else h.2.2.1 b j, fun b j => if b = hN h then none else h.2.2.2.1 b j, hN h + 1, hZ h + jsz s)
def tyC : Nat → Nat → FieldType
  | 0 => tyX0 | 1 => tyX1 | 2 => tyX2 | 3 => tyX3 | 4 => tyX4 | 5 => tyX5 | 6 => tyX6 | 7 => tyX7 | 8 => tyX8 | 9 => tyX9 | 10 => tyX10 | 11 => tyX11 | _ => tyX12
/-- what a place of a type holds -/
def aV (ty : FieldType) (h : Hp) (a k : Nat) : Value := match ty with
  | .long => .long (hJ h a k)
  | .object _ => va_rf (hR h a k)
  | .array _ => va_rf (hR h a k)
  | _ => .int (hI h a k)
/-- the launch, the first cell's address, classes and slots, array classes, cells outside, the heap at the law's start -/
abbrev Gm : Type := Launch × Nat × va_G × (FieldType → ClassId) × (Nat → Option Nat) × Heap × Nat × (Nat → Int32)
def cV (Γ : Gm) : Value → Value
  | .ref a => .ref (Γ.2.1 + a)
  | .retAddr k => va_rf (Γ.2.2.2.2.1 k)
  | v => v
def cL (Γ : Gm) (q : Nat × Value) : Nat × Value := (q.1, cV Γ q.2)
def cellOK (Γ : Gm) (h : Hp) (a : Nat) (H : Heap) : Prop := match hS h a with
  | .inl ci => ∃ r : vw_C, vwCl[ci]? = some r ∧ t_OB (Γ.2.1 + a) (Γ.2.2.1.1 ci) r.2.2 (Γ.2.2.1.2 ci) H (fun k => cV Γ (aV (tyC ci k) h a k))
  | .inr q => H[Γ.2.1 + a]? = some (arrV (Γ.2.2.2.1 q.1) q.2 (fun j => cV Γ (aV q.1 h a j))) ∧ ∀ j, fits q.1 (cV Γ (aV q.1 h a j)) = true
def Rl (Γ : Gm) (h : Hp) (H : Heap) : Prop := H.size = Γ.2.1 + hN h ∧ ∀ a, a < hN h → cellOK Γ h a H
/-! the text constant of the reader, its bytes, two statics: cells outside -/
def wTx : String := "take inner share try drop off on mask open kind lock of task soft hard "
def wBy : List Int32 := [116, 97, 107, 101, 32, 105, 110, 110, 101, 114, 32, 115, 104, 97, 114, 101, 32, 116, 114, 121, 32, 100, 114, 111, 112, 32, 111, 102, 102, 32, 111, 110, 32, 109, 97, 115, 107, 32, 111, 112, 101, 110, 32, 107, 105, 110, 100, 32, 108, 111, 99, 107, 32, 111, 102, 32, 116, 97, 115, 107, 32, 115, 111, 102, 116, 32, 104, 97, 114, 100, 32]
def XS (Γ : Gm) (U : State) : Prop := ∃ a0 a1 : Nat, Γ.2.2.2.2.1 0 = some a0 ∧ Γ.2.2.2.2.1 1 = some a1 ∧ vk_R "LockWatch$Reader" 134 wTx a0 U ∧ va_O "java/lang/String" a0 (fun q => Γ.2.1 ≤ q) U U.heap ∧ va_OF "java/lang/String" "coder" "B" (.int 0) a0 (fun q => Γ.2.1 ≤ q) U U.heap ∧ va_OF "java/lang/String" "value" "[B" (.ref a1) a0 (fun q => Γ.2.1 ≤ q) U U.heap ∧ va_T .byte a1 71 (fun j => .int (wBy.getD j 0)) (fun q => Γ.2.1 ≤ q) U U.heap ∧
  va_Z "java/lang/String" "COMPACT_STRINGS" "Z" (.int 1) (fun q => Γ.2.1 ≤ q) U U.heap ∧ va_Z "jdk/internal/util/Preconditions" "SIOOBE_FORMATTER" "Ljava/util/function/BiFunction;" (va_rf (Γ.2.2.2.2.1 2)) (fun q => Γ.2.1 ≤ q) U U.heap
theorem XS.moved {Γ : Gm} {s U : State} (hW : s.WarmedH U.vm) (hh : ∀ q, q < Γ.2.1 → U.heap[q]? = s.heap[q]?) (h : XS Γ s) : XS Γ U := by
  obtain ⟨a0, a1, g0, g1, h1, h2, h3, h4, h5, h6, h7⟩ := h
  have hk : ∀ a : Nat, a < s.heap.size → ¬ (fun q => Γ.2.1 ≤ q) a → U.heap[a]? = s.heap[a]? := fun a _ ha => hh a (Nat.not_le.mp ha)
  exact ⟨a0, a1, g0, g1, vk_R.warm hW h1, (va_O.moved hW.alike h2).kept hk, (va_OF.moved hW.alike h3).kept hk, (va_OF.moved hW.alike h4).kept hk, (va_T.moved hW.alike h5).kept hk, (va_Z.moved hW.alike h6).kept hk, (va_Z.moved hW.alike h7).kept hk⟩
/-- the law's script -/
def SC (Γ : Gm) (U : State) : Prop := ∃ b : Nat, Γ.2.2.2.2.1 3 = some b ∧ b < Γ.2.1 ∧ va_X b Γ.2.2.2.2.2.2.1 Γ.2.2.2.2.2.2.2 U U.heap
theorem SC.moved {Γ : Gm} {s U : State} (hW : s.WarmedH U.vm) (hh : ∀ q, q < Γ.2.1 → U.heap[q]? = s.heap[q]?) (h : SC Γ s) : SC Γ U := by
  obtain ⟨b, g0, g1, h1⟩ := h
  exact ⟨b, g0, g1, (va_X.moved hW.alike h1).kept (hh b g1)⟩
def jTys : List FieldType := [.int, .long, .byte, .boolean, .object RX3, .array .int]
def En (Γ : Gm) (U : State) : Prop :=
  (∀ w ∈ lw_tbl, goodWord w = true → w.before #[] U = true) ∧ (∀ (o : String) (i : Nat) (y : MethodName) (q : String), Cond.methodLinkNest o i y q ∈ lw_tbl → va_Nw (.methodLinkNest o i y q) U) ∧
  (∀ (ci : Nat) (q : vw_C), vwCl[ci]? = some q → u_Kn U q.1 q.2.1 q.2.2 (Γ.2.2.1.1 ci) (Γ.2.2.1.2 ci)) ∧
  (∀ ty ∈ jTys, ArrOfT U (Γ.2.2.2.1 ty) ty ∧ va_RA U (Γ.2.2.2.1 ty) ty) ∧ (∀ q, q < Γ.2.1 → U.heap[q]? = Γ.2.2.2.2.2.1[q]?) ∧ va_AO RX3 U ∧ (Cond.arrayOver (.array .int)).before #[] U = true ∧ XS Γ U ∧ SC Γ U
theorem En.moved {Γ : Gm} {s U : State} (hW : s.WarmedH U.vm) (hh : ∀ q, q < Γ.2.1 → U.heap[q]? = s.heap[q]?) (h : En Γ s) : En Γ U := by
  obtain ⟨h1, h2, h3, h4, h5, h6, h7, h8, h9⟩ := h
  exact ⟨fun w hw hg => word_at hW (good_of_word hg) (h1 w hw hg), fun o i y q hq => va_Nw.warmM hW (h2 o i y q hq), fun ci q hq => u_Kn_moved hW.alike (h3 ci q hq), fun ty ht => ⟨arrOfT_moved hW.alike (h4 ty ht).1, (h4 ty ht).2.moved hW.alike⟩, fun q hq => (hh q hq).trans (h5 q hq), va_AO.moved hW.alike h6, over_moved hW.alike h7, XS.moved hW hh h8, SC.moved hW hh h9⟩
theorem En.w {Γ : Gm} {s : State} (h : En Γ s) {w : Cond} (hw : w ∈ lw_tbl) (hg : goodWord w = true) (args : Array Value) : w.before args s = true := word_at (State.WarmedH.refl s) (good_of_word hg) (h.1 w hw hg)
/-! Methods, contexts, the judgement -/
abbrev MI : Type := MethodName × ByteArray × Nat × Option FieldType
def rmD (d mc ms : Nat) : Room := { frames := d, cells := mc, slots := ms, locals := 64 * d }
def Qt (Γ : Gm) (t : Option Value × Hp) : Array Value → State → Outcome → State → Prop := fun _ st o u => o = .returned (t.1.map (cV Γ)) ∧ Rl Γ t.2 u.heap ∧ va_F (fun q => Γ.2.1 ≤ q) st u
def Cx (Γ : Gm) (M : MI) (p : Program) (s : State) (m : MethodId) (meth : Method) (c : Code) (n0 : Nat) : Prop :=
  p.tables.exec = Jvm.exec ∧ c.code = M.2.1 ∧ c.maxLocals = M.2.2.1 ∧ s.vm.findClass M.1.cls = some m.cls ∧ meth.sig.returnType = M.2.2.2 ∧ meth.locks = false ∧ (M.1.name = "<init>" → meth.name = M.1.name) ∧ En Γ s ∧ s.heap.size = Γ.2.1 + n0
def Wt (Γ : Gm) (d : Nat) (M : MI) (pc : Nat) (L : List (Nat × Value)) (st : List Value) (h : Hp) (t : Option Value × Hp) : Prop :=
  ∀ (p : Program) (e : Env) (s : State) (m : MethodId) (args : Array Value) (below : List Frame) (meth : Method) (c : Code) (H : Heap) (locs : List Loc) (ls : Array Slot) (n0 t0 : Nat),
    Cx Γ M p s m meth c n0 → n0 ≤ hN h → t0 ≤ hZ h → Rl Γ h H → va_S (fun q => Γ.2.1 ≤ q) s.heap H locs → lv_has ls M.2.2.1 (L.map (cL Γ)) →
    W p Γ.1 e (rmD d (hN t.2 - n0) (hZ t.2 - t0)) s m args below meth c H locs (hN h - n0) (hZ h - t0) (MQ below (Qt Γ t) args s (hN t.2 - n0) (hZ t.2 - t0) (fun q => Γ.2.1 ≤ q)) (F0 m pc ls (st.map (cV Γ)))
def V (Γ : Gm) (d : Nat) (M : MI) (pc : Nat) (L : List (Nat × Value)) (st : List Value) (h : Hp) (t : Option Value × Hp) : Prop := (hN h ≤ hN t.2 ∧ hZ h ≤ hZ t.2) ∧ Wt Γ d M pc L st h t
section VB
variable {Γ : Gm} {d : Nat} {M : MI} {pc q : Nat} {L : List (Nat × Value)} {st : List Value} {h : Hp} {t : Option Value × Hp}
theorem V.pure {st' : List Value} (k : V Γ d M q L st' h t)
    (f : ∀ (p : Program) (e : Env) (R : Room) (s : State) (m : MethodId) (args : Array Value) (below : List Frame) (meth : Method) (c : Code) (H : Heap) (locs : List Loc) (cells slots : Nat) (Q : State → Prop) (ls : Array Slot), p.tables.exec = Jvm.exec → c.code = M.2.1 → lv_has ls M.2.2.1 (L.map (cL Γ)) → W p Γ.1 e R s m args below meth c H locs cells slots Q (F0 m q ls (st'.map (cV Γ))) → W p Γ.1 e R s m args below meth c H locs cells slots Q (F0 m pc ls (st.map (cV Γ)))) : V Γ d M pc L st h t :=
  ⟨k.1, fun p e s m args below meth c H locs ls n0 t0 C h1 h2 hRl hSl hl => f p e _ s m args below meth c H locs _ _ _ ls C.1 C.2.1 hl (k.2 p e s m args below meth c H locs ls n0 t0 C h1 h2 hRl hSl hl)⟩
theorem v_iconst {n : Int} {v : Int32} (hd : decode M.2.1 pc = .ok (.iconst n, 1)) (hv : Int32.ofInt n = v) (hq : pc + 1 = q) (k : V Γ d M q L (.int v :: st) h t) : V Γ d M pc L st h t := by
  subst hq; exact V.pure k (fun p e R s m args below meth c H locs cells slots Q ls hx hb _ kk => lv_iconst hx hb hd hv kk)
theorem v_bipush {n : Int} {v : Int32} (hd : decode M.2.1 pc = .ok (.bipush n, 2)) (hv : (Int8.ofInt n).toInt32 = v) (hq : pc + 2 = q) (k : V Γ d M q L (.int v :: st) h t) : V Γ d M pc L st h t := by
  subst hq; exact V.pure k (fun p e R s m args below meth c H locs cells slots Q ls hx hb _ kk => lv_bipush hx hb hd hv kk)
theorem v_sipush {n : Int} {v : Int32} (hd : decode M.2.1 pc = .ok (.sipush n, 3)) (hv : (Int16.ofInt n).toInt32 = v) (hq : pc + 3 = q) (k : V Γ d M q L (.int v :: st) h t) : V Γ d M pc L st h t := by
  subst hq; exact V.pure k (fun p e R s m args below meth c H locs cells slots Q ls hx hb _ kk => lv_sipush hx hb hd hv kk)
theorem v_lconst {n : Fin 2} {v : Int64} (hd : decode M.2.1 pc = .ok (.lconst n, 1)) (hv : Int64.ofNat (n : Nat) = v) (hq : pc + 1 = q) (k : V Γ d M q L (.long v :: st) h t) : V Γ d M pc L st h t := by
  subst hq; exact V.pure k (fun p e R s m args below meth c H locs cells slots Q ls hx hb _ kk => lv_lconst hx hb hd hv kk)
theorem cL_at {Γ : Gm} {L : List (Nat × Value)} {k i : Nat} {v : Value} (hk : L[k]? = some (i, v)) : (L.map (cL Γ))[k]? = some (i, cV Γ v) := by rw [List.getElem?_map, hk]; rfl
theorem v_iload {i : Nat} {x : Int32} (j : Nat) (hd : decode M.2.1 pc = .ok (.iload i, 2)) (hl : L[j]? = some (i, .int x)) (hq : pc + 2 = q) (k : V Γ d M q L (.int x :: st) h t) : V Γ d M pc L st h t := by
  subst hq; exact V.pure k (fun p e R s m args below meth c H locs cells slots Q ls hx hb hL kk => lv_iload hx hb hd (lv_at hL j (cL_at hl)) kk)
theorem v_iload_n {n : Fin 4} {i : Nat} {x : Int32} (j : Nat) (hd : decode M.2.1 pc = .ok (.iload_n n, 1)) (hi : (n : Nat) = i) (hl : L[j]? = some (i, .int x)) (hq : pc + 1 = q) (k : V Γ d M q L (.int x :: st) h t) : V Γ d M pc L st h t := by
  subst hq; exact V.pure k (fun p e R s m args below meth c H locs cells slots Q ls hx hb hL kk => lv_iload_n hx hb hd hi (lv_at hL j (cL_at hl)) kk)
theorem v_lload {i : Nat} {x : Int64} (j : Nat) (hd : decode M.2.1 pc = .ok (.lload i, 2)) (hl : L[j]? = some (i, .long x)) (hq : pc + 2 = q) (k : V Γ d M q L (.long x :: st) h t) : V Γ d M pc L st h t := by
  subst hq; exact V.pure k (fun p e R s m args below meth c H locs cells slots Q ls hx hb hL kk => lv_lload hx hb hd (lv_at hL j (cL_at hl)) kk)
theorem v_lload_n {n : Fin 4} {i : Nat} {x : Int64} (j : Nat) (hd : decode M.2.1 pc = .ok (.lload_n n, 1)) (hi : (n : Nat) = i) (hl : L[j]? = some (i, .long x)) (hq : pc + 1 = q) (k : V Γ d M q L (.long x :: st) h t) : V Γ d M pc L st h t := by
  subst hq; exact V.pure k (fun p e R s m args below meth c H locs cells slots Q ls hx hb hL kk => lv_lload_n hx hb hd hi (lv_at hL j (cL_at hl)) kk)
theorem v_aload {i : Nat} {x : Nat} (j : Nat) (hd : decode M.2.1 pc = .ok (.aload i, 2)) (hl : L[j]? = some (i, .ref x)) (hq : pc + 2 = q) (k : V Γ d M q L (.ref x :: st) h t) : V Γ d M pc L st h t := by
  subst hq; exact V.pure k (fun p e R s m args below meth c H locs cells slots Q ls hx hb hL kk => lv_aload hx hb hd (lv_at hL j (cL_at hl)) kk)
theorem v_aload_n {n : Fin 4} {i : Nat} {x : Nat} (j : Nat) (hd : decode M.2.1 pc = .ok (.aload_n n, 1)) (hi : (n : Nat) = i) (hl : L[j]? = some (i, .ref x)) (hq : pc + 1 = q) (k : V Γ d M q L (.ref x :: st) h t) : V Γ d M pc L st h t := by
  subst hq; exact V.pure k (fun p e R s m args below meth c H locs cells slots Q ls hx hb hL kk => lv_aload_n hx hb hd hi (lv_at hL j (cL_at hl)) kk)
theorem v_aload_nX {n : Fin 4} {i : Nat} {x : Nat} (j : Nat) (hd : decode M.2.1 pc = .ok (.aload_n n, 1)) (hi : (n : Nat) = i) (hl : L[j]? = some (i, .retAddr x)) (hq : pc + 1 = q) (k : V Γ d M q L (.retAddr x :: st) h t) : V Γ d M pc L st h t := by
  subst hq
  refine V.pure k (fun p e R s m args below meth c H locs cells slots Q ls hx hb hL kk => ?_)
  have h1 : ls[i]? = some (.val (va_rf (Γ.2.2.2.2.1 x))) := lv_at hL j (cL_at hl)
  have kk' : W p Γ.1 e R s m args below meth c H locs cells slots Q (F0 m (pc + 1) ls (va_rf (Γ.2.2.2.2.1 x) :: st.map (cV Γ))) := kk
  cases ha : Γ.2.2.2.2.1 x with
  | none => rw [ha] at h1 kk'; exact lv_aload_nN hx hb hd hi h1 kk'
  | some a => rw [ha] at h1 kk'; exact lv_aload_n hx hb hd hi h1 kk'
/-! stores of the locals -/
def lset (L : List (Nat × Value)) (i : Nat) (v : Value) : List (Nat × Value) := (i, v) :: L.filter (fun q => !(q.1 == i) && !(q.1 + 1 == i && q.2.category == 2))
def lset2 (L : List (Nat × Value)) (i : Nat) (v : Value) : List (Nat × Value) := (i, v) :: L.filter (fun q => !(q.1 == i) && (!(q.1 == i + 1) && !(q.1 + 1 == i && q.2.category == 2)))
theorem cV_cat (Γ : Gm) (v : Value) : (cV Γ v).category = v.category := by
  cases v <;> first | rfl | skip
  rename_i k
  show (va_rf (Γ.2.2.2.2.1 k)).category = 1
  cases Γ.2.2.2.2.1 k <;> rfl
theorem lset_map (Γ : Gm) (L : List (Nat × Value)) (i : Nat) (v : Value) : (i, cV Γ v) :: (L.map (cL Γ)).filter (fun q => !(q.1 == i) && !(q.1 + 1 == i && q.2.category == 2)) = (lset L i v).map (cL Γ) := by
  unfold lset
  rw [List.map_cons, List.filter_map]
  congr 2
  refine List.filter_congr fun x _ => ?_
  simp [Function.comp, cL, cV_cat]
theorem lset2_map (Γ : Gm) (L : List (Nat × Value)) (i : Nat) (v : Value) : (i, cV Γ v) :: (L.map (cL Γ)).filter (fun q => !(q.1 == i) && (!(q.1 == i + 1) && !(q.1 + 1 == i && q.2.category == 2))) = (lset2 L i v).map (cL Γ) := by
  unfold lset2
  rw [List.map_cons, List.filter_map]
  congr 2
  refine List.filter_congr fun x _ => ?_
  simp [Function.comp, cL, cV_cat]
theorem V.store {st' : List Value} {L' : List (Nat × Value)} (k : V Γ d M q L' st' h t)
    (f : ∀ (p : Program) (e : Env) (R : Room) (s : State) (m : MethodId) (args : Array Value) (below : List Frame) (meth : Method) (c : Code) (H : Heap) (locs : List Loc) (cells slots : Nat) (Q : State → Prop) (ls : Array Slot), p.tables.exec = Jvm.exec → c.code = M.2.1 → lv_has ls M.2.2.1 (L.map (cL Γ)) → (∀ ls' : Array Slot, lv_has ls' M.2.2.1 (L'.map (cL Γ)) → W p Γ.1 e R s m args below meth c H locs cells slots Q (F0 m q ls' (st'.map (cV Γ)))) → W p Γ.1 e R s m args below meth c H locs cells slots Q (F0 m pc ls (st.map (cV Γ)))) : V Γ d M pc L st h t :=
  ⟨k.1, fun p e s m args below meth c H locs ls n0 t0 C h1 h2 hRl hSl hl => f p e _ s m args below meth c H locs _ _ _ ls C.1 C.2.1 hl (fun ls' hl' => k.2 p e s m args below meth c H locs ls' n0 t0 C h1 h2 hRl hSl hl')⟩
theorem v_istore {i : Nat} {x : Int32} {L' : List (Nat × Value)} (hd : decode M.2.1 pc = .ok (.istore i, 2)) (hn : i < M.2.2.1) (hl : lset L i (.int x) = L') (hq : pc + 2 = q) (k : V Γ d M q L' st h t) : V Γ d M pc L (.int x :: st) h t := by
  subst hq; subst hl; exact V.store k (fun p e R s m args below meth c H locs cells slots Q ls hx hb hL kk => lv_istore hx hb hd hL hn (lset_map Γ L i (.int x)) kk)
theorem v_istore_n {n : Fin 4} {i : Nat} {x : Int32} {L' : List (Nat × Value)} (hd : decode M.2.1 pc = .ok (.istore_n n, 1)) (hi : (n : Nat) = i) (hn : i < M.2.2.1) (hl : lset L i (.int x) = L') (hq : pc + 1 = q) (k : V Γ d M q L' st h t) : V Γ d M pc L (.int x :: st) h t := by
  subst hq; subst hl; exact V.store k (fun p e R s m args below meth c H locs cells slots Q ls hx hb hL kk => lv_istore_n hx hb hd hi hL hn (lset_map Γ L i (.int x)) kk)
theorem v_lstore {i : Nat} {x : Int64} {L' : List (Nat × Value)} (hd : decode M.2.1 pc = .ok (.lstore i, 2)) (hn : i + 1 < M.2.2.1) (hl : lset2 L i (.long x) = L') (hq : pc + 2 = q) (k : V Γ d M q L' st h t) : V Γ d M pc L (.long x :: st) h t := by
  subst hq; subst hl; exact V.store k (fun p e R s m args below meth c H locs cells slots Q ls hx hb hL kk => lv_lstore hx hb hd hL hn (lset2_map Γ L i (.long x)) kk)
theorem v_lstore_n {n : Fin 4} {i : Nat} {x : Int64} {L' : List (Nat × Value)} (hd : decode M.2.1 pc = .ok (.lstore_n n, 1)) (hi : (n : Nat) = i) (hn : i + 1 < M.2.2.1) (hl : lset2 L i (.long x) = L') (hq : pc + 1 = q) (k : V Γ d M q L' st h t) : V Γ d M pc L (.long x :: st) h t := by
  subst hq; subst hl; exact V.store k (fun p e R s m args below meth c H locs cells slots Q ls hx hb hL kk => lv_lstore_n hx hb hd hi hL hn (lset2_map Γ L i (.long x)) kk)
theorem v_astore {i : Nat} {x : Nat} {L' : List (Nat × Value)} (hd : decode M.2.1 pc = .ok (.astore i, 2)) (hn : i < M.2.2.1) (hl : lset L i (.ref x) = L') (hq : pc + 2 = q) (k : V Γ d M q L' st h t) : V Γ d M pc L (.ref x :: st) h t := by
  subst hq; subst hl; exact V.store k (fun p e R s m args below meth c H locs cells slots Q ls hx hb hL kk => lv_astore hx hb hd hL hn (lset_map Γ L i (.ref x)) kk)
theorem v_astore_n {n : Fin 4} {i : Nat} {x : Nat} {L' : List (Nat × Value)} (hd : decode M.2.1 pc = .ok (.astore_n n, 1)) (hi : (n : Nat) = i) (hn : i < M.2.2.1) (hl : lset L i (.ref x) = L') (hq : pc + 1 = q) (k : V Γ d M q L' st h t) : V Γ d M pc L (.ref x :: st) h t := by
  subst hq; subst hl; exact V.store k (fun p e R s m args below meth c H locs cells slots Q ls hx hb hL kk => lv_astore_n hx hb hd hi hL hn (lset_map Γ L i (.ref x)) kk)
theorem v_iinc {i : Nat} {n : Int} {x v : Int32} {L' : List (Nat × Value)} (j : Nat) (hd : decode M.2.1 pc = .ok (.iinc i n, 3)) (hk : L[j]? = some (i, .int x)) (hv : x + Int32.ofInt n = v) (hn : i < M.2.2.1) (hl : lset L i (.int v) = L') (hq : pc + 3 = q) (k : V Γ d M q L' st h t) : V Γ d M pc L st h t := by
  subst hq; subst hl; exact V.store k (fun p e R s m args below meth c H locs cells slots Q ls hx hb hL kk => lv_iinc hx hb hd hL (cL_at hk) hv hn (lset_map Γ L i (.int v)) kk)
end VB

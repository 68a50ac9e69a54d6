section GRN
variable {E : CtlPost} {e : Env} {f : Bool} {acts : List Action}
/-- the outer row when i rows are told -/
def gdO (ci : ClassId) (a i : Nat) : Cell := { cls := ci, slots := Array.ofFn (n := 4) fun j => if j.val < i then .ref (a + 1 + j.val) else .null, vm := .none }
def gdI (ci : ClassId) : Cell := { cls := ci, slots := Array.replicate 17 (.int 0), vm := .none }
def gdT (σ : State) (ci co : ClassId) : Nat → State
  | 0 => σ.pushCell (gdO ci σ.heap.size 0)
  | i + 1 => ((gdT σ ci co i).pushCell (gdI co)).setCell σ.heap.size (gdO ci σ.heap.size (i + 1))
theorem gdO_z (ci : ClassId) (a i : Nat) : (gdO ci a i).slots.size = 4 := by simp [gdO]
theorem gdO_s {ci : ClassId} {a i : Nat} (hi : i < 4) : (gdO ci a i).setSlot i (.ref (a + 1 + i)) = gdO ci a (i + 1) := by
  unfold Cell.setSlot gdO
  congr 1
  apply Array.ext
  · simp
  · intro j h1 h2
    simp at h2
    by_cases z : i = j
    · subst z
      simp [Array.getElem_setIfInBounds]
    · rw [Array.getElem_setIfInBounds_ne (by simp; omega) z]
      simp only [Array.getElem_ofFn]
      by_cases y : j < i
      · rw [if_pos y, if_pos (by omega)]
      · rw [if_neg y, if_neg (by omega)]
theorem gd_f (σ : State) (ci co : ClassId) : ∀ i, (gdT σ ci co i).heap.size = σ.heap.size + 1 + i ∧ (gdT σ ci co i).heap[σ.heap.size]? = some (gdO ci σ.heap.size i) ∧ (gdT σ ci co i).vm = σ.vm ∧ (gdT σ ci co i).slotsUsed = σ.slotsUsed + 4 + 17 * i ∧ (∀ q : Nat, q < σ.heap.size → (gdT σ ci co i).heap[q]? = σ.heap[q]?) ∧ ∀ j, j < i → (gdT σ ci co i).heap[σ.heap.size + 1 + j]? = some (gdI co)
  | 0 => ⟨by simp [gdT], by simp [gdT], rfl, by simp [gdT, gdO_z], fun q hq => State.heap_pushCell_of_lt _ _ hq, fun j hj => absurd hj (Nat.not_lt_zero _)⟩
  | i + 1 => by
    obtain ⟨f1, f2, f3, f4, f5, f6⟩ := gd_f σ ci co i
    have lt : σ.heap.size < ((gdT σ ci co i).pushCell (gdI co)).heap.size := by simp [f1]; omega
    refine ⟨?_, heapAt_setCell_self _ lt, f3, ?_, fun q hq => ?_, fun j hj => ?_⟩
    · show (((gdT σ ci co i).pushCell (gdI co)).setCell σ.heap.size _).heap.size = _
      rw [size_setCell]; simp [f1]; omega
    · show ((gdT σ ci co i).pushCell (gdI co)).slotsUsed = _
      simp [gdI, f4]; omega
    · show (((gdT σ ci co i).pushCell (gdI co)).setCell σ.heap.size _).heap[q]? = _
      have n1 : σ.heap.size ≠ q := by omega
      have n2 : q < (gdT σ ci co i).heap.size := by rw [f1]; omega
      rw [heapAt_setCell_ne _ n1, State.heap_pushCell_of_lt _ _ n2]
      exact f5 q hq
    · show (((gdT σ ci co i).pushCell (gdI co)).setCell σ.heap.size _).heap[σ.heap.size + 1 + j]? = _
      have n1 : σ.heap.size ≠ σ.heap.size + 1 + j := by omega
      rw [heapAt_setCell_ne _ n1]
      by_cases z : j = i
      · rw [z, ← f1]
        exact State.heap_pushCell_size _ _
      · have n2 : σ.heap.size + 1 + j < (gdT σ ci co i).heap.size := by rw [f1]; omega
        rw [State.heap_pushCell_of_lt _ _ n2]
        exact f6 j (by omega)
theorem gd_top (σ : State) (fr : JFrame) (ci co : ClassId) : ∀ i, gdT (σ.setTop fr) ci co i = (gdT σ ci co i).setTop fr
  | 0 => rfl
  | i + 1 => by
    show ((gdT (σ.setTop fr) ci co i).pushCell (gdI co)).setCell (σ.setTop fr).heap.size _ = _
    rw [gd_top σ fr ci co i]; rfl
theorem gm_2 {σ : State} {ci co cx : ClassId} {k kc : Class} {Q : Addr → Pre} (hk : σ.vm.classes[ci]? = some k) (hkind : k.kind = .array co (.array .int)) (hkc : σ.vm.classes[co]? = some kc) (hkindc : kc.kind = .array cx .int) (l1 : ¬ 17 > e.platform.arrayLengthLimit) (l2 : ¬ 68 > e.platform.maxHeapBytes) (h1 : σ.heap.size + 5 ≤ e.platform.maxCells) (h2 : σ.slotsUsed + 72 ≤ e.platform.maxSlots) (hq : ∀ f' acts', Q σ.heap.size f' acts' (gdT σ ci co 4)) : Sem.wp (multianewarray.make ci [(4 : Int32), (17 : Int32)]) Q E e f acts σ := by
  rw [multianewarray.make]
  simp only [Sem.wp_bind', Jvm.W.ite, show ¬ (4 : Int32) < 0 by decide, if_false, Sem.wp_pure', Jvm.W.theClass, hk, hkind, Option.some.injEq, exists_eq_left']
  refine gm_row (n := 4) (v := .null) hk hkind (by omega) (by show ¬ 4 * 4 > _; omega) rfl (by omega) (by omega) (fun acts1 => ?_)
  have e4 : (4 : Int32).toNatClampNeg = 4 := by decide
  have eO : ({ cls := ci, slots := Array.replicate 4 .null, vm := .none } : Cell) = gdO ci σ.heap.size 0 := by
    unfold gdO
    congr 1
  rw [eO]
  simp only [show ((4 : Int32) == 0) = false from by decide, Bool.false_eq_true, if_false, e4]
  rw [Sem.wp_bind', Std.Legacy.Range.forIn_eq_forIn_range']
  show Sem.wp (forIn (List.range' 0 4 1) PUnit.unit _) _ E e f acts1 _
  refine wp_forIn_inv (fun rest s' => ∃ i, i ≤ 4 ∧ rest = List.range' i (4 - i) ∧ s' = gdT σ ci co i) _ _ ⟨0, by omega, rfl, rfl⟩ ?_ ?_
  · rintro x rest s' f' acts' Q' ⟨i, hi, hl, rfl⟩ hnext
    have lt : i < 4 := by
      rcases Nat.lt_or_ge i 4 with z | z
      · exact z
      · rw [show 4 - i = 0 by omega] at hl; cases hl
    rw [show 4 - i = (3 - i) + 1 by omega, List.range'_succ] at hl
    obtain ⟨rfl, rfl⟩ := List.cons.inj hl
    obtain ⟨f1, f2, f3, f4, _, _⟩ := gd_f σ ci co x
    simp only [Sem.wp_bind']
    refine gm_in (by rw [f3]; exact hkc) hkindc l1 l2 (by rw [f1]; omega) (by rw [f4]; omega) (fun acts2 => ?_)
    simp only [Sem.wp_bind', Jvm.W.writeLoc, Sem.wp_pure']
    refine ⟨gdO ci σ.heap.size x, ?_, by simp [gdO], by rw [gdO_z]; exact lt, ?_, hnext _ _ _ ⟨x + 1, by omega, by rw [show 4 - (x + 1) = 3 - x by omega], ?_⟩⟩
    · have n2 : σ.heap.size < (gdT σ ci co x).heap.size := by rw [f1]; omega
      rw [State.heap_pushCell_of_lt _ _ n2]; exact f2
    · simp [State.fitsSlot, State.slotType?, gdO, f3, hk, hkind, fits]
    · rw [f1, gdO_s lt]; rfl
  · rintro s' f' acts' ⟨i, hi, hl, rfl⟩
    have : i = 4 := by
      rcases Nat.lt_or_ge i 4 with z | z
      · rw [show 4 - i = (3 - i) + 1 by omega, List.range'_succ] at hl; cases hl
      · omega
    subst this
    simp only [Sem.wp_pure']
    exact hq _ _
end GRN
section GRS
variable {p : Program} {l : Launch} {e : Env} {R : Room} {s : State} {m : MethodId} {args : Array Value} {below : List Frame} {meth : Method} {c : Code} {H : Heap} {T : State} {locs : List Loc} {cells slots : Nat} {Q : State → Prop}
theorem gd_s (X : Stand p l e R s m args below meth c T locs cells slots) (ci co : ClassId) : ∀ i, i ≤ 4 → ∃ J : List Loc, (∀ x ∈ J, x.base = T.heap.size) ∧ Stand p l e R s m args below meth c (gdT T ci co i) (locs ++ J) (cells + 1 + i) (slots + 4 + 17 * i)
  | 0, _ => by
    have h := X.pushed (gdO ci T.heap.size 0)
    rw [gdO_z] at h
    exact ⟨[], fun x hx => (by cases hx), by rw [List.append_nil]; exact h⟩
  | i + 1, hi => by
    obtain ⟨J, hJ, Xi⟩ := gd_s X ci co i (by omega)
    obtain ⟨f1, f2, _⟩ := gd_f T ci co i
    have hcell : ((gdT T ci co i).pushCell (gdI co)).heap[T.heap.size]? = some (gdO ci T.heap.size i) := by
      have n2 : T.heap.size < (gdT T ci co i).heap.size := by rw [f1]; omega
      rw [State.heap_pushCell_of_lt _ _ n2]; exact f2
    have h := (Xi.pushed (gdI co)).stored hcell i (.ref (T.heap.size + 1 + i))
    rw [gdO_s (by omega)] at h
    refine ⟨J ++ [⟨T.heap.size, i⟩], fun x hx => ?_, ?_⟩
    · rcases List.mem_append.mp hx with z | z
      · exact hJ x z
      · rw [List.mem_singleton.mp z]
    · have z17 : (gdI co).slots.size = 17 := by simp [gdI]
      rw [z17, List.append_assoc] at h
      rw [show cells + 1 + (i + 1) = cells + 1 + i + 1 by omega, show slots + 4 + 17 * (i + 1) = slots + 4 + 17 * i + 17 by omega]
      exact h
theorem w_grid {cc : ByteArray} (hexec : p.tables.exec = Jvm.exec) (hb : c.code = cc) {own : String} {index : Nat} (hown : s.vm.findClass own = some m.cls) (hclink : (Cond.classLink own index ("[" ++ (FieldType.array .int).toString)).before args s = true) (hover : (Cond.arrayOver (.array .int)).before args s = true) (harr : (Cond.arrayClass .int).before args s = true) {g : JFrame} (hg : g.method = m) (hdg : decode cc g.pc = .ok (.multianewarray index 2, 4)) {rest : List Value} (hstack : g.stack = .int 17 :: .int 4 :: rest) (hcells : cells + 5 ≤ R.cells) (hslots : slots + 72 ≤ R.slots)
    (kk : ∀ (H' : Heap) (cA co : ClassId), s.vm.findClass ("[" ++ (FieldType.array .int).toString) = some cA → s.vm.findClass (FieldType.array .int).toString = some co → H'.size = H.size + 5 → (∀ q : Nat, q < H.size → H'[q]? = H[q]?) → H'[H.size]? = some (gdO cA H.size 4) → (∀ j, j < 4 → H'[H.size + 1 + j]? = some (gdI co)) → W p l e R s m args below meth c H' locs (cells + 5) (slots + 72) Q { g with pc := g.pc + 4, stack := .ref H.size :: rest }) : W p l e R s m args below meth c H locs cells slots Q g := by
  intro T hT X
  subst hT; subst hb; subst hg
  have hpl : e.platform.magicAccessors = ({} : Platform).magicAccessors := by rw [X.admits.platform]
  obtain ⟨co, cA, kA, hcomp, -, hkA, hkindA, hnameA⟩ := arrayOverA_spec hover
  obtain ⟨co', kC, cx, hcomp', hkC, hkindC⟩ := Cond.arrayClass_spec harr
  cases hcomp'.symm.trans hcomp
  obtain ⟨c0, hfc0, hcl⟩ := Cond.classLink_spec hown hclink e.platform hpl
  cases hnameA.symm.trans hfc0
  obtain ⟨hg₁, hwarm₁, hready₁⟩ := State.classEntry (e := e) X.warmed hcl
  generalize T.vm.noted g.method.cls index (.cls cA) = vm₁ at hg₁ hwarm₁ hready₁
  obtain ⟨kA₁, hkA₁, heA⟩ := hwarm₁.alike.2.2 _ _ hkA
  obtain ⟨kC₁, hkC₁, heC⟩ := hwarm₁.alike.2.2 _ _ hkC
  have hkindA₁ : kA₁.kind = .array co (.array .int) := by rw [heA]; exact hkindA
  have hkindC₁ : kC₁.kind = .array cx .int := by rw [heC]; exact hkindC
  have X₁ := X.noted hwarm₁
  obtain ⟨hr1, hr2⟩ := X.roomAbove hcells hslots
  obtain ⟨J, hJ, XJ⟩ := gd_s X₁ cA co 4 (Nat.le_refl _)
  have XS := XJ.dropFresh (fun x hx => by rw [hJ x hx]; exact X.heapGrown)
  obtain ⟨f1, f2, f3, f4, f5, f6⟩ := gd_f (T.setVm vm₁) cA co 4
  obtain ⟨t', a1, b1⟩ := kk (gdT (T.setVm vm₁) cA co 4).heap cA co hnameA hcomp f1 f5 f2 f6 (gdT (T.setVm vm₁) cA co 4) rfl XS
  refine ⟨t', ?_, b1⟩
  have l1 : ¬ 17 > e.platform.arrayLengthLimit := by rw [Launch.admits_arrayLengthLimit X.admits]; decide
  have l2 : ¬ 68 > e.platform.maxHeapBytes := by rw [Launch.admits_maxHeapBytes X.admits]; decide
  jvm_step X.here [hexec, hdg]
  simp only [multianewarray.sem, Sem.wp_bind', Jvm.W.resolveClassAt_links (State.method?_setTop g X.here.top) hg₁]
  rw [Jvm.W.popN, if_neg (by decide)]
  refine ⟨g, State.topJava?_setTop' (s := T.setVm vm₁) g X.here.top, [.int 4, .int 17], rest, rfl, hstack, ?_⟩
  simp only [List.mapM_cons, List.mapM_nil, Sem.wp_bind', Sem.wp_pure']
  refine gm_2 (k := kA₁) (kc := kC₁) hkA₁ hkindA₁ hkC₁ hkindC₁ l1 l2 (by show T.heap.size + 5 ≤ _; omega) (by show T.slotsUsed + 72 ≤ _; omega) (fun f' acts' => ?_)
  have eS : ((T.setTop g).setVm vm₁).setTop { g with stack := rest } = (T.setVm vm₁).setTop { g with stack := rest } := by
    show ((T.setVm vm₁).setTop g).setTop _ = _
    rw [State.setTop_setTop]
  rw [eS, gd_top]
  simp only [Sem.wp_bind', Jvm.W.mark, Jvm.W.pushRef, State.topJava?_setTop' _ XS.here.top, Option.some.injEq, exists_eq_left', State.setTop_setTop, State.heap_setTop]
  intro acts
  simp [jvm, XS.here.top]
  exact a1
end GRS
section GRV
variable {Γ : Gm} {d : Nat} {M : MI} {pc q : Nat} {L : List (Nat × Value)} {st : List Value} {h : Hp} {t : Option Value × Hp}
theorem gd_R {a k : Nat} : hR (gdH h) a k = if a = hN h then (if k < 4 then some (hN h + 1 + k) else none) else if hN h < a ∧ a ≤ hN h + 4 then none else hR h a k := by
  show (if a = hN h ∧ k = 3 then some (hN h + 4) else if a = hN h ∧ k = 2 then some (hN h + 3) else if a = hN h ∧ k = 1 then some (hN h + 2) else if a = hN h ∧ k = 0 then some (hN h + 1) else if a = hN h + 1 + 1 + 1 + 1 then none else if a = hN h + 1 + 1 + 1 then none else if a = hN h + 1 + 1 then none else if a = hN h + 1 then none else if a = hN h then none else hR h a k) = _
  repeat' split
  all_goals first | rfl | (exfalso; omega) | (refine congrArg some ?_; omega)
theorem gd_S {a : Nat} : hS (gdH h) a = if a = hN h then .inr (.array .int, 4) else if hN h < a ∧ a ≤ hN h + 4 then .inr (.int, 17) else hS h a := by
  show (if a = hN h + 1 + 1 + 1 + 1 then (.inr (.int, 17) : jSh) else if a = hN h + 1 + 1 + 1 then .inr (.int, 17) else if a = hN h + 1 + 1 then .inr (.int, 17) else if a = hN h + 1 then .inr (.int, 17) else if a = hN h then .inr (.array .int, 4) else hS h a) = _
  repeat' split
  all_goals first | rfl | (exfalso; omega)
theorem gd_I {a j : Nat} : hI (gdH h) a j = if hN h ≤ a ∧ a ≤ hN h + 4 then 0 else hI h a j := by
  show (if a = hN h + 1 + 1 + 1 + 1 then (0 : Int32) else if a = hN h + 1 + 1 + 1 then 0 else if a = hN h + 1 + 1 then 0 else if a = hN h + 1 then 0 else if a = hN h then 0 else hI h a j) = _
  repeat' split
  all_goals first | rfl | (exfalso; omega)
theorem gd_J {a j : Nat} (ha : ¬ (hN h ≤ a ∧ a ≤ hN h + 4)) : hJ (gdH h) a j = hJ h a j := by
  show (if a = hN h + 1 + 1 + 1 + 1 then (0 : Int64) else if a = hN h + 1 + 1 + 1 then 0 else if a = hN h + 1 + 1 then 0 else if a = hN h + 1 then 0 else if a = hN h then 0 else hJ h a j) = _
  repeat' split
  all_goals first | rfl | (exfalso; omega)
theorem gd_old {a : Nat} (ha : a < hN h) (ty : FieldType) (k : Nat) : aV ty (gdH h) a k = aV ty h a k := by
  have i : hI (gdH h) a k = hI h a k := by rw [gd_I, if_neg (by omega)]
  have j : hJ (gdH h) a k = hJ h a k := gd_J (by omega)
  have r : hR (gdH h) a k = hR h a k := by rw [gd_R, if_neg (by omega), if_neg (by omega)]
  cases ty <;> simp only [aV, i, j, r]
theorem v_grid {idx : Nat} (hw1 : Cond.classLink M.1.cls idx "[[I" ∈ lw_tbl) (hw2 : Cond.arrayOver (.array .int) ∈ lw_tbl) (hw3 : Cond.arrayClass .int ∈ lw_tbl) (hd : decode M.2.1 pc = .ok (.multianewarray idx 2, 4)) (hq : pc + 4 = q) (kk : V Γ d M q L (.ref (hN h) :: st) (gdH h) t) : V Γ d M pc L (.int 17 :: .int 4 :: st) h t := by
  subst hq
  obtain ⟨⟨m1, m2⟩, k⟩ := kk
  have nN : hN (gdH h) = hN h + 5 := rfl
  have nZ : hZ (gdH h) = hZ h + 72 := by
    show hZ h + 4 + 17 + 17 + 17 + 17 = _
    omega
  rw [nN] at m1
  rw [nZ] at m2
  refine ⟨⟨by omega, by omega⟩, fun p e s m args below meth c H locs ls n0 t0 C h1 h2 hRl hSl hl => ?_⟩
  have hE := C.2.2.2.2.2.2.2.1
  have eI : ("[" ++ (FieldType.array .int).toString) = "[[I" := by decide
  have hz := hRl.1
  have hov : (Cond.arrayOver (.array .int)).before args s = true := by
    have h0 : (Cond.arrayOver (.array .int)).before #[] s = true := hE.2.2.2.2.2.2.1
    simp only [Cond.before, Cond.holds, Cond.value] at h0 ⊢
    exact h0
  refine w_grid C.1 C.2.1 C.2.2.2.1 (by rw [eI]; exact hE.w hw1 rfl args) hov (hE.w hw3 rfl args) rfl hd rfl (by show _ ≤ hN t.2 - n0; omega) (by show _ ≤ hZ t.2 - t0; omega) (fun H' cA co g1 g2 z1 o1 e1 e2 => ?_)
  have hcA : cA = Γ.2.2.2.1 (.array .int) := by
    have h3 : s.vm.findClass ("[" ++ (FieldType.array .int).toString) = some (Γ.2.2.2.1 (.array .int)) := (hE.2.2.2.1 (.array .int) (by decide)).2
    exact Option.some.inj (g1.symm.trans h3)
  have hco : co = Γ.2.2.2.1 .int := by
    have h3 : s.vm.findClass (FieldType.array .int).toString = some (Γ.2.2.2.1 .int) := (hE.2.2.2.1 .int (by decide)).2
    exact Option.some.inj (g2.symm.trans h3)
  subst hcA; subst hco
  rw [hz] at z1 o1 e1 e2
  have eref : Value.ref H.size = cV Γ (.ref (hN h)) := by rw [hz]; rfl
  rw [eref]
  refine W.cs (show hN h - n0 + 5 = hN (gdH h) - n0 by rw [nN]; omega) (show hZ h - t0 + 72 = hZ (gdH h) - t0 by rw [nZ]; omega) ?_
  refine k p e s m args below meth c H' locs ls n0 t0 C (by rw [nN]; omega) (by rw [nZ]; omega) ⟨by rw [z1, nN]; omega, fun a ha => ?_⟩ ⟨by have := hSl.1; omega, fun q h1 h2 => (o1 q (by have := hSl.1; omega)).trans (hSl.2.1 q h1 h2), hSl.2.2⟩ hl
  rw [nN] at ha
  unfold cellOK
  by_cases z : a = hN h
  · subst z
    rw [gd_S, if_pos rfl]
    refine ⟨?_, fun j => ?_⟩
    · rw [e1]
      show some (arrV (Γ.2.2.2.1 (.array .int)) 4 (fun j => if j < 4 then .ref (Γ.2.1 + hN h + 1 + j) else .null)) = _
      refine congrArg some ?_
      unfold arrV
      congr 1
      refine congrArg Array.ofFn (funext fun j => ?_)
      have j4 := j.isLt
      show (if j.val < 4 then Value.ref (Γ.2.1 + hN h + 1 + j.val) else .null) = cV Γ (va_rf (hR (gdH h) (hN h) j.val))
      rw [if_pos j4, gd_R, if_pos rfl, if_pos j4]
      have e' : Γ.2.1 + hN h + 1 + j.val = Γ.2.1 + (hN h + 1 + j.val) := by omega
      exact congrArg Value.ref e'
    · show fits (.array .int) (cV Γ (va_rf (hR (gdH h) (hN h) j))) = true
      rw [gd_R, if_pos rfl]
      by_cases j4 : j < 4
      · rw [if_pos j4]; rfl
      · rw [if_neg j4]; rfl
  · by_cases y : hN h < a ∧ a ≤ hN h + 4
    · rw [gd_S, if_neg z, if_pos y]
      have ei : ∀ j, aV .int (gdH h) a j = .int 0 := fun j => by
        show Value.int (hI (gdH h) a j) = _
        rw [gd_I, if_pos (by omega)]
      refine ⟨?_, fun j => by rw [ei]; rfl⟩
      have := e2 (a - hN h - 1) (by omega)
      rw [show Γ.2.1 + hN h + 1 + (a - hN h - 1) = Γ.2.1 + a by omega] at this
      rw [this]
      unfold gdI
      rw [arrV_new]
      refine congrArg some ?_
      unfold arrV
      congr 1
      refine congrArg Array.ofFn (funext fun j => ?_)
      show Value.int 0 = cV Γ (aV .int (gdH h) a j.val)
      rw [ei]; rfl
    · have lt : a < hN h := by omega
      have h0 := hRl.2 a lt
      unfold cellOK at h0
      rw [gd_S, if_neg z, if_neg y]
      have hq : Γ.2.1 + a < Γ.2.1 + hN h := by omega
      cases hsb : hS h a with
      | inl ci =>
        rw [hsb] at h0
        obtain ⟨r, p1, p2⟩ := h0
        refine ⟨r, p1, ?_⟩
        have e' : (fun k => cV Γ (aV (tyC ci k) (gdH h) a k)) = (fun k => cV Γ (aV (tyC ci k) h a k)) := funext fun k => by rw [gd_old lt]
        rw [e']
        exact p2.kept (o1 _ hq)
      | inr x =>
        rw [hsb] at h0
        have e' : (fun j => cV Γ (aV x.1 (gdH h) a j)) = (fun j => cV Γ (aV x.1 h a j)) := funext fun k => by rw [gd_old lt]
        refine ⟨?_, fun j => ?_⟩
        · rw [e', o1 _ hq]; exact h0.1
        · rw [gd_old lt]; exact h0.2 j
end GRV

/-! new cells -/
def isFl : FieldType → Bool
  | .float => true | .double => true | _ => false
theorem tyC_ok : ∀ ci, ci < 13 → ∀ k, k < szC ci → isFl (tyC ci k) = false := by decide +kernel
theorem cl_lt {ci : Nat} {r : vw_C} (h : vwCl[ci]? = some r) : ci < 13 := (List.getElem?_eq_some_iff.mp h).1
theorem aV_nw_ne {h : Hp} {s : jSh} {b : Nat} (hb : b ≠ hN h) (ty : FieldType) (k : Nat) : aV ty (nw h s) b k = aV ty h b k := by
  cases ty <;> simp [aV, nw, hI, hJ, hR, hb]
theorem aV_nw_new {h : Hp} {s : jSh} (ty : FieldType) (k : Nat) (hf : isFl ty = false) : aV ty (nw h s) (hN h) k = defaultValue ty := by
  cases ty <;> first | exact absurd hf (by decide) | simp [aV, nw, hI, hJ, hR, va_rf, defaultValue]
theorem cV_def (Γ : Gm) (ty : FieldType) : cV Γ (defaultValue ty) = defaultValue ty := by cases ty <;> rfl
theorem hS_nw_ne {h : Hp} {s : jSh} {b : Nat} (hb : b ≠ hN h) : hS (nw h s) b = hS h b := by simp [hS, nw, hb]
theorem hS_nw_new {h : Hp} {s : jSh} : hS (nw h s) (hN h) = s := by simp [hS, nw]
theorem hN_nw {h : Hp} {s : jSh} : hN (nw h s) = hN h + 1 := rfl
theorem hZ_nw {h : Hp} {s : jSh} : hZ (nw h s) = hZ h + jsz s := rfl
theorem Rl.push {Γ : Gm} {h : Hp} {s : jSh} {H H' : Heap} (hR : Rl Γ h H) (hz : H'.size = Γ.2.1 + hN h + 1) (ho : ∀ q, q < Γ.2.1 + hN h → H'[q]? = H[q]?) (hc : cellOK Γ (nw h s) (hN h) H') : Rl Γ (nw h s) H' := by
  refine ⟨by rw [hz, hN_nw]; omega, fun b hb => ?_⟩
  rw [hN_nw] at hb
  by_cases hbn : b = hN h
  · subst hbn; exact hc
  · have hlt : b < hN h := by omega
    have h0 := hR.2 b hlt
    unfold cellOK at h0 ⊢
    rw [hS_nw_ne hbn]
    have hq : Γ.2.1 + b < Γ.2.1 + hN h := by omega
    cases hsb : hS h b with
    | inl ci =>
      rw [hsb] at h0
      obtain ⟨r, h1, h2⟩ := h0
      refine ⟨r, h1, ?_⟩
      have e : (fun k => cV Γ (aV (tyC ci k) (nw h s) b k)) = (fun k => cV Γ (aV (tyC ci k) h b k)) := funext fun k => by rw [aV_nw_ne hbn]
      rw [e]
      exact h2.kept (ho _ hq)
    | inr x =>
      rw [hsb] at h0
      have e : (fun j => cV Γ (aV x.1 (nw h s) b j)) = (fun j => cV Γ (aV x.1 h b j)) := funext fun k => by rw [aV_nw_ne hbn]
      refine ⟨?_, fun j => ?_⟩
      · rw [e, ho _ hq]; exact h0.1
      · rw [aV_nw_ne hbn]; exact h0.2 j
theorem S_push {Γ : Gm} {H0 H H1 : Heap} {locs : List Loc} {n : Nat} (hS0 : va_S (fun q => Γ.2.1 ≤ q) H0 H locs) (hz : H.size = n) (z : H1.size = n + 1) (oq : ∀ q : Nat, q < n → H1[q]? = H[q]?) : va_S (fun q => Γ.2.1 ≤ q) H0 H1 locs :=
  ⟨by have := hS0.1; omega, fun q h1 h2 => (oq q (by have := hS0.1; omega)).trans (hS0.2.1 q h1 h2), hS0.2.2⟩
section VN
variable {Γ : Gm} {d : Nat} {M : MI} {pc q : Nat} {L : List (Nat × Value)} {st : List Value} {h : Hp} {t : Option Value × Hp}
theorem V.alloc {s0 : jSh} {st' : List Value} (kk : V Γ d M q L st' (nw h s0) t)
    (f : ∀ (p : Program) (e : Env) (R : Room) (s : State) (m : MethodId) (args : Array Value) (below : List Frame) (meth : Method) (c : Code) (H : Heap) (locs : List Loc) (cells slots : Nat) (Q : State → Prop) (ls : Array Slot) (n0 : Nat), Cx Γ M p s m meth c n0 → Rl Γ h H → cells + 1 ≤ R.cells → slots + jsz s0 ≤ R.slots →
      (∀ H' : Heap, cellOK Γ (nw h s0) (hN h) H' → H'.size = Γ.2.1 + hN h + 1 → (∀ q, q < Γ.2.1 + hN h → H'[q]? = H[q]?) → W p Γ.1 e R s m args below meth c H' locs (cells + 1) (slots + jsz s0) Q (F0 m q ls (st'.map (cV Γ)))) → W p Γ.1 e R s m args below meth c H locs cells slots Q (F0 m pc ls (st.map (cV Γ)))) : V Γ d M pc L st h t := by
  obtain ⟨⟨m1, m2⟩, k⟩ := kk
  rw [hN_nw] at m1
  rw [hZ_nw] at m2
  refine ⟨⟨by omega, by omega⟩, fun p e s m args below meth c H locs ls n0 t0 C h1 h2 hRl hSl hl => ?_⟩
  refine f p e _ s m args below meth c H locs _ _ _ ls n0 C hRl (by show _ ≤ hN t.2 - n0; omega) (by show _ ≤ hZ t.2 - t0; omega) (fun H' g1 g2 g3 => ?_)
  refine W.cs (show hN h - n0 + 1 = hN (nw h s0) - n0 by rw [hN_nw]; omega) (show hZ h - t0 + jsz s0 = hZ (nw h s0) - t0 by rw [hZ_nw]; omega) ?_
  exact k p e s m args below meth c H' locs ls n0 t0 C (by rw [hN_nw]; omega) (by rw [hZ_nw]; omega) (hRl.push g2 g3 g1) (S_push hSl hRl.1 g2 g3) hl
theorem v_new {ci idx : Nat} {r : vw_C} (hd : decode M.2.1 pc = .ok (.new idx, 3)) (hc : vwCl[ci]? = some r) (hw1 : Cond.classLink M.1.cls idx r.1 ∈ lw_tbl) (hw2 : Cond.instantiable r.1 (szC ci) ∈ lw_tbl) (hw3 : Cond.initialized r.1 ∈ lw_tbl) (hq : pc + 3 = q) (kk : V Γ d M q L (.ref (hN h) :: st) (nw h (.inl ci)) t) : V Γ d M pc L st h t := by
  subst hq
  refine V.alloc kk (fun p e R s m args below meth c H locs cells slots Q ls n0 C hRl hcl hsl k => ?_)
  have hE := C.2.2.2.2.2.2.2.1
  have hKn := hE.2.2.1 ci _ hc
  refine W.newcK C.1 C.2.1 C.2.2.2.1 (hE.w hw1 rfl args) (hE.w hw2 rfl args) (hE.w hw3 rfl args) rfl hd hcl hsl hKn.2.1 hRl.1 (fun H' kC hkC e1 z1 o1 => ?_)
  refine k H' ?_ z1 o1
  unfold cellOK
  rw [hS_nw_new]
  have hsz := (cl_ok hc).1
  refine ⟨r, hc, (u_born (tyC ci) (cl_ws hE hc args) (fun _ h => h) hKn hkC e1 (cl_ok hc).2.1).to (fun j hj => ?_)⟩
  rw [aV_nw_new _ _ (tyC_ok ci (cl_lt hc) j (by rw [← hsz]; exact hj)), cV_def]
theorem fits_def (Γ : Gm) (ty : FieldType) : fits ty (cV Γ (defaultValue ty)) = true := by cases ty <;> rfl
theorem v_newa {atype : ArrayType} {ty : FieldType} {n : Int32} {N : Nat} (hty : newarray.typeOf atype = ty) (hm : ty ∈ [FieldType.int, .long, .byte, .boolean]) (hw : Cond.arrayClass ty ∈ lw_tbl) (hd : decode M.2.1 pc = .ok (.newarray atype, 2)) (hn : ¬ n < 0) (hN' : n.toNatClampNeg = N) (hb : N * 8 ≤ 536870912) (hq : pc + 2 = q) (kk : V Γ d M q L (.ref (hN h) :: st) (nw h (.inr (ty, N))) t) : V Γ d M pc L (.int n :: st) h t := by
  subst hq; subst hty
  refine V.alloc kk (fun p e R s m args below meth c H locs cells slots Q ls n0 C hRl hcl hsl k => ?_)
  have hE := C.2.2.2.2.2.2.2.1
  have hmm : newarray.typeOf atype ∈ jTys := by
    simp only [List.mem_cons, List.not_mem_nil, or_false] at hm
    simp only [jTys, List.mem_cons, List.not_mem_nil, or_false]
    rcases hm with e | e | e | e <;> simp [e]
  have hfl : isFl (newarray.typeOf atype) = false := by
    simp only [List.mem_cons, List.not_mem_nil, or_false] at hm
    rcases hm with e | e | e | e <;> rw [e] <;> rfl
  have hcb : componentBytes (newarray.typeOf atype) ≤ 8 := by
    simp only [List.mem_cons, List.not_mem_nil, or_false] at hm
    rcases hm with e | e | e | e <;> rw [e] <;> decide
  refine va_newaK C.1 C.2.1 (hE.w hw rfl args) rfl hd rfl hn hN' (Nat.le_trans (Nat.mul_le_mul_left _ hcb) hb) hcl hsl hRl.1 (fun H' cA e1 z1 o1 _ hNm => ?_)
  refine k H' ?_ z1 o1
  unfold cellOK
  rw [hS_nw_new]
  have hcA : cA = Γ.2.2.2.1 (newarray.typeOf atype) := by
    have h2 := (hE.2.2.2.1 _ hmm).2
    have h3 : s.vm.findClass ("[" ++ (newarray.typeOf atype).toString) = some (Γ.2.2.2.1 (newarray.typeOf atype)) := by
      simp only [List.mem_cons, List.not_mem_nil, or_false] at hm
      rcases hm with e | e | e | e <;> rw [e] at h2 ⊢ <;> exact h2
    exact Option.some.inj (hNm.symm.trans h3)
  refine ⟨?_, fun j => ?_⟩
  · rw [e1, hcA]
    congr 2
    funext j
    rw [aV_nw_new _ _ hfl, cV_def]
  · rw [aV_nw_new _ _ hfl]; exact fits_def Γ _
/-- a row of Learnts -/
theorem v_anew {idx : Nat} {n : Int32} {N : Nat} (hw1 : Cond.classLink M.1.cls idx RX3 ∈ lw_tbl) (hd : decode M.2.1 pc = .ok (.anewarray idx, 3)) (hn : ¬ n < 0) (hN' : n.toNatClampNeg = N) (hb : N * 8 ≤ 536870912) (hq : pc + 3 = q) (kk : V Γ d M q L (.ref (hN h) :: st) (nw h (.inr (.object RX3, N))) t) : V Γ d M pc L (.int n :: st) h t := by
  subst hq; subst hN'
  refine V.alloc kk (fun p e R s m args below meth c H locs cells slots Q ls n0 C hRl hcl hsl k => ?_)
  have hE := C.2.2.2.2.2.2.2.1
  refine W.anew C.1 C.2.1 C.2.2.2.1 (hE.w hw1 rfl args) (va_AO.use hE.2.2.2.2.2.1) rfl hd rfl hn (by omega) hcl hsl (fun cA kA comp f1 f2 f3 f4 => ?_)
  have hz := hRl.1
  rw [hz]
  have hcA : cA = Γ.2.2.2.1 (.object RX3) := by
    obtain ⟨_, _, _, _, _, h4⟩ := (hE.2.2.2.1 (.object RX3) (by decide)).2
    exact Option.some.inj (f1.symm.trans h4)
  refine k _ ?_ (by simp [hz]) (fun q hq => by rw [Array.getElem?_push, if_neg (by omega)])
  unfold cellOK
  rw [hS_nw_new]
  refine ⟨?_, fun j => by rw [aV_nw_new _ _ rfl]; rfl⟩
  rw [← hz, Array.getElem?_push_size, hcA, arrV_new]
  congr 2
  funext j
  rw [aV_nw_new _ _ rfl]
  rfl
/-- Object's own constructor -/
theorem v_obj {idx a : Nat} (hd : decode M.2.1 pc = .ok (.invokespecial idx, 3)) (hlk : Cond.methodLink M.1.cls idx Lib.objectInit ∈ lw_tbl) (hi : Cond.instanceMethod Lib.objectInit ∈ lw_tbl) (hco : Cond.code Lib.objectInit ⟨#[0xb1]⟩ 1 none ∈ lw_tbl) (hc : (st.map fun v => v.category).sum ≤ 8) (hdd : 0 < d) (hq : pc + 3 = q) (kk : V Γ d M q L st h t) : V Γ d M pc L (.ref a :: st) h t := by
  subst hq
  refine ⟨kk.1, fun p e s m args below meth c H locs ls n0 t0 C h1 h2 hRl hSl hl => ?_⟩
  have hE := C.2.2.2.2.2.2.2.1
  have hr := st_room (Γ := Γ) (st := st) (pc := pc) (m := m) (ls := ls) (sk := (Value.ref a :: st).map (cV Γ)) hc
  exact W.objInit C.1 C.2.1 C.2.2.2.1 (hE.w hlk rfl args) (hE.w hi rfl args) (hE.w hco rfl args) rfl (by rw [C.2.2.1]; exact hl.1) rfl hd (by show 1 ≤ d; omega) (by show _ ≤ 64 * d; omega) (kk.2 p e s m args below meth c H locs ls n0 t0 C h1 h2 hRl hSl hl)
/-! System.arraycopy -/
def cpI (h : Hp) (a0 sp a dp n : Nat) : Hp := (h.1, fun b j => if b = a ∧ dp ≤ j ∧ j < dp + n then h.2.1 a0 (sp + (j - dp)) else h.2.1 b j, h.2.2)
def cpJ (h : Hp) (a0 sp a dp n : Nat) : Hp := (h.1, h.2.1, fun b j => if b = a ∧ dp ≤ j ∧ j < dp + n then h.2.2.1 a0 (sp + (j - dp)) else h.2.2.1 b j, h.2.2.2)
theorem V.copy {a0 a n0 n1 : Nat} {ty : FieldType} {idx : Nat} {sp dp n : Int32} {h' : Hp} (hprim : refKind ty = false) (hm : ty ∈ jTys) (hd : decode M.2.1 pc = .ok (.invokestatic idx, 3)) (hlk : Cond.methodLink M.1.cls idx arraycopyName ∈ lw_tbl) (hw1 : Cond.native arraycopyName ∈ lw_tbl) (hw2 : Cond.static arraycopyName ∈ lw_tbl) (hw3 : Cond.initialized "java/lang/System" ∈ lw_tbl)
    (ha0 : a0 < hN h) (hs0 : hS h a0 = .inr (ty, n0)) (ha : a < hN h) (hs : hS h a = .inr (ty, n1)) (h1 : ¬ sp < 0) (h2 : ¬ dp < 0) (h3 : ¬ n < 0) (h4 : sp.toNatClampNeg + n.toNatClampNeg ≤ n0) (h5 : dp.toNatClampNeg + n.toNatClampNeg ≤ n1)
    (e1 : hN h' = hN h) (e1' : hZ h' = hZ h) (e2 : ∀ b, hS h' b = hS h b) (e3 : ∀ b, b ≠ a → ∀ ty k, aV ty h' b k = aV ty h b k) (e4 : ∀ j, aV ty h' a j = va_cpy (fun j => aV ty h a0 j) (fun j => aV ty h a j) sp.toNatClampNeg dp.toNatClampNeg n.toNatClampNeg j)
    (hc : (st.map fun v => v.category).sum ≤ 8) (hdd : 0 < d) (hq : pc + 3 = q) (kk : V Γ d M q L st h' t) : V Γ d M pc L (.int n :: .int dp :: .ref a :: .int sp :: .ref a0 :: st) h t := by
  subst hq
  have nn : ∀ z : Int32, ¬ z < 0 → z.toInt = (z.toNatClampNeg : Int) := by
    intro z hz
    have hz0 : (0 : Int) ≤ z.toInt := by
      have := Int32.not_lt.mp hz
      simpa using Int32.le_iff_toInt_le.mp this
    show z.toInt = ((z.toInt.toNat : Nat) : Int)
    omega
  refine ⟨by rw [← e1, ← e1']; exact kk.1, fun p e s m args below meth c H locs ls q0 t0 C g1 g2 hRl hSl hl => ?_⟩
  have hE := C.2.2.2.2.2.2.2.1
  have hc0 := hRl.arr ha0 hs0
  have hc1 := hRl.arr ha hs
  obtain ⟨-, k0, hk0, cm0, hkk0⟩ := jT hm hE n0 (fun j => cV Γ (aV ty h a0 j))
  obtain ⟨-, k1, hk1, cm1, hkk1⟩ := jT hm hE n1 (fun j => cV Γ (aV ty h a j))
  have hr := st_room (Γ := Γ) (st := st) (pc := pc) (m := m) (ls := ls) (sk := (Value.int n :: .int dp :: .ref a :: .int sp :: .ref a0 :: st).map (cV Γ)) hc
  intro T hT X
  obtain ⟨vm', X', step⟩ := X.arraycopy C.1 C.2.2.2.1 (hE.w hlk rfl args) (hE.w hw1 rfl args) (hE.w hw2 rfl args) (hE.w hw3 rfl args) (src := Γ.2.1 + a0) (dst := Γ.2.1 + a) (cs := arrV (Γ.2.2.2.1 ty) n0 (fun j => cV Γ (aV ty h a0 j))) (cd := arrV (Γ.2.2.2.1 ty) n1 (fun j => cV Γ (aV ty h a j))) (srcPos := sp) (destPos := dp) (n := n) (by rw [hT]; exact hc0) (by rw [hT]; exact hc1)
    (fun _ h => by cases h) (fun _ h => by cases h) (fun h => by cases h) (fun h => by cases h) hk0 hk1 hkk0 hkk1 (by simp [hprim]) h1 h2 h3
    (by rw [nn sp h1, nn n h3, arrV_size]; omega)
    (by rw [nn dp h2, nn n h3, arrV_size]; omega)
    (fun vm₁ _ i hi => by
      have e : (arrV (Γ.2.2.2.1 ty) n0 (fun j => cV Γ (aV ty h a0 j))).slots.getD (sp.toNatClampNeg + i) .null = cV Γ (aV ty h a0 (sp.toNatClampNeg + i)) := by
        rw [Array.getD_eq_getD_getElem?, arrV_read _ _ (by omega)]
        rfl
      refine ⟨?_, ?_⟩
      · rw [e]
        exact hRl.fit ha0 hs0 _
      · rw [e]
        have hp2 : refKind ty = false := hprim
        cases ty <;> first | exact trivial | cases hp2)
    (g := F0 m pc ls ((Value.int n :: .int dp :: .ref a :: .int sp :: .ref a0 :: st).map (cV Γ))) rfl (by rw [C.2.2.1]; exact hl.1) (rest := st.map (cV Γ)) rfl (by rw [C.2.1]; exact hd) (by show 1 ≤ d; omega) (by
      have hn : nativeFrameWords "java/lang/System" "arraycopy" 5 + 11 ≤ 56 := by decide
      show 2 * 0 + _ + _ ≤ 64 * d
      have hr' : ((st.map (cV Γ)).map fun v => v.category).sum ≤ 8 := by
        have : 2 * (F0 m pc ls ((Value.int n :: .int dp :: .ref a :: .int sp :: .ref a0 :: st).map (cV Γ))).monitorRoom + ((st.map (cV Γ)).map fun v => v.category).sum ≤ 8 := hr
        omega
      omega)
  have e9 : copied (arrV (Γ.2.2.2.1 ty) n0 (fun j => cV Γ (aV ty h a0 j))) (arrV (Γ.2.2.2.1 ty) n1 (fun j => cV Γ (aV ty h a j))) sp dp n = arrV (Γ.2.2.2.1 ty) n1 (fun j => cV Γ (aV ty h' a j)) := by
    have := va_copied (fun z : Value => cV Γ z) (Γ.2.2.2.1 ty) (Γ.2.2.2.1 ty) (n1 := n1) (dp := dp.toNatClampNeg) (fun j => aV ty h a0 j) (fun j => aV ty h a j) h4
    have e5 : (fun j => cV Γ (aV ty h' a j)) = (fun j => cV Γ (va_cpy (fun j => aV ty h a0 j) (fun j => aV ty h a j) sp.toNatClampNeg dp.toNatClampNeg n.toNatClampNeg j)) := funext fun j => by rw [e4]
    rw [e5]
    exact this
  rw [e9] at X' step
  have hlt : Γ.2.1 + a < H.size := (Array.getElem?_eq_some_iff.mp hc1).1
  have hheap : ((T.setVm vm').setCell (Γ.2.1 + a) (arrV (Γ.2.2.2.1 ty) n1 (fun j => cV Γ (aV ty h' a j)))).heap = H.setIfInBounds (Γ.2.1 + a) (arrV (Γ.2.2.2.1 ty) n1 (fun j => cV Γ (aV ty h' a j))) := by rw [← hT]; rfl
  have oq : ∀ q : Nat, q ≠ Γ.2.1 + a → (H.setIfInBounds (Γ.2.1 + a) (arrV (Γ.2.2.2.1 ty) n1 (fun j => cV Γ (aV ty h' a j))))[q]? = H[q]? := fun q hq => by simp [Array.getElem?_setIfInBounds, Ne.symm hq]
  have hRl' : Rl Γ h' (H.setIfInBounds (Γ.2.1 + a) (arrV (Γ.2.2.2.1 ty) n1 (fun j => cV Γ (aV ty h' a j)))) := hRl.put (by simp) oq e1 e2 e3 (fun _ => by
    unfold cellOK
    rw [e2 a, hs]
    refine ⟨by simp [Array.getElem?_setIfInBounds, hlt], fun j => ?_⟩
    rw [e4]
    unfold va_cpy
    split
    · exact hRl.fit ha0 hs0 _
    · exact hRl.fit ha hs _)
  have kw := kk.2 p e s m args below meth c _ (locs ++ ((arrV (Γ.2.2.2.1 ty) n0 (fun j => cV Γ (aV ty h a0 j))).stretch sp.toNatClampNeg n.toNatClampNeg).zipIdx.map (fun q : Value × Nat => (⟨Γ.2.1 + a, dp.toNatClampNeg + q.2⟩ : Loc))) ls q0 t0 C (by rw [e1]; exact g1) (by rw [e1']; exact g2) hRl' ⟨by simp; exact hSl.1, fun q k1 k2 => by
      rw [oq q (fun e => k2 (by rw [e]; exact Nat.le_add_right _ _))]
      exact hSl.2.1 q k1 k2, fun q hq => by
      rcases List.mem_append.mp hq with z | z
      · exact hSl.2.2 q z
      · obtain ⟨z, -, hz⟩ := List.mem_map.mp z
        rw [← hz]
        exact Nat.le_add_right _ _⟩ hl
  rw [e1, e1'] at kw
  obtain ⟨t2, a1, b1⟩ := kw _ hheap X'
  exact ⟨t2, step t2 a1, b1⟩
end VN

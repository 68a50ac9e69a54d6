section VA
variable {Γ : Gm} {d : Nat} {M : MI} {pc q : Nat} {L : List (Nat × Value)} {st : List Value} {h : Hp} {t : Option Value × Hp}
theorem jT {ty : FieldType} (hm : ty ∈ jTys) {s : State} (hE : En Γ s) : ArrOfT s (Γ.2.2.2.1 ty) ty := (hE.2.2.2.1 ty hm).1
theorem jin {i : Int32} {n : Nat} (hin : vp_in i n) : i.toNatClampNeg < n := Nat.not_le.mp fun q => hin (Or.inr q)
theorem v_iald {a n : Nat} {i : Int32} (hd : decode M.2.1 pc = .ok (.iaload, 1)) (ha : a < hN h) (hs : hS h a = .inr (.int, n)) (hin : vp_in i n) (hq : pc + 1 = q) (kk : V Γ d M q L (.int (hI h a i.toNatClampNeg) :: st) h t) : V Γ d M pc L (.int i :: .ref a :: st) h t := by
  subst hq
  exact V.ctx kk (fun p e R s m args below meth c H locs cells slots Q ls n0 C hRl _ _ kk => W.iald C.1 C.2.1 (hRl.arr ha hs) (jT (by decide) C.2.2.2.2.2.2.2.1 n _) (fun q => by cases q) (by rw [arrV_size]; exact hin) (by rw [arrV_read _ _ (jin hin)]; rfl) rfl rfl hd kk)
theorem v_bald {a n : Nat} {i : Int32} (hd : decode M.2.1 pc = .ok (.baload, 1)) (ha : a < hN h) (hs : hS h a = .inr (.byte, n)) (hin : vp_in i n) (hq : pc + 1 = q) (kk : V Γ d M q L (.int (hI h a i.toNatClampNeg) :: st) h t) : V Γ d M pc L (.int i :: .ref a :: st) h t := by
  subst hq
  exact V.ctx kk (fun p e R s m args below meth c H locs cells slots Q ls n0 C hRl _ _ kk => W.bald C.1 C.2.1 (hRl.arr ha hs) (jT (by decide) C.2.2.2.2.2.2.2.1 n _) (fun q => by cases q) (by rw [arrV_size]; exact hin) (by rw [arrV_read _ _ (jin hin)]; rfl) rfl rfl hd kk)
theorem v_zald {a n : Nat} {i : Int32} (hd : decode M.2.1 pc = .ok (.baload, 1)) (ha : a < hN h) (hs : hS h a = .inr (.boolean, n)) (hin : vp_in i n) (hq : pc + 1 = q) (kk : V Γ d M q L (.int (hI h a i.toNatClampNeg) :: st) h t) : V Γ d M pc L (.int i :: .ref a :: st) h t := by
  subst hq
  exact V.ctx kk (fun p e R s m args below meth c H locs cells slots Q ls n0 C hRl _ _ kk => W.zald C.1 C.2.1 (hRl.arr ha hs) (jT (by decide) C.2.2.2.2.2.2.2.1 n _) (fun q => by cases q) (by rw [arrV_size]; exact hin) (by rw [arrV_read _ _ (jin hin)]; rfl) rfl rfl hd kk)
theorem v_lald {a n : Nat} {i : Int32} (hd : decode M.2.1 pc = .ok (.laload, 1)) (ha : a < hN h) (hs : hS h a = .inr (.long, n)) (hin : vp_in i n) (hq : pc + 1 = q) (kk : V Γ d M q L (.long (hJ h a i.toNatClampNeg) :: st) h t) : V Γ d M pc L (.int i :: .ref a :: st) h t := by
  subst hq
  exact V.ctx kk (fun p e R s m args below meth c H locs cells slots Q ls n0 C hRl _ _ kk => W.lald C.1 C.2.1 (hRl.arr ha hs) (jT (by decide) C.2.2.2.2.2.2.2.1 n _) (fun q => by cases q) (by rw [arrV_size]; exact hin) (by rw [arrV_read _ _ (jin hin)]; rfl) rfl rfl hd kk)
theorem v_aald {a n : Nat} {i : Int32} {ty : FieldType} (hm : ty ∈ jTys) (hty : ty.isReference = true) (hr : isRty ty = true) (hd : decode M.2.1 pc = .ok (.aaload, 1)) (ha : a < hN h) (hs : hS h a = .inr (ty, n)) (hin : vp_in i n) {v : Value} (hv : va_rf (hR h a i.toNatClampNeg) = v) (hq : pc + 1 = q) (kk : V Γ d M q L (v :: st) h t) : V Γ d M pc L (.int i :: .ref a :: st) h t := by
  subst hq; subst hv
  exact V.ctx kk (fun p e R s m args below meth c H locs cells slots Q ls n0 C hRl _ _ kk => W.aald C.1 C.2.1 (hRl.arr ha hs) (jT hm C.2.2.2.2.2.2.2.1 n _) hty (fun q => by cases q) (by rw [arrV_size]; exact hin) (by rw [arrV_read _ _ (jin hin), aV_R hr]) rfl rfl hd kk)
theorem v_alen {a n : Nat} {ty : FieldType} (hm : ty ∈ jTys) (hd : decode M.2.1 pc = .ok (.arraylength, 1)) (ha : a < hN h) (hs : hS h a = .inr (ty, n)) (hq : pc + 1 = q) (kk : V Γ d M q L (.int (Int32.ofNat n) :: st) h t) : V Γ d M pc L (.ref a :: st) h t := by
  subst hq
  exact V.ctx kk (fun p e R s m args below meth c H locs cells slots Q ls n0 C hRl _ _ kk => W.alen (n := Int32.ofNat n) C.1 C.2.1 (hRl.arr ha hs) (jT hm C.2.2.2.2.2.2.2.1 n _) (by rw [arrV_size] <;> rfl) rfl rfl hd kk)
/-- a cell that is an array: one place changes -/
theorem V.ast {a n : Nat} {ty : FieldType} {i : Int32} {x x' : Value} {h' : Hp} {st' : List Value} (ha : a < hN h) (hs : hS h a = .inr (ty, n)) (e1 : hN h' = hN h) (e1' : hZ h' = hZ h) (e2 : ∀ b, hS h' b = hS h b) (e3 : ∀ b, b ≠ a → ∀ ty k, aV ty h' b k = aV ty h b k) (e4 : ∀ j, aV ty h' a j = if j = i.toNatClampNeg then x' else aV ty h a j) (e5 : fits ty (cV Γ x') = true) (kk : V Γ d M q L st' h' t)
    (f : ∀ (p : Program) (e : Env) (R : Room) (s : State) (m : MethodId) (args : Array Value) (below : List Frame) (meth : Method) (c : Code) (H : Heap) (locs : List Loc) (cells slots : Nat) (Q : State → Prop) (ls : Array Slot) (n0 : Nat), Cx Γ M p s m meth c n0 → Rl Γ h H → H[Γ.2.1 + a]? = some (arrV (Γ.2.2.2.1 ty) n (fun j => cV Γ (aV ty h a j))) →
      (∀ H' : Heap, H'[Γ.2.1 + a]? = some ((arrV (Γ.2.2.2.1 ty) n (fun j => cV Γ (aV ty h a j))).setSlot i.toNatClampNeg (cV Γ x')) → H'.size = H.size → (∀ q, q ≠ Γ.2.1 + a → H'[q]? = H[q]?) → W p Γ.1 e R s m args below meth c H' (locs ++ [⟨Γ.2.1 + a, i.toNatClampNeg⟩]) cells slots Q (F0 m q ls (st'.map (cV Γ)))) → W p Γ.1 e R s m args below meth c H locs cells slots Q (F0 m pc ls (st.map (cV Γ)))) : V Γ d M pc L st h t := by
  refine ⟨by rw [← e1, ← e1']; exact kk.1, fun p e s m args below meth c H locs ls n0 t0 C h1 h2 hRl hSl hl => ?_⟩
  refine f p e _ s m args below meth c H locs _ _ _ ls n0 C hRl (hRl.arr ha hs) (fun H' g2 g3 g4 => ?_)
  have hRl' : Rl Γ h' H' := hRl.put g3 g4 e1 e2 e3 (fun _ => by
    unfold cellOK
    rw [e2 a, hs]
    refine ⟨?_, fun j => ?_⟩
    · rw [g2, arrV_store]
      congr 2
      funext j
      by_cases hj : j = i.toNatClampNeg
      · simp [updV, e4, hj]
      · simp [updV, e4, hj]
    · rw [e4 j]
      by_cases hj : j = i.toNatClampNeg
      · rw [if_pos hj]; exact e5
      · rw [if_neg hj]; exact hRl.fit ha hs j)
  have := kk.2 p e s m args below meth c H' (locs ++ [⟨Γ.2.1 + a, i.toNatClampNeg⟩]) ls n0 t0 C (by rw [e1]; exact h1) (by rw [e1']; exact h2) hRl' (S_put hSl g3 g4) hl
  rw [e1, e1'] at this
  exact this
theorem v_iast {a n : Nat} {i x : Int32} (hd : decode M.2.1 pc = .ok (.iastore, 1)) (ha : a < hN h) (hs : hS h a = .inr (.int, n)) (hin : vp_in i n) (hq : pc + 1 = q) (kk : V Γ d M q L st (sI h a i.toNatClampNeg x) t) : V Γ d M pc L (.int x :: .int i :: .ref a :: st) h t := by
  subst hq
  exact V.ast (x' := .int x) (i := i) (h' := sI h a i.toNatClampNeg x) (x := .int x) ha hs rfl rfl (fun _ => rfl) (fun b hb ty j => aV_sI_ne hb ty j) (fun j => aV_sI _ h a _ x j rfl) rfl kk (fun p e R s m args below meth c H locs cells slots Q ls n0 C hRl hA kk => W.iast C.1 C.2.1 hA (jT (by decide) C.2.2.2.2.2.2.2.1 n _) (fun q => by cases q) (by rw [arrV_size]; exact hin) rfl rfl hd kk)
theorem v_bast {a n : Nat} {i x : Int32} (hd : decode M.2.1 pc = .ok (.bastore, 1)) (ha : a < hN h) (hs : hS h a = .inr (.byte, n)) (hin : vp_in i n) (hq : pc + 1 = q) (kk : V Γ d M q L st (sI h a i.toNatClampNeg x.toInt8.toInt32) t) : V Γ d M pc L (.int x :: .int i :: .ref a :: st) h t := by
  subst hq
  exact V.ast (x' := .int x.toInt8.toInt32) (i := i) (h' := sI h a i.toNatClampNeg x.toInt8.toInt32) (x := .int x) ha hs rfl rfl (fun _ => rfl) (fun b hb ty j => aV_sI_ne hb ty j) (fun j => aV_sI _ h a _ _ j rfl) (pk_fb x) kk (fun p e R s m args below meth c H locs cells slots Q ls n0 C hRl hA kk => W.bast C.1 C.2.1 hA (jT (by decide) C.2.2.2.2.2.2.2.1 n _) (fun q => by cases q) (by rw [arrV_size]; exact hin) rfl rfl hd kk)
theorem v_zast {a n : Nat} {i x : Int32} (hx : x = 0 ∨ x = 1) (hd : decode M.2.1 pc = .ok (.bastore, 1)) (ha : a < hN h) (hs : hS h a = .inr (.boolean, n)) (hin : vp_in i n) (hq : pc + 1 = q) (kk : V Γ d M q L st (sI h a i.toNatClampNeg x) t) : V Γ d M pc L (.int x :: .int i :: .ref a :: st) h t := by
  subst hq
  rcases hx with rfl | rfl
  · exact V.ast (x' := .int 0) (i := i) (h' := sI h a i.toNatClampNeg 0) (x := .int 0) ha hs rfl rfl (fun _ => rfl) (fun b hb ty j => aV_sI_ne hb ty j) (fun j => aV_sI _ h a _ _ j rfl) rfl kk (fun p e R s m args below meth c H locs cells slots Q ls n0 C hRl hA kk => W.zast C.1 C.2.1 hA (jT (by decide) C.2.2.2.2.2.2.2.1 n _) (fun q => by cases q) (by rw [arrV_size]; exact hin) rfl rfl hd kk)
  · exact V.ast (x' := .int 1) (i := i) (h' := sI h a i.toNatClampNeg 1) (x := .int 1) ha hs rfl rfl (fun _ => rfl) (fun b hb ty j => aV_sI_ne hb ty j) (fun j => aV_sI _ h a _ _ j rfl) rfl kk (fun p e R s m args below meth c H locs cells slots Q ls n0 C hRl hA kk => W.zast C.1 C.2.1 hA (jT (by decide) C.2.2.2.2.2.2.2.1 n _) (fun q => by cases q) (by rw [arrV_size]; exact hin) rfl rfl hd kk)
theorem v_last {a n : Nat} {i : Int32} {x : Int64} (hd : decode M.2.1 pc = .ok (.lastore, 1)) (ha : a < hN h) (hs : hS h a = .inr (.long, n)) (hin : vp_in i n) (hq : pc + 1 = q) (kk : V Γ d M q L st (sJ h a i.toNatClampNeg x) t) : V Γ d M pc L (.long x :: .int i :: .ref a :: st) h t := by
  subst hq
  exact V.ast (x' := .long x) (i := i) (h' := sJ h a i.toNatClampNeg x) (x := .long x) ha hs rfl rfl (fun _ => rfl) (fun b hb ty j => aV_sJ_ne hb ty j) (fun j => aV_sJ h a _ x j) rfl kk (fun p e R s m args below meth c H locs cells slots Q ls n0 C hRl hA kk => W.last C.1 C.2.1 hA (jT (by decide) C.2.2.2.2.2.2.2.1 n _) (fun q => by cases q) (by rw [arrV_size]; exact hin) rfl rfl hd kk)
/-- a Learnt is put into a row of them -/
theorem v_aast {a n x : Nat} {i : Int32} (hd : decode M.2.1 pc = .ok (.aastore, 1)) (ha : a < hN h) (hs : hS h a = .inr (.object RX3, n)) (hxn : x < hN h) (hxs : hS h x = .inl 3) (hin : vp_in i n) (hq : pc + 1 = q) (kk : V Γ d M q L st (sR h a i.toNatClampNeg (some x)) t) : V Γ d M pc L (.ref x :: .int i :: .ref a :: st) h t := by
  subst hq
  refine V.ast (x' := .ref x) (i := i) (h' := sR h a i.toNatClampNeg (some x)) (x := .ref x) ha hs rfl rfl (fun _ => rfl) (fun b hb ty j => aV_sR_ne hb ty j) (fun j => aV_sR _ h a _ (some x) j rfl) rfl kk (fun p e R s m args below meth c H locs cells slots Q ls n0 C hRl hA kk => ?_)
  have hE := C.2.2.2.2.2.2.2.1
  obtain ⟨r', hr', cellV, g1, g2, g3, -⟩ := hRl.obj hxn hxs
  cases (rfl : vwCl[3]? = some (RX3, TX3, 8)).symm.trans hr'
  have hcls := (hE.2.2.1 3 _ rfl).2
  obtain ⟨kA, comp, k1, k2, k3, -⟩ := (hE.2.2.2.1 (.object RX3) (by decide)).2
  have hcomp : comp = Γ.2.2.1.1 3 := Option.some.inj (k3.symm.trans hcls.1)
  subst hcomp
  obtain ⟨kC, hkC, hkk⟩ := hcls.2
  have h0 : ¬ i < 0 := fun q => hin (Or.inl q)
  exact W.aast C.1 C.2.1 hA (fun q h => by cases h) (fun h => by cases h) k1 k2 rfl hkC ⟨h0, by rw [arrV_size]; exact jin hin⟩ g1 (fun q h => by rw [g3] at h; cases h) (by rw [g2]; exact hkC) (by rw [g2]; exact va_assign ⟨hcls.1, kC, hkC, hkk⟩) rfl rfl hd kk
/-! what a method gives back -/
theorem v_ireturn {x : Int32} (hr : M.2.2.2 = some .int) (hd : decode M.2.1 pc = .ok (.ireturn, 1)) : V Γ d M pc L [.int x] h (some (.int x), h) :=
  ⟨⟨Nat.le_refl _, Nat.le_refl _⟩, fun p e s m args below meth c H locs ls n0 t0 C h1 h2 hRl hSl hl => W.iret C.1 C.2.1 (C.2.2.2.2.1.trans hr) (fun t ht hW => ⟨rfl, by rw [ht]; exact hRl, hSl.F ht⟩) hSl.2.2 hd C.2.2.2.2.2.1⟩
theorem v_zreturn {x : Int32} (hr : M.2.2.2 = some .boolean) (hx : x = 0 ∨ x = 1) (hd : decode M.2.1 pc = .ok (.ireturn, 1)) : V Γ d M pc L [.int x] h (some (.int x), h) :=
  ⟨⟨Nat.le_refl _, Nat.le_refl _⟩, fun p e s m args below meth c H locs ls n0 t0 C h1 h2 hRl hSl hl => W.zret C.1 C.2.1 (C.2.2.2.2.1.trans hr) (by rcases hx with rfl | rfl <;> rfl) (fun t ht hW => ⟨rfl, by rw [ht]; exact hRl, hSl.F ht⟩) hSl.2.2 hd C.2.2.2.2.2.1⟩
theorem v_lreturn {x : Int64} (hr : M.2.2.2 = some .long) (hd : decode M.2.1 pc = .ok (.lreturn, 1)) : V Γ d M pc L [.long x] h (some (.long x), h) :=
  ⟨⟨Nat.le_refl _, Nat.le_refl _⟩, fun p e s m args below meth c H locs ls n0 t0 C h1 h2 hRl hSl hl => W.lret C.1 C.2.1 (C.2.2.2.2.1.trans hr) (fun t ht hW => ⟨rfl, by rw [ht]; exact hRl, hSl.F ht⟩) hSl.2.2 hd C.2.2.2.2.2.1⟩
theorem v_areturn {x : Nat} {rt : FieldType} (hr : M.2.2.2 = some rt) (hrt : (∃ n, rt = .object n) ∨ ∃ t, rt = .array t) (hd : decode M.2.1 pc = .ok (.areturn, 1)) : V Γ d M pc L [.ref x] h (some (.ref x), h) :=
  ⟨⟨Nat.le_refl _, Nat.le_refl _⟩, fun p e s m args below meth c H locs ls n0 t0 C h1 h2 hRl hSl hl => W.aret C.1 C.2.1 (C.2.2.2.2.1.trans hr) hrt (Or.inr ⟨_, rfl⟩) (fun t ht hW => ⟨rfl, by rw [ht]; exact hRl, hSl.F ht⟩) hSl.2.2 hd C.2.2.2.2.2.1⟩
theorem v_return (hr : M.2.2.2 = none) (hd : decode M.2.1 pc = .ok (.return_, 1)) : V Γ d M pc L [] h (none, h) :=
  ⟨⟨Nat.le_refl _, Nat.le_refl _⟩, fun p e s m args below meth c H locs ls n0 t0 C h1 h2 hRl hSl hl => W.vret C.1 C.2.1 (C.2.2.2.2.1.trans hr) (fun t ht hW => ⟨rfl, by rw [ht]; exact hRl, hSl.F ht⟩) hSl.2.2 hd C.2.2.2.2.2.1⟩
end VA

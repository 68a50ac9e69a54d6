/-! what the rows of the classes say -/
def clOK (ci : Nat) (r : vw_C) : Prop := r.2.2 = szC ci ∧ (∀ k, k < r.2.2 → parseFieldDescriptor (r.2.1 k).2.2.1 = some (tyC ci k)) ∧ (∀ a, a < r.2.2 → ∀ b, b < r.2.2 → a ≠ b → (r.2.1 a).2.1 ≠ (r.2.1 b).2.1) ∧ (∀ w ∈ u_ws r.1 r.2.1 r.2.2, w ∈ lw_tbl) ∧ (∀ w ∈ u_ws r.1 r.2.1 r.2.2, goodWord w = true)
theorem cl_ok {ci : Nat} {r : vw_C} (h : vwCl[ci]? = some r) : clOK ci r := by
  match ci, h with
  | 0, h => cases h; exact ⟨rfl, tyX0_ok, nmX0, inX0, inG0⟩
  | 1, h => cases h; exact ⟨rfl, tyX1_ok, nmX1, inX1, inG1⟩
  | 2, h => cases h; exact ⟨rfl, tyX2_ok, nmX2, inX2, inG2⟩
  | 3, h => cases h; exact ⟨rfl, tyX3_ok, nmX3, inX3, inG3⟩
  | 4, h => cases h; exact ⟨rfl, tyX4_ok, nmX4, inX4, inG4⟩
  | 5, h => cases h; exact ⟨rfl, tyX5_ok, nmX5, inX5, inG5⟩
  | 6, h => cases h; exact ⟨rfl, tyX6_ok, nmX6, inX6, inG6⟩
  | 7, h => cases h; exact ⟨rfl, tyX7_ok, nmX7, inX7, inG7⟩
  | 8, h => cases h; exact ⟨rfl, tyX8_ok, nmX8, inX8, inG8⟩
  | 9, h => cases h; exact ⟨rfl, tyX9_ok, nmX9, inX9, inG9⟩
  | 10, h => cases h; exact ⟨rfl, tyX10_ok, nmX10, inX10, inG10⟩
  | 11, h => cases h; exact ⟨rfl, tyX11_ok, nmX11, inX11, inG11⟩
  | 12, h => cases h; exact ⟨rfl, tyX12_ok, nmX12, inX12, inG12⟩
  | ci + 13, h => simp [vwCl] at h
theorem cl_ws {Γ : Gm} {s : State} (hE : En Γ s) {ci : Nat} {r : vw_C} (h : vwCl[ci]? = some r) (args : Array Value) : ∀ w ∈ u_ws r.1 r.2.1 r.2.2, w.before args s = true :=
  fun w hw => hE.w ((cl_ok h).2.2.2.1 w hw) ((cl_ok h).2.2.2.2 w hw) args
theorem Rl.obj {Γ : Gm} {h : Hp} {H : Heap} {a ci : Nat} (hR : Rl Γ h H) (ha : a < hN h) (hs : hS h a = .inl ci) : ∃ r : vw_C, vwCl[ci]? = some r ∧ t_OB (Γ.2.1 + a) (Γ.2.2.1.1 ci) r.2.2 (Γ.2.2.1.2 ci) H (fun k => cV Γ (aV (tyC ci k) h a k)) := by
  have := hR.2 a ha
  unfold cellOK at this
  rw [hs] at this
  exact this
theorem Rl.arr {Γ : Gm} {h : Hp} {H : Heap} {a n : Nat} {ty : FieldType} (hR : Rl Γ h H) (ha : a < hN h) (hs : hS h a = .inr (ty, n)) : H[Γ.2.1 + a]? = some (arrV (Γ.2.2.2.1 ty) n (fun j => cV Γ (aV ty h a j))) := by
  have := hR.2 a ha
  unfold cellOK at this
  rw [hs] at this
  exact this.1
theorem Rl.fit {Γ : Gm} {h : Hp} {H : Heap} {a n : Nat} {ty : FieldType} (hR : Rl Γ h H) (ha : a < hN h) (hs : hS h a = .inr (ty, n)) (j : Nat) : fits ty (cV Γ (aV ty h a j)) = true := by
  have := hR.2 a ha
  unfold cellOK at this
  rw [hs] at this
  exact this.2 j
/-- one cell changes -/
theorem Rl.put {Γ : Gm} {h h' : Hp} {H H' : Heap} {a : Nat} (hR : Rl Γ h H) (hz : H'.size = H.size) (ho : ∀ q, q ≠ Γ.2.1 + a → H'[q]? = H[q]?) (hn : hN h' = hN h) (hs : ∀ b, hS h' b = hS h b) (hv : ∀ b, b ≠ a → ∀ ty k, aV ty h' b k = aV ty h b k) (hc : a < hN h → cellOK Γ h' a H') : Rl Γ h' H' := by
  refine ⟨by rw [hz, hn]; exact hR.1, fun b hb => ?_⟩
  rw [hn] at hb
  by_cases hba : b = a
  · subst hba; exact hc hb
  · have h0 := hR.2 b hb
    unfold cellOK at h0 ⊢
    rw [hs b]
    have hne : Γ.2.1 + b ≠ Γ.2.1 + a := by omega
    cases hsb : hS h b with
    | inl ci =>
      rw [hsb] at h0
      obtain ⟨r, h1, h2⟩ := h0
      refine ⟨r, h1, ?_⟩
      have e : (fun k => cV Γ (aV (tyC ci k) h' b k)) = (fun k => cV Γ (aV (tyC ci k) h b k)) := funext fun k => by rw [hv b hba]
      rw [e]
      exact h2.kept (ho _ hne)
    | inr q =>
      rw [hsb] at h0
      have e : (fun j => cV Γ (aV q.1 h' b j)) = (fun j => cV Γ (aV q.1 h b j)) := funext fun k => by rw [hv b hba]
      refine ⟨?_, fun j => ?_⟩
      · rw [e, ho _ hne]
        exact h0.1
      · rw [hv b hba]
        exact h0.2 j
theorem S_put {Γ : Gm} {H0 H H1 : Heap} {locs : List Loc} {a k : Nat} (hS0 : va_S (fun q => Γ.2.1 ≤ q) H0 H locs) (z : H1.size = H.size) (oq : ∀ q : Nat, q ≠ Γ.2.1 + a → H1[q]? = H[q]?) : va_S (fun q => Γ.2.1 ≤ q) H0 H1 (locs ++ [⟨Γ.2.1 + a, k⟩]) := hS0.put z oq (Nat.le_add_right _ _)
/-! values of a place -/
theorem aV_int (h : Hp) (a k : Nat) : aV .int h a k = .int (hI h a k) := rfl
theorem aV_sI_ne {h : Hp} {a k : Nat} {v : Int32} {b : Nat} (hb : b ≠ a) (ty : FieldType) (j : Nat) : aV ty (sI h a k v) b j = aV ty h b j := by
  cases ty <;> simp [aV, sI, hI, hJ, hR, hb]
theorem aV_sJ_ne {h : Hp} {a k : Nat} {v : Int64} {b : Nat} (hb : b ≠ a) (ty : FieldType) (j : Nat) : aV ty (sJ h a k v) b j = aV ty h b j := by
  cases ty <;> simp [aV, sJ, hI, hJ, hR, hb]
theorem aV_sR_ne {h : Hp} {a k : Nat} {v : Option Nat} {b : Nat} (hb : b ≠ a) (ty : FieldType) (j : Nat) : aV ty (sR h a k v) b j = aV ty h b j := by
  cases ty <;> simp [aV, sR, hI, hJ, hR, hb]
def isIty : FieldType → Bool
  | .int => true | .byte => true | .boolean => true | .char => true | .short => true | _ => false
def isRty : FieldType → Bool
  | .object _ => true | .array _ => true | _ => false
theorem aV_I {ty : FieldType} (ht : isIty ty = true) (h : Hp) (a k : Nat) : aV ty h a k = .int (hI h a k) := by cases ty <;> first | rfl | cases ht
theorem aV_R {ty : FieldType} (ht : isRty ty = true) (h : Hp) (a k : Nat) : aV ty h a k = va_rf (hR h a k) := by cases ty <;> first | rfl | cases ht
theorem aV_sI (ty : FieldType) (h : Hp) (a k : Nat) (v : Int32) (j : Nat) (ht : isIty ty = true) : aV ty (sI h a k v) a j = if j = k then .int v else aV ty h a j := by
  rw [aV_I ht, aV_I ht]
  by_cases hj : j = k <;> simp [sI, hI, hj]
theorem aV_sI' (ty : FieldType) (h : Hp) (a k : Nat) (v : Int32) (j : Nat) (hj : j ≠ k) : aV ty (sI h a k v) a j = aV ty h a j := by
  cases ty <;> simp [aV, sI, hI, hJ, hR, hj]
theorem aV_sJ (h : Hp) (a k : Nat) (v : Int64) (j : Nat) : aV .long (sJ h a k v) a j = if j = k then .long v else aV .long h a j := by
  by_cases hj : j = k <;> simp [aV, sJ, hJ, hj]
theorem aV_sJ' (ty : FieldType) (h : Hp) (a k : Nat) (v : Int64) (j : Nat) (hj : j ≠ k) : aV ty (sJ h a k v) a j = aV ty h a j := by
  cases ty <;> simp [aV, sJ, hI, hJ, hR, hj]
theorem aV_sR (ty : FieldType) (h : Hp) (a k : Nat) (v : Option Nat) (j : Nat) (ht : isRty ty = true) : aV ty (sR h a k v) a j = if j = k then va_rf v else aV ty h a j := by
  rw [aV_R ht, aV_R ht]
  by_cases hj : j = k <;> simp [sR, hR, hj]
theorem aV_sR' (ty : FieldType) (h : Hp) (a k : Nat) (v : Option Nat) (j : Nat) (hj : j ≠ k) : aV ty (sR h a k v) a j = aV ty h a j := by
  cases ty <;> simp [aV, sR, hI, hJ, hR, hj]
section VH
variable {Γ : Gm} {d : Nat} {M : MI} {pc q : Nat} {L : List (Nat × Value)} {st : List Value} {h : Hp} {t : Option Value × Hp}
/-- a field is read: class number ci, place k -/
theorem v_get {a ci k idx : Nat} {r : vw_C} (hd : decode M.2.1 pc = .ok (.getfield idx, 3)) (hw : Cond.fieldLink M.1.cls idx (r.2.1 k).1 (r.2.1 k).2.1 (r.2.1 k).2.2.1 ∈ lw_tbl) (hc : vwCl[ci]? = some r) (hk : k < r.2.2) (ha : a < hN h) (hs : hS h a = .inl ci) {v : Value} (hv : aV (tyC ci k) h a k = v) (hq : pc + 3 = q) (kk : V Γ d M q L (v :: st) h t) : V Γ d M pc L (.ref a :: st) h t := by
  subst hq; subst hv
  refine V.ctx kk (fun p e R s m args below meth c H locs cells slots Q ls n0 C hRl _ _ kk => ?_)
  have hE := C.2.2.2.2.2.2.2.1
  obtain ⟨r', h1, cell, q1, q2, q3, q4⟩ := hRl.obj ha hs
  cases hc.symm.trans h1
  obtain ⟨hS1, hfc, kC, hkC, hkind⟩ := hE.2.2.1 ci _ hc
  obtain ⟨cf, kf, fi, f, hi, hsl⟩ := hS1 k hk
  refine W.getf C.1 C.2.1 C.2.2.2.1 (hE.w hw rfl args) hi (u_facts hfc hkC (u_lays (cl_ws hE hc args) (fun _ h => h) hk) hi).1 q1 (by rw [q3]; exact fun h => by cases h) (v := cV Γ (aV (tyC ci k) h a k)) ?_ rfl rfl hd kk
  rw [hsl, q4 k hk]
/-- a field is written, one that is not final -/
theorem V.putf {a ci k idx : Nat} {r : vw_C} {x : Value} {h' : Hp} (hd : decode M.2.1 pc = .ok (.putfield idx, 3)) (hw : Cond.fieldLink M.1.cls idx (r.2.1 k).1 (r.2.1 k).2.1 (r.2.1 k).2.2.1 ∈ lw_tbl) (hc : vwCl[ci]? = some r) (hk : k < r.2.2) (hfin : (r.2.1 k).2.2.2 = false ∨ ((r.2.1 k).2.2.2 = true ∧ M.1.name = "<init>" ∧ (r.2.1 k).1 = M.1.cls)) (ha : a < hN h) (hs : hS h a = .inl ci)
    (hn : narrow (tyC ci k) (cV Γ x) = cV Γ x) (hfit : fits (tyC ci k) (cV Γ x) = true) (e1 : hN h' = hN h) (e1' : hZ h' = hZ h) (e2 : ∀ b, hS h' b = hS h b) (e3 : ∀ b, b ≠ a → ∀ ty k, aV ty h' b k = aV ty h b k) (e4 : ∀ j, j ≠ k → aV (tyC ci j) h' a j = aV (tyC ci j) h a j) (e5 : aV (tyC ci k) h' a k = x) (hq : pc + 3 = q) (kk : V Γ d M q L st h' t) : V Γ d M pc L (x :: .ref a :: st) h t := by
  subst hq
  refine ⟨by rw [← e1, ← e1']; exact kk.1, fun p e s m args below meth c H locs ls n0 t0 C h1 h2 hRl hSl hl => ?_⟩
  have hE := C.2.2.2.2.2.2.2.1
  have hts := cl_ws hE hc args
  obtain ⟨r', g1, cell, q1, q2, q3, q4⟩ := hRl.obj ha hs
  cases hc.symm.trans g1
  obtain ⟨hS1, hfc, kC, hkC, hkind⟩ := hE.2.2.1 ci _ hc
  obtain ⟨cf, kf, fi, f, hi, hsl⟩ := hS1 k hk
  have hap : ∀ x y, x < r.2.2 → y < r.2.2 → x ≠ y → (Γ.2.2.1.2 ci) x ≠ (Γ.2.2.1.2 ci) y := by
    intro x y hx hy hne
    obtain ⟨_, _, _, fa, hia, ea⟩ := hS1 x hx
    obtain ⟨_, _, _, fb, hib, eb⟩ := hS1 y hy
    rw [← ea, ← eb]
    refine u_apart (u_lays hts (fun _ h => h) hx) (u_lays hts (fun _ h => h) hy) hia hib ?_
    rw [(State.fieldFound?_type hia ((cl_ok hc).2.1 x hx)).1, (State.fieldFound?_type hib ((cl_ok hc).2.1 y hy)).1]
    exact (cl_ok hc).2.2.1 x hx y hy hne
  have hst := (u_facts hfc hkC (u_lays hts (fun _ h => h) hk) hi).1
  have hlay := hts _ (u_in_lay hk)
  unfold u_lay at hlay
  have fin : ∀ H' : Heap, H'[Γ.2.1 + a]? = some (cell.setSlot f.slot (cV Γ x)) → H'.size = H.size → (∀ q, q ≠ Γ.2.1 + a → H'[q]? = H[q]?) → W p Γ.1 e (rmD d (hN t.2 - n0) (hZ t.2 - t0)) s m args below meth c H' (locs ++ [⟨Γ.2.1 + a, f.slot⟩]) (hN h - n0) (hZ h - t0) (MQ below (Qt Γ t) args s (hN t.2 - n0) (hZ t.2 - t0) (fun q => Γ.2.1 ≤ q)) (F0 m (pc + 3) ls (st.map (cV Γ))) := by
    intro H' g2 g3 g4
    have hRl' : Rl Γ h' H' := hRl.put g3 g4 e1 e2 e3 (fun _ => by
      unfold cellOK
      rw [e2 a, hs]
      refine ⟨r, hc, t_OB.to (V := updV (fun k => cV Γ (aV (tyC ci k) h a k)) k (cV Γ x)) ⟨_, g2, q2, q3, ?_⟩ (fun j hj => ?_)⟩
      · rw [hsl]; exact t_set q4 hap hk (cV Γ x)
      · by_cases hjk : j = k
        · subst hjk; simp [updV, e5]
        · simp [updV, hjk, e4 j hjk])
    have := kk.2 p e s m args below meth c H' (locs ++ [⟨Γ.2.1 + a, f.slot⟩]) ls n0 t0 C (by rw [e1]; exact h1) (by rw [e1']; exact h2) hRl' (S_put hSl g3 g4) hl
    rw [e1, e1'] at this
    exact this
  rcases hfin with hfin | ⟨hfin, hin, hdecl⟩
  · rw [if_neg (by rw [hfin]; decide)] at hlay
    have h6 := u_store hfc hkC hkind hlay hi ((cl_ok hc).2.1 k hk) hn hfit
    exact W.putK C.1 C.2.1 (f := f) ⟨C.2.2.2.1, hE.w hw rfl args, ⟨_, _, _, hi⟩, hst⟩ (by rw [q2]; exact h6) q1 q3 (by rw [hsl]; exact k2_hasslot (q4 k hk)) rfl rfl hd fin
  · rw [if_pos hfin] at hlay
    have hcf : m.cls = cf := by
      obtain ⟨_, _, c', _, _, _, -, -, hf', -, -, -, hown2, -⟩ := Cond.laysFinal_spec hlay
      have e1 : c' = cf := by have := hi.symm.trans hf'; simp at this; exact this.1.symm
      rw [hdecl] at hown2
      rw [← e1]; exact Option.some.inj (C.2.2.2.1.symm.trans hown2)
    have h6 := u_fits hfc hkC hkind (Or.inr hlay) hi ((cl_ok hc).2.1 k hk) hn hfit
    exact W.putFinK C.1 C.2.1 C.2.2.2.1 (hE.w hw rfl args) hi hst hcf ((C.2.2.2.2.2.2.1 hin).trans hin) (by rw [q2]; exact h6) q1 q3 (by rw [hsl]; exact k2_hasslot (q4 k hk)) rfl rfl hd fin
theorem v_putI {a ci k idx : Nat} {r : vw_C} {x : Int32} (hd : decode M.2.1 pc = .ok (.putfield idx, 3)) (hw : Cond.fieldLink M.1.cls idx (r.2.1 k).1 (r.2.1 k).2.1 (r.2.1 k).2.2.1 ∈ lw_tbl) (hc : vwCl[ci]? = some r) (hk : k < r.2.2) (hfin : (r.2.1 k).2.2.2 = false ∨ ((r.2.1 k).2.2.2 = true ∧ M.1.name = "<init>" ∧ (r.2.1 k).1 = M.1.cls)) (ht : tyC ci k = .int) (ha : a < hN h) (hs : hS h a = .inl ci) (hq : pc + 3 = q) (kk : V Γ d M q L st (sI h a k x) t) : V Γ d M pc L (.int x :: .ref a :: st) h t :=
  V.putf (h' := sI h a k x) hd hw hc hk hfin ha hs (by rw [ht]; rfl) (by rw [ht]; rfl) rfl rfl (fun _ => rfl) (fun b hb ty j => aV_sI_ne hb ty j) (fun j hj => aV_sI' _ h a k x j hj) (by rw [ht, aV_sI _ _ _ _ _ _ rfl, if_pos rfl]) hq kk
theorem v_putZ {a ci k idx : Nat} {r : vw_C} {x : Int32} (hd : decode M.2.1 pc = .ok (.putfield idx, 3)) (hw : Cond.fieldLink M.1.cls idx (r.2.1 k).1 (r.2.1 k).2.1 (r.2.1 k).2.2.1 ∈ lw_tbl) (hc : vwCl[ci]? = some r) (hk : k < r.2.2) (hfin : (r.2.1 k).2.2.2 = false ∨ ((r.2.1 k).2.2.2 = true ∧ M.1.name = "<init>" ∧ (r.2.1 k).1 = M.1.cls)) (ht : tyC ci k = .boolean) (hx : x = 0 ∨ x = 1) (ha : a < hN h) (hs : hS h a = .inl ci) (hq : pc + 3 = q) (kk : V Γ d M q L st (sI h a k x) t) : V Γ d M pc L (.int x :: .ref a :: st) h t :=
  V.putf (h' := sI h a k x) hd hw hc hk hfin ha hs (by rw [ht]; rcases hx with rfl | rfl <;> rfl) (by rw [ht]; rcases hx with rfl | rfl <;> rfl) rfl rfl (fun _ => rfl) (fun b hb ty j => aV_sI_ne hb ty j) (fun j hj => aV_sI' _ h a k x j hj) (by rw [ht, aV_sI _ _ _ _ _ _ rfl, if_pos rfl]) hq kk
theorem v_putR {a ci k idx : Nat} {r : vw_C} {x : Nat} (hd : decode M.2.1 pc = .ok (.putfield idx, 3)) (hw : Cond.fieldLink M.1.cls idx (r.2.1 k).1 (r.2.1 k).2.1 (r.2.1 k).2.2.1 ∈ lw_tbl) (hc : vwCl[ci]? = some r) (hk : k < r.2.2) (hfin : (r.2.1 k).2.2.2 = false ∨ ((r.2.1 k).2.2.2 = true ∧ M.1.name = "<init>" ∧ (r.2.1 k).1 = M.1.cls)) (ht : isRty (tyC ci k) = true) (ha : a < hN h) (hs : hS h a = .inl ci) (hq : pc + 3 = q) (kk : V Γ d M q L st (sR h a k (some x)) t) : V Γ d M pc L (.ref x :: .ref a :: st) h t :=
  V.putf (h' := sR h a k (some x)) hd hw hc hk hfin ha hs (by generalize tyC ci k = T at ht; cases T <;> first | rfl | cases ht) (by generalize tyC ci k = T at ht; cases T <;> first | rfl | cases ht) rfl rfl (fun _ => rfl) (fun b hb ty j => aV_sR_ne hb ty j) (fun j hj => aV_sR' _ h a k (some x) j hj) (by rw [aV_sR _ _ _ _ _ _ ht, if_pos rfl]; rfl) hq kk
end VH

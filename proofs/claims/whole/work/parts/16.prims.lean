/-! the steps that can fail, as values; each with its rule -/
theorem bs {α β : Type} {o : Option α} {f : α → Option β} {b : β} (H : o.bind f = some b) : ∃ a, o = some a ∧ f a = some b := Option.bind_eq_some_iff.mp H
theorem ip {c : Prop} [Decidable c] {α : Type} {A B X : α} (hc : c) (H : (if c then A else B) = X) : A = X := by rw [if_pos hc] at H; exact H
theorem ine {c : Prop} [Decidable c] {α : Type} {A B X : α} (hc : ¬ c) (H : (if c then A else B) = X) : B = X := by rw [if_neg hc] at H; exact H
def lp {σ ε : Type} (body : σ → Option (σ ⊕ ε)) : Nat → σ → Option ε
  | 0, _ => none
  | n + 1, s => (body s).bind fun r => match r with
    | .inl s' => lp body n s'
    | .inr e => some e
def FU : Nat := 1000000
theorem lp_V {σ ε : Type} {body : σ → Option (σ ⊕ ε)} {P : σ → Prop} {E : ε → Prop} (hb : ∀ s r, body s = some r → (∀ s', r = .inl s' → P s') → (∀ e, r = .inr e → E e) → P s) : ∀ n s e, lp body n s = some e → E e → P s := by
  intro n
  induction n with
  | zero => intro s e h; cases h
  | succ n ih =>
    intro s e h hE
    obtain ⟨r, h1, h2⟩ := bs h
    refine hb s r h1 (fun s' hs' => ?_) (fun e' he' => ?_)
    · subst hs'; exact ih s' e h2 hE
    · subst he'; cases h2; exact hE
def gO (h : Hp) (ci a : Nat) : Option Unit := if a < hN h ∧ hS h a = .inl ci then some () else none
theorem gO_sp {h : Hp} {ci a : Nat} {u : Unit} (e : gO h ci a = some u) : a < hN h ∧ hS h a = .inl ci := by
  unfold gO at e; split at e
  · assumption
  · cases e
def gI (h : Hp) (ci a k : Nat) : Option Int32 := (gO h ci a).bind fun _ => some (hI h a k)
def gQ (h : Hp) (ci a k : Nat) : Option (Option Nat) := (gO h ci a).bind fun _ => some (hR h a k)
def gR (h : Hp) (ci a k : Nat) : Option Nat := (gO h ci a).bind fun _ => hR h a k
def pI (h : Hp) (ci a k : Nat) (v : Int32) : Option Hp := (gO h ci a).bind fun _ => some (sI h a k v)
def pZ (h : Hp) (ci a k : Nat) (v : Int32) : Option Hp := (gO h ci a).bind fun _ => if v = 0 ∨ v = 1 then some (sI h a k v) else none
def pR (h : Hp) (ci a k : Nat) (v : Nat) : Option Hp := (gO h ci a).bind fun _ => some (sR h a k (some v))
def ga (h : Hp) (ty : FieldType) (a : Nat) : Option Nat := match hS h a with
  | .inr q => if a < hN h ∧ q.1 = ty then some q.2 else none
  | .inl _ => none
theorem ga_sp {h : Hp} {ty : FieldType} {a n : Nat} (e : ga h ty a = some n) : a < hN h ∧ hS h a = .inr (ty, n) := by
  unfold ga at e
  cases hs : hS h a with
  | inl c => rw [hs] at e; cases e
  | inr q =>
    rw [hs] at e
    simp only at e
    split at e
    · rename_i hc
      cases e
      exact ⟨hc.1, by rw [← hc.2]⟩
    · cases e
def ix (i : Int32) (n : Nat) : Option Nat := if i < 0 ∨ n ≤ i.toNatClampNeg then none else some i.toNatClampNeg
theorem ix_sp {i : Int32} {n j : Nat} (e : ix i n = some j) : vp_in i n ∧ j = i.toNatClampNeg := by
  unfold ix at e
  split at e
  · cases e
  · cases e; exact ⟨by assumption, rfl⟩
def lI (h : Hp) (ty : FieldType) (a : Nat) (i : Int32) : Option Int32 := (ga h ty a).bind fun n => (ix i n).bind fun j => some (hI h a j)
def lJ (h : Hp) (a : Nat) (i : Int32) : Option Int64 := (ga h .long a).bind fun n => (ix i n).bind fun j => some (hJ h a j)
def lQ (h : Hp) (ty : FieldType) (a : Nat) (i : Int32) : Option (Option Nat) := (ga h ty a).bind fun n => (ix i n).bind fun j => some (hR h a j)
def lR (h : Hp) (ty : FieldType) (a : Nat) (i : Int32) : Option Nat := (ga h ty a).bind fun n => (ix i n).bind fun j => hR h a j
def tI (h : Hp) (a : Nat) (i v : Int32) : Option Hp := (ga h .int a).bind fun n => (ix i n).bind fun j => some (sI h a j v)
def tB (h : Hp) (a : Nat) (i v : Int32) : Option Hp := (ga h .byte a).bind fun n => (ix i n).bind fun j => some (sI h a j v.toInt8.toInt32)
def tZ (h : Hp) (a : Nat) (i v : Int32) : Option Hp := (ga h .boolean a).bind fun n => (ix i n).bind fun j => if v = 0 ∨ v = 1 then some (sI h a j v) else none
def tJ (h : Hp) (a : Nat) (i : Int32) (v : Int64) : Option Hp := (ga h .long a).bind fun n => (ix i n).bind fun j => some (sJ h a j v)
def tR (h : Hp) (a : Nat) (i : Int32) (v : Nat) : Option Hp := (ga h (.object RX3) a).bind fun n => (ix i n).bind fun j => (gO h 3 v).bind fun _ => some (sR h a j (some v))
def aL (h : Hp) (ty : FieldType) (a : Nat) : Option Int32 := (ga h ty a).bind fun n => some (Int32.ofNat n)
def nA (h : Hp) (ty : FieldType) (n : Int32) : Option Hp := if n < 0 ∨ 536870912 < n.toNatClampNeg * 8 then none else some (nw h (.inr (ty, n.toNatClampNeg)))
def bz (x : Int32) : Option Int32 := if x = 0 ∨ x = 1 then some x else none
theorem bz_sp {x y : Int32} (e : bz x = some y) : y = x ∧ (x = 0 ∨ x = 1) := by
  unfold bz at e; split at e
  · cases e; exact ⟨rfl, by assumption⟩
  · cases e
def kI (h : Hp) (ty : FieldType) (a0 : Nat) (sp : Int32) (a : Nat) (dp n : Int32) : Option Hp := (ga h ty a0).bind fun n0 => (ga h ty a).bind fun n1 => if sp < 0 ∨ dp < 0 ∨ n < 0 ∨ n0 < sp.toNatClampNeg + n.toNatClampNeg ∨ n1 < dp.toNatClampNeg + n.toNatClampNeg then none else some (cpI h a0 sp.toNatClampNeg a dp.toNatClampNeg n.toNatClampNeg)
def kJ (h : Hp) (a0 : Nat) (sp : Int32) (a : Nat) (dp n : Int32) : Option Hp := (ga h .long a0).bind fun n0 => (ga h .long a).bind fun n1 => if sp < 0 ∨ dp < 0 ∨ n < 0 ∨ n0 < sp.toNatClampNeg + n.toNatClampNeg ∨ n1 < dp.toNatClampNeg + n.toNatClampNeg then none else some (cpJ h a0 sp.toNatClampNeg a dp.toNatClampNeg n.toNatClampNeg)
section VU
variable {Γ : Gm} {d : Nat} {M : MI} {pc q : Nat} {L : List (Nat × Value)} {st : List Value} {h h1 : Hp} {t : Option Value × Hp}
theorem u_gI {a ci k idx : Nat} {r : vw_C} {x : Int32} (e : gI h ci a k = some x) (hd : decode M.2.1 pc = .ok (.getfield idx, 3)) (hw : Cond.fieldLink M.1.cls idx (r.2.1 k).1 (r.2.1 k).2.1 (r.2.1 k).2.2.1 ∈ lw_tbl) (hc : vwCl[ci]? = some r) (hk : k < r.2.2) (ht : isIty (tyC ci k) = true) (hq : pc + 3 = q) (kk : V Γ d M q L (.int x :: st) h t) : V Γ d M pc L (.ref a :: st) h t := by
  obtain ⟨u, e1, e2⟩ := bs e
  cases e2
  exact v_get hd hw hc hk (gO_sp e1).1 (gO_sp e1).2 (aV_I ht h a k) hq kk
theorem u_gR {a ci k idx : Nat} {r : vw_C} {x : Nat} (e : gR h ci a k = some x) (hd : decode M.2.1 pc = .ok (.getfield idx, 3)) (hw : Cond.fieldLink M.1.cls idx (r.2.1 k).1 (r.2.1 k).2.1 (r.2.1 k).2.2.1 ∈ lw_tbl) (hc : vwCl[ci]? = some r) (hk : k < r.2.2) (ht : isRty (tyC ci k) = true) (hq : pc + 3 = q) (kk : V Γ d M q L (.ref x :: st) h t) : V Γ d M pc L (.ref a :: st) h t := by
  obtain ⟨u, e1, e2⟩ := bs e
  exact v_get hd hw hc hk (gO_sp e1).1 (gO_sp e1).2 (by rw [aV_R ht, e2]; rfl) hq kk
theorem u_gQ {a ci k idx : Nat} {r : vw_C} {x : Option Nat} (e : gQ h ci a k = some x) (hd : decode M.2.1 pc = .ok (.getfield idx, 3)) (hw : Cond.fieldLink M.1.cls idx (r.2.1 k).1 (r.2.1 k).2.1 (r.2.1 k).2.2.1 ∈ lw_tbl) (hc : vwCl[ci]? = some r) (hk : k < r.2.2) (ht : isRty (tyC ci k) = true) (hq : pc + 3 = q) (kk : V Γ d M q L (va_rf x :: st) h t) : V Γ d M pc L (.ref a :: st) h t := by
  obtain ⟨u, e1, e2⟩ := bs e
  cases e2
  exact v_get hd hw hc hk (gO_sp e1).1 (gO_sp e1).2 (aV_R ht h a k) hq kk
theorem u_pI {a ci k idx : Nat} {r : vw_C} {x : Int32} (e : pI h ci a k x = some h1) (hd : decode M.2.1 pc = .ok (.putfield idx, 3)) (hw : Cond.fieldLink M.1.cls idx (r.2.1 k).1 (r.2.1 k).2.1 (r.2.1 k).2.2.1 ∈ lw_tbl) (hc : vwCl[ci]? = some r) (hk : k < r.2.2) (hfin : (r.2.1 k).2.2.2 = false ∨ ((r.2.1 k).2.2.2 = true ∧ M.1.name = "<init>" ∧ (r.2.1 k).1 = M.1.cls)) (ht : tyC ci k = .int) (hq : pc + 3 = q) (kk : V Γ d M q L st h1 t) : V Γ d M pc L (.int x :: .ref a :: st) h t := by
  obtain ⟨u, e1, e2⟩ := bs e
  cases e2
  exact v_putI hd hw hc hk hfin ht (gO_sp e1).1 (gO_sp e1).2 hq kk
theorem u_pZ {a ci k idx : Nat} {r : vw_C} {x : Int32} (e : pZ h ci a k x = some h1) (hd : decode M.2.1 pc = .ok (.putfield idx, 3)) (hw : Cond.fieldLink M.1.cls idx (r.2.1 k).1 (r.2.1 k).2.1 (r.2.1 k).2.2.1 ∈ lw_tbl) (hc : vwCl[ci]? = some r) (hk : k < r.2.2) (hfin : (r.2.1 k).2.2.2 = false ∨ ((r.2.1 k).2.2.2 = true ∧ M.1.name = "<init>" ∧ (r.2.1 k).1 = M.1.cls)) (ht : tyC ci k = .boolean) (hq : pc + 3 = q) (kk : V Γ d M q L st h1 t) : V Γ d M pc L (.int x :: .ref a :: st) h t := by
  obtain ⟨u, e1, e2⟩ := bs e
  split at e2
  · rename_i hx
    cases e2
    exact v_putZ hd hw hc hk hfin ht hx (gO_sp e1).1 (gO_sp e1).2 hq kk
  · cases e2
theorem u_pR {a ci k idx : Nat} {r : vw_C} {x : Nat} (e : pR h ci a k x = some h1) (hd : decode M.2.1 pc = .ok (.putfield idx, 3)) (hw : Cond.fieldLink M.1.cls idx (r.2.1 k).1 (r.2.1 k).2.1 (r.2.1 k).2.2.1 ∈ lw_tbl) (hc : vwCl[ci]? = some r) (hk : k < r.2.2) (hfin : (r.2.1 k).2.2.2 = false ∨ ((r.2.1 k).2.2.2 = true ∧ M.1.name = "<init>" ∧ (r.2.1 k).1 = M.1.cls)) (ht : isRty (tyC ci k) = true) (hq : pc + 3 = q) (kk : V Γ d M q L st h1 t) : V Γ d M pc L (.ref x :: .ref a :: st) h t := by
  obtain ⟨u, e1, e2⟩ := bs e
  cases e2
  exact v_putR hd hw hc hk hfin ht (gO_sp e1).1 (gO_sp e1).2 hq kk
theorem u_lI {a : Nat} {i x : Int32} (e : lI h .int a i = some x) (hd : decode M.2.1 pc = .ok (.iaload, 1)) (hq : pc + 1 = q) (kk : V Γ d M q L (.int x :: st) h t) : V Γ d M pc L (.int i :: .ref a :: st) h t := by
  obtain ⟨n, e1, e2⟩ := bs e
  obtain ⟨j, e3, e4⟩ := bs e2
  obtain ⟨hin, rfl⟩ := ix_sp e3
  cases e4
  exact v_iald hd (ga_sp e1).1 (ga_sp e1).2 hin hq kk
theorem u_lB {a : Nat} {i x : Int32} (e : lI h .byte a i = some x) (hd : decode M.2.1 pc = .ok (.baload, 1)) (hq : pc + 1 = q) (kk : V Γ d M q L (.int x :: st) h t) : V Γ d M pc L (.int i :: .ref a :: st) h t := by
  obtain ⟨n, e1, e2⟩ := bs e
  obtain ⟨j, e3, e4⟩ := bs e2
  obtain ⟨hin, rfl⟩ := ix_sp e3
  cases e4
  exact v_bald hd (ga_sp e1).1 (ga_sp e1).2 hin hq kk
theorem u_lZ {a : Nat} {i x : Int32} (e : lI h .boolean a i = some x) (hd : decode M.2.1 pc = .ok (.baload, 1)) (hq : pc + 1 = q) (kk : V Γ d M q L (.int x :: st) h t) : V Γ d M pc L (.int i :: .ref a :: st) h t := by
  obtain ⟨n, e1, e2⟩ := bs e
  obtain ⟨j, e3, e4⟩ := bs e2
  obtain ⟨hin, rfl⟩ := ix_sp e3
  cases e4
  exact v_zald hd (ga_sp e1).1 (ga_sp e1).2 hin hq kk
theorem u_lJ {a : Nat} {i : Int32} {x : Int64} (e : lJ h a i = some x) (hd : decode M.2.1 pc = .ok (.laload, 1)) (hq : pc + 1 = q) (kk : V Γ d M q L (.long x :: st) h t) : V Γ d M pc L (.int i :: .ref a :: st) h t := by
  obtain ⟨n, e1, e2⟩ := bs e
  obtain ⟨j, e3, e4⟩ := bs e2
  obtain ⟨hin, rfl⟩ := ix_sp e3
  cases e4
  exact v_lald hd (ga_sp e1).1 (ga_sp e1).2 hin hq kk
theorem u_lR {a x : Nat} {i : Int32} {ty : FieldType} (hm : ty ∈ jTys) (hty : ty.isReference = true) (hr : isRty ty = true) (e : lR h ty a i = some x) (hd : decode M.2.1 pc = .ok (.aaload, 1)) (hq : pc + 1 = q) (kk : V Γ d M q L (.ref x :: st) h t) : V Γ d M pc L (.int i :: .ref a :: st) h t := by
  obtain ⟨n, e1, e2⟩ := bs e
  obtain ⟨j, e3, e4⟩ := bs e2
  obtain ⟨hin, rfl⟩ := ix_sp e3
  exact v_aald hm hty hr hd (ga_sp e1).1 (ga_sp e1).2 hin (by rw [e4]; rfl) hq kk
theorem u_lQ {a : Nat} {x : Option Nat} {i : Int32} {ty : FieldType} (hm : ty ∈ jTys) (hty : ty.isReference = true) (hr : isRty ty = true) (e : lQ h ty a i = some x) (hd : decode M.2.1 pc = .ok (.aaload, 1)) (hq : pc + 1 = q) (kk : V Γ d M q L (va_rf x :: st) h t) : V Γ d M pc L (.int i :: .ref a :: st) h t := by
  obtain ⟨n, e1, e2⟩ := bs e
  obtain ⟨j, e3, e4⟩ := bs e2
  obtain ⟨hin, rfl⟩ := ix_sp e3
  cases e4
  exact v_aald hm hty hr hd (ga_sp e1).1 (ga_sp e1).2 hin rfl hq kk
theorem u_tI {a : Nat} {i x : Int32} (e : tI h a i x = some h1) (hd : decode M.2.1 pc = .ok (.iastore, 1)) (hq : pc + 1 = q) (kk : V Γ d M q L st h1 t) : V Γ d M pc L (.int x :: .int i :: .ref a :: st) h t := by
  obtain ⟨n, e1, e2⟩ := bs e
  obtain ⟨j, e3, e4⟩ := bs e2
  obtain ⟨hin, rfl⟩ := ix_sp e3
  cases e4
  exact v_iast hd (ga_sp e1).1 (ga_sp e1).2 hin hq kk
theorem u_tB {a : Nat} {i x : Int32} (e : tB h a i x = some h1) (hd : decode M.2.1 pc = .ok (.bastore, 1)) (hq : pc + 1 = q) (kk : V Γ d M q L st h1 t) : V Γ d M pc L (.int x :: .int i :: .ref a :: st) h t := by
  obtain ⟨n, e1, e2⟩ := bs e
  obtain ⟨j, e3, e4⟩ := bs e2
  obtain ⟨hin, rfl⟩ := ix_sp e3
  cases e4
  exact v_bast hd (ga_sp e1).1 (ga_sp e1).2 hin hq kk
theorem u_tZ {a : Nat} {i x : Int32} (e : tZ h a i x = some h1) (hd : decode M.2.1 pc = .ok (.bastore, 1)) (hq : pc + 1 = q) (kk : V Γ d M q L st h1 t) : V Γ d M pc L (.int x :: .int i :: .ref a :: st) h t := by
  obtain ⟨n, e1, e2⟩ := bs e
  obtain ⟨j, e3, e4⟩ := bs e2
  obtain ⟨hin, rfl⟩ := ix_sp e3
  split at e4
  · rename_i hx
    cases e4
    exact v_zast hx hd (ga_sp e1).1 (ga_sp e1).2 hin hq kk
  · cases e4
theorem u_tJ {a : Nat} {i : Int32} {x : Int64} (e : tJ h a i x = some h1) (hd : decode M.2.1 pc = .ok (.lastore, 1)) (hq : pc + 1 = q) (kk : V Γ d M q L st h1 t) : V Γ d M pc L (.long x :: .int i :: .ref a :: st) h t := by
  obtain ⟨n, e1, e2⟩ := bs e
  obtain ⟨j, e3, e4⟩ := bs e2
  obtain ⟨hin, rfl⟩ := ix_sp e3
  cases e4
  exact v_last hd (ga_sp e1).1 (ga_sp e1).2 hin hq kk
theorem u_tR {a x : Nat} {i : Int32} (e : tR h a i x = some h1) (hd : decode M.2.1 pc = .ok (.aastore, 1)) (hq : pc + 1 = q) (kk : V Γ d M q L st h1 t) : V Γ d M pc L (.ref x :: .int i :: .ref a :: st) h t := by
  obtain ⟨n, e1, e2⟩ := bs e
  obtain ⟨j, e3, e4⟩ := bs e2
  obtain ⟨hin, rfl⟩ := ix_sp e3
  obtain ⟨u, e5, e6⟩ := bs e4
  cases e6
  exact v_aast hd (ga_sp e1).1 (ga_sp e1).2 (gO_sp e5).1 (gO_sp e5).2 hin hq kk
theorem u_aL {a : Nat} {x : Int32} {ty : FieldType} (hm : ty ∈ jTys) (e : aL h ty a = some x) (hd : decode M.2.1 pc = .ok (.arraylength, 1)) (hq : pc + 1 = q) (kk : V Γ d M q L (.int x :: st) h t) : V Γ d M pc L (.ref a :: st) h t := by
  obtain ⟨n, e1, e2⟩ := bs e
  cases e2
  exact v_alen hm hd (ga_sp e1).1 (ga_sp e1).2 hq kk
theorem nA_sp {ty : FieldType} {n : Int32} (e : nA h ty n = some h1) : ¬ n < 0 ∧ n.toNatClampNeg * 8 ≤ 536870912 ∧ h1 = nw h (.inr (ty, n.toNatClampNeg)) := by
  unfold nA at e
  split at e
  · cases e
  · rename_i hc
    cases e
    exact ⟨fun z => hc (Or.inl z), Nat.not_lt.mp fun z => hc (Or.inr z), rfl⟩
theorem u_nA {atype : ArrayType} {ty : FieldType} {n : Int32} (hty : newarray.typeOf atype = ty) (hm : ty ∈ [FieldType.int, .long, .byte, .boolean]) (hw : Cond.arrayClass ty ∈ lw_tbl) (e : nA h ty n = some h1) (hd : decode M.2.1 pc = .ok (.newarray atype, 2)) (hq : pc + 2 = q) (kk : V Γ d M q L (.ref (hN h) :: st) h1 t) : V Γ d M pc L (.int n :: st) h t := by
  obtain ⟨e1, e2, rfl⟩ := nA_sp e
  exact v_newa hty hm hw hd e1 rfl e2 hq kk
theorem u_nR {idx : Nat} {n : Int32} (hw1 : Cond.classLink M.1.cls idx RX3 ∈ lw_tbl) (e : nA h (.object RX3) n = some h1) (hd : decode M.2.1 pc = .ok (.anewarray idx, 3)) (hq : pc + 3 = q) (kk : V Γ d M q L (.ref (hN h) :: st) h1 t) : V Γ d M pc L (.int n :: st) h t := by
  obtain ⟨e1, e2, rfl⟩ := nA_sp e
  exact v_anew hw1 hd e1 rfl e2 hq kk
theorem u_kI {a0 a : Nat} {ty : FieldType} {idx : Nat} {sp dp n : Int32} (ht : isIty ty = true) (hprim : refKind ty = false) (hm : ty ∈ jTys) (e : kI h ty a0 sp a dp n = some h1) (hd : decode M.2.1 pc = .ok (.invokestatic idx, 3)) (hlk : Cond.methodLink M.1.cls idx arraycopyName ∈ lw_tbl) (hw1 : Cond.native arraycopyName ∈ lw_tbl) (hw2 : Cond.static arraycopyName ∈ lw_tbl) (hw3 : Cond.initialized "java/lang/System" ∈ lw_tbl)
    (hc : (st.map fun v => v.category).sum ≤ 8) (hdd : 0 < d) (hq : pc + 3 = q) (kk : V Γ d M q L st h1 t) : V Γ d M pc L (.int n :: .int dp :: .ref a :: .int sp :: .ref a0 :: st) h t := by
  obtain ⟨n0, e1, e2⟩ := bs e
  obtain ⟨n1, e3, e4⟩ := bs e2
  split at e4
  · cases e4
  · rename_i hcc
    cases e4
    simp only [not_or] at hcc
    refine V.copy (h' := cpI h a0 sp.toNatClampNeg a dp.toNatClampNeg n.toNatClampNeg) hprim hm hd hlk hw1 hw2 hw3 (ga_sp e1).1 (ga_sp e1).2 (ga_sp e3).1 (ga_sp e3).2 hcc.1 hcc.2.1 hcc.2.2.1 (by omega) (by omega) rfl rfl (fun _ => rfl) (fun b hb ty k => ?_) (fun j => ?_) hc hdd hq kk
    · cases ty <;> simp [aV, cpI, hI, hJ, hR, hb]
    · rw [aV_I ht]
      unfold va_cpy
      by_cases hj : dp.toNatClampNeg ≤ j ∧ j < dp.toNatClampNeg + n.toNatClampNeg
      · rw [if_pos hj]; dsimp only; rw [aV_I ht]; simp [cpI, hI, hj]
      · rw [if_neg hj]; dsimp only; rw [aV_I ht]; simp [cpI, hI, hj]
theorem u_kJ {a0 a : Nat} {idx : Nat} {sp dp n : Int32} (e : kJ h a0 sp a dp n = some h1) (hd : decode M.2.1 pc = .ok (.invokestatic idx, 3)) (hlk : Cond.methodLink M.1.cls idx arraycopyName ∈ lw_tbl) (hw1 : Cond.native arraycopyName ∈ lw_tbl) (hw2 : Cond.static arraycopyName ∈ lw_tbl) (hw3 : Cond.initialized "java/lang/System" ∈ lw_tbl)
    (hc : (st.map fun v => v.category).sum ≤ 8) (hdd : 0 < d) (hq : pc + 3 = q) (kk : V Γ d M q L st h1 t) : V Γ d M pc L (.int n :: .int dp :: .ref a :: .int sp :: .ref a0 :: st) h t := by
  obtain ⟨n0, e1, e2⟩ := bs e
  obtain ⟨n1, e3, e4⟩ := bs e2
  split at e4
  · cases e4
  · rename_i hcc
    cases e4
    simp only [not_or] at hcc
    refine V.copy (ty := .long) (h' := cpJ h a0 sp.toNatClampNeg a dp.toNatClampNeg n.toNatClampNeg) rfl (by decide) hd hlk hw1 hw2 hw3 (ga_sp e1).1 (ga_sp e1).2 (ga_sp e3).1 (ga_sp e3).2 hcc.1 hcc.2.1 hcc.2.2.1 (by omega) (by omega) rfl rfl (fun _ => rfl) (fun b hb ty k => ?_) (fun j => ?_) hc hdd hq kk
    · cases ty <;> simp [aV, cpJ, hI, hJ, hR, hb]
    · unfold va_cpy
      by_cases hj : dp.toNatClampNeg ≤ j ∧ j < dp.toNatClampNeg + n.toNatClampNeg
      · rw [if_pos hj]; simp [aV, cpJ, hJ, hj]
      · rw [if_neg hj]; simp [aV, cpJ, hJ, hj]
end VU

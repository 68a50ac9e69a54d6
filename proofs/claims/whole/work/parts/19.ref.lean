/-! the reference: one object (cell T) and its rows (T + 1 ..), all made by its constructor; its memory: by cell and place -/
abbrev Mem : Type := Nat → Nat → Int32
/-- field, cell, type, length -/
def rTab : List (Nat × Nat × FieldType × Nat) := [(0, 1, .int, 9685), (1, 2, .int, 2), (2, 3, .int, 2), (3, 4, .int, 2), (4, 5, .int, 20), (5, 6, .int, 12), (6, 7, .int, 12), (7, 8, .int, 144), (8, 9, .int, 144), (10, 10, .byte, 900), (21, 11, .byte, 71), (22, 12, .int, 24), (23, 13, .int, 24), (24, 14, .int, 24), (25, 15, .int, 24), (27, 16, .int, 16), (28, 17, .int, 20), (29, 18, .int, 10), (30, 19, .int, 10), (32, 20, .int, 9685), (33, 21, .int, 16), (34, 22, .int, 256), (36, 23, .int, 6), (37, 24, .int, 6), (38, 25, .int, 10), (39, 26, .int, 10), (41, 27, .int, 20005), (42, 28, .int, 4001), (43, 29, .int, 4001), (44, 30, .int, 4001), (45, 31, .int, 16384), (48, 32, .int, 6), (49, 33, .int, 6), (50, 34, .int, 8), (51, 35, .int, 6), (53, 36, .int, 125905), (54, 37, .int, 19370), (55, 38, .boolean, 2)]
def up (m : Mem) (o j : Nat) (v : Int32) : Mem := fun a b => if a = o ∧ b = j then v else m a b
def hm (T : Nat) (h : Hp) (m : Mem) : Hp := (h.1, fun b j => if T ≤ b ∧ b < T + 39 then m (b - T) j else h.2.1 b j, h.2.2)
def RS (T : Nat) (h : Hp) : Prop := T + 39 ≤ hN h ∧ hS h T = .inl 12 ∧ ∀ q ∈ rTab, hR h T q.1 = some (T + q.2.1) ∧ hS h (T + q.2.1) = .inr (q.2.2.1, q.2.2.2)
theorem rTab_lt : ∀ q ∈ rTab, q.2.1 < 39 := by decide
theorem hm_set {T o j : Nat} {h : Hp} {m : Mem} {v : Int32} (ho : o < 39) : sI (hm T h m) (T + o) j v = hm T h (up m o j v) := by
  unfold sI hm up
  refine Prod.ext rfl (Prod.ext ?_ rfl)
  funext b k
  show (if b = T + o ∧ k = j then v else if T ≤ b ∧ b < T + 39 then m (b - T) k else h.2.1 b k) = if T ≤ b ∧ b < T + 39 then (if b - T = o ∧ k = j then v else m (b - T) k) else h.2.1 b k
  by_cases h1 : b = T + o
  · subst h1
    have e1 : T ≤ T + o ∧ T + o < T + 39 := by omega
    have e2 : T + o - T = o := by omega
    rw [if_pos e1, if_pos e1, e2]
    by_cases h2 : k = j <;> simp [h2]
  · rw [if_neg (fun z => h1 z.1)]
    by_cases h3 : T ≤ b ∧ b < T + 39
    · rw [if_pos h3, if_pos h3, if_neg (fun z => h1 (by omega))]
    · rw [if_neg h3, if_neg h3]
theorem hm_get {T o j : Nat} {h : Hp} {m : Mem} (ho : o < 39) : hI (hm T h m) (T + o) j = m o j := by
  show (if T ≤ T + o ∧ T + o < T + 39 then m (T + o - T) j else h.2.1 (T + o) j) = m o j
  rw [if_pos (by omega)]
  congr 1
  omega
theorem hm_get0 {T j : Nat} {h : Hp} {m : Mem} : hI (hm T h m) T j = m 0 j := hm_get (o := 0) (by decide)
theorem hm_set0 {T j : Nat} {h : Hp} {m : Mem} {v : Int32} : sI (hm T h m) T j v = hm T h (up m 0 j v) := hm_set (o := 0) (by decide)
/-- the memory of a heap -/
def mOf (T : Nat) (h : Hp) : Mem := fun o j => hI h (T + o) j
theorem hm_mOf (T : Nat) (h : Hp) : hm T h (mOf T h) = h := by
  unfold hm mOf hI
  refine Prod.ext rfl (Prod.ext ?_ rfl)
  funext b j
  show (if T ≤ b ∧ b < T + 39 then h.2.1 (T + (b - T)) j else h.2.1 b j) = h.2.1 b j
  by_cases h3 : T ≤ b ∧ b < T + 39
  · rw [if_pos h3, show T + (b - T) = b by omega]
  · rw [if_neg h3]
def rd (m : Mem) (o n : Nat) (i : Int32) : Option Int32 := (ix i n).bind fun j => some (m o j)
def wr (m : Mem) (o n : Nat) (i v : Int32) : Option Mem := (ix i n).bind fun j => some (up m o j v)
def wrB (m : Mem) (o n : Nat) (i v : Int32) : Option Mem := (ix i n).bind fun j => some (up m o j v.toInt8.toInt32)
def wrZ (m : Mem) (o n : Nat) (i v : Int32) : Option Mem := (ix i n).bind fun j => if v = 0 ∨ v = 1 then some (up m o j v) else none
theorem rt0 : (0, 1, FieldType.int, 9685) ∈ rTab := by decide
theorem rt1 : (1, 2, FieldType.int, 2) ∈ rTab := by decide
theorem rt2 : (2, 3, FieldType.int, 2) ∈ rTab := by decide
theorem rt3 : (3, 4, FieldType.int, 2) ∈ rTab := by decide
theorem rt4 : (4, 5, FieldType.int, 20) ∈ rTab := by decide
theorem rt5 : (5, 6, FieldType.int, 12) ∈ rTab := by decide
theorem rt6 : (6, 7, FieldType.int, 12) ∈ rTab := by decide
theorem rt7 : (7, 8, FieldType.int, 144) ∈ rTab := by decide
theorem rt8 : (8, 9, FieldType.int, 144) ∈ rTab := by decide
theorem rt10 : (10, 10, FieldType.byte, 900) ∈ rTab := by decide
theorem rt21 : (21, 11, FieldType.byte, 71) ∈ rTab := by decide
theorem rt22 : (22, 12, FieldType.int, 24) ∈ rTab := by decide
theorem rt23 : (23, 13, FieldType.int, 24) ∈ rTab := by decide
theorem rt24 : (24, 14, FieldType.int, 24) ∈ rTab := by decide
theorem rt25 : (25, 15, FieldType.int, 24) ∈ rTab := by decide
theorem rt27 : (27, 16, FieldType.int, 16) ∈ rTab := by decide
theorem rt28 : (28, 17, FieldType.int, 20) ∈ rTab := by decide
theorem rt29 : (29, 18, FieldType.int, 10) ∈ rTab := by decide
theorem rt30 : (30, 19, FieldType.int, 10) ∈ rTab := by decide
theorem rt32 : (32, 20, FieldType.int, 9685) ∈ rTab := by decide
theorem rt33 : (33, 21, FieldType.int, 16) ∈ rTab := by decide
theorem rt34 : (34, 22, FieldType.int, 256) ∈ rTab := by decide
theorem rt36 : (36, 23, FieldType.int, 6) ∈ rTab := by decide
theorem rt37 : (37, 24, FieldType.int, 6) ∈ rTab := by decide
theorem rt38 : (38, 25, FieldType.int, 10) ∈ rTab := by decide
theorem rt39 : (39, 26, FieldType.int, 10) ∈ rTab := by decide
theorem rt41 : (41, 27, FieldType.int, 20005) ∈ rTab := by decide
theorem rt42 : (42, 28, FieldType.int, 4001) ∈ rTab := by decide
theorem rt43 : (43, 29, FieldType.int, 4001) ∈ rTab := by decide
theorem rt44 : (44, 30, FieldType.int, 4001) ∈ rTab := by decide
theorem rt45 : (45, 31, FieldType.int, 16384) ∈ rTab := by decide
theorem rt48 : (48, 32, FieldType.int, 6) ∈ rTab := by decide
theorem rt49 : (49, 33, FieldType.int, 6) ∈ rTab := by decide
theorem rt50 : (50, 34, FieldType.int, 8) ∈ rTab := by decide
theorem rt51 : (51, 35, FieldType.int, 6) ∈ rTab := by decide
theorem rt53 : (53, 36, FieldType.int, 125905) ∈ rTab := by decide
theorem rt54 : (54, 37, FieldType.int, 19370) ∈ rTab := by decide
theorem rt55 : (55, 38, FieldType.boolean, 2) ∈ rTab := by decide
section VR
variable {Γ : Gm} {d : Nat} {M : MI} {pc q : Nat} {L : List (Nat × Value)} {st : List Value} {T : Nat} {h : Hp} {m m1 : Mem} {t : Option Value × Hp}
theorem RS.rc (rs : RS T h) : T < hN (hm T h m) ∧ hS (hm T h m) T = .inl 12 := ⟨by have := rs.1; show T < hN h; omega, rs.2.1⟩
theorem RS.ar (rs : RS T h) {k o n : Nat} {ty : FieldType} (hq : (k, o, ty, n) ∈ rTab) : T + o < hN (hm T h m) ∧ hS (hm T h m) (T + o) = .inr (ty, n) := ⟨by have := rs.1; have := rTab_lt _ hq; show T + o < hN h; simp only at this; omega, (rs.2.2 _ hq).2⟩
theorem ur_arr {k o n idx : Nat} {ty : FieldType} (rs : RS T h) (hk : (k, o, ty, n) ∈ rTab) (hd : decode M.2.1 pc = .ok (.getfield idx, 3)) (hw : Cond.fieldLink M.1.cls idx (TX12 k).1 (TX12 k).2.1 (TX12 k).2.2.1 ∈ lw_tbl) (hk2 : k < 58) (ht : isRty (tyC 12 k) = true) (hq : pc + 3 = q) (kk : V Γ d M q L (.ref (T + o) :: st) (hm T h m) t) : V Γ d M pc L (.ref T :: st) (hm T h m) t :=
  v_get (r := (RX12, TX12, 58)) (ci := 12) (k := k) hd hw rfl hk2 (RS.rc rs).1 (RS.rc rs).2 (by rw [aV_R ht]; show va_rf (hR h T k) = _; rw [(rs.2.2 _ hk).1]; rfl) hq kk
theorem ur_gI {k idx : Nat} {x : Int32} (rs : RS T h) (hd : decode M.2.1 pc = .ok (.getfield idx, 3)) (hw : Cond.fieldLink M.1.cls idx (TX12 k).1 (TX12 k).2.1 (TX12 k).2.2.1 ∈ lw_tbl) (hk2 : k < 58) (ht : isIty (tyC 12 k) = true) (hq : pc + 3 = q) (kk : V Γ d M q L (.int (m 0 k) :: st) (hm T h m) t) : V Γ d M pc L (.ref T :: st) (hm T h m) t :=
  v_get (r := (RX12, TX12, 58)) (ci := 12) (k := k) hd hw rfl hk2 (RS.rc rs).1 (RS.rc rs).2 (by rw [aV_I ht, hm_get0]) hq kk
theorem ur_pI {k idx : Nat} {x : Int32} (rs : RS T h) (e : some (up m 0 k x) = some m1) (hd : decode M.2.1 pc = .ok (.putfield idx, 3)) (hw : Cond.fieldLink M.1.cls idx (TX12 k).1 (TX12 k).2.1 (TX12 k).2.2.1 ∈ lw_tbl) (hk2 : k < 58) (hfin : (TX12 k).2.2.2 = false) (ht : tyC 12 k = .int) (hq : pc + 3 = q) (kk : V Γ d M q L st (hm T h m1) t) : V Γ d M pc L (.int x :: .ref T :: st) (hm T h m) t := by
  cases e
  exact v_putI (r := (RX12, TX12, 58)) (ci := 12) (k := k) hd hw rfl hk2 (Or.inl hfin) ht (RS.rc rs).1 (RS.rc rs).2 hq (by rw [hm_set0]; exact kk)
theorem ur_rd {k o n : Nat} {i x : Int32} (rs : RS T h) (hk : (k, o, .int, n) ∈ rTab) (e : rd m o n i = some x) (hd : decode M.2.1 pc = .ok (.iaload, 1)) (hq : pc + 1 = q) (kk : V Γ d M q L (.int x :: st) (hm T h m) t) : V Γ d M pc L (.int i :: .ref (T + o) :: st) (hm T h m) t := by
  obtain ⟨j, e1, e2⟩ := bs e
  obtain ⟨hin, rfl⟩ := ix_sp e1
  cases e2
  exact v_iald hd (RS.ar rs hk).1 (RS.ar rs hk).2 hin hq (by rw [hm_get (rTab_lt _ hk)]; exact kk)
theorem ur_rdB {k o n : Nat} {i x : Int32} (rs : RS T h) (hk : (k, o, .byte, n) ∈ rTab) (e : rd m o n i = some x) (hd : decode M.2.1 pc = .ok (.baload, 1)) (hq : pc + 1 = q) (kk : V Γ d M q L (.int x :: st) (hm T h m) t) : V Γ d M pc L (.int i :: .ref (T + o) :: st) (hm T h m) t := by
  obtain ⟨j, e1, e2⟩ := bs e
  obtain ⟨hin, rfl⟩ := ix_sp e1
  cases e2
  exact v_bald hd (RS.ar rs hk).1 (RS.ar rs hk).2 hin hq (by rw [hm_get (rTab_lt _ hk)]; exact kk)
theorem ur_rdZ {k o n : Nat} {i x : Int32} (rs : RS T h) (hk : (k, o, .boolean, n) ∈ rTab) (e : rd m o n i = some x) (hd : decode M.2.1 pc = .ok (.baload, 1)) (hq : pc + 1 = q) (kk : V Γ d M q L (.int x :: st) (hm T h m) t) : V Γ d M pc L (.int i :: .ref (T + o) :: st) (hm T h m) t := by
  obtain ⟨j, e1, e2⟩ := bs e
  obtain ⟨hin, rfl⟩ := ix_sp e1
  cases e2
  exact v_zald hd (RS.ar rs hk).1 (RS.ar rs hk).2 hin hq (by rw [hm_get (rTab_lt _ hk)]; exact kk)
theorem ur_wr {k o n : Nat} {i x : Int32} (rs : RS T h) (hk : (k, o, .int, n) ∈ rTab) (e : wr m o n i x = some m1) (hd : decode M.2.1 pc = .ok (.iastore, 1)) (hq : pc + 1 = q) (kk : V Γ d M q L st (hm T h m1) t) : V Γ d M pc L (.int x :: .int i :: .ref (T + o) :: st) (hm T h m) t := by
  obtain ⟨j, e1, e2⟩ := bs e
  obtain ⟨hin, rfl⟩ := ix_sp e1
  cases e2
  exact v_iast hd (RS.ar rs hk).1 (RS.ar rs hk).2 hin hq (by rw [hm_set (rTab_lt _ hk)]; exact kk)
theorem ur_wrB {k o n : Nat} {i x : Int32} (rs : RS T h) (hk : (k, o, .byte, n) ∈ rTab) (e : wrB m o n i x = some m1) (hd : decode M.2.1 pc = .ok (.bastore, 1)) (hq : pc + 1 = q) (kk : V Γ d M q L st (hm T h m1) t) : V Γ d M pc L (.int x :: .int i :: .ref (T + o) :: st) (hm T h m) t := by
  obtain ⟨j, e1, e2⟩ := bs e
  obtain ⟨hin, rfl⟩ := ix_sp e1
  cases e2
  exact v_bast hd (RS.ar rs hk).1 (RS.ar rs hk).2 hin hq (by rw [hm_set (rTab_lt _ hk)]; exact kk)
theorem ur_wrZ {k o n : Nat} {i x : Int32} (rs : RS T h) (hk : (k, o, .boolean, n) ∈ rTab) (e : wrZ m o n i x = some m1) (hd : decode M.2.1 pc = .ok (.bastore, 1)) (hq : pc + 1 = q) (kk : V Γ d M q L st (hm T h m1) t) : V Γ d M pc L (.int x :: .int i :: .ref (T + o) :: st) (hm T h m) t := by
  obtain ⟨j, e1, e2⟩ := bs e
  obtain ⟨hin, rfl⟩ := ix_sp e1
  split at e2
  · rename_i hx
    cases e2
    exact v_zast hx hd (RS.ar rs hk).1 (RS.ar rs hk).2 hin hq (by rw [hm_set (rTab_lt _ hk)]; exact kk)
  · cases e2
end VR

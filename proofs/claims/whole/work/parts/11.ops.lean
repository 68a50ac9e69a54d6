section VO
variable {Γ : Gm} {d : Nat} {M : MI} {pc q : Nat} {L : List (Nat × Value)} {st : List Value} {h : Hp} {t : Option Value × Hp}
theorem v_iadd {x y : Int32} (hd : decode M.2.1 pc = .ok (.iadd, 1)) (hq : pc + 1 = q) (k : V Γ d M q L (.int (x + y) :: st) h t) : V Γ d M pc L (.int y :: .int x :: st) h t := by
  subst hq; exact V.pure k (fun p e R s m args below meth c H locs cells slots Q ls hx hb _ kk => lv_iadd hx hb hd kk)
theorem v_isub {x y : Int32} (hd : decode M.2.1 pc = .ok (.isub, 1)) (hq : pc + 1 = q) (k : V Γ d M q L (.int (x - y) :: st) h t) : V Γ d M pc L (.int y :: .int x :: st) h t := by
  subst hq; exact V.pure k (fun p e R s m args below meth c H locs cells slots Q ls hx hb _ kk => lv_isub hx hb hd kk)
theorem v_imul {x y : Int32} (hd : decode M.2.1 pc = .ok (.imul, 1)) (hq : pc + 1 = q) (k : V Γ d M q L (.int (x * y) :: st) h t) : V Γ d M pc L (.int y :: .int x :: st) h t := by
  subst hq; exact V.pure k (fun p e R s m args below meth c H locs cells slots Q ls hx hb _ kk => lv_imul hx hb hd kk)
theorem v_iand {x y : Int32} (hd : decode M.2.1 pc = .ok (.iand, 1)) (hq : pc + 1 = q) (k : V Γ d M q L (.int (x &&& y) :: st) h t) : V Γ d M pc L (.int y :: .int x :: st) h t := by
  subst hq; exact V.pure k (fun p e R s m args below meth c H locs cells slots Q ls hx hb _ kk => lv_iand hx hb hd kk)
theorem v_ior {x y : Int32} (hd : decode M.2.1 pc = .ok (.ior, 1)) (hq : pc + 1 = q) (k : V Γ d M q L (.int (x ||| y) :: st) h t) : V Γ d M pc L (.int y :: .int x :: st) h t := by
  subst hq; exact V.pure k (fun p e R s m args below meth c H locs cells slots Q ls hx hb _ kk => lv_ior hx hb hd kk)
theorem v_ixor {x y : Int32} (hd : decode M.2.1 pc = .ok (.ixor, 1)) (hq : pc + 1 = q) (k : V Γ d M q L (.int (x ^^^ y) :: st) h t) : V Γ d M pc L (.int y :: .int x :: st) h t := by
  subst hq; exact V.pure k (fun p e R s m args below meth c H locs cells slots Q ls hx hb _ kk => lv_ixor hx hb hd kk)
theorem v_ishl {x y : Int32} (hd : decode M.2.1 pc = .ok (.ishl, 1)) (hq : pc + 1 = q) (k : V Γ d M q L (.int (x <<< (y &&& 31)) :: st) h t) : V Γ d M pc L (.int y :: .int x :: st) h t := by
  subst hq; exact V.pure k (fun p e R s m args below meth c H locs cells slots Q ls hx hb _ kk => lv_ishl hx hb hd kk)
theorem v_ishr {x y : Int32} (hd : decode M.2.1 pc = .ok (.ishr, 1)) (hq : pc + 1 = q) (k : V Γ d M q L (.int (x >>> (y &&& 31)) :: st) h t) : V Γ d M pc L (.int y :: .int x :: st) h t := by
  subst hq; exact V.pure k (fun p e R s m args below meth c H locs cells slots Q ls hx hb _ kk => lv_ishr hx hb hd kk)
theorem v_idiv {x y : Int32} (hd : decode M.2.1 pc = .ok (.idiv, 1)) (hne : ¬ y = 0) (hq : pc + 1 = q) (k : V Γ d M q L (.int (x / y) :: st) h t) : V Γ d M pc L (.int y :: .int x :: st) h t := by
  subst hq; exact V.pure k (fun p e R s m args below meth c H locs cells slots Q ls hx hb _ kk => lv_idiv hx hb hd hne kk)
theorem v_irem {x y : Int32} (hd : decode M.2.1 pc = .ok (.irem, 1)) (hne : ¬ y = 0) (hq : pc + 1 = q) (k : V Γ d M q L (.int (x - x / y * y) :: st) h t) : V Γ d M pc L (.int y :: .int x :: st) h t := by
  subst hq; exact V.pure k (fun p e R s m args below meth c H locs cells slots Q ls hx hb _ kk => lv_irem hx hb hd hne kk)
theorem v_ladd {x y : Int64} (hd : decode M.2.1 pc = .ok (.ladd, 1)) (hq : pc + 1 = q) (k : V Γ d M q L (.long (x + y) :: st) h t) : V Γ d M pc L (.long y :: .long x :: st) h t := by
  subst hq; exact V.pure k (fun p e R s m args below meth c H locs cells slots Q ls hx hb _ kk => lv_ladd hx hb hd kk)
theorem v_lmul {x y : Int64} (hd : decode M.2.1 pc = .ok (.lmul, 1)) (hq : pc + 1 = q) (k : V Γ d M q L (.long (x * y) :: st) h t) : V Γ d M pc L (.long y :: .long x :: st) h t := by
  subst hq; exact V.pure k (fun p e R s m args below meth c H locs cells slots Q ls hx hb _ kk => lv_lmul hx hb hd kk)
theorem v_land {x y : Int64} (hd : decode M.2.1 pc = .ok (.land, 1)) (hq : pc + 1 = q) (k : V Γ d M q L (.long (x &&& y) :: st) h t) : V Γ d M pc L (.long y :: .long x :: st) h t := by
  subst hq; exact V.pure k (fun p e R s m args below meth c H locs cells slots Q ls hx hb _ kk => lv_land hx hb hd kk)
theorem v_lor {x y : Int64} (hd : decode M.2.1 pc = .ok (.lor, 1)) (hq : pc + 1 = q) (k : V Γ d M q L (.long (x ||| y) :: st) h t) : V Γ d M pc L (.long y :: .long x :: st) h t := by
  subst hq; exact V.pure k (fun p e R s m args below meth c H locs cells slots Q ls hx hb _ kk => lv_lor hx hb hd kk)
theorem v_lxor {x y : Int64} (hd : decode M.2.1 pc = .ok (.lxor, 1)) (hq : pc + 1 = q) (k : V Γ d M q L (.long (x ^^^ y) :: st) h t) : V Γ d M pc L (.long y :: .long x :: st) h t := by
  subst hq; exact V.pure k (fun p e R s m args below meth c H locs cells slots Q ls hx hb _ kk => lv_lxor hx hb hd kk)
theorem v_i2l {x : Int32} (hd : decode M.2.1 pc = .ok (.i2l, 1)) (hq : pc + 1 = q) (k : V Γ d M q L (.long (x.toInt64) :: st) h t) : V Γ d M pc L (.int x :: st) h t := by
  subst hq; exact V.pure k (fun p e R s m args below meth c H locs cells slots Q ls hx hb _ kk => lv_i2l hx hb hd rfl kk)
theorem v_l2i {x : Int64} (hd : decode M.2.1 pc = .ok (.l2i, 1)) (hq : pc + 1 = q) (k : V Γ d M q L (.int (x.toInt32) :: st) h t) : V Γ d M pc L (.long x :: st) h t := by
  subst hq; exact V.pure k (fun p e R s m args below meth c H locs cells slots Q ls hx hb _ kk => lv_l2i hx hb hd rfl kk)
theorem v_i2b {x : Int32} (hd : decode M.2.1 pc = .ok (.i2b, 1)) (hq : pc + 1 = q) (k : V Γ d M q L (.int (x.toInt8.toInt32) :: st) h t) : V Γ d M pc L (.int x :: st) h t := by
  subst hq; exact V.pure k (fun p e R s m args below meth c H locs cells slots Q ls hx hb _ kk => lv_i2b hx hb hd rfl kk)
theorem v_ineg {x : Int32} (hd : decode M.2.1 pc = .ok (.ineg, 1)) (hq : pc + 1 = q) (k : V Γ d M q L (.int (-x) :: st) h t) : V Γ d M pc L (.int x :: st) h t := by
  subst hq; exact V.pure k (fun p e R s m args below meth c H locs cells slots Q ls hx hb _ kk => lv_ineg hx hb hd kk)
theorem v_iushr {x y : Int32} (hd : decode M.2.1 pc = .ok (.iushr, 1)) (hq : pc + 1 = q) (k : V Γ d M q L (.int (x.toUInt32 >>> (y.toUInt32 &&& Int32.toUInt32 31)).toInt32 :: st) h t) : V Γ d M pc L (.int y :: .int x :: st) h t := by
  subst hq; exact V.pure k (fun p e R s m args below meth c H locs cells slots Q ls hx hb _ kk => lv_iushr hx hb hd rfl kk)
theorem v_lushr {x : Int64} {y : Int32} (hd : decode M.2.1 pc = .ok (.lushr, 1)) (hq : pc + 1 = q) (k : V Γ d M q L (.long (x.toUInt64 >>> (y.toInt64.toUInt64 &&& Int64.toUInt64 63)).toInt64 :: st) h t) : V Γ d M pc L (.int y :: .long x :: st) h t := by
  subst hq; exact V.pure k (fun p e R s m args below meth c H locs cells slots Q ls hx hb _ kk => lv_lushr hx hb hd rfl kk)
theorem v_lshl {x : Int64} {y : Int32} (hd : decode M.2.1 pc = .ok (.lshl, 1)) (hq : pc + 1 = q) (k : V Γ d M q L (.long (x <<< (y.toInt64 &&& 63)) :: st) h t) : V Γ d M pc L (.int y :: .long x :: st) h t := by
  subst hq; exact V.pure k (fun p e R s m args below meth c H locs cells slots Q ls hx hb _ kk => lv_lshl hx hb hd rfl kk)
theorem v_dup {v : Value} (hd : decode M.2.1 pc = .ok (.dup, 1)) (hv : v.category = 1) (hq : pc + 1 = q) (k : V Γ d M q L (v :: v :: st) h t) : V Γ d M pc L (v :: st) h t := by
  subst hq; exact V.pure k (fun p e R s m args below meth c H locs cells slots Q ls hx hb _ kk => lv_dup hx hb hd ((cV_cat Γ v).trans hv) kk)
theorem v_pop {v : Value} (hd : decode M.2.1 pc = .ok (.pop, 1)) (hv : v.category = 1) (hq : pc + 1 = q) (k : V Γ d M q L st h t) : V Γ d M pc L (v :: st) h t := by
  subst hq; exact V.pure k (fun p e R s m args below meth c H locs cells slots Q ls hx hb _ kk => lv_pop hx hb hd ((cV_cat Γ v).trans hv) kk)
theorem v_dup2 {v w : Value} (hd : decode M.2.1 pc = .ok (.dup2, 1)) (hv : v.category = 1) (hw : w.category = 1) (hq : pc + 1 = q) (k : V Γ d M q L (v :: w :: v :: w :: st) h t) : V Γ d M pc L (v :: w :: st) h t := by
  subst hq; exact V.pure k (fun p e R s m args below meth c H locs cells slots Q ls hx hb _ kk => lv_dup2_11 hx hb hd ((cV_cat Γ v).trans hv) ((cV_cat Γ w).trans hw) kk)
theorem V.br {c : Prop} [Decidable c] {st' : List Value} {q1 q2 : Nat} (hm : hN h ≤ hN t.2 ∧ hZ h ≤ hZ t.2) (k1 : c → V Γ d M q1 L st' h t) (k2 : ¬ c → V Γ d M q2 L st' h t)
    (f : ∀ (p : Program) (e : Env) (R : Room) (s : State) (m : MethodId) (args : Array Value) (below : List Frame) (meth : Method) (c0 : Code) (H : Heap) (locs : List Loc) (cells slots : Nat) (Q : State → Prop) (ls : Array Slot), p.tables.exec = Jvm.exec → c0.code = M.2.1 → (c → W p Γ.1 e R s m args below meth c0 H locs cells slots Q (F0 m q1 ls (st'.map (cV Γ)))) → (¬ c → W p Γ.1 e R s m args below meth c0 H locs cells slots Q (F0 m q2 ls (st'.map (cV Γ)))) → W p Γ.1 e R s m args below meth c0 H locs cells slots Q (F0 m pc ls (st.map (cV Γ)))) : V Γ d M pc L st h t :=
  ⟨hm, fun p e s m args below meth c0 H locs ls n0 t0 C h1 h2 hRl hSl hl => f p e _ s m args below meth c0 H locs _ _ _ ls C.1 C.2.1 (fun hc => (k1 hc).2 p e s m args below meth c0 H locs ls n0 t0 C h1 h2 hRl hSl hl) (fun hc => (k2 hc).2 p e s m args below meth c0 H locs ls n0 t0 C h1 h2 hRl hSl hl)⟩
theorem V.mono (c : Prop) [Decidable c] {q1 q2 : Nat} {L1 L2 : List (Nat × Value)} {st1 st2 : List Value} (k1 : c → V Γ d M q1 L1 st1 h t) (k2 : ¬ c → V Γ d M q2 L2 st2 h t) : hN h ≤ hN t.2 ∧ hZ h ≤ hZ t.2 := if hc : c then (k1 hc).1 else (k2 hc).1
theorem v_if_eq {x : Int32} {off : Int} {q1 q2 : Nat} (hd : decode M.2.1 pc = .ok (.ifCond .eq off, 3)) (ht : (pc : Int) + off = (q1 : Int)) (hq : pc + 3 = q2) (k1 : x = 0 → V Γ d M q1 L st h t) (k2 : ¬ x = 0 → V Γ d M q2 L st h t) : V Γ d M pc L (.int x :: st) h t := by
  subst hq; exact V.br (V.mono (x = 0) k1 k2) k1 k2 (fun p e R s m args below meth c0 H locs cells slots Q ls hx hb a1 a2 => lv_if_eq hx hb hd ht a1 a2)
theorem v_if_ne {x : Int32} {off : Int} {q1 q2 : Nat} (hd : decode M.2.1 pc = .ok (.ifCond .ne off, 3)) (ht : (pc : Int) + off = (q1 : Int)) (hq : pc + 3 = q2) (k1 : ¬ x = 0 → V Γ d M q1 L st h t) (k2 : x = 0 → V Γ d M q2 L st h t) : V Γ d M pc L (.int x :: st) h t := by
  subst hq; exact V.br (V.mono (x = 0) k2 k1) k2 k1 (fun p e R s m args below meth c0 H locs cells slots Q ls hx hb a2 a1 => lv_if_ne hx hb hd ht a1 a2)
theorem v_if_lt {x : Int32} {off : Int} {q1 q2 : Nat} (hd : decode M.2.1 pc = .ok (.ifCond .lt off, 3)) (ht : (pc : Int) + off = (q1 : Int)) (hq : pc + 3 = q2) (k1 : x < 0 → V Γ d M q1 L st h t) (k2 : ¬ x < 0 → V Γ d M q2 L st h t) : V Γ d M pc L (.int x :: st) h t := by
  subst hq; exact V.br (V.mono (x < 0) k1 k2) k1 k2 (fun p e R s m args below meth c0 H locs cells slots Q ls hx hb a1 a2 => lv_if_lt hx hb hd ht a1 a2)
theorem v_if_ge {x : Int32} {off : Int} {q1 q2 : Nat} (hd : decode M.2.1 pc = .ok (.ifCond .ge off, 3)) (ht : (pc : Int) + off = (q1 : Int)) (hq : pc + 3 = q2) (k1 : 0 ≤ x → V Γ d M q1 L st h t) (k2 : ¬ 0 ≤ x → V Γ d M q2 L st h t) : V Γ d M pc L (.int x :: st) h t := by
  subst hq; exact V.br (V.mono (0 ≤ x) k1 k2) k1 k2 (fun p e R s m args below meth c0 H locs cells slots Q ls hx hb a1 a2 => lv_if_ge hx hb hd ht a1 a2)
theorem v_if_gt {x : Int32} {off : Int} {q1 q2 : Nat} (hd : decode M.2.1 pc = .ok (.ifCond .gt off, 3)) (ht : (pc : Int) + off = (q1 : Int)) (hq : pc + 3 = q2) (k1 : 0 < x → V Γ d M q1 L st h t) (k2 : ¬ 0 < x → V Γ d M q2 L st h t) : V Γ d M pc L (.int x :: st) h t := by
  subst hq; exact V.br (V.mono (0 < x) k1 k2) k1 k2 (fun p e R s m args below meth c0 H locs cells slots Q ls hx hb a1 a2 => lv_if_gt hx hb hd ht a1 a2)
theorem v_if_le {x : Int32} {off : Int} {q1 q2 : Nat} (hd : decode M.2.1 pc = .ok (.ifCond .le off, 3)) (ht : (pc : Int) + off = (q1 : Int)) (hq : pc + 3 = q2) (k1 : x ≤ 0 → V Γ d M q1 L st h t) (k2 : ¬ x ≤ 0 → V Γ d M q2 L st h t) : V Γ d M pc L (.int x :: st) h t := by
  subst hq; exact V.br (V.mono (x ≤ 0) k1 k2) k1 k2 (fun p e R s m args below meth c0 H locs cells slots Q ls hx hb a1 a2 => lv_if_le hx hb hd ht a1 a2)
theorem v_icmp_eq {x y : Int32} {off : Int} {q1 q2 : Nat} (hd : decode M.2.1 pc = .ok (.if_icmp .eq off, 3)) (ht : (pc : Int) + off = (q1 : Int)) (hq : pc + 3 = q2) (k1 : x = y → V Γ d M q1 L st h t) (k2 : ¬ x = y → V Γ d M q2 L st h t) : V Γ d M pc L (.int y :: .int x :: st) h t := by
  subst hq; exact V.br (V.mono (x = y) k1 k2) k1 k2 (fun p e R s m args below meth c0 H locs cells slots Q ls hx hb a1 a2 => lv_icmp_eq hx hb hd ht a1 a2)
theorem v_icmp_ne {x y : Int32} {off : Int} {q1 q2 : Nat} (hd : decode M.2.1 pc = .ok (.if_icmp .ne off, 3)) (ht : (pc : Int) + off = (q1 : Int)) (hq : pc + 3 = q2) (k1 : ¬ x = y → V Γ d M q1 L st h t) (k2 : x = y → V Γ d M q2 L st h t) : V Γ d M pc L (.int y :: .int x :: st) h t := by
  subst hq; exact V.br (V.mono (x = y) k2 k1) k2 k1 (fun p e R s m args below meth c0 H locs cells slots Q ls hx hb a2 a1 => lv_icmp_ne hx hb hd ht a1 a2)
theorem v_icmp_lt {x y : Int32} {off : Int} {q1 q2 : Nat} (hd : decode M.2.1 pc = .ok (.if_icmp .lt off, 3)) (ht : (pc : Int) + off = (q1 : Int)) (hq : pc + 3 = q2) (k1 : x < y → V Γ d M q1 L st h t) (k2 : ¬ x < y → V Γ d M q2 L st h t) : V Γ d M pc L (.int y :: .int x :: st) h t := by
  subst hq; exact V.br (V.mono (x < y) k1 k2) k1 k2 (fun p e R s m args below meth c0 H locs cells slots Q ls hx hb a1 a2 => lv_icmp_lt hx hb hd ht a1 a2)
theorem v_icmp_ge {x y : Int32} {off : Int} {q1 q2 : Nat} (hd : decode M.2.1 pc = .ok (.if_icmp .ge off, 3)) (ht : (pc : Int) + off = (q1 : Int)) (hq : pc + 3 = q2) (k1 : y ≤ x → V Γ d M q1 L st h t) (k2 : ¬ y ≤ x → V Γ d M q2 L st h t) : V Γ d M pc L (.int y :: .int x :: st) h t := by
  subst hq; exact V.br (V.mono (y ≤ x) k1 k2) k1 k2 (fun p e R s m args below meth c0 H locs cells slots Q ls hx hb a1 a2 => lv_icmp_ge hx hb hd ht a1 a2)
theorem v_icmp_gt {x y : Int32} {off : Int} {q1 q2 : Nat} (hd : decode M.2.1 pc = .ok (.if_icmp .gt off, 3)) (ht : (pc : Int) + off = (q1 : Int)) (hq : pc + 3 = q2) (k1 : y < x → V Γ d M q1 L st h t) (k2 : ¬ y < x → V Γ d M q2 L st h t) : V Γ d M pc L (.int y :: .int x :: st) h t := by
  subst hq; exact V.br (V.mono (y < x) k1 k2) k1 k2 (fun p e R s m args below meth c0 H locs cells slots Q ls hx hb a1 a2 => lv_icmp_gt hx hb hd ht a1 a2)
theorem v_icmp_le {x y : Int32} {off : Int} {q1 q2 : Nat} (hd : decode M.2.1 pc = .ok (.if_icmp .le off, 3)) (ht : (pc : Int) + off = (q1 : Int)) (hq : pc + 3 = q2) (k1 : x ≤ y → V Γ d M q1 L st h t) (k2 : ¬ x ≤ y → V Γ d M q2 L st h t) : V Γ d M pc L (.int y :: .int x :: st) h t := by
  subst hq; exact V.br (V.mono (x ≤ y) k1 k2) k1 k2 (fun p e R s m args below meth c0 H locs cells slots Q ls hx hb a1 a2 => lv_icmp_le hx hb hd ht a1 a2)
theorem v_goto {off : Int} (hd : decode M.2.1 pc = .ok (.goto off, 3)) (ht : (pc : Int) + off = (q : Int)) (k : V Γ d M q L st h t) : V Γ d M pc L st h t :=
  V.pure k (fun p e R s m args below meth c H locs cells slots Q ls hx hb _ kk => lv_goto hx hb hd ht kk)
theorem v_lcmp {x y : Int64} (hd : decode M.2.1 pc = .ok (.lcmp, 1)) (hq : pc + 1 = q) (k : V Γ d M q L (.int (lg_cmp x y) :: st) h t) : V Γ d M pc L (.long y :: .long x :: st) h t := by
  subst hq; exact V.pure k (fun p e R s m args below meth c H locs cells slots Q ls hx hb _ kk => W.lcmp hx hb hd kk)
theorem v_ifnonnull {x : Nat} {off : Int} (hd : decode M.2.1 pc = .ok (.ifnonnull off, 3)) (ht : (pc : Int) + off = (q : Int)) (k : V Γ d M q L st h t) : V Γ d M pc L (.ref x :: st) h t :=
  V.pure k (fun p e R s m args below meth c H locs cells slots Q ls hx hb _ kk => lv_ifnonnull hx hb hd ht kk)
theorem v_ifnonnullN {off : Int} (hd : decode M.2.1 pc = .ok (.ifnonnull off, 3)) (hq : pc + 3 = q) (k : V Γ d M q L st h t) : V Γ d M pc L (.null :: st) h t := by
  subst hq; exact V.pure k (fun p e R s m args below meth c H locs cells slots Q ls hx hb _ kk => lv_ifnonnullN hx hb hd kk)
theorem v_ifnull {x : Nat} {off : Int} (hd : decode M.2.1 pc = .ok (.ifnull off, 3)) (hq : pc + 3 = q) (k : V Γ d M q L st h t) : V Γ d M pc L (.ref x :: st) h t := by
  subst hq; exact V.pure k (fun p e R s m args below meth c H locs cells slots Q ls hx hb _ kk => lv_ifnull hx hb hd kk)
theorem v_ifnullN {off : Int} (hd : decode M.2.1 pc = .ok (.ifnull off, 3)) (ht : (pc : Int) + off = (q : Int)) (k : V Γ d M q L st h t) : V Γ d M pc L (.null :: st) h t :=
  V.pure k (fun p e R s m args below meth c H locs cells slots Q ls hx hb _ kk => lv_ifnullN hx hb hd ht kk)
theorem v_lookup {dflt : Int} {ps : Array (Int × Int)} {len : Nat} {x : Int32} {off : Int} (hd : decode M.2.1 pc = .ok (.lookupswitch dflt ps, len)) (hp : (ps.toList.zip (ps.toList.drop 1)).all (fun (a, next) => a.1 < next.1) = true) (ho : Op.lookupswitch.offset ps.toList dflt x.toInt = off) (ht : (pc : Int) + off = (q : Int)) (k : V Γ d M q L st h t) : V Γ d M pc L (.int x :: st) h t :=
  V.pure k (fun p e R s m args below meth c H locs cells slots Q ls hx hb _ kk => lv_lookup hx hb hd hp ho ht kk)
theorem v_tabOut {dflt lo hi : Int} {offs : Array Int} {len : Nat} {x : Int32} (hd : decode M.2.1 pc = .ok (.tableswitch dflt lo hi offs, len)) (hx2 : x.toInt < lo ∨ hi < x.toInt) (ht : (pc : Int) + dflt = (q : Int)) (k : V Γ d M q L st h t) : V Γ d M pc L (.int x :: st) h t :=
  V.pure k (fun p e R s m args below meth c H locs cells slots Q ls hx hb _ kk => lv_tableOut hx hb hd hx2 ht kk)
theorem v_tabIn {dflt lo hi : Int} {offs : Array Int} {len : Nat} {x : Int32} {off : Int} (hd : decode M.2.1 pc = .ok (.tableswitch dflt lo hi offs, len)) (h1 : ¬ x.toInt < lo) (h2 : ¬ hi < x.toInt) (ho : offs[(x.toInt - lo).toNat]? = some off) (ht : (pc : Int) + off = (q : Int)) (k : V Γ d M q L st h t) : V Γ d M pc L (.int x :: st) h t :=
  V.pure k (fun p e R s m args below meth c H locs cells slots Q ls hx hb _ kk => lv_tableIn hx hb hd h1 h2 ho ht kk)
theorem V.ctx {st' : List Value} (k : V Γ d M q L st' h t)
    (f : ∀ (p : Program) (e : Env) (R : Room) (s : State) (m : MethodId) (args : Array Value) (below : List Frame) (meth : Method) (c : Code) (H : Heap) (locs : List Loc) (cells slots : Nat) (Q : State → Prop) (ls : Array Slot) (n0 : Nat), Cx Γ M p s m meth c n0 → Rl Γ h H → va_S (fun q => Γ.2.1 ≤ q) s.heap H locs → lv_has ls M.2.2.1 (L.map (cL Γ)) → W p Γ.1 e R s m args below meth c H locs cells slots Q (F0 m q ls (st'.map (cV Γ))) → W p Γ.1 e R s m args below meth c H locs cells slots Q (F0 m pc ls (st.map (cV Γ)))) : V Γ d M pc L st h t :=
  ⟨k.1, fun p e s m args below meth c H locs ls n0 t0 C h1 h2 hRl hSl hl => f p e _ s m args below meth c H locs _ _ _ ls n0 C hRl hSl hl (k.2 p e s m args below meth c H locs ls n0 t0 C h1 h2 hRl hSl hl)⟩
theorem v_ldc {idx : Nat} {v : Int32} (hd : decode M.2.1 pc = .ok (.ldc idx, 2)) (hw : Cond.constant M.1.cls idx v ∈ lw_tbl) (hq : pc + 2 = q) (k : V Γ d M q L (.int v :: st) h t) : V Γ d M pc L st h t := by
  subst hq; exact V.ctx k (fun p e R s m args below meth c H locs cells slots Q ls n0 C _ _ _ kk => lv_ldc C.1 C.2.1 C.2.2.2.1 (C.2.2.2.2.2.2.2.1.w hw rfl _) hd kk)
theorem v_ldcw {idx : Nat} {v : Int32} (hd : decode M.2.1 pc = .ok (.ldc_w idx, 3)) (hw : Cond.constant M.1.cls idx v ∈ lw_tbl) (hq : pc + 3 = q) (k : V Γ d M q L (.int v :: st) h t) : V Γ d M pc L st h t := by
  subst hq; exact V.ctx k (fun p e R s m args below meth c H locs cells slots Q ls n0 C _ _ _ kk => lv_ldcw C.1 C.2.1 C.2.2.2.1 (C.2.2.2.2.2.2.2.1.w hw rfl _) hd kk)
theorem v_ldc2 {idx : Nat} {v : Int64} (hd : decode M.2.1 pc = .ok (.ldc2_w idx, 3)) (hw : Cond.constantLong M.1.cls idx v ∈ lw_tbl) (hq : pc + 3 = q) (k : V Γ d M q L (.long v :: st) h t) : V Γ d M pc L st h t := by
  subst hq; exact V.ctx k (fun p e R s m args below meth c H locs cells slots Q ls n0 C _ _ _ kk => lv_ldc2 C.1 C.2.1 C.2.2.2.1 (C.2.2.2.2.2.2.2.1.w hw rfl _) hd kk)
end VO

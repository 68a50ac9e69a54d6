/-! THE CLAIM OUT OF ONE WALK OF THE LAW'S BODY. Your part is whole_start (and what it stands on); all else here is the same for every law, but numbers. -/
def R_law : String := "LockWatchLaw"
def lw_P (b : Addr) (xs : List Int32) (args : Array Value) (s : State) : Prop := args = #[.ref b] ∧ s.IntsAt b xs ∧ xs.length ≤ 3072 ∧ (Jvm.Cond.and given_1 narrow_1).before args s = true
def lw_Q (_ : Array Value) (s : State) (o : Outcome) (t : State) : Prop := o = .returned (some (.int 1)) ∧ Framed s o t [] 600000 7302250
def lw_Z (below : List Frame) (a : Array Value) (s : State) : State → Prop := fun t => ∃ o, t.status = .running ∧ Ended t below o ∧ lw_Q a s o t
/-- the law's own end, with 1 on the stack, nothing written that was there before, its room as the claim has it -/
theorem lw_ret {p : Program} {l : Launch} {e : Env} {s : State} {m : MethodId} {below : List Frame} {meth : Method} {c : Code} {b : Nat} (hx : p.tables.exec = Jvm.exec) (hb : c.code = code) (hr : meth.sig.returnType = ret) (hlocks : meth.locks = false) {pc : Nat} {H : Heap} {ls : Array Slot} (hdg : decode code pc = .ok (.ireturn, 1)) : W p l e room_1 s m #[Value.ref b] below meth c H [] 600000 7302250 (lw_Z below #[Value.ref b] s) (F0 m pc ls [.int 1]) := by
  intro T hT X
  obtain ⟨fs, hret, hrun, hended, hW, hframe⟩ := X.leave (v := some (.int 1)) (hlocks := hlocks) (fun h => by rw [hr] at h; cases h)
  have hmeth' : T.vm.method? m = some meth := X.method'
  refine ⟨T.setFrames fs, ?_, .returned (some (.int 1)), hrun, hended, rfl, ⟨_, rfl⟩, hW, hframe⟩
  jvm_step X.here [X.here.top, hx, hb, hdg, hmeth', hr, ret, narrow_b1]
  (try refine ⟨rfl, ?_⟩); (try refine ⟨rfl, ?_⟩)
  first | (intro acts; rw [hret _ acts rfl rfl rfl]) | rw [hret _ _ rfl rfl rfl]
  exact Steps.refl _
/-- what holds at the law's entry: the machine, the code, the tables' words (any of lw_tbl by 'hts w (by decide +kernel)'), the script of L ints xs at the cell b, what the Statement gives of the start (any of its parts by flat_of_before) -/
def lw_At (p : Program) (s : State) (m : MethodId) (meth : Method) (c : Code) (b L : Nat) (xs : Nat → Int32) : Prop :=
  p.tables.exec = Jvm.exec ∧ c.code = code ∧ meth.sig.returnType = ret ∧ c.maxLocals = 4 ∧ s.vm.findClass R_law = some m.cls ∧ (∀ w ∈ lw_tbl, w.before #[Value.ref b] s = true) ∧ va_X b L xs s s.heap ∧ b < s.heap.size ∧ meth.locks = false ∧ (Jvm.Cond.and given_1 narrow_1).before #[Value.ref b] s = true

def hE0 : Hp := (fun _ => .inl 0, fun _ _ => 0, fun _ _ => 0, fun _ _ => none, 0, 0)
theorem room_le {s : State} {pl : Platform} {R Q : Room} (h1 : Q.frames ≤ R.frames) (h2 : Q.cells ≤ R.cells) (h3 : Q.slots ≤ R.slots) (h4 : Q.locals ≤ R.locals) (h : s.hasRoom pl R = true) : s.hasRoom pl Q = true := by
  simp only [State.hasRoom, Bool.and_eq_true, decide_eq_true_eq] at h ⊢
  obtain ⟨⟨⟨⟨a1, a2, a3, a4, a5, a6⟩, a7⟩, a8⟩, a9⟩ := h
  exact ⟨⟨⟨⟨by omega, by omega, by omega, by omega, by omega, a6⟩, by omega⟩, by omega⟩, a9⟩
/-- what V says of the law is what the claim asks -/
theorem law_W {p : Program} {e : Env} {s : State} {m : MethodId} {below : List Frame} {meth : Method} {c : Code} {l : Launch} {b L : Nat} {xs : Nat → Int32} (C0 : lw_At p s m meth c b L xs) {Γ : Gm} (hl0 : Γ.1 = l) (hB : Γ.2.1 = s.heap.size) (hb3 : Γ.2.2.2.2.1 3 = some b) (hE : En Γ s) {d : Nat} (hd : d ≤ 1300) {hf : Hp} (hc : hN hf ≤ 600000) (hz : hZ hf ≤ 7302250) (hV : V Γ d mL 0 [(0, .retAddr 3)] [] hE0 (some (.int 1), hf)) : W p l e room_1 s m #[Value.ref b] below meth c s.heap [] 0 0 (lw_Z below #[Value.ref b] s) (entryFrame m ([Value.ref b] : List Value).toArray 4) := by
  subst hl0
  obtain ⟨hx, hb, hr, hml, hown, hts, hX, hbl, hlocks, hgv⟩ := C0
  rw [lg_entry_eq]
  have hl := lv_entry ([Value.ref b]) (n := 4) (Nat.le_of_ble_eq_true rfl)
  have hl2 : lv_has ((lg_sl [Value.ref b] ++ List.replicate (4 - (lg_sl [Value.ref b]).length) Slot.unset).toArray) mL.2.2.1 ([((0 : Nat), Value.retAddr 3)].map (cL Γ)) := by
    show lv_has _ 4 [(0, va_rf (Γ.2.2.2.2.1 3))]
    rw [hb3]
    exact hl
  have w := hV.2 p e s m #[Value.ref b] below meth c s.heap [] _ 0 0 ⟨hx, hb, hml, hown, hr, hlocks, fun z => absurd z (by decide), hE, by omega⟩ (Nat.zero_le _) (Nat.zero_le _) ⟨by show s.heap.size = Γ.2.1 + 0; omega, fun a ha => absurd ha (Nat.not_lt_zero _)⟩ va_S.rf hl2
  intro T hT X
  obtain ⟨t, st, o, h1, h2, hq, Lc, hF, hLc⟩ := w T hT { X with room := room_le (R := room_1) (show d ≤ 2048 by omega) (show hN hf - 0 ≤ 600000 by omega) (show hZ hf - 0 ≤ 7302250 by omega) (show 64 * d ≤ 84000 by omega) X.room }
  exact ⟨t, st, o, h1, h2, hq.1, hF.1, hF.2.1, hF.2.2.weaken (fun y hy hlt => absurd hlt (Nat.not_lt.mpr (by rw [← hB]; exact hLc y hy))) (by show hN hf - 0 ≤ 600000; omega) (by show hZ hf - 0 ≤ 7302250; omega)⟩
def mX11_init : MI := (yX11_init, cX11_init, 1, none)
theorem oX11_init : mOK mX11_init 0 := ⟨by decide +kernel, by decide +kernel, by decide +kernel, by decide, w0164, w0139⟩
set_option maxRecDepth 20000 in
set_option maxHeartbeats 4000000 in
/-- the law from its entry: both objects made, then the loop -/
theorem law_V {Γ : Gm} {d d1 : Nat} (hd : 13 ≤ d) (hd1 : d1 < d) (hL : Γ.2.2.2.2.2.2.1 ≤ 3072) {h1 h2 : Hp} (c1 : V Γ d1 mX11_init 0 [(0, .ref 0)] [] (nw hE0 (.inl 11)) (none, h1)) (c2 : fX12_init (nw h1 (.inl 12)) (hN h1) = some h2) {Inv : Nat → Hp → Prop} (ok : LawOK 0 (hN h1) Inv) (hi : Inv 0 h2) : ∃ hf n2, n2 ≤ 512 ∧ Inv n2 hf ∧ V Γ d mL 0 [(0, .retAddr 3)] [] hE0 (some (.int 1), hf) := by
  obtain ⟨⟨v, hf⟩, ⟨hv, n2, hn2, hi2⟩, kv⟩ := law_loop hd ok hL 513 0 h2 hi (by omega) (by omega)
  replace hv : v = some (.int 1) := hv
  subst hv
  refine ⟨hf, n2, hn2, hi2, ?_⟩
  refine v_new (r := (RX11, TX11, 14)) (ci := 11) (q := 3) dL_law_0 rfl w0160 w0161 w0139 rfl ?_
  refine v_dup (q := 4) dL_law_3 rfl rfl ?_
  refine u_callI (M' := mX11_init) (d' := d1) (As := []) (st := [.ref (hN hE0)]) (q := 7) oX11_init dL_law_4 rfl rfl w0162 w0163 rfl (Nat.le_of_ble_eq_true rfl) (Nat.le_of_ble_eq_true rfl) hd1 rfl c1 rfl ?_
  refine v_astore_n (L' := [(1, .ref 0), (0, .retAddr 3)]) (q := 8) dL_law_7 rfl (by decide) rfl rfl ?_
  refine v_new (r := (RX12, TX12, 58)) (ci := 12) (q := 11) dL_law_8 rfl w1337 w1338 w0150 rfl ?_
  refine v_dup (q := 12) dL_law_11 rfl rfl ?_
  refine u_callI (M' := mX12_init) (d' := 3) (As := []) (st := [.ref (hN h1)]) (q := 15) oX12_init dL_law_12 rfl rfl w1339 w1340 rfl (Nat.le_of_ble_eq_true rfl) (Nat.le_of_ble_eq_true rfl) (Nat.lt_of_lt_of_le (by decide) hd) rfl (sX12_init (Nat.le_refl _) c2) rfl ?_
  refine v_astore_n (L' := [(2, .ref (hN h1)), (1, .ref 0), (0, .retAddr 3)]) (q := 16) dL_law_15 rfl (by decide) rfl rfl ?_
  refine v_iconst (v := 0) (q := 17) dL_law_16 (by decide) rfl ?_
  refine v_istore_n (L' := [(3, .int 0), (2, .ref (hN h1)), (1, .ref 0), (0, .retAddr 3)]) (q := 18) dL_law_17 rfl (by decide) rfl rfl ?_
  exact V.sub [3, 2, 1, 0] rfl kv

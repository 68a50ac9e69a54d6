/-! a grid of four rows -/
def gdH (h : Hp) : Hp := sR (sR (sR (sR (nw (nw (nw (nw (nw h (.inr (.array .int, 4))) (.inr (.int, 17))) (.inr (.int, 17))) (.inr (.int, 17))) (.inr (.int, 17))) (hN h) 0 (some (hN h + 1))) (hN h) 1 (some (hN h + 2))) (hN h) 2 (some (hN h + 3))) (hN h) 3 (some (hN h + 4))
section GRM
variable {E : CtlPost} {e : Env} {f : Bool} {acts : List Action} {σ : State}
/-- the machine's own making of a row -/
theorem gm_row {ci comp : ClassId} {k : Class} {ty : FieldType} {n : Nat} {v : Value} {Q : Addr → Pre} (hk : σ.vm.classes[ci]? = some k) (hkind : k.kind = .array comp ty) (l1 : ¬ n > e.platform.arrayLengthLimit) (l2 : ¬ n * componentBytes ty > e.platform.maxHeapBytes) (hfit : fits ty v = true) (h1 : σ.heap.size < e.platform.maxCells) (h2 : σ.slotsUsed + n ≤ e.platform.maxSlots) (hq : ∀ acts', Q σ.heap.size f acts' (σ.pushCell { cls := ci, slots := Array.replicate n v, vm := .none })) : Sem.wp (Jvm.newArray ci n v) Q E e f acts σ := by
  have slotOk : ∀ i w, (Array.replicate n v)[i]? = some w → σ.fitsSlot ci .none i w = true := by
    intro i w hw
    rw [Array.getElem?_replicate] at hw
    by_cases z : i < n
    · rw [if_pos z] at hw
      cases hw
      simp [State.fitsSlot, State.slotType?, hk, hkind, hfit]
    · rw [if_neg z] at hw; cases hw
  unfold Jvm.newArray Jvm.arrayFits
  simp only [Sem.wp_bind', Jvm.W.ask, Jvm.W.ite, l1, if_false, Sem.wp_pure', Jvm.W.theClass, hk, hkind, l2, Jvm.W.alloc, Jvm.W.stop, Option.some.injEq, exists_eq_left', Array.size_replicate]
  rw [if_neg (by omega)]
  exact ⟨h1, h2, slotOk, hq _⟩
/-- an inner row -/
theorem gm_in {ci comp : ClassId} {k : Class} {Q : Addr → Pre} (hk : σ.vm.classes[ci]? = some k) (hkind : k.kind = .array comp .int) (l1 : ¬ 17 > e.platform.arrayLengthLimit) (l2 : ¬ 68 > e.platform.maxHeapBytes) (h1 : σ.heap.size < e.platform.maxCells) (h2 : σ.slotsUsed + 17 ≤ e.platform.maxSlots) (hq : ∀ acts', Q σ.heap.size f acts' (σ.pushCell { cls := ci, slots := Array.replicate 17 (.int 0), vm := .none })) : Sem.wp (multianewarray.make ci [(17 : Int32)]) Q E e f acts σ := by
  rw [multianewarray.make]
  simp only [Sem.wp_bind', Jvm.W.ite, show ¬ (17 : Int32) < 0 by decide, if_false, Sem.wp_pure', Jvm.W.theClass, hk, hkind, Option.some.injEq, exists_eq_left']
  exact gm_row (n := 17) hk hkind l1 l2 rfl h1 h2 hq
end GRM

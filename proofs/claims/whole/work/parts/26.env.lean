/-! the environment at the law's entry -/
theorem arrAt {s : State} {A : Array Value} {ty : FieldType} (hne : refKind ty = false) (h : (Cond.arrayClass ty).before A s = true) : ∃ c : ClassId, ArrOfT s c ty ∧ va_RA s c ty := by
  obtain ⟨c, k, comp, h1, h2, h3⟩ := Cond.arrayClass_spec h
  refine ⟨c, fun n z => ⟨(fun q hq => by cases hq), k, h2, comp, h3⟩, ?_⟩
  cases ty <;> first | exact h1 | cases hne
theorem arrAtO {s : State} {A : Array Value} {C : String} (h : (Cond.arrayOver (.object C)).before A s = true) : ∃ c : ClassId, ArrOfT s c (.object C) ∧ va_RA s c (.object C) := by
  obtain ⟨comp, c, k, h1, h2, h3, h4, h5⟩ := Cond.arrayOver_spec h
  exact ⟨c, fun n z => ⟨(fun q hq => by cases hq), k, h3, comp, h4⟩, k, comp, h3, h4, h1, h5⟩
theorem arrAtA {s : State} {A : Array Value} {t : FieldType} (h : (Cond.arrayOver (.array t)).before A s = true) : ∃ c : ClassId, ArrOfT s c (.array t) ∧ va_RA s c (.array t) := by
  obtain ⟨comp, c, k, h1, h2, h3, h4, h5⟩ := arrayOverA_spec h
  exact ⟨c, fun n z => ⟨(fun q hq => by cases hq), k, h3, comp, h4⟩, h5⟩
def dCf (a0 a1 a2 a3 a4 a5 a6 a7 a8 a9 a10 a11 a12 : ClassId) : Nat → ClassId
  | 0 => a0 | 1 => a1 | 2 => a2 | 3 => a3 | 4 => a4 | 5 => a5 | 6 => a6 | 7 => a7 | 8 => a8 | 9 => a9 | 10 => a10 | 11 => a11 | _ => a12
def dIf (a0 a1 a2 a3 a4 a5 a6 a7 a8 a9 a10 a11 a12 : Nat → Nat) : Nat → Nat → Nat
  | 0 => a0 | 1 => a1 | 2 => a2 | 3 => a3 | 4 => a4 | 5 => a5 | 6 => a6 | 7 => a7 | 8 => a8 | 9 => a9 | 10 => a10 | 11 => a11 | _ => a12
def dAf (cI cJ cB cZ cO cA : ClassId) : FieldType → ClassId
  | .int => cI | .long => cJ | .byte => cB | .boolean => cZ | .object _ => cO | _ => cA
def adf (a0 a1 : Nat) (z : Option Nat) (b : Nat) : Nat → Option Nat
  | 0 => some a0 | 1 => some a1 | 2 => z | 3 => some b | _ => none
theorem tx_in : ∀ j : Nat, j < 71 → Cond.eq (.elem (.field (.string "LockWatch$Reader" 134) "java/lang/String" "value" "[B") (.int (Int32.ofNat j))) (.int (wBy.getD j 0)) ∈ flatC (Jvm.Cond.and given_1 narrow_1) := by decide +kernel
set_option maxRecDepth 20000 in
set_option maxHeartbeats 4000000 in
theorem en_of {p : Program} {s : State} {m : MethodId} {meth : Method} {c : Code} {b L : Nat} {xs : Nat → Int32} (l : Launch) (C0 : lw_At p s m meth c b L xs) : ∃ Γ : Gm, Γ.1 = l ∧ Γ.2.1 = s.heap.size ∧ Γ.2.2.2.2.1 3 = some b ∧ Γ.2.2.2.2.2.2.1 = L ∧ Γ.2.2.2.2.2.2.2 = xs ∧ En Γ s := by
  obtain ⟨hx, hb, hr, hml, hown, hts, hX, hbl, hlocks, hgv⟩ := C0
  have hs := flat_of_before _ hgv
  obtain ⟨c0, i0, k0⟩ := u_known (C := RX0) (T := TX0) (N := 9) (n := 9) hts inX0 (hts _ w0484)
  obtain ⟨c1, i1, k1⟩ := u_known (C := RX1) (T := TX1) (N := 4) (n := 4) hts inX1 (hts _ w0281)
  obtain ⟨c2, i2, k2⟩ := u_known (C := RX2) (T := TX2) (N := 3) (n := 3) hts inX2 (hts _ w0268)
  obtain ⟨c3, i3, k3⟩ := u_known (C := RX3) (T := TX3) (N := 8) (n := 8) hts inX3 (hts _ w0275)
  obtain ⟨c4, i4, k4⟩ := u_known (C := RX4) (T := TX4) (N := 5) (n := 5) hts inX4 (hts _ w0455)
  obtain ⟨c5, i5, k5⟩ := u_known (C := RX5) (T := TX5) (N := 7) (n := 7) hts inX5 (hts _ w0219)
  obtain ⟨c6, i6, k6⟩ := u_known (C := RX6) (T := TX6) (N := 13) (n := 13) hts inX6 (hts _ w0169)
  obtain ⟨c7, i7, k7⟩ := u_known (C := RX7) (T := TX7) (N := 7) (n := 7) hts inX7 (hts _ w0306)
  obtain ⟨c8, i8, k8⟩ := u_known (C := RX8) (T := TX8) (N := 19) (n := 19) hts inX8 (hts _ w1090)
  obtain ⟨c9, i9, k9⟩ := u_known (C := RX9) (T := TX9) (N := 10) (n := 10) hts inX9 (hts _ w0416)
  obtain ⟨c10, i10, k10⟩ := u_known (C := RX10) (T := TX10) (N := 3) (n := 3) hts inX10 (hts _ w0391)
  obtain ⟨c11, i11, k11⟩ := u_known (C := RX11) (T := TX11) (N := 14) (n := 14) hts inX11 (hts _ w0161)
  obtain ⟨c12, i12, k12⟩ := u_known (C := RX12) (T := TX12) (N := 58) (n := 58) hts inX12 (hts _ w1338)
  obtain ⟨cI, aI⟩ := arrAt (ty := .int) rfl (hts _ w0217)
  obtain ⟨cJ, aJ⟩ := arrAt (ty := .long) rfl (hts _ w0376)
  obtain ⟨cB, aB⟩ := arrAt (ty := .byte) rfl (hts _ w0216)
  obtain ⟨cZ, aZ⟩ := arrAt (ty := .boolean) rfl (hts _ w0414)
  obtain ⟨cO, aO⟩ := arrAtO (C := RX3) (hts _ w0274)
  obtain ⟨cA, aA⟩ := arrAtA (t := .int) (hts _ w0463)
  have hlow : ∀ a : Nat, a < s.heap.size → ¬ (fun q => s.heap.size ≤ q) a := fun a ha h9 => absurd ha (Nat.not_lt.mpr h9)
  obtain ⟨adK, adV, hSt, hev⟩ := vk_Sof (args := #[Value.ref b]) (s := s) (N := 1) (tm := fun _ => .string "LockWatch$Reader" 134) (len := [71]) (byt := [wBy]) (A := fun q => s.heap.size ≤ q)
    (fun i hi => by rw [show i = 0 by omega]; decide) (fun i hi => hs _ (by decide +kernel)) (fun i hi => hs _ (by decide +kernel)) (fun i hi => hs _ (by decide +kernel)) (fun i hi => by rw [show i = 0 by omega]; exact hs _ (by decide +kernel))
    (fun i hi j hj => by rw [show i = 0 by omega] at hj ⊢; exact hs _ (tx_in j hj)) (fun i j hi hj hij => absurd (show i = j by omega) hij) hlow
  have hS0 := hSt.1 0 (by decide)
  have hRf := vk_R.of (hts _ w0605) (hev 0 (by decide))
  have hZ1 := va_Zof (hts _ (List.mem_of_getElem? (i := 615) (by decide +kernel))) (hts _ w0153) (va_eqi (hs (Cond.eq (.static "java/lang/String" "COMPACT_STRINGS" "Z") (.int 1)) (by decide +kernel))) hlow
  have hZ2 := va_Zqof (C := "jdk/internal/util/Preconditions") (n := "SIOOBE_FORMATTER") (d := "Ljava/util/function/BiFunction;") (hts _ (List.mem_of_getElem? (i := 631) (by decide +kernel))) (hts _ w0155) (hs _ (by decide +kernel)) hlow
  obtain ⟨z, hz⟩ : ∃ z : Option Nat, va_Z "jdk/internal/util/Preconditions" "SIOOBE_FORMATTER" "Ljava/util/function/BiFunction;" (va_rf z) (fun q => s.heap.size ≤ q) s s.heap := by
    rcases hZ2 with h9 | ⟨t, h9⟩
    · exact ⟨none, h9⟩
    · exact ⟨some t, h9⟩
  refine ⟨(l, s.heap.size, (dCf c0 c1 c2 c3 c4 c5 c6 c7 c8 c9 c10 c11 c12, dIf i0 i1 i2 i3 i4 i5 i6 i7 i8 i9 i10 i11 i12), dAf cI cJ cB cZ cO cA, adf (adK 0) (adV 0) z b, s.heap, L, xs), rfl, rfl, rfl, rfl, rfl, ?_⟩
  refine ⟨fun w hw hg => word_at (State.WarmedH.refl s) (good_of_word hg) (hts w hw), fun o i y q hq => va_Nw.of rfl (hts _ hq), fun ci q hq => ?_, fun ty hty => ?_, fun q hq => rfl, va_AO.of (hts _ w0274), hts _ w0463, ?_, ?_⟩
  · match ci, hq with
    | 0, hq => cases hq; exact k0
    | 1, hq => cases hq; exact k1
    | 2, hq => cases hq; exact k2
    | 3, hq => cases hq; exact k3
    | 4, hq => cases hq; exact k4
    | 5, hq => cases hq; exact k5
    | 6, hq => cases hq; exact k6
    | 7, hq => cases hq; exact k7
    | 8, hq => cases hq; exact k8
    | 9, hq => cases hq; exact k9
    | 10, hq => cases hq; exact k10
    | 11, hq => cases hq; exact k11
    | 12, hq => cases hq; exact k12
    | ci + 13, hq => simp [vwCl] at hq
  · simp only [jTys, List.mem_cons, List.not_mem_nil, or_false] at hty
    rcases hty with rfl | rfl | rfl | rfl | rfl | rfl
    · exact aI
    · exact aJ
    · exact aB
    · exact aZ
    · exact aO
    · exact aA
  · exact ⟨adK 0, adV 0, rfl, rfl, hRf, hS0.1, hS0.2.1, hS0.2.2.1, hS0.2.2.2, hZ1, hz⟩
  · exact ⟨b, rfl, hbl, hX⟩

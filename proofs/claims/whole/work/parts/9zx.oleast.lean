/-! the least set, the reference; least on both sides -/
section OLR
variable {h : Hp} {m m' : Mem} {g : GS} {own own' : Nat → Nat} {ad : Nat → Option Nat} {X : Nat}
/-- what stuck answers with 0: 1 stuck, 0 free, -1 else -/
theorem r_stuck0 (J : IR m g) (ok : okG g) {x : Nat} (hx : x < 2 ^ 31) : wp (gX12_stuck m (nI x) 0) (fun y => IR y.2 g ∧ ((vst (sP g) x ∧ y.1 = (if oc (sP g) (cS (gT g)) x = 2 then mI else if oc (sP g) (cS (gT g)) x = 1 then 1 else 0) ∧ RAF (sP g) (cS (gT g)) x m y.2) ∨ (¬ vst (sP g) x ∧ y.1 = -1 ∧ y.2 = m))) := by
  have h64 := p64 ok.2.1
  by_cases vX : vst (sP g) x
  · have R := ir_rx J ok vX.2.1
    refine wp_mono (r_stuckS (w := 0) R J.2.2.1 ok.2.1 vX ((inN_nI (j := 0) (by decide)).mpr (by decide))) ?_
    rintro ⟨r, m1⟩ ⟨q1, q2⟩
    refine ⟨ir_rf J q1.1, Or.inl ⟨vX, ?_, q1⟩⟩
    -- a row that is kept, whatever the class says
    have kn : ∃ rg lk, KN (sP g) (cS (gT g)) x (nI (oc (sP g) (cS (gT g)) x)) (nI (dep (lastM (sP g) (cS (gT g)) x) 6)) (nI (zN (srch (sP g) (cS (gT g)) x))) rg lk := by
      by_cases o1 : oc (sP g) (cS (gT g)) x = 1
      · obtain ⟨rt, e1, rl, e2, q⟩ := raf_rings q1 o1
        exact ⟨rt, rl, rfl, rfl, q1.2.2.2, fun _ => ⟨rfl, q⟩⟩
      · exact ⟨0, 0, rfl, rfl, q1.2.2.2, fun q => absurd q o1⟩
    obtain ⟨rg, lk, kn⟩ := kn
    have := q2 _ _ _ _ _ kn
    change r = _ at this
    show r = _
    rw [this]
    unfold stV
    rw [if_pos rfl]
  · unfold gX12_stuck gjX12_stuck_25
    rw [wp_bind]
    refine wp_mono (r_isSet J.2.2.1 ok.2.1) ?_
    rintro y (⟨rfl, X, e, v⟩ | ⟨rfl, _⟩)
    · have := vst_lt v
      rw [i_eq hx (by omega)] at e
      rw [← e] at v
      exact absurd v vX
    · rw [wp_t rfl, wp_some]
      exact ⟨J, Or.inr ⟨vX, rfl, rfl⟩⟩
theorem rd4 {Pl : PD} (f : PF m Pl) {Q : Int32 → Prop} : wp (rd m 4 2 (m 0 9)) Q = Q (nI (pP Pl)) := by
  obtain ⟨k, k1, e9, _, _, e4, _⟩ := f
  rw [e9, w_rd (by omega) (by decide), e4]
theorem shl_p {Pl : PD} (pw : PW Pl) : ((1 : Int32) <<< (nI (pP Pl) &&& 31)) = nI (2 ^ pP Pl) := by
  have h6 := pw.2.2.1
  have l : 1 * 2 ^ pP Pl < 2 ^ 32 := by rw [Nat.one_mul]; exact Nat.pow_lt_pow_right (by decide) (by omega)
  rw [L_1, pk_shlN (nI (pP Pl) &&& 31) (pP Pl) (s_l _ (by omega)) l, Nat.one_mul]
theorem r_leastNow (J : IR m g) (ok : okG g) : wp (gX12_leastNow m) (fun y => IR y.2 g ∧ LSP (sP g) (cS (gT g)) y.1 ∧ (y.1 = 0 ∨ ∃ X m0, y.1 = nI X ∧ vst (sP g) X ∧ oc (sP g) (cS (gT g)) X = 1 ∧ RAF (sP g) (cS (gT g)) X m0 y.2)) := by
  have pw := ok.2.1
  have p6 := pw.2.2.1
  have h64 := p64 pw
  have hp0 : 0 < 2 ^ pP (sP g) := Nat.two_pow_pos _
  unfold gX12_leastNow
  rw [wp_bind]
  have inner : ∀ sz c, sz < 2 ^ 31 → IR c g → wp (lp (gbX12_leastNow_10 (nI sz)) FU ((1 : Int32), c)) (fun e => (∃ c', e = .inl c' ∧ IR c' g ∧ ∀ Y, vst (sP g) Y → pcn Y = sz → oc (sP g) (cS (gT g)) Y ≠ 1) ∨ ∃ X c', e = .inr (nI X, c') ∧ (IR c' g ∧ ∃ m0, RAF (sP g) (cS (gT g)) X m0 c') ∧ vst (sP g) X ∧ pcn X = sz ∧ oc (sP g) (cS (gT g)) X = 1 ∧ ∀ Y, Y < X → vst (sP g) Y → pcn Y = sz → oc (sP g) (cS (gT g)) Y ≠ 1) := by
    intro sz c sz7 hc'
    refine wp_for (κ := Mem) (fun x c => (nI x, c)) (2 ^ pP (sP g)) (fun x c => IR c g ∧ ∀ Y, Y < x → vst (sP g) Y → pcn Y = sz → oc (sP g) (cS (gT g)) Y ≠ 1) (fun x c hx hI => ?_) (fun c hI => ?_) 1 c hp0 ⟨hc', fun Y hY vY => by have := (vst_lt vY).2; omega⟩ (by omega)
    · obtain ⟨Jc, g3⟩ := hI
      have stay : ∀ c', IR c' g → (vst (sP g) x → pcn x = sz → oc (sP g) (cS (gT g)) x ≠ 1) → wp (gjX12_leastNow_45 (nI sz) (nI x) c') (lq (fun s' => ∃ c'' : Mem, s' = (nI (x + 1), c'') ∧ IR c'' g ∧ ∀ Y, Y < x + 1 → vst (sP g) Y → pcn Y = sz → oc (sP g) (cS (gT g)) Y ≠ 1) (fun e => (∃ c', e = .inl c' ∧ IR c' g ∧ ∀ Y, vst (sP g) Y → pcn Y = sz → oc (sP g) (cS (gT g)) Y ≠ 1) ∨ ∃ X c', e = .inr (nI X, c') ∧ (IR c' g ∧ ∃ m0, RAF (sP g) (cS (gT g)) X m0 c') ∧ vst (sP g) X ∧ pcn X = sz ∧ oc (sP g) (cS (gT g)) X = 1 ∧ ∀ Y, Y < X → vst (sP g) Y → pcn Y = sz → oc (sP g) (cS (gT g)) Y ≠ 1)) := fun c' h1' h2' => by
        unfold gjX12_leastNow_45
        rw [wp_bind, wp_some, wp_some, lq_l, nI_1]
        refine ⟨c', rfl, h1', fun Y hY vY hp => ?_⟩
        by_cases z : Y = x
        · rw [z] at vY hp ⊢; exact h2' vY hp
        · exact g3 Y (by omega) vY hp
      simp only [gbX12_leastNow_10]
      rw [wp_bind, rd4 Jc.2.2.1, shl_p pw, wp_f (by rw [i_le (by omega) (by omega)]; omega), wp_bind, wp_eq (pc_r x (by omega))]
      have pcx := pc_le (pP (sP g)) (by omega) x hx
      by_cases e1 : pcn x = sz
      · rw [wp_t (by rw [e1]), wp_bind]
        refine wp_mono (r_stuck0 Jc ok (by omega)) ?_
        rintro ⟨y1, m1⟩ ⟨J1, hy⟩
        change IR m1 g at J1
        show wp (if y1 = 1 then _ else _) _
        rcases hy with ⟨vX, e, ra⟩ | ⟨nv, e, _⟩
        · change y1 = _ at e
          by_cases o1 : oc (sP g) (cS (gT g)) x = 1
          · rw [if_neg (by omega), if_pos o1] at e
            rw [wp_t e, wp_some, lq_r]
            exact Or.inr ⟨x, m1, rfl, ⟨J1, c, ra⟩, vX, e1, o1, g3⟩
          · rw [wp_f ?_]
            · exact stay m1 J1 (fun _ _ => o1)
            · rw [e]
              by_cases o2 : oc (sP g) (cS (gT g)) x = 2
              · rw [if_pos o2]; decide
              · rw [if_neg o2, if_neg o1]; decide
        · change y1 = _ at e
          rw [wp_f (by rw [e]; decide)]
          exact stay m1 J1 (fun v _ => absurd v nv)
      · rw [wp_f (by rw [i_eq (by omega) sz7]; exact e1)]
        exact stay c Jc (fun _ q => absurd q e1)
    · obtain ⟨Jc, g3⟩ := hI
      simp only [gbX12_leastNow_10]
      rw [wp_bind, rd4 Jc.2.2.1, shl_p pw, wp_t (by rw [i_le (by omega) (by omega)]; omega), wp_some, lq_r]
      exact Or.inl ⟨c, rfl, Jc, fun Y vY => g3 Y (vst_lt vY).1 vY⟩
  refine wp_mono (Q := fun e => (∃ c', e = .inl c' ∧ IR c' g ∧ ∀ Y, vst (sP g) Y → oc (sP g) (cS (gT g)) Y ≠ 1) ∨ ∃ X c', e = .inr (nI X, c') ∧ (IR c' g ∧ ∃ m0, RAF (sP g) (cS (gT g)) X m0 c') ∧ vst (sP g) X ∧ oc (sP g) (cS (gT g)) X = 1 ∧ ∀ Y, vst (sP g) Y → oc (sP g) (cS (gT g)) Y = 1 → pcn X < pcn Y ∨ (pcn X = pcn Y ∧ X ≤ Y)) ?_ ?_
  · refine wp_for (κ := Mem) (fun sz c => (nI sz, c)) 7 (fun sz c => IR c g ∧ ∀ Y, vst (sP g) Y → pcn Y < sz → oc (sP g) (cS (gT g)) Y ≠ 1) (fun sz c hx hI => ?_) (fun c hI => ?_) 1 m (by omega) ⟨J, fun Y vY hp => by have := pc_0 Y vY.1 (vst_lt vY).2; omega⟩ (by omega)
    · obtain ⟨Jc, g3⟩ := hI
      simp only [gbX12_leastNow_2]
      rw [L_6, wp_f (by rw [i_lt (by decide) (by omega)]; omega), wp_bind]
      refine wp_mono (inner sz c (by omega) Jc) ?_
      rintro e (⟨c', rfl, q1, q2⟩ | ⟨X, c', rfl, q1, q2, q3, q4, q5⟩)
      · show wp ((some (nI sz + 1)).bind fun x25 => some (Sum.inl (x25, c'))) _
        rw [wp_bind, wp_some, wp_some, lq_l, nI_1]
        refine ⟨c', rfl, q1, fun Y vY hp => ?_⟩
        by_cases z : pcn Y = sz
        · exact q2 Y vY z
        · exact g3 Y vY (by omega)
      · show wp (some (Sum.inr (Sum.inr (nI X, c')))) _
        rw [wp_some, lq_r]
        refine Or.inr ⟨X, c', rfl, q1, q2, q4, fun Y vY oY => ?_⟩
        rcases Nat.lt_trichotomy (pcn X) (pcn Y) with z | z | z
        · exact Or.inl z
        · refine Or.inr ⟨z, Nat.le_of_not_lt fun y => q5 Y y vY (by omega) oY⟩
        · exact absurd oY (g3 Y vY (by omega))
    · obtain ⟨Jc, g3⟩ := hI
      simp only [gbX12_leastNow_2]
      rw [L_6, wp_t (by rw [i_lt (by decide) (by decide)]; omega), wp_some, lq_r]
      exact Or.inl ⟨c, rfl, Jc, fun Y vY => g3 Y vY (by have := pc_le (pP (sP g)) (by omega) Y (vst_lt vY).1; omega)⟩
  · rintro e (⟨c', rfl, q1, q3⟩ | ⟨X, c', rfl, ⟨q0, m0, q1⟩, q3, q4, q5⟩)
    · show wp (some ((0 : Int32), c')) _
      rw [wp_some]
      exact ⟨q1, Or.inl ⟨rfl, q3⟩, Or.inl rfl⟩
    · show wp (some (nI X, c')) _
      rw [wp_some]
      exact ⟨q0, Or.inr ⟨X, rfl, q3, q4, q5⟩, Or.inr ⟨X, m0, rfl, q3, q4, q1⟩⟩
theorem o_least (I : IC h g own ad) (F : FI h own (sP g)) (J : IR m g) (ok : okG g) : ∃ r h1 m1, fX11_least h 0 = some (r, h1) ∧ gX12_least m = some (r, m1) ∧ ASK h h1 m1 own g := by
  obtain ⟨b, n, rb, L, ob, hc, c74, hT, sw⟩ := ic_at I ok
  obtain ⟨cs, ow, _, _, ⟨P, hP, p1, p2, pc⟩, ⟨a1, a2⟩, _⟩ := id I
  have o3 := ok.2.2.2.1
  have s3 := L.1
  have s2 := cs.s2
  have s0 := cs.s0
  have pr : ∀ {Q : Nat → Prop}, wp (fX2_present (wI h (hI h)) 18) Q = Q b := fun {Q} => cs.present a1 (by have := ok.2.2.1; omega) rb
  refine bo2 (R := fun h1 m1 => ASK h h1 m1 own g) ?_
  show wp (fX11_least (wI h (hI h)) 0) _
  unfold fX11_least gX12_least
  rw [wp_bind, cs.gr cs.r13, wp_bind, cs.gr p1, wp_bind, cs.gr cs.r5, wp_bind, s2.o, wp_bind, pr, wp_bind, s3.r0, wp_bind, s0.o, wp_bind]
  show wp (fX0_leastSet h 74 P (b + 1)) _
  refine wp_mono (c_leastSet I F ok p1 rb) ?_
  rintro ⟨r1, h1⟩ ⟨own', g1, g2, g3, _⟩
  rw [wp_some, wp_bind]
  refine wp_mono (r_leastNow J ok) ?_
  rintro ⟨r2, m1⟩ ⟨q1, q2, _⟩
  rw [wp_some]
  exact ⟨lsp_un q2 g3, ⟨own', g1, fi_z (fun j hj => (hT j hj).2) g2⟩, q1⟩
end OLR

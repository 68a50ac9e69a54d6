/-! the least set that can be stuck, on both sides -/
def pcn (X : Nat) : Nat := X % 2 + X / 2 % 2 + X / 4 % 2 + X / 8 % 2 + X / 16 % 2 + X / 32 % 2
theorem pc_c (h : Hp) : ∀ n, n < 64 → fJ6_bitCount_0f7a4 h (nI n) = some (nI (pcn n)) := by
  have : ∀ n, n < 64 → fJ6_bitCount_0f7a4 (fun _ => .inl 0, fun _ _ => 0, fun _ _ => 0, fun _ _ => none, 0, 0) (nI n) = some (nI (pcn n)) := by decide +kernel
  exact this
theorem pc_r : ∀ n, n < 64 → gX12_size (nI n) = some (nI (pcn n)) := by decide +kernel
theorem pc_le : ∀ p, p < 7 → ∀ n, n < 2 ^ p → pcn n ≤ p := by decide +kernel
theorem pc_0 : ∀ n, n < 64 → 0 < n → 0 < pcn n := by decide +kernel
/-- the least -/
def LSP (Pl : PD) (S : Nat → Nat) (r : Int32) : Prop := (r = 0 ∧ ∀ Y, vst Pl Y → oc Pl S Y ≠ 1) ∨ ∃ X, r = nI X ∧ vst Pl X ∧ oc Pl S X = 1 ∧ ∀ Y, vst Pl Y → oc Pl S Y = 1 → pcn X < pcn Y ∨ (pcn X = pcn Y ∧ X ≤ Y)
section OLS
variable {h : Hp} {m m' : Mem} {g : GS} {own own' : Nat → Nat} {ad : Nat → Option Nat} {X : Nat} {Pl : PD} {P : Nat} {T S : Nat → Nat}
theorem lsp_un {r r' : Int32} (a : LSP Pl S r) (b : LSP Pl S r') : r = r' := by
  rcases a with ⟨e, a⟩ | ⟨X, e, v, o, l⟩
  · rcases b with ⟨e', _⟩ | ⟨Y, _, v', o', _⟩
    · rw [e, e']
    · exact absurd o' (a Y v')
  · rcases b with ⟨_, b⟩ | ⟨Y, e', v', o', l'⟩
    · exact absurd o (b X v)
    · have h1 := l Y v' o'
      have h2 := l' X v o
      rw [e, e', show X = Y by omega]
theorem own_f {h1 : Hp} (o : OWN own (hN h)) (N120 : 120 ≤ hN h) (f : FN h h1 own own') : OWN own' (hN h1) := ⟨fun a h1 h2 h3 => by rw [f.2.1 a (by omega)]; exact o.1 a h1 h2 h3, fun a h1 h2 => by rw [f.2.1 a (by omega)]; exact o.2.1 a h1 h2, f.2.2.2.1⟩
theorem pc_f {h1 : Hp} (o : OWN own (hN h)) (N120 : 120 ≤ hN h) (f : FN h h1 own own') (pc : PC h P Pl) (hP : P = 8 ∨ P = 13) : PC h1 P Pl := PC.congr (h := h) (m := hI h) (m' := hI h1) pc f.1 (fun y y1 y2 => funext fun j => f.2.2.2.2.1 y (by omega) (by rw [o.1 y (by omega) (by omega) (by omega)]; decide) (by omega) j)
theorem c_leastSet {b : Nat} (I : IC h g own ad) (F : FI h own (sP g)) (ok : okG g) (p1 : hR h 0 3 = some P) (rb : hR h 19 (sA g) = some b) : wp (fX0_leastSet h 74 P (b + 1)) (fun r => ∃ own', FN h r.2 own own' ∧ FZ r.2 own' (sP g) (gT g) ∧ LSP (sP g) (cS (gT g)) r.1 ∧ ∀ X, vst (sP g) X → r.1 = nI X → KN (sP g) (cS (gT g)) X (hI r.2 79 X) (hI r.2 75 X) (hI r.2 76 X) (hI r.2 77 X) (hI r.2 78 X)) := by
  obtain ⟨b', n, rb', L, ob, hc, c74, hT, sw⟩ := ic_at I ok
  rw [rb] at rb'
  cases rb'
  obtain ⟨cs, ow, _, _, ⟨P', hP, p1', _, pc⟩, _⟩ := I
  rw [p1] at p1'
  cases p1'
  have s := cs.s0
  have c120 := cs.1
  have pw := ok.2.1
  have p6 := pw.2.2.1
  have h64 := p64 pw
  have hp0 : 0 < 2 ^ pP (sP g) := Nat.two_pow_pos _
  generalize sP g = Pl at *
  generalize gT g = T at *
  unfold fX0_leastSet
  rw [wp_bind]
  show wp (gO (wI h (hI h)) 0 74) _
  rw [s.o, wp_bind]
  refine wp_mono (c_fresh s F ow.2.2 hc c74 hT) ?_
  rintro h1 ⟨f1, z1⟩
  rw [wp_bind]
  -- what holds on the way
  let ST : Hp → Prop := fun c => ∃ own', FN h c own own' ∧ FZ c own' Pl T
  let OK1 : Nat → Hp → Prop := fun X c => ∃ own', FN h c own own' ∧ FZ c own' Pl T ∧ KN Pl (cS T) X (hI c 79 X) (hI c 75 X) (hI c 76 X) (hI c 77 X) (hI c 78 X)
  have inner : ∀ sz c, sz < 2 ^ 31 → ST c → wp (lp (bX0_leastSet_18 74 P (nI sz)) FU ((1 : Int32), c)) (fun e => (∃ c', e = .inl c' ∧ ST c' ∧ ∀ Y, vst Pl Y → pcn Y = sz → oc Pl (cS T) Y ≠ 1) ∨ ∃ X c', e = .inr (nI X, c') ∧ OK1 X c' ∧ vst Pl X ∧ pcn X = sz ∧ oc Pl (cS T) X = 1 ∧ ∀ Y, Y < X → vst Pl Y → pcn Y = sz → oc Pl (cS T) Y ≠ 1) := by
    intro sz c sz7 hc'
    · refine wp_for (κ := Hp) (fun x c => (nI x, c)) (2 ^ pP Pl) (fun x c => ST c ∧ ∀ Y, Y < x → vst Pl Y → pcn Y = sz → oc Pl (cS T) Y ≠ 1) (fun x c hx hI => ?_) (fun c hI => ?_) 1 c hp0 ⟨hc', fun Y hY vY => by have := (vst_lt vY).2; omega⟩ (by omega)
      · obtain ⟨⟨own1, g1, g2⟩, g3⟩ := hI
        have o1 := own_f ow c120 g1
        have pc1 : PC (wI c (hI c)) P Pl := pc_f ow c120 g1 pc hP
        have s5 : Sh5 c P := pc1.1
        have s01 := s.x g1.1
        have nl := g1.1.1
        have stay : ∀ c', ST c' → (vst Pl x → pcn x = sz → oc Pl (cS T) x ≠ 1) → wp (jX0_leastSet_80 74 P (nI sz) (nI x) c') (lq (fun s' => ∃ c'' : Hp, s' = (nI (x + 1), c'') ∧ ST c'' ∧ ∀ Y, Y < x + 1 → vst Pl Y → pcn Y = sz → oc Pl (cS T) Y ≠ 1) (fun e => (∃ c', e = .inl c' ∧ ST c' ∧ ∀ Y, vst Pl Y → pcn Y = sz → oc Pl (cS T) Y ≠ 1) ∨ ∃ X c', e = .inr (nI X, c') ∧ OK1 X c' ∧ vst Pl X ∧ pcn X = sz ∧ oc Pl (cS T) X = 1 ∧ ∀ Y, Y < X → vst Pl Y → pcn Y = sz → oc Pl (cS T) Y ≠ 1)) := fun c' h1' h2' => by
          unfold jX0_leastSet_80
          rw [wp_bind, wp_some, wp_some, lq_l, nI_1]
          refine ⟨c', rfl, h1', fun Y hY vY hp => ?_⟩
          by_cases z : Y = x
          · rw [z] at vY hp ⊢; exact h2' vY hp
          · exact g3 Y (by omega) vY hp
        show wp (bX0_leastSet_18 74 P (nI sz) (nI x, wI c (hI c))) _
        simp only [bX0_leastSet_18]
        rw [wp_bind, s5.o, wp_bind, w_everyone pc1 pw, wp_f (by rw [i_lt (by omega) (by omega)]; omega), wp_bind, wp_eq (pc_c _ x (by omega))]
        have pcx := pc_le (pP Pl) (by omega) x hx
        by_cases e1 : pcn x = sz
        · rw [wp_t (by rw [e1]), wp_bind, s5.o, wp_bind]
          refine wp_mono (c_isSet pc1 pw) ?_
          rintro y (⟨rfl, X, eX, vX⟩ | ⟨rfl, hn⟩)
          · have : X = x := by
              have := (vst_lt vX).1
              rw [i_eq (by omega) (by omega)] at eX
              exact eX.symm
            subst this
            have X64 := vX.1
            have last : ∀ c' own', FN h c' own own' → FZ c' own' Pl T → KN Pl (cS T) X (hI c' 79 X) (hI c' 75 X) (hI c' 76 X) (hI c' 77 X) (hI c' 78 X) → wp (jX0_leastSet_66 74 P (nI sz) (nI X) c') (lq (fun s' => ∃ c'' : Hp, s' = (nI (X + 1), c'') ∧ ST c'' ∧ ∀ Y, Y < X + 1 → vst Pl Y → pcn Y = sz → oc Pl (cS T) Y ≠ 1) (fun e => (∃ c', e = .inl c' ∧ ST c' ∧ ∀ Y, vst Pl Y → pcn Y = sz → oc Pl (cS T) Y ≠ 1) ∨ ∃ X c', e = .inr (nI X, c') ∧ OK1 X c' ∧ vst Pl X ∧ pcn X = sz ∧ oc Pl (cS T) X = 1 ∧ ∀ Y, Y < X → vst Pl Y → pcn Y = sz → oc Pl (cS T) Y ≠ 1)) := fun c' own' q1 q2 q3 => by
              have s02 := s.x q1.1
              have o3 := oc_lt q3.2.2.1
              unfold jX0_leastSet_66
              show wp ((gR (wI c' (hI c')) 0 74 4).bind _) _
              rw [wp_bind, s02.r4, wp_bind]
              show wp (lI (wI c' (hI c')) .int (74 + 5) (nI X)) _
              rw [s02.l4 X64]
              show wp (if hI c' 79 X = 1 then _ else _) _
              rw [q3.1]
              by_cases o1' : oc Pl (cS T) X = 1
              · rw [wp_t (by rw [o1']; rfl), wp_some, lq_r]
                exact Or.inr ⟨X, c', rfl, ⟨own', q1, q2, q3⟩, vX, e1, o1', g3⟩
              · rw [wp_f (by rw [L_1, i_eq (by omega) (by decide)]; exact o1')]
                exact stay c' ⟨own', q1, q2⟩ (fun _ _ => o1')
            rw [wp_f (by decide), wp_bind, s01.r4, wp_bind, s01.l4 X64]
            show wp (if hI c 79 X = 3 then _ else _) _
            by_cases z : hI c 79 X = 3
            · rw [wp_t z, wp_bind, s01.o, wp_bind]
              show wp (fX0_lookInto c 74 P (nI X)) _
              refine wp_mono (c_look s01 o1 (by omega) g2 pc1 hP pw sw vX) ?_
              rintro c2 ⟨own2, q1, q2, q3, q4⟩
              exact last c2 own2 (g1.tr q1) q2 q3
            · rw [wp_f z]
              exact last c own1 g1 g2 ((g2.2.2.2.1 X vX).resolve_left z)
          · rw [wp_t rfl]
            exact stay c ⟨own1, g1, g2⟩ (fun v _ => absurd ⟨x, rfl, v⟩ hn)
        · rw [wp_f (by rw [i_eq (by omega) sz7]; exact e1)]
          exact stay c ⟨own1, g1, g2⟩ (fun _ q => absurd q e1)
      · obtain ⟨⟨own1, g1, g2⟩, g3⟩ := hI
        have pc1 : PC (wI c (hI c)) P Pl := pc_f ow c120 g1 pc hP
        have s5 : Sh5 c P := pc1.1
        show wp (bX0_leastSet_18 74 P (nI sz) (nI (2 ^ pP Pl), wI c (hI c))) _
        simp only [bX0_leastSet_18]
        rw [wp_bind, s5.o, wp_bind, w_everyone pc1 pw, wp_t (by rw [i_lt (by omega) (by omega)]; omega), wp_some, lq_r]
        exact Or.inl ⟨c, rfl, ⟨own1, g1, g2⟩, fun Y vY => g3 Y (vst_lt vY).1 vY⟩
  refine wp_mono (Q := fun e => (∃ c', e = .inl c' ∧ ST c' ∧ ∀ Y, vst Pl Y → oc Pl (cS T) Y ≠ 1) ∨ ∃ X c', e = .inr (nI X, c') ∧ OK1 X c' ∧ vst Pl X ∧ oc Pl (cS T) X = 1 ∧ ∀ Y, vst Pl Y → oc Pl (cS T) Y = 1 → pcn X < pcn Y ∨ (pcn X = pcn Y ∧ X ≤ Y)) ?_ ?_
  · refine wp_for (κ := Hp) (fun sz c => (nI sz, c)) (pP Pl + 1) (fun sz c => ST c ∧ ∀ Y, vst Pl Y → pcn Y < sz → oc Pl (cS T) Y ≠ 1) (fun sz c hx hI => ?_) (fun c hI => ?_) 1 h1 (by omega) ⟨⟨own, f1, z1⟩, fun Y vY hp => by have := pc_0 Y vY.1 (vst_lt vY).2; omega⟩ (by omega)
    · obtain ⟨⟨own1, g1, g2⟩, g3⟩ := hI
      have pc1 : PC (wI c (hI c)) P Pl := pc_f ow c120 g1 pc hP
      have s5 : Sh5 c P := pc1.1
      have e2 : hI c P 2 = nI (pP Pl) := pc1.2.2.2.1
      show wp (bX0_leastSet_7 74 P (nI sz, wI c (hI c))) _
      simp only [bX0_leastSet_7]
      rw [wp_bind, s5.g2, e2, wp_f (by rw [i_lt (by omega) (by omega)]; omega), wp_bind]
      refine wp_mono (inner sz c (by omega) ⟨own1, g1, g2⟩) ?_
      rintro e (⟨c', rfl, q1, q2⟩ | ⟨X, c', rfl, q1, q2, q3, q4, q5⟩)
      · show wp ((some (nI sz + 1)).bind fun x25 => some (Sum.inl (x25, c'))) _
        rw [wp_bind, wp_some, wp_some, lq_l, nI_1]
        refine ⟨c', rfl, q1, fun Y vY hp => ?_⟩
        by_cases z : pcn Y = sz
        · exact q2 Y vY z
        · exact g3 Y vY (by omega)
      · show wp (some (Sum.inr (Sum.inr (nI X, c')))) _
        rw [wp_some, lq_r]
        refine Or.inr ⟨X, c', rfl, q1, q2, q4, fun Y vY oY => ?_⟩
        rcases Nat.lt_trichotomy (pcn X) (pcn Y) with z | z | z
        · exact Or.inl z
        · refine Or.inr ⟨z, Nat.le_of_not_lt fun y => q5 Y y vY (by omega) oY⟩
        · exact absurd oY (g3 Y vY (by omega))
    · obtain ⟨⟨own1, g1, g2⟩, g3⟩ := hI
      have pc1 : PC (wI c (hI c)) P Pl := pc_f ow c120 g1 pc hP
      have s5 : Sh5 c P := pc1.1
      have e2 : hI c P 2 = nI (pP Pl) := pc1.2.2.2.1
      show wp (bX0_leastSet_7 74 P (nI (pP Pl + 1), wI c (hI c))) _
      simp only [bX0_leastSet_7]
      rw [wp_bind, s5.g2, e2, wp_t (by rw [i_lt (by omega) (by omega)]; omega), wp_some, lq_r]
      exact Or.inl ⟨c, rfl, ⟨own1, g1, g2⟩, fun Y vY => g3 Y vY (by have := pc_le (pP Pl) (by omega) Y (vst_lt vY).1; omega)⟩
  · rintro e (⟨c', rfl, ⟨own', q1, q2⟩, q3⟩ | ⟨X, c', rfl, ⟨own', q0, q1, q2⟩, q3, q4, q5⟩)
    · show wp (some ((0 : Int32), c')) _
      rw [wp_some]
      refine ⟨own', q1, q2, Or.inl ⟨rfl, q3⟩, fun X vX e => ?_⟩
      have := vst_lt vX
      have e : (0 : Int32) = nI X := e
      rw [show (0 : Int32) = nI 0 from rfl, i_eq (by decide) (by omega)] at e
      omega
    · show wp (some (nI X, c')) _
      rw [wp_some]
      refine ⟨own', q0, q1, Or.inr ⟨X, rfl, q3, q4, q5⟩, fun Y vY e => ?_⟩
      have x1 := vst_lt vY
      have x2 := vst_lt q3
      have e : nI X = nI Y := e
      rw [i_eq (by omega) (by omega)] at e
      rw [← e]; exact q2
end OLS

def mX0_leastSet : MI := (yX0_leastSet, cX0_leastSet, 5, some .int)
theorem oX0_leastSet : mOK mX0_leastSet 2 := ⟨by decide +kernel, by decide +kernel, by decide +kernel, by decide, w1263, w0149⟩
def jX0_leastSet_80 (u0 : Nat) (u1 : Nat) (u3 : Int32) (v4 : Int32) (h : Hp) : Option ((Int32 × Hp) ⊕ ((Hp) ⊕ (Int32 × Hp))) :=
(some (v4 + (1 : Int32))).bind fun x10 =>
some (.inl (x10, h))
set_option maxRecDepth 20000 in
set_option maxHeartbeats 4000000 in
theorem sjX0_leastSet_80 {Γ : Gm} {d : Nat} (hd : 7 ≤ d) {u0 : Nat} {u1 : Nat} {u3 : Int32} {v4 : Int32} {h : Hp} {r : (Int32 × Hp) ⊕ ((Hp) ⊕ (Int32 × Hp))} {t : Option Value × Hp} (H : jX0_leastSet_80 u0 u1 u3 v4 h = some r) (kI : ∀ s, r = .inl s → (fun s18 => V Γ d mX0_leastSet 18 [(0, .ref u0), (1, .ref u1), (3, .int u3), (4, .int s18.1)] [] s18.2 t) s) (kE : ∀ e, r = .inr e → (fun e => (match e with | .inl a0 => V Γ d mX0_leastSet 86 [(0, .ref u0), (1, .ref u1), (3, .int u3)] [] a0 t | .inr b0 => V Γ d mX0_leastSet 77 [(4, .int b0.1)] [] b0.2 t)) e) : V Γ d mX0_leastSet 80 [(0, .ref u0), (1, .ref u1), (3, .int u3), (4, .int v4)] [] h t := by
  unfold jX0_leastSet_80 at H
  replace H := bs H; obtain ⟨x10, x10e, H⟩ := H
  refine v_iinc (v := x10) (L' := [(4, .int x10), (0, .ref u0), (1, .ref u1), (3, .int u3)]) (q := 83) 3 dX0_leastSet_80 rfl (Option.some.inj x10e) (by decide) rfl rfl ?_
  refine v_goto (q := 18) dX0_leastSet_83 (by decide) ?_
  exact V.sub [1, 2, 3, 0] rfl (kI (x10, h) (Option.some.inj H).symm)
def jX0_leastSet_66 (u0 : Nat) (u1 : Nat) (u3 : Int32) (v4 : Int32) (h : Hp) : Option ((Int32 × Hp) ⊕ ((Hp) ⊕ (Int32 × Hp))) :=
(gR h 0 u0 4).bind fun x17 =>
(lI h .int x17 v4).bind fun x18 =>
if x18 = (1 : Int32) then (
some (.inr (.inr (v4, h)))) else (
jX0_leastSet_80 u0 u1 u3 v4 h)
set_option maxRecDepth 20000 in
set_option maxHeartbeats 4000000 in
theorem sjX0_leastSet_66 {Γ : Gm} {d : Nat} (hd : 7 ≤ d) {u0 : Nat} {u1 : Nat} {u3 : Int32} {v4 : Int32} {h : Hp} {r : (Int32 × Hp) ⊕ ((Hp) ⊕ (Int32 × Hp))} {t : Option Value × Hp} (H : jX0_leastSet_66 u0 u1 u3 v4 h = some r) (kI : ∀ s, r = .inl s → (fun s18 => V Γ d mX0_leastSet 18 [(0, .ref u0), (1, .ref u1), (3, .int u3), (4, .int s18.1)] [] s18.2 t) s) (kE : ∀ e, r = .inr e → (fun e => (match e with | .inl a0 => V Γ d mX0_leastSet 86 [(0, .ref u0), (1, .ref u1), (3, .int u3)] [] a0 t | .inr b0 => V Γ d mX0_leastSet 77 [(4, .int b0.1)] [] b0.2 t)) e) : V Γ d mX0_leastSet 66 [(0, .ref u0), (1, .ref u1), (3, .int u3), (4, .int v4)] [] h t := by
  unfold jX0_leastSet_66 at H
  refine v_aload_n (q := 67) 0 dX0_leastSet_66 rfl rfl rfl ?_
  replace H := bs H; obtain ⟨x17, x17e, H⟩ := H
  refine u_gR (q := 70) (r := (RX0, TX0, 9)) x17e dX0_leastSet_67 w0497 rfl (by decide) rfl rfl ?_
  refine v_iload (q := 72) 3 dX0_leastSet_70 rfl rfl ?_
  replace H := bs H; obtain ⟨x18, x18e, H⟩ := H
  refine u_lI (q := 73) x18e dX0_leastSet_72 rfl ?_
  refine v_iconst (v := 1) (q := 74) dX0_leastSet_73 (by decide) rfl ?_
  refine v_icmp_ne (q1 := 80) (q2 := 77) dX0_leastSet_74 (by decide) rfl (fun c19 => ?_) (fun c19 => ?_)
  · replace H := ine c19 H
    exact V.sub [0, 1, 2, 3] rfl (sjX0_leastSet_80 hd H kI kE)
  · replace H := ip c19 H
    exact V.sub [3] rfl (kE (.inr (v4, h)) (Option.some.inj H).symm)
def bX0_leastSet_18 (u0 : Nat) (u1 : Nat) (u3 : Int32) (s18 : Int32 × Hp) : Option ((Int32 × Hp) ⊕ ((Hp) ⊕ (Int32 × Hp))) :=
(gO s18.2 5 u1).bind fun _ =>
(fX5_everyone s18.2 u1).bind fun x6 =>
if x6 < s18.1 then (
some (.inr (.inl s18.2))) else (
(fJ6_bitCount_0f7a4 s18.2 s18.1).bind fun x8 =>
if x8 = u3 then (
(gO s18.2 5 u1).bind fun _ =>
(fX5_isSet s18.2 u1 s18.1).bind fun x12 =>
if x12 = 0 then (
jX0_leastSet_80 u0 u1 u3 s18.1 s18.2) else (
(gR s18.2 0 u0 4).bind fun x14 =>
(lI s18.2 .int x14 s18.1).bind fun x15 =>
if x15 = (3 : Int32) then (
(gO s18.2 0 u0).bind fun _ =>
(fX0_lookInto s18.2 u0 u1 s18.1).bind fun x21 =>
jX0_leastSet_66 u0 u1 u3 s18.1 x21) else (
jX0_leastSet_66 u0 u1 u3 s18.1 s18.2))) else (
jX0_leastSet_80 u0 u1 u3 s18.1 s18.2))
set_option maxRecDepth 20000 in
set_option maxHeartbeats 4000000 in
theorem sbX0_leastSet_18 {Γ : Gm} {d : Nat} (hd : 7 ≤ d) {u0 : Nat} {u1 : Nat} {u3 : Int32} {s18 : Int32 × Hp} {r : (Int32 × Hp) ⊕ ((Hp) ⊕ (Int32 × Hp))} {t : Option Value × Hp} (H : bX0_leastSet_18 u0 u1 u3 s18 = some r) (kI : ∀ s, r = .inl s → (fun s18 => V Γ d mX0_leastSet 18 [(0, .ref u0), (1, .ref u1), (3, .int u3), (4, .int s18.1)] [] s18.2 t) s) (kE : ∀ e, r = .inr e → (fun e => (match e with | .inl a0 => V Γ d mX0_leastSet 86 [(0, .ref u0), (1, .ref u1), (3, .int u3)] [] a0 t | .inr b0 => V Γ d mX0_leastSet 77 [(4, .int b0.1)] [] b0.2 t)) e) : V Γ d mX0_leastSet 18 [(0, .ref u0), (1, .ref u1), (3, .int u3), (4, .int s18.1)] [] s18.2 t := by
  unfold bX0_leastSet_18 at H
  refine v_iload (q := 20) 3 dX0_leastSet_18 rfl rfl ?_
  refine v_aload_n (q := 21) 1 dX0_leastSet_20 rfl rfl rfl ?_
  replace H := bs H; obtain ⟨_, o5, H⟩ := H
  replace H := bs H; obtain ⟨x6, x6e, H⟩ := H
  refine u_callV1 (M' := mX5_everyone) (d' := 1) (rc := (RX5, TX5, 7)) (As := []) (st := [.int s18.1]) (q := 24) oX5_everyone dX0_leastSet_21 w1264 w1064 w1065 rfl rfl (gO_sp o5).1 (gO_sp o5).2 rfl (Nat.le_of_ble_eq_true rfl) (Nat.le_of_ble_eq_true rfl) (Nat.lt_of_lt_of_le (by decide) hd) rfl (sX5_everyone (Nat.le_refl _) x6e) rfl ?_
  refine v_icmp_gt (q1 := 86) (q2 := 27) dX0_leastSet_24 (by decide) rfl (fun c7 => ?_) (fun c7 => ?_)
  · replace H := ip c7 H
    exact V.sub [0, 1, 2] rfl (kE (.inl s18.2) (Option.some.inj H).symm)
  · replace H := ine c7 H
    refine v_iload (q := 29) 3 dX0_leastSet_27 rfl rfl ?_
    replace H := bs H; obtain ⟨x8, x8e, H⟩ := H
    refine u_callS1 (M' := mJ6_bitCount_0f7a4) (d' := 1) (As := [.int s18.1]) (st := []) (q := 32) oJ6_bitCount_0f7a4 dX0_leastSet_29 w1265 w0866 rfl (Nat.le_of_ble_eq_true rfl) (Nat.le_of_ble_eq_true rfl) (Nat.lt_of_lt_of_le (by decide) hd) rfl (sJ6_bitCount_0f7a4 (Nat.le_refl _) x8e) rfl ?_
    refine v_iload_n (q := 33) 2 dX0_leastSet_32 rfl rfl rfl ?_
    refine v_icmp_ne (q1 := 80) (q2 := 36) dX0_leastSet_33 (by decide) rfl (fun c9 => ?_) (fun c9 => ?_)
    · replace H := ine c9 H
      exact V.sub [0, 1, 2, 3] rfl (sjX0_leastSet_80 hd H kI kE)
    · replace H := ip c9 H
      refine v_aload_n (q := 37) 1 dX0_leastSet_36 rfl rfl rfl ?_
      refine v_iload (q := 39) 3 dX0_leastSet_37 rfl rfl ?_
      replace H := bs H; obtain ⟨_, o11, H⟩ := H
      replace H := bs H; obtain ⟨x12, x12e, H⟩ := H
      refine u_callV1 (M' := mX5_isSet) (d' := 2) (rc := (RX5, TX5, 7)) (As := [.int s18.1]) (st := []) (q := 42) oX5_isSet dX0_leastSet_39 w1266 w1060 w1061 rfl rfl (gO_sp o11).1 (gO_sp o11).2 rfl (Nat.le_of_ble_eq_true rfl) (Nat.le_of_ble_eq_true rfl) (Nat.lt_of_lt_of_le (by decide) hd) rfl (sX5_isSet (Nat.le_refl _) x12e) rfl ?_
      refine v_if_ne (q1 := 48) (q2 := 45) dX0_leastSet_42 (by decide) rfl (fun c13 => ?_) (fun c13 => ?_)
      · replace H := ine c13 H
        refine v_aload_n (q := 49) 0 dX0_leastSet_48 rfl rfl rfl ?_
        replace H := bs H; obtain ⟨x14, x14e, H⟩ := H
        refine u_gR (q := 52) (r := (RX0, TX0, 9)) x14e dX0_leastSet_49 w0497 rfl (by decide) rfl rfl ?_
        refine v_iload (q := 54) 3 dX0_leastSet_52 rfl rfl ?_
        replace H := bs H; obtain ⟨x15, x15e, H⟩ := H
        refine u_lI (q := 55) x15e dX0_leastSet_54 rfl ?_
        refine v_iconst (v := 3) (q := 56) dX0_leastSet_55 (by decide) rfl ?_
        refine v_icmp_ne (q1 := 66) (q2 := 59) dX0_leastSet_56 (by decide) rfl (fun c16 => ?_) (fun c16 => ?_)
        · replace H := ine c16 H
          exact V.sub [0, 1, 2, 3] rfl (sjX0_leastSet_66 hd H kI kE)
        · replace H := ip c16 H
          refine v_aload_n (q := 60) 0 dX0_leastSet_59 rfl rfl rfl ?_
          refine v_aload_n (q := 61) 1 dX0_leastSet_60 rfl rfl rfl ?_
          refine v_iload (q := 63) 3 dX0_leastSet_61 rfl rfl ?_
          replace H := bs H; obtain ⟨_, o20, H⟩ := H
          replace H := bs H; obtain ⟨x21, x21e, H⟩ := H
          refine u_callV0 (M' := mX0_lookInto) (d' := 6) (rc := (RX0, TX0, 9)) (As := [.ref u1, .int s18.1]) (st := []) (q := 66) oX0_lookInto dX0_leastSet_63 w1081 w1083 w0035 rfl rfl (gO_sp o20).1 (gO_sp o20).2 rfl (Nat.le_of_ble_eq_true rfl) (Nat.le_of_ble_eq_true rfl) (Nat.lt_of_lt_of_le (by decide) hd) rfl (sX0_lookInto (Nat.le_refl _) x21e) rfl ?_
          exact V.sub [0, 1, 2, 3] rfl (sjX0_leastSet_66 hd H kI kE)
      · replace H := ip c13 H
        refine v_goto (q := 80) dX0_leastSet_45 (by decide) ?_
        exact V.sub [0, 1, 2, 3] rfl (sjX0_leastSet_80 hd H kI kE)
def bX0_leastSet_7 (u0 : Nat) (u1 : Nat) (s7 : Int32 × Hp) : Option ((Int32 × Hp) ⊕ ((Hp) ⊕ (Int32 × Hp))) :=
(gI s7.2 5 u1 2).bind fun x3 =>
if x3 < s7.1 then (
some (.inr (.inl s7.2))) else (
(lp (bX0_leastSet_18 u0 u1 s7.1) FU ((1 : Int32), s7.2)).bind fun e22 =>
(match e22 with
| .inl e23 => (
(some (s7.1 + (1 : Int32))).bind fun x25 =>
some (.inl (x25, e23)))
| .inr e24 => (
some (.inr (.inr (e24.1, e24.2))))))
set_option maxRecDepth 20000 in
set_option maxHeartbeats 4000000 in
theorem sbX0_leastSet_7 {Γ : Gm} {d : Nat} (hd : 7 ≤ d) {u0 : Nat} {u1 : Nat} {s7 : Int32 × Hp} {r : (Int32 × Hp) ⊕ ((Hp) ⊕ (Int32 × Hp))} {t : Option Value × Hp} (H : bX0_leastSet_7 u0 u1 s7 = some r) (kI : ∀ s, r = .inl s → (fun s7 => V Γ d mX0_leastSet 7 [(0, .ref u0), (1, .ref u1), (3, .int s7.1)] [] s7.2 t) s) (kE : ∀ e, r = .inr e → (fun e => (match e with | .inl a0 => V Γ d mX0_leastSet 92 [] [] a0 t | .inr b0 => V Γ d mX0_leastSet 77 [(4, .int b0.1)] [] b0.2 t)) e) : V Γ d mX0_leastSet 7 [(0, .ref u0), (1, .ref u1), (3, .int s7.1)] [] s7.2 t := by
  unfold bX0_leastSet_7 at H
  refine v_iload_n (q := 8) 2 dX0_leastSet_7 rfl rfl rfl ?_
  refine v_aload_n (q := 9) 1 dX0_leastSet_8 rfl rfl rfl ?_
  replace H := bs H; obtain ⟨x3, x3e, H⟩ := H
  refine u_gI (q := 12) (r := (RX5, TX5, 7)) x3e dX0_leastSet_9 w0234 rfl (by decide) rfl rfl ?_
  refine v_icmp_gt (q1 := 92) (q2 := 15) dX0_leastSet_12 (by decide) rfl (fun c4 => ?_) (fun c4 => ?_)
  · replace H := ip c4 H
    exact V.sub [] rfl (kE (.inl s7.2) (Option.some.inj H).symm)
  · replace H := ine c4 H
    refine v_iconst (v := 1) (q := 16) dX0_leastSet_15 (by decide) rfl ?_
    refine v_istore (L' := [(4, .int (1 : Int32)), (0, .ref u0), (1, .ref u1), (3, .int s7.1)]) (q := 18) dX0_leastSet_16 (by decide) rfl rfl ?_
    replace H := bs H; obtain ⟨e22, e22L, H⟩ := H
    refine V.sub [1, 2, 3, 0] rfl ?_
    refine lp_V (P := (fun s18 => V Γ d mX0_leastSet 18 [(0, .ref u0), (1, .ref u1), (3, .int s7.1), (4, .int s18.1)] [] s18.2 t)) (E := (fun e => (match e with | .inl a0 => V Γ d mX0_leastSet 86 [(0, .ref u0), (1, .ref u1), (3, .int s7.1)] [] a0 t | .inr b0 => V Γ d mX0_leastSet 77 [(4, .int b0.1)] [] b0.2 t))) (fun s r hb kI kE => sbX0_leastSet_18 hd (s18 := s) (r := r) hb kI kE) FU ((1 : Int32), s7.2) e22 e22L ?_
    rcases e22 with e23 | e24
    · skip
      replace H := bs H; obtain ⟨x25, x25e, H⟩ := H
      refine v_iinc (v := x25) (L' := [(3, .int x25), (0, .ref u0), (1, .ref u1)]) (q := 89) 2 dX0_leastSet_86 rfl (Option.some.inj x25e) (by decide) rfl rfl ?_
      refine v_goto (q := 7) dX0_leastSet_89 (by decide) ?_
      exact V.sub [1, 2, 0] rfl (kI (x25, e23) (Option.some.inj H).symm)
    · skip
      exact V.sub [0] rfl (kE (.inr (e24.1, e24.2)) (Option.some.inj H).symm)
def fX0_leastSet (h : Hp) (v0 : Nat) (v1 : Nat) (v2 : Nat) : Option (Int32 × Hp) :=
(gO h 0 v0).bind fun _ =>
(fX0_freshen h v0 v2).bind fun x2 =>
(lp (bX0_leastSet_7 v0 v1) FU ((1 : Int32), x2)).bind fun e26 =>
(match e26 with
| .inl e27 => (
some (((0 : Int32), e27)))
| .inr e28 => (
some (e28.1, e28.2)))
set_option maxRecDepth 20000 in
set_option maxHeartbeats 4000000 in
theorem sX0_leastSet {Γ : Gm} {d : Nat} (hd : 7 ≤ d) {h : Hp} {v0 : Nat} {v1 : Nat} {v2 : Nat} {r : Int32 × Hp} (H : fX0_leastSet h v0 v1 v2 = some r) : V Γ d mX0_leastSet 0 [(0, .ref v0), (1, .ref v1), (2, .ref v2)] [] h (some (.int r.1), r.2) := by
  unfold fX0_leastSet at H
  refine v_aload_n (q := 1) 0 dX0_leastSet_0 rfl rfl rfl ?_
  refine v_aload_n (q := 2) 2 dX0_leastSet_1 rfl rfl rfl ?_
  replace H := bs H; obtain ⟨_, o1, H⟩ := H
  replace H := bs H; obtain ⟨x2, x2e, H⟩ := H
  refine u_callV0 (M' := mX0_freshen) (d' := 2) (rc := (RX0, TX0, 9)) (As := [.ref v2]) (st := []) (q := 5) oX0_freshen dX0_leastSet_2 w1075 w1077 w0034 rfl rfl (gO_sp o1).1 (gO_sp o1).2 rfl (Nat.le_of_ble_eq_true rfl) (Nat.le_of_ble_eq_true rfl) (Nat.lt_of_lt_of_le (by decide) hd) rfl (sX0_freshen (Nat.le_refl _) x2e) rfl ?_
  refine v_iconst (v := 1) (q := 6) dX0_leastSet_5 (by decide) rfl ?_
  refine v_istore_n (L' := [(3, .int (1 : Int32)), (0, .ref v0), (1, .ref v1), (2, .ref v2)]) (q := 7) dX0_leastSet_6 rfl (by decide) rfl rfl ?_
  replace H := bs H; obtain ⟨e26, e26L, H⟩ := H
  refine V.sub [1, 2, 0] rfl ?_
  refine lp_V (P := (fun s7 => V Γ d mX0_leastSet 7 [(0, .ref v0), (1, .ref v1), (3, .int s7.1)] [] s7.2 (some (.int r.1), r.2))) (E := (fun e => (match e with | .inl a0 => V Γ d mX0_leastSet 92 [] [] a0 (some (.int r.1), r.2) | .inr b0 => V Γ d mX0_leastSet 77 [(4, .int b0.1)] [] b0.2 (some (.int r.1), r.2)))) (fun s r hb kI kE => sbX0_leastSet_7 hd (s7 := s) (r := r) hb kI kE) FU ((1 : Int32), x2) e26 e26L ?_
  rcases e26 with e27 | e28
  · skip
    refine v_iconst (v := 0) (q := 93) dX0_leastSet_92 (by decide) rfl ?_
    cases H
    exact v_ireturn rfl dX0_leastSet_93
  · skip
    refine v_iload (q := 79) 0 dX0_leastSet_77 rfl rfl ?_
    cases H
    exact v_ireturn rfl dX0_leastSet_79
def mX0_moveOf : MI := (yX0_moveOf, cX0_moveOf, 5, some .int)
theorem oX0_moveOf : mOK mX0_moveOf 4 := ⟨by decide +kernel, by decide +kernel, by decide +kernel, by decide, w1245, w0149⟩
def jX0_moveOf_65 (h : Hp) : Option (Int32 × Hp) :=
some (((-1 : Int32), h))
set_option maxRecDepth 20000 in
set_option maxHeartbeats 4000000 in
theorem sjX0_moveOf_65 {Γ : Gm} {d : Nat} (hd : 7 ≤ d) {h : Hp} {r : Int32 × Hp} (H : jX0_moveOf_65 h = some r) : V Γ d mX0_moveOf 65 [] [] h (some (.int r.1), r.2) := by
  unfold jX0_moveOf_65 at H
  refine v_iconst (v := -1) (q := 66) dX0_moveOf_65 (by decide) rfl ?_
  cases H
  exact v_ireturn rfl dX0_moveOf_66
def jX0_moveOf_39 (v0 : Nat) (v3 : Int32) (v4 : Int32) (h : Hp) : Option (Int32 × Hp) :=
(gR h 0 v0 4).bind fun x8 =>
(lI h .int x8 v3).bind fun x9 =>
if x9 = (1 : Int32) then (
if v4 < 0 then (
jX0_moveOf_65 h) else (
(gR h 0 v0 0).bind fun x12 =>
(lI h .int x12 v3).bind fun x13 =>
if v4 < x13 then (
(gO h 0 v0).bind fun _ =>
(fX0_readySides h v0).bind fun x16 =>
(gR x16.2 8 x16.1 5).bind fun x17 =>
(lI x16.2 .int x17 v4).bind fun x18 =>
some (x18, x16.2)) else (
jX0_moveOf_65 h))) else (
jX0_moveOf_65 h)
set_option maxRecDepth 20000 in
set_option maxHeartbeats 4000000 in
theorem sjX0_moveOf_39 {Γ : Gm} {d : Nat} (hd : 7 ≤ d) {v0 : Nat} {v3 : Int32} {v4 : Int32} {h : Hp} {r : Int32 × Hp} (H : jX0_moveOf_39 v0 v3 v4 h = some r) : V Γ d mX0_moveOf 39 [(0, .ref v0), (3, .int v3), (4, .int v4)] [] h (some (.int r.1), r.2) := by
  unfold jX0_moveOf_39 at H
  refine v_aload_n (q := 40) 0 dX0_moveOf_39 rfl rfl rfl ?_
  replace H := bs H; obtain ⟨x8, x8e, H⟩ := H
  refine u_gR (q := 43) (r := (RX0, TX0, 9)) x8e dX0_moveOf_40 w0497 rfl (by decide) rfl rfl ?_
  refine v_iload_n (q := 44) 1 dX0_moveOf_43 rfl rfl rfl ?_
  replace H := bs H; obtain ⟨x9, x9e, H⟩ := H
  refine u_lI (q := 45) x9e dX0_moveOf_44 rfl ?_
  refine v_iconst (v := 1) (q := 46) dX0_moveOf_45 (by decide) rfl ?_
  refine v_icmp_ne (q1 := 65) (q2 := 49) dX0_moveOf_46 (by decide) rfl (fun c10 => ?_) (fun c10 => ?_)
  · replace H := ine c10 H
    exact V.sub [] rfl (sjX0_moveOf_65 hd H)
  · replace H := ip c10 H
    refine v_iload (q := 51) 2 dX0_moveOf_49 rfl rfl ?_
    refine v_if_lt (q1 := 65) (q2 := 54) dX0_moveOf_51 (by decide) rfl (fun c11 => ?_) (fun c11 => ?_)
    · replace H := ip c11 H
      exact V.sub [] rfl (sjX0_moveOf_65 hd H)
    · replace H := ine c11 H
      refine v_iload (q := 56) 2 dX0_moveOf_54 rfl rfl ?_
      refine v_aload_n (q := 57) 0 dX0_moveOf_56 rfl rfl rfl ?_
      replace H := bs H; obtain ⟨x12, x12e, H⟩ := H
      refine u_gR (q := 60) (r := (RX0, TX0, 9)) x12e dX0_moveOf_57 w0489 rfl (by decide) rfl rfl ?_
      refine v_iload_n (q := 61) 1 dX0_moveOf_60 rfl rfl rfl ?_
      replace H := bs H; obtain ⟨x13, x13e, H⟩ := H
      refine u_lI (q := 62) x13e dX0_moveOf_61 rfl ?_
      refine v_icmp_lt (q1 := 67) (q2 := 65) dX0_moveOf_62 (by decide) rfl (fun c14 => ?_) (fun c14 => ?_)
      · replace H := ip c14 H
        refine v_aload_n (q := 68) 0 dX0_moveOf_67 rfl rfl rfl ?_
        replace H := bs H; obtain ⟨_, o15, H⟩ := H
        replace H := bs H; obtain ⟨x16, x16e, H⟩ := H
        refine u_callV1 (M' := mX0_readySides) (d' := 3) (rc := (RX0, TX0, 9)) (As := []) (st := []) (q := 71) oX0_readySides dX0_moveOf_68 w1085 w1087 w0036 rfl rfl (gO_sp o15).1 (gO_sp o15).2 rfl (Nat.le_of_ble_eq_true rfl) (Nat.le_of_ble_eq_true rfl) (Nat.lt_of_lt_of_le (by decide) hd) rfl (sX0_readySides (Nat.le_refl _) x16e) rfl ?_
        replace H := bs H; obtain ⟨x17, x17e, H⟩ := H
        refine u_gR (q := 74) (r := (RX8, TX8, 19)) x17e dX0_moveOf_71 w1108 rfl (by decide) rfl rfl ?_
        refine v_iload (q := 76) 2 dX0_moveOf_74 rfl rfl ?_
        replace H := bs H; obtain ⟨x18, x18e, H⟩ := H
        refine u_lI (q := 77) x18e dX0_moveOf_76 rfl ?_
        cases H
        exact v_ireturn rfl dX0_moveOf_77
      · replace H := ine c14 H
        exact V.sub [] rfl (sjX0_moveOf_65 hd H)
def jX0_moveOf_33 (v0 : Nat) (v1 : Nat) (v3 : Int32) (v4 : Int32) (h : Hp) : Option (Int32 × Hp) :=
(gO h 0 v0).bind fun _ =>
(fX0_lookInto h v0 v1 v3).bind fun x7 =>
jX0_moveOf_39 v0 v3 v4 x7
set_option maxRecDepth 20000 in
set_option maxHeartbeats 4000000 in
theorem sjX0_moveOf_33 {Γ : Gm} {d : Nat} (hd : 7 ≤ d) {v0 : Nat} {v1 : Nat} {v3 : Int32} {v4 : Int32} {h : Hp} {r : Int32 × Hp} (H : jX0_moveOf_33 v0 v1 v3 v4 h = some r) : V Γ d mX0_moveOf 33 [(0, .ref v0), (1, .ref v1), (3, .int v3), (4, .int v4)] [] h (some (.int r.1), r.2) := by
  unfold jX0_moveOf_33 at H
  refine v_aload_n (q := 34) 0 dX0_moveOf_33 rfl rfl rfl ?_
  refine v_aload_n (q := 35) 1 dX0_moveOf_34 rfl rfl rfl ?_
  refine v_iload_n (q := 36) 2 dX0_moveOf_35 rfl rfl rfl ?_
  replace H := bs H; obtain ⟨_, o6, H⟩ := H
  replace H := bs H; obtain ⟨x7, x7e, H⟩ := H
  refine u_callV0 (M' := mX0_lookInto) (d' := 6) (rc := (RX0, TX0, 9)) (As := [.ref v1, .int v3]) (st := []) (q := 39) oX0_lookInto dX0_moveOf_36 w1081 w1083 w0035 rfl rfl (gO_sp o6).1 (gO_sp o6).2 rfl (Nat.le_of_ble_eq_true rfl) (Nat.le_of_ble_eq_true rfl) (Nat.lt_of_lt_of_le (by decide) hd) rfl (sX0_lookInto (Nat.le_refl _) x7e) rfl ?_
  exact V.sub [0, 2, 3] rfl (sjX0_moveOf_39 hd H)
def fX0_moveOf (h : Hp) (v0 : Nat) (v1 : Nat) (v2 : Nat) (v3 : Int32) (v4 : Int32) : Option (Int32 × Hp) :=
(gO h 0 v0).bind fun _ =>
(fX0_freshen h v0 v2).bind fun x2 =>
(gR x2 0 v0 4).bind fun x3 =>
(lI x2 .int x3 v3).bind fun x4 =>
if x4 = (3 : Int32) then (
jX0_moveOf_33 v0 v1 v3 v4 x2) else (
(gR x2 0 v0 4).bind fun x19 =>
(lI x2 .int x19 v3).bind fun x20 =>
if x20 = (1 : Int32) then (
(gI x2 0 v0 7).bind fun x22 =>
if x22 = v3 then (
jX0_moveOf_39 v0 v3 v4 x2) else (
jX0_moveOf_33 v0 v1 v3 v4 x2)) else (
jX0_moveOf_39 v0 v3 v4 x2))
set_option maxRecDepth 20000 in
set_option maxHeartbeats 4000000 in
theorem sX0_moveOf {Γ : Gm} {d : Nat} (hd : 7 ≤ d) {h : Hp} {v0 : Nat} {v1 : Nat} {v2 : Nat} {v3 : Int32} {v4 : Int32} {r : Int32 × Hp} (H : fX0_moveOf h v0 v1 v2 v3 v4 = some r) : V Γ d mX0_moveOf 0 [(0, .ref v0), (1, .ref v1), (2, .ref v2), (3, .int v3), (4, .int v4)] [] h (some (.int r.1), r.2) := by
  unfold fX0_moveOf at H
  refine v_aload_n (q := 1) 0 dX0_moveOf_0 rfl rfl rfl ?_
  refine v_aload_n (q := 2) 2 dX0_moveOf_1 rfl rfl rfl ?_
  replace H := bs H; obtain ⟨_, o1, H⟩ := H
  replace H := bs H; obtain ⟨x2, x2e, H⟩ := H
  refine u_callV0 (M' := mX0_freshen) (d' := 2) (rc := (RX0, TX0, 9)) (As := [.ref v2]) (st := []) (q := 5) oX0_freshen dX0_moveOf_2 w1075 w1077 w0034 rfl rfl (gO_sp o1).1 (gO_sp o1).2 rfl (Nat.le_of_ble_eq_true rfl) (Nat.le_of_ble_eq_true rfl) (Nat.lt_of_lt_of_le (by decide) hd) rfl (sX0_freshen (Nat.le_refl _) x2e) rfl ?_
  refine v_aload_n (q := 6) 0 dX0_moveOf_5 rfl rfl rfl ?_
  replace H := bs H; obtain ⟨x3, x3e, H⟩ := H
  refine u_gR (q := 9) (r := (RX0, TX0, 9)) x3e dX0_moveOf_6 w0497 rfl (by decide) rfl rfl ?_
  refine v_iload_n (q := 10) 3 dX0_moveOf_9 rfl rfl rfl ?_
  replace H := bs H; obtain ⟨x4, x4e, H⟩ := H
  refine u_lI (q := 11) x4e dX0_moveOf_10 rfl ?_
  refine v_iconst (v := 3) (q := 12) dX0_moveOf_11 (by decide) rfl ?_
  refine v_icmp_eq (q1 := 33) (q2 := 15) dX0_moveOf_12 (by decide) rfl (fun c5 => ?_) (fun c5 => ?_)
  · replace H := ip c5 H
    exact V.sub [0, 1, 3, 4] rfl (sjX0_moveOf_33 hd H)
  · replace H := ine c5 H
    refine v_aload_n (q := 16) 0 dX0_moveOf_15 rfl rfl rfl ?_
    replace H := bs H; obtain ⟨x19, x19e, H⟩ := H
    refine u_gR (q := 19) (r := (RX0, TX0, 9)) x19e dX0_moveOf_16 w0497 rfl (by decide) rfl rfl ?_
    refine v_iload_n (q := 20) 3 dX0_moveOf_19 rfl rfl rfl ?_
    replace H := bs H; obtain ⟨x20, x20e, H⟩ := H
    refine u_lI (q := 21) x20e dX0_moveOf_20 rfl ?_
    refine v_iconst (v := 1) (q := 22) dX0_moveOf_21 (by decide) rfl ?_
    refine v_icmp_ne (q1 := 39) (q2 := 25) dX0_moveOf_22 (by decide) rfl (fun c21 => ?_) (fun c21 => ?_)
    · replace H := ine c21 H
      exact V.sub [0, 3, 4] rfl (sjX0_moveOf_39 hd H)
    · replace H := ip c21 H
      refine v_aload_n (q := 26) 0 dX0_moveOf_25 rfl rfl rfl ?_
      replace H := bs H; obtain ⟨x22, x22e, H⟩ := H
      refine u_gI (q := 29) (r := (RX0, TX0, 9)) x22e dX0_moveOf_26 w0500 rfl (by decide) rfl rfl ?_
      refine v_iload_n (q := 30) 3 dX0_moveOf_29 rfl rfl rfl ?_
      refine v_icmp_eq (q1 := 39) (q2 := 33) dX0_moveOf_30 (by decide) rfl (fun c23 => ?_) (fun c23 => ?_)
      · replace H := ip c23 H
        exact V.sub [0, 3, 4] rfl (sjX0_moveOf_39 hd H)
      · replace H := ine c23 H
        exact V.sub [0, 1, 3, 4] rfl (sjX0_moveOf_33 hd H)
def mX0_outcomeOf : MI := (yX0_outcomeOf, cX0_outcomeOf, 4, some .int)
theorem oX0_outcomeOf : mOK mX0_outcomeOf 3 := ⟨by decide +kernel, by decide +kernel, by decide +kernel, by decide, w1074, w0149⟩
def jX0_outcomeOf_21 (v0 : Nat) (v3 : Int32) (h : Hp) : Option (Int32 × Hp) :=
(gR h 0 v0 4).bind fun x6 =>
(lI h .int x6 v3).bind fun x7 =>
some (x7, h)
set_option maxRecDepth 20000 in
set_option maxHeartbeats 4000000 in
theorem sjX0_outcomeOf_21 {Γ : Gm} {d : Nat} (hd : 7 ≤ d) {v0 : Nat} {v3 : Int32} {h : Hp} {r : Int32 × Hp} (H : jX0_outcomeOf_21 v0 v3 h = some r) : V Γ d mX0_outcomeOf 21 [(0, .ref v0), (3, .int v3)] [] h (some (.int r.1), r.2) := by
  unfold jX0_outcomeOf_21 at H
  refine v_aload_n (q := 22) 0 dX0_outcomeOf_21 rfl rfl rfl ?_
  replace H := bs H; obtain ⟨x6, x6e, H⟩ := H
  refine u_gR (q := 25) (r := (RX0, TX0, 9)) x6e dX0_outcomeOf_22 w0497 rfl (by decide) rfl rfl ?_
  refine v_iload_n (q := 26) 1 dX0_outcomeOf_25 rfl rfl rfl ?_
  replace H := bs H; obtain ⟨x7, x7e, H⟩ := H
  refine u_lI (q := 27) x7e dX0_outcomeOf_26 rfl ?_
  cases H
  exact v_ireturn rfl dX0_outcomeOf_27
def fX0_outcomeOf (h : Hp) (v0 : Nat) (v1 : Nat) (v2 : Nat) (v3 : Int32) : Option (Int32 × Hp) :=
(gO h 0 v0).bind fun _ =>
(fX0_freshen h v0 v2).bind fun x2 =>
(gR x2 0 v0 4).bind fun x3 =>
(lI x2 .int x3 v3).bind fun x4 =>
if x4 = (3 : Int32) then (
(gO x2 0 v0).bind fun _ =>
(fX0_lookInto x2 v0 v1 v3).bind fun x9 =>
jX0_outcomeOf_21 v0 v3 x9) else (
jX0_outcomeOf_21 v0 v3 x2)
set_option maxRecDepth 20000 in
set_option maxHeartbeats 4000000 in
theorem sX0_outcomeOf {Γ : Gm} {d : Nat} (hd : 7 ≤ d) {h : Hp} {v0 : Nat} {v1 : Nat} {v2 : Nat} {v3 : Int32} {r : Int32 × Hp} (H : fX0_outcomeOf h v0 v1 v2 v3 = some r) : V Γ d mX0_outcomeOf 0 [(0, .ref v0), (1, .ref v1), (2, .ref v2), (3, .int v3)] [] h (some (.int r.1), r.2) := by
  unfold fX0_outcomeOf at H
  refine v_aload_n (q := 1) 0 dX0_outcomeOf_0 rfl rfl rfl ?_
  refine v_aload_n (q := 2) 2 dX0_outcomeOf_1 rfl rfl rfl ?_
  replace H := bs H; obtain ⟨_, o1, H⟩ := H
  replace H := bs H; obtain ⟨x2, x2e, H⟩ := H
  refine u_callV0 (M' := mX0_freshen) (d' := 2) (rc := (RX0, TX0, 9)) (As := [.ref v2]) (st := []) (q := 5) oX0_freshen dX0_outcomeOf_2 w1075 w1077 w0034 rfl rfl (gO_sp o1).1 (gO_sp o1).2 rfl (Nat.le_of_ble_eq_true rfl) (Nat.le_of_ble_eq_true rfl) (Nat.lt_of_lt_of_le (by decide) hd) rfl (sX0_freshen (Nat.le_refl _) x2e) rfl ?_
  refine v_aload_n (q := 6) 0 dX0_outcomeOf_5 rfl rfl rfl ?_
  replace H := bs H; obtain ⟨x3, x3e, H⟩ := H
  refine u_gR (q := 9) (r := (RX0, TX0, 9)) x3e dX0_outcomeOf_6 w0497 rfl (by decide) rfl rfl ?_
  refine v_iload_n (q := 10) 3 dX0_outcomeOf_9 rfl rfl rfl ?_
  replace H := bs H; obtain ⟨x4, x4e, H⟩ := H
  refine u_lI (q := 11) x4e dX0_outcomeOf_10 rfl ?_
  refine v_iconst (v := 3) (q := 12) dX0_outcomeOf_11 (by decide) rfl ?_
  refine v_icmp_ne (q1 := 21) (q2 := 15) dX0_outcomeOf_12 (by decide) rfl (fun c5 => ?_) (fun c5 => ?_)
  · replace H := ine c5 H
    exact V.sub [0, 3] rfl (sjX0_outcomeOf_21 hd H)
  · replace H := ip c5 H
    refine v_aload_n (q := 16) 0 dX0_outcomeOf_15 rfl rfl rfl ?_
    refine v_aload_n (q := 17) 1 dX0_outcomeOf_16 rfl rfl rfl ?_
    refine v_iload_n (q := 18) 3 dX0_outcomeOf_17 rfl rfl rfl ?_
    replace H := bs H; obtain ⟨_, o8, H⟩ := H
    replace H := bs H; obtain ⟨x9, x9e, H⟩ := H
    refine u_callV0 (M' := mX0_lookInto) (d' := 6) (rc := (RX0, TX0, 9)) (As := [.ref v1, .int v3]) (st := []) (q := 21) oX0_lookInto dX0_outcomeOf_18 w1081 w1083 w0035 rfl rfl (gO_sp o8).1 (gO_sp o8).2 rfl (Nat.le_of_ble_eq_true rfl) (Nat.le_of_ble_eq_true rfl) (Nat.lt_of_lt_of_le (by decide) hd) rfl (sX0_lookInto (Nat.le_refl _) x9e) rfl ?_
    exact V.sub [0, 3] rfl (sjX0_outcomeOf_21 hd H)
def mX0_tryOut : MI := (yX0_tryOut, cX0_tryOut, 5, some .int)
theorem oX0_tryOut : mOK mX0_tryOut 3 := ⟨by decide +kernel, by decide +kernel, by decide +kernel, by decide, w1301, w0149⟩
def fX0_tryOut (h : Hp) (v0 : Nat) (v1 : Nat) (v2 : Nat) (v3 : Int32) : Option (Int32 × Hp) :=
(gO h 0 v0).bind fun _ =>
(fX0_readySides h v0).bind fun x2 =>
(pI x2.2 0 v0 7 (-1 : Int32)).bind fun h3 =>
(gO h3 8 x2.1).bind fun _ =>
(fX8_search h3 x2.1 v1 v2 v3).bind fun x5 =>
(gI x5 8 x2.1 0).bind fun x6 =>
some (x6, x5)
set_option maxRecDepth 20000 in
set_option maxHeartbeats 4000000 in
theorem sX0_tryOut {Γ : Gm} {d : Nat} (hd : 6 ≤ d) {h : Hp} {v0 : Nat} {v1 : Nat} {v2 : Nat} {v3 : Int32} {r : Int32 × Hp} (H : fX0_tryOut h v0 v1 v2 v3 = some r) : V Γ d mX0_tryOut 0 [(0, .ref v0), (1, .ref v1), (2, .ref v2), (3, .int v3)] [] h (some (.int r.1), r.2) := by
  unfold fX0_tryOut at H
  refine v_aload_n (q := 1) 0 dX0_tryOut_0 rfl rfl rfl ?_
  replace H := bs H; obtain ⟨_, o1, H⟩ := H
  replace H := bs H; obtain ⟨x2, x2e, H⟩ := H
  refine u_callV1 (M' := mX0_readySides) (d' := 3) (rc := (RX0, TX0, 9)) (As := []) (st := []) (q := 4) oX0_readySides dX0_tryOut_1 w1085 w1087 w0036 rfl rfl (gO_sp o1).1 (gO_sp o1).2 rfl (Nat.le_of_ble_eq_true rfl) (Nat.le_of_ble_eq_true rfl) (Nat.lt_of_lt_of_le (by decide) hd) rfl (sX0_readySides (Nat.le_refl _) x2e) rfl ?_
  refine v_astore (L' := [(4, .ref x2.1), (0, .ref v0), (1, .ref v1), (2, .ref v2), (3, .int v3)]) (q := 6) dX0_tryOut_4 (by decide) rfl rfl ?_
  refine v_aload_n (q := 7) 1 dX0_tryOut_6 rfl rfl rfl ?_
  refine v_iconst (v := -1) (q := 8) dX0_tryOut_7 (by decide) rfl ?_
  replace H := bs H; obtain ⟨h3, h3e, H⟩ := H
  refine u_pI (q := 11) (r := (RX0, TX0, 9)) h3e dX0_tryOut_8 w0500 rfl (by decide) (Or.inl rfl) rfl rfl ?_
  refine v_aload (q := 13) 0 dX0_tryOut_11 rfl rfl ?_
  refine v_aload_n (q := 14) 2 dX0_tryOut_13 rfl rfl rfl ?_
  refine v_aload_n (q := 15) 3 dX0_tryOut_14 rfl rfl rfl ?_
  refine v_iload_n (q := 16) 4 dX0_tryOut_15 rfl rfl rfl ?_
  replace H := bs H; obtain ⟨_, o4, H⟩ := H
  replace H := bs H; obtain ⟨x5, x5e, H⟩ := H
  refine u_callV0 (M' := mX8_search) (d' := 5) (rc := (RX8, TX8, 19)) (As := [.ref v1, .ref v2, .int v3]) (st := []) (q := 19) oX8_search dX0_tryOut_16 w1161 w1162 w1163 rfl rfl (gO_sp o4).1 (gO_sp o4).2 rfl (Nat.le_of_ble_eq_true rfl) (Nat.le_of_ble_eq_true rfl) (Nat.lt_of_lt_of_le (by decide) hd) rfl (sX8_search (Nat.le_refl _) x5e) rfl ?_
  refine v_aload (q := 21) 0 dX0_tryOut_19 rfl rfl ?_
  replace H := bs H; obtain ⟨x6, x6e, H⟩ := H
  refine u_gI (q := 24) (r := (RX8, TX8, 19)) x6e dX0_tryOut_21 w1098 rfl (by decide) rfl rfl ?_
  cases H
  exact v_ireturn rfl dX0_tryOut_24
def mX2_present : MI := (yX2_present, cX2_present, 1, some (.object "LockWatch$Learnt"))
theorem oX2_present : mOK mX2_present 0 := ⟨by decide +kernel, by decide +kernel, by decide +kernel, by decide, w0704, w0142⟩
def fX2_present (h : Hp) (v0 : Nat) : Option (Nat) :=
(gR h 2 v0 2).bind fun x1 =>
(gI h 2 v0 0).bind fun x2 =>
(lR h (.object RX3) x1 x2).bind fun x3 =>
some x3
set_option maxRecDepth 20000 in
set_option maxHeartbeats 4000000 in
theorem sX2_present {Γ : Gm} {d : Nat} (hd : 1 ≤ d) {h : Hp} {v0 : Nat} {r : Nat} (H : fX2_present h v0 = some r) : V Γ d mX2_present 0 [(0, .ref v0)] [] h (some (.ref r), h) := by
  unfold fX2_present at H
  refine v_aload_n (q := 1) 0 dX2_present_0 rfl rfl rfl ?_
  replace H := bs H; obtain ⟨x1, x1e, H⟩ := H
  refine u_gR (q := 4) (r := (RX2, TX2, 3)) x1e dX2_present_1 w0381 rfl (by decide) rfl rfl ?_
  refine v_aload_n (q := 5) 0 dX2_present_4 rfl rfl rfl ?_
  replace H := bs H; obtain ⟨x2, x2e, H⟩ := H
  refine u_gI (q := 8) (r := (RX2, TX2, 3)) x2e dX2_present_5 w0377 rfl (by decide) rfl rfl ?_
  replace H := bs H; obtain ⟨x3, x3e, H⟩ := H
  refine u_lR (q := 9) (ty := (.object RX3)) (by decide) rfl rfl x3e dX2_present_8 rfl ?_
  cases H
  exact v_areturn rfl (by first | exact Or.inl ⟨_, rfl⟩ | exact Or.inr ⟨_, rfl⟩) dX2_present_9
def mX3_runCount : MI := (yX3_runCount, cX3_runCount, 3, some .int)
theorem oX3_runCount : mOK mX3_runCount 0 := ⟨by decide +kernel, by decide +kernel, by decide +kernel, by decide, w1336, w0143⟩
def bX3_runCount_4 (u0 : Nat) (h : Hp) (s4 : Int32 × Int32) : Option ((Int32 × Int32) ⊕ (Int32)) :=
if (6 : Int32) ≤ s4.2 then (
some (.inr s4.1)) else (
(gR h 3 u0 1).bind fun x2 =>
(lI h .int x2 s4.2).bind fun x3 =>
(some (s4.1 + x3)).bind fun x4 =>
(some (s4.2 + (1 : Int32))).bind fun x5 =>
some (.inl (x4, x5)))
set_option maxRecDepth 20000 in
set_option maxHeartbeats 4000000 in
theorem sbX3_runCount_4 {Γ : Gm} {d : Nat} (hd : 1 ≤ d) {u0 : Nat} {h : Hp} {s4 : Int32 × Int32} {r : (Int32 × Int32) ⊕ (Int32)} {t : Option Value × Hp} (H : bX3_runCount_4 u0 h s4 = some r) (kI : ∀ s, r = .inl s → (fun s4 => V Γ d mX3_runCount 4 [(0, .ref u0), (1, .int s4.1), (2, .int s4.2)] [] h t) s) (kE : ∀ e, r = .inr e → (fun e => V Γ d mX3_runCount 25 [(1, .int e)] [] h t) e) : V Γ d mX3_runCount 4 [(0, .ref u0), (1, .int s4.1), (2, .int s4.2)] [] h t := by
  unfold bX3_runCount_4 at H
  refine v_iload_n (q := 5) 2 dX3_runCount_4 rfl rfl rfl ?_
  refine v_bipush (v := 6) (q := 7) dX3_runCount_5 (by decide) rfl ?_
  refine v_icmp_ge (q1 := 25) (q2 := 10) dX3_runCount_7 (by decide) rfl (fun c1 => ?_) (fun c1 => ?_)
  · replace H := ip c1 H
    exact V.sub [1] rfl (kE s4.1 (Option.some.inj H).symm)
  · replace H := ine c1 H
    refine v_iload_n (q := 11) 1 dX3_runCount_10 rfl rfl rfl ?_
    refine v_aload_n (q := 12) 0 dX3_runCount_11 rfl rfl rfl ?_
    replace H := bs H; obtain ⟨x2, x2e, H⟩ := H
    refine u_gR (q := 15) (r := (RX3, TX3, 8)) x2e dX3_runCount_12 w0342 rfl (by decide) rfl rfl ?_
    refine v_iload_n (q := 16) 2 dX3_runCount_15 rfl rfl rfl ?_
    replace H := bs H; obtain ⟨x3, x3e, H⟩ := H
    refine u_lI (q := 17) x3e dX3_runCount_16 rfl ?_
    refine v_iadd (q := 18) dX3_runCount_17 rfl ?_
    replace H := bs H; obtain ⟨x4, x4e, H⟩ := H
    refine v_topi (Option.some.inj x4e) ?_
    refine v_istore_n (L' := [(1, .int x4), (0, .ref u0), (2, .int s4.2)]) (q := 19) dX3_runCount_18 rfl (by decide) rfl rfl ?_
    replace H := bs H; obtain ⟨x5, x5e, H⟩ := H
    refine v_iinc (v := x5) (L' := [(2, .int x5), (1, .int x4), (0, .ref u0)]) (q := 22) 2 dX3_runCount_19 rfl (Option.some.inj x5e) (by decide) rfl rfl ?_
    refine v_goto (q := 4) dX3_runCount_22 (by decide) ?_
    exact V.sub [2, 1, 0] rfl (kI (x4, x5) (Option.some.inj H).symm)
def fX3_runCount (h : Hp) (v0 : Nat) : Option (Int32) :=
(lp (bX3_runCount_4 v0 h) FU ((0 : Int32), (0 : Int32))).bind fun e6 =>
some e6
set_option maxRecDepth 20000 in
set_option maxHeartbeats 4000000 in
theorem sX3_runCount {Γ : Gm} {d : Nat} (hd : 1 ≤ d) {h : Hp} {v0 : Nat} {r : Int32} (H : fX3_runCount h v0 = some r) : V Γ d mX3_runCount 0 [(0, .ref v0)] [] h (some (.int r), h) := by
  unfold fX3_runCount at H
  refine v_iconst (v := 0) (q := 1) dX3_runCount_0 (by decide) rfl ?_
  refine v_istore_n (L' := [(1, .int (0 : Int32)), (0, .ref v0)]) (q := 2) dX3_runCount_1 rfl (by decide) rfl rfl ?_
  refine v_iconst (v := 0) (q := 3) dX3_runCount_2 (by decide) rfl ?_
  refine v_istore_n (L' := [(2, .int (0 : Int32)), (1, .int (0 : Int32)), (0, .ref v0)]) (q := 4) dX3_runCount_3 rfl (by decide) rfl rfl ?_
  replace H := bs H; obtain ⟨e6, e6L, H⟩ := H
  refine V.sub [2, 1, 0] rfl ?_
  refine lp_V (P := (fun s4 => V Γ d mX3_runCount 4 [(0, .ref v0), (1, .int s4.1), (2, .int s4.2)] [] h (some (.int r), h))) (E := (fun e => V Γ d mX3_runCount 25 [(1, .int e)] [] h (some (.int r), h))) (fun s r hb kI kE => sbX3_runCount_4 hd (s4 := s) (r := r) hb kI kE) FU ((0 : Int32), (0 : Int32)) e6 e6L ?_
  refine v_iload_n (q := 26) 0 dX3_runCount_25 rfl rfl rfl ?_
  cases H
  exact v_ireturn rfl dX3_runCount_26
def mX11_about : MI := (yX11_about, cX11_about, 3, some .int)
theorem oX11_about : mOK mX11_about 1 := ⟨by decide +kernel, by decide +kernel, by decide +kernel, by decide, w1332, w0139⟩
def fX11_about (h : Hp) (v0 : Nat) (v1 : Int32) : Option (Int32) :=
(gR h 11 v0 5).bind fun x1 =>
(gO h 2 x1).bind fun _ =>
(fX2_present h x1).bind fun x3 =>
if v1 = (0 : Int32) then (
(gR h 11 v0 3).bind fun x5 =>
(gI h 5 x5 0).bind fun x6 =>
some x6) else (
if v1 = (1 : Int32) then (
(gR h 11 v0 3).bind fun x8 =>
(gI h 5 x8 1).bind fun x9 =>
some x9) else (
if v1 = (2 : Int32) then (
(gR h 11 v0 3).bind fun x11 =>
(gI h 5 x11 2).bind fun x12 =>
some x12) else (
if v1 = (3 : Int32) then (
(gR h 3 x3 3).bind fun x14 =>
(gI h 1 x14 0).bind fun x15 =>
some x15) else (
if v1 = (4 : Int32) then (
(gR h 3 x3 4).bind fun x17 =>
(gI h 7 x17 0).bind fun x18 =>
some x18) else (
if v1 = (5 : Int32) then (
(gI h 3 x3 5).bind fun x20 =>
some x20) else (
if v1 = (6 : Int32) then (
(gI h 3 x3 6).bind fun x22 =>
some x22) else (
if v1 = (7 : Int32) then (
(gO h 3 x3).bind fun _ =>
(fX3_runCount h x3).bind fun x25 =>
some x25) else (
if v1 = (8 : Int32) then (
(gR h 11 v0 5).bind fun x27 =>
(gI h 2 x27 0).bind fun x28 =>
some x28) else (
if v1 = (9 : Int32) then (
(gR h 11 v0 5).bind fun x30 =>
(gI h 2 x30 1).bind fun x31 =>
(gR h 11 v0 5).bind fun x32 =>
(gI h 2 x32 0).bind fun x33 =>
some (x31 - x33)) else (
if v1 = (10 : Int32) then (
(gI h 11 v0 1).bind fun x35 =>
some x35) else (
some (-1 : Int32))))))))))))
set_option maxRecDepth 20000 in
set_option maxHeartbeats 4000000 in
theorem sX11_about {Γ : Gm} {d : Nat} (hd : 2 ≤ d) {h : Hp} {v0 : Nat} {v1 : Int32} {r : Int32} (H : fX11_about h v0 v1 = some r) : V Γ d mX11_about 0 [(0, .ref v0), (1, .int v1)] [] h (some (.int r), h) := by
  unfold fX11_about at H
  refine v_aload_n (q := 1) 0 dX11_about_0 rfl rfl rfl ?_
  replace H := bs H; obtain ⟨x1, x1e, H⟩ := H
  refine u_gR (q := 4) (r := (RX11, TX11, 14)) x1e dX11_about_1 w0526 rfl (by decide) rfl rfl ?_
  replace H := bs H; obtain ⟨_, o2, H⟩ := H
  replace H := bs H; obtain ⟨x3, x3e, H⟩ := H
  refine u_callV1 (M' := mX2_present) (d' := 1) (rc := (RX2, TX2, 3)) (As := []) (st := []) (q := 7) oX2_present dX11_about_4 w0701 w0702 w0703 rfl rfl (gO_sp o2).1 (gO_sp o2).2 rfl (Nat.le_of_ble_eq_true rfl) (Nat.le_of_ble_eq_true rfl) (Nat.lt_of_lt_of_le (by decide) hd) rfl (sX2_present (Nat.le_refl _) x3e) rfl ?_
  refine v_astore_n (L' := [(2, .ref x3), (0, .ref v0), (1, .int v1)]) (q := 8) dX11_about_7 rfl (by decide) rfl rfl ?_
  refine v_iload_n (q := 9) 2 dX11_about_8 rfl rfl rfl ?_
  by_cases c4 : v1 = (0 : Int32)
  · replace H := ip c4 H
    rw [c4]
    refine v_tabIn (off := 59) (q := 68) dX11_about_9 (by decide) (by decide) (by decide) (by decide) ?_
    refine v_aload_n (q := 69) 1 dX11_about_68 rfl rfl rfl ?_
    replace H := bs H; obtain ⟨x5, x5e, H⟩ := H
    refine u_gR (q := 72) (r := (RX11, TX11, 14)) x5e dX11_about_69 w0524 rfl (by decide) rfl rfl ?_
    replace H := bs H; obtain ⟨x6, x6e, H⟩ := H
    refine u_gI (q := 75) (r := (RX5, TX5, 7)) x6e dX11_about_72 w0226 rfl (by decide) rfl rfl ?_
    cases H
    exact v_ireturn rfl dX11_about_75
  · replace H := ine c4 H
    by_cases c7 : v1 = (1 : Int32)
    · replace H := ip c7 H
      rw [c7]
      refine v_tabIn (off := 67) (q := 76) dX11_about_9 (by decide) (by decide) (by decide) (by decide) ?_
      refine v_aload_n (q := 77) 1 dX11_about_76 rfl rfl rfl ?_
      replace H := bs H; obtain ⟨x8, x8e, H⟩ := H
      refine u_gR (q := 80) (r := (RX11, TX11, 14)) x8e dX11_about_77 w0524 rfl (by decide) rfl rfl ?_
      replace H := bs H; obtain ⟨x9, x9e, H⟩ := H
      refine u_gI (q := 83) (r := (RX5, TX5, 7)) x9e dX11_about_80 w0229 rfl (by decide) rfl rfl ?_
      cases H
      exact v_ireturn rfl dX11_about_83
    · replace H := ine c7 H
      by_cases c10 : v1 = (2 : Int32)
      · replace H := ip c10 H
        rw [c10]
        refine v_tabIn (off := 75) (q := 84) dX11_about_9 (by decide) (by decide) (by decide) (by decide) ?_
        refine v_aload_n (q := 85) 1 dX11_about_84 rfl rfl rfl ?_
        replace H := bs H; obtain ⟨x11, x11e, H⟩ := H
        refine u_gR (q := 88) (r := (RX11, TX11, 14)) x11e dX11_about_85 w0524 rfl (by decide) rfl rfl ?_
        replace H := bs H; obtain ⟨x12, x12e, H⟩ := H
        refine u_gI (q := 91) (r := (RX5, TX5, 7)) x12e dX11_about_88 w0232 rfl (by decide) rfl rfl ?_
        cases H
        exact v_ireturn rfl dX11_about_91
      · replace H := ine c10 H
        by_cases c13 : v1 = (3 : Int32)
        · replace H := ip c13 H
          rw [c13]
          refine v_tabIn (off := 83) (q := 92) dX11_about_9 (by decide) (by decide) (by decide) (by decide) ?_
          refine v_aload_n (q := 93) 0 dX11_about_92 rfl rfl rfl ?_
          replace H := bs H; obtain ⟨x14, x14e, H⟩ := H
          refine u_gR (q := 96) (r := (RX3, TX3, 8)) x14e dX11_about_93 w0350 rfl (by decide) rfl rfl ?_
          replace H := bs H; obtain ⟨x15, x15e, H⟩ := H
          refine u_gI (q := 99) (r := (RX1, TX1, 4)) x15e dX11_about_96 w0287 rfl (by decide) rfl rfl ?_
          cases H
          exact v_ireturn rfl dX11_about_99
        · replace H := ine c13 H
          by_cases c16 : v1 = (4 : Int32)
          · replace H := ip c16 H
            rw [c16]
            refine v_tabIn (off := 91) (q := 100) dX11_about_9 (by decide) (by decide) (by decide) (by decide) ?_
            refine v_aload_n (q := 101) 0 dX11_about_100 rfl rfl rfl ?_
            replace H := bs H; obtain ⟨x17, x17e, H⟩ := H
            refine u_gR (q := 104) (r := (RX3, TX3, 8)) x17e dX11_about_101 w0353 rfl (by decide) rfl rfl ?_
            replace H := bs H; obtain ⟨x18, x18e, H⟩ := H
            refine u_gI (q := 107) (r := (RX7, TX7, 7)) x18e dX11_about_104 w0313 rfl (by decide) rfl rfl ?_
            cases H
            exact v_ireturn rfl dX11_about_107
          · replace H := ine c16 H
            by_cases c19 : v1 = (5 : Int32)
            · replace H := ip c19 H
              rw [c19]
              refine v_tabIn (off := 99) (q := 108) dX11_about_9 (by decide) (by decide) (by decide) (by decide) ?_
              refine v_aload_n (q := 109) 0 dX11_about_108 rfl rfl rfl ?_
              replace H := bs H; obtain ⟨x20, x20e, H⟩ := H
              refine u_gI (q := 112) (r := (RX3, TX3, 8)) x20e dX11_about_109 w0355 rfl (by decide) rfl rfl ?_
              cases H
              exact v_ireturn rfl dX11_about_112
            · replace H := ine c19 H
              by_cases c21 : v1 = (6 : Int32)
              · replace H := ip c21 H
                rw [c21]
                refine v_tabIn (off := 104) (q := 113) dX11_about_9 (by decide) (by decide) (by decide) (by decide) ?_
                refine v_aload_n (q := 114) 0 dX11_about_113 rfl rfl rfl ?_
                replace H := bs H; obtain ⟨x22, x22e, H⟩ := H
                refine u_gI (q := 117) (r := (RX3, TX3, 8)) x22e dX11_about_114 w0357 rfl (by decide) rfl rfl ?_
                cases H
                exact v_ireturn rfl dX11_about_117
              · replace H := ine c21 H
                by_cases c23 : v1 = (7 : Int32)
                · replace H := ip c23 H
                  rw [c23]
                  refine v_tabIn (off := 109) (q := 118) dX11_about_9 (by decide) (by decide) (by decide) (by decide) ?_
                  refine v_aload_n (q := 119) 0 dX11_about_118 rfl rfl rfl ?_
                  replace H := bs H; obtain ⟨_, o24, H⟩ := H
                  replace H := bs H; obtain ⟨x25, x25e, H⟩ := H
                  refine u_callV1 (M' := mX3_runCount) (d' := 1) (rc := (RX3, TX3, 8)) (As := []) (st := []) (q := 122) oX3_runCount dX11_about_119 w1333 w1334 w1335 rfl rfl (gO_sp o24).1 (gO_sp o24).2 rfl (Nat.le_of_ble_eq_true rfl) (Nat.le_of_ble_eq_true rfl) (Nat.lt_of_lt_of_le (by decide) hd) rfl (sX3_runCount (Nat.le_refl _) x25e) rfl ?_
                  cases H
                  exact v_ireturn rfl dX11_about_122
                · replace H := ine c23 H
                  by_cases c26 : v1 = (8 : Int32)
                  · replace H := ip c26 H
                    rw [c26]
                    refine v_tabIn (off := 114) (q := 123) dX11_about_9 (by decide) (by decide) (by decide) (by decide) ?_
                    refine v_aload_n (q := 124) 1 dX11_about_123 rfl rfl rfl ?_
                    replace H := bs H; obtain ⟨x27, x27e, H⟩ := H
                    refine u_gR (q := 127) (r := (RX11, TX11, 14)) x27e dX11_about_124 w0526 rfl (by decide) rfl rfl ?_
                    replace H := bs H; obtain ⟨x28, x28e, H⟩ := H
                    refine u_gI (q := 130) (r := (RX2, TX2, 3)) x28e dX11_about_127 w0378 rfl (by decide) rfl rfl ?_
                    cases H
                    exact v_ireturn rfl dX11_about_130
                  · replace H := ine c26 H
                    by_cases c29 : v1 = (9 : Int32)
                    · replace H := ip c29 H
                      rw [c29]
                      refine v_tabIn (off := 122) (q := 131) dX11_about_9 (by decide) (by decide) (by decide) (by decide) ?_
                      refine v_aload_n (q := 132) 1 dX11_about_131 rfl rfl rfl ?_
                      replace H := bs H; obtain ⟨x30, x30e, H⟩ := H
                      refine u_gR (q := 135) (r := (RX11, TX11, 14)) x30e dX11_about_132 w0526 rfl (by decide) rfl rfl ?_
                      replace H := bs H; obtain ⟨x31, x31e, H⟩ := H
                      refine u_gI (q := 138) (r := (RX2, TX2, 3)) x31e dX11_about_135 w0380 rfl (by decide) rfl rfl ?_
                      refine v_aload_n (q := 139) 1 dX11_about_138 rfl rfl rfl ?_
                      replace H := bs H; obtain ⟨x32, x32e, H⟩ := H
                      refine u_gR (q := 142) (r := (RX11, TX11, 14)) x32e dX11_about_139 w0526 rfl (by decide) rfl rfl ?_
                      replace H := bs H; obtain ⟨x33, x33e, H⟩ := H
                      refine u_gI (q := 145) (r := (RX2, TX2, 3)) x33e dX11_about_142 w0378 rfl (by decide) rfl rfl ?_
                      refine v_isub (q := 146) dX11_about_145 rfl ?_
                      cases H
                      exact v_ireturn rfl dX11_about_146
                    · replace H := ine c29 H
                      by_cases c34 : v1 = (10 : Int32)
                      · replace H := ip c34 H
                        rw [c34]
                        refine v_tabIn (off := 138) (q := 147) dX11_about_9 (by decide) (by decide) (by decide) (by decide) ?_
                        refine v_aload_n (q := 148) 1 dX11_about_147 rfl rfl rfl ?_
                        replace H := bs H; obtain ⟨x35, x35e, H⟩ := H
                        refine u_gI (q := 151) (r := (RX11, TX11, 14)) x35e dX11_about_148 w0522 rfl (by decide) rfl rfl ?_
                        cases H
                        exact v_ireturn rfl dX11_about_151
                      · replace H := ine c34 H
                        have c4t := lv_neT (a := 0) c4 (by decide)
                        have c7t := lv_neT (a := 1) c7 (by decide)
                        have c10t := lv_neT (a := 2) c10 (by decide)
                        have c13t := lv_neT (a := 3) c13 (by decide)
                        have c16t := lv_neT (a := 4) c16 (by decide)
                        have c19t := lv_neT (a := 5) c19 (by decide)
                        have c21t := lv_neT (a := 6) c21 (by decide)
                        have c23t := lv_neT (a := 7) c23 (by decide)
                        have c26t := lv_neT (a := 8) c26 (by decide)
                        have c29t := lv_neT (a := 9) c29 (by decide)
                        have c34t := lv_neT (a := 10) c34 (by decide)
                        refine v_tabOut (q := 152) dX11_about_9 (by omega) (by decide) ?_
                        refine v_iconst (v := -1) (q := 153) dX11_about_152 (by decide) rfl ?_
                        cases H
                        exact v_ireturn rfl dX11_about_153
def mX1_clear : MI := (yX1_clear, cX1_clear, 1, none)
theorem oX1_clear : mOK mX1_clear 0 := ⟨by decide +kernel, by decide +kernel, by decide +kernel, by decide, w0720, w0144⟩
def fX1_clear (h : Hp) (v0 : Nat) : Option (Hp) :=
(pI h 1 v0 0 (0 : Int32)).bind fun h1 =>
(gR h1 1 v0 1).bind fun x2 =>
(fJ7_fill_53178 h1 x2 (0 : Int32)).bind fun x3 =>
(gR x3 1 v0 2).bind fun x4 =>
(fJ7_fill_53178 x3 x4 (0 : Int32)).bind fun x5 =>
some x5
set_option maxRecDepth 20000 in
set_option maxHeartbeats 4000000 in
theorem sX1_clear {Γ : Gm} {d : Nat} (hd : 2 ≤ d) {h : Hp} {v0 : Nat} {r : Hp} (H : fX1_clear h v0 = some r) : V Γ d mX1_clear 0 [(0, .ref v0)] [] h (none, r) := by
  unfold fX1_clear at H
  refine v_aload_n (q := 1) 0 dX1_clear_0 rfl rfl rfl ?_
  refine v_iconst (v := 0) (q := 2) dX1_clear_1 (by decide) rfl ?_
  replace H := bs H; obtain ⟨h1, h1e, H⟩ := H
  refine u_pI (q := 5) (r := (RX1, TX1, 4)) h1e dX1_clear_2 w0286 rfl (by decide) (Or.inl rfl) rfl rfl ?_
  refine v_aload_n (q := 6) 0 dX1_clear_5 rfl rfl rfl ?_
  replace H := bs H; obtain ⟨x2, x2e, H⟩ := H
  refine u_gR (q := 9) (r := (RX1, TX1, 4)) x2e dX1_clear_6 w0288 rfl (by decide) rfl rfl ?_
  refine v_iconst (v := 0) (q := 10) dX1_clear_9 (by decide) rfl ?_
  replace H := bs H; obtain ⟨x3, x3e, H⟩ := H
  refine u_callS0 (M' := mJ7_fill_53178) (d' := 1) (As := [.ref x2, .int (0 : Int32)]) (st := []) (q := 13) oJ7_fill_53178 dX1_clear_10 w0721 w0592 rfl (Nat.le_of_ble_eq_true rfl) (Nat.le_of_ble_eq_true rfl) (Nat.lt_of_lt_of_le (by decide) hd) rfl (sJ7_fill_53178 (Nat.le_refl _) x3e) rfl ?_
  refine v_aload_n (q := 14) 0 dX1_clear_13 rfl rfl rfl ?_
  replace H := bs H; obtain ⟨x4, x4e, H⟩ := H
  refine u_gR (q := 17) (r := (RX1, TX1, 4)) x4e dX1_clear_14 w0291 rfl (by decide) rfl rfl ?_
  refine v_iconst (v := 0) (q := 18) dX1_clear_17 (by decide) rfl ?_
  replace H := bs H; obtain ⟨x5, x5e, H⟩ := H
  refine u_callS0 (M' := mJ7_fill_53178) (d' := 1) (As := [.ref x4, .int (0 : Int32)]) (st := []) (q := 21) oJ7_fill_53178 dX1_clear_18 w0721 w0592 rfl (Nat.le_of_ble_eq_true rfl) (Nat.le_of_ble_eq_true rfl) (Nat.lt_of_lt_of_le (by decide) hd) rfl (sJ7_fill_53178 (Nat.le_refl _) x5e) rfl ?_
  cases H
  exact v_return rfl dX1_clear_21
def mX7_clear : MI := (yX7_clear, cX7_clear, 1, none)
theorem oX7_clear : mOK mX7_clear 0 := ⟨by decide +kernel, by decide +kernel, by decide +kernel, by decide, w0725, w0145⟩
def fX7_clear (h : Hp) (v0 : Nat) : Option (Hp) :=
(pI h 7 v0 0 (0 : Int32)).bind fun h1 =>
(gR h1 7 v0 6).bind fun x2 =>
(fJ7_fill_53178 h1 x2 (0 : Int32)).bind fun x3 =>
some x3
set_option maxRecDepth 20000 in
set_option maxHeartbeats 4000000 in
theorem sX7_clear {Γ : Gm} {d : Nat} (hd : 2 ≤ d) {h : Hp} {v0 : Nat} {r : Hp} (H : fX7_clear h v0 = some r) : V Γ d mX7_clear 0 [(0, .ref v0)] [] h (none, r) := by
  unfold fX7_clear at H
  refine v_aload_n (q := 1) 0 dX7_clear_0 rfl rfl rfl ?_
  refine v_iconst (v := 0) (q := 2) dX7_clear_1 (by decide) rfl ?_
  replace H := bs H; obtain ⟨h1, h1e, H⟩ := H
  refine u_pI (q := 5) (r := (RX7, TX7, 7)) h1e dX7_clear_2 w0311 rfl (by decide) (Or.inl rfl) rfl rfl ?_
  refine v_aload_n (q := 6) 0 dX7_clear_5 rfl rfl rfl ?_
  replace H := bs H; obtain ⟨x2, x2e, H⟩ := H
  refine u_gR (q := 9) (r := (RX7, TX7, 7)) x2e dX7_clear_6 w0323 rfl (by decide) rfl rfl ?_
  refine v_iconst (v := 0) (q := 10) dX7_clear_9 (by decide) rfl ?_
  replace H := bs H; obtain ⟨x3, x3e, H⟩ := H
  refine u_callS0 (M' := mJ7_fill_53178) (d' := 1) (As := [.ref x2, .int (0 : Int32)]) (st := []) (q := 13) oJ7_fill_53178 dX7_clear_10 w0726 w0592 rfl (Nat.le_of_ble_eq_true rfl) (Nat.le_of_ble_eq_true rfl) (Nat.lt_of_lt_of_le (by decide) hd) rfl (sJ7_fill_53178 (Nat.le_refl _) x3e) rfl ?_
  cases H
  exact v_return rfl dX7_clear_13
def mX3_clear : MI := (yX3_clear, cX3_clear, 1, none)
theorem oX3_clear : mOK mX3_clear 0 := ⟨by decide +kernel, by decide +kernel, by decide +kernel, by decide, w0715, w0143⟩
def fX3_clear (h : Hp) (v0 : Nat) : Option (Hp) :=
(gR h 3 v0 1).bind fun x1 =>
(fJ7_fill_53178 h x1 (0 : Int32)).bind fun x2 =>
(gR x2 3 v0 2).bind fun x3 =>
(fJ7_fill_53178 x2 x3 (0 : Int32)).bind fun x4 =>
(gR x4 3 v0 3).bind fun x5 =>
(gO x4 1 x5).bind fun _ =>
(fX1_clear x4 x5).bind fun x7 =>
(gR x7 3 v0 4).bind fun x8 =>
(gO x7 7 x8).bind fun _ =>
(fX7_clear x7 x8).bind fun x10 =>
(pI x10 3 v0 5 (0 : Int32)).bind fun h11 =>
(pI h11 3 v0 6 (0 : Int32)).bind fun h12 =>
some h12
set_option maxRecDepth 20000 in
set_option maxHeartbeats 4000000 in
theorem sX3_clear {Γ : Gm} {d : Nat} (hd : 3 ≤ d) {h : Hp} {v0 : Nat} {r : Hp} (H : fX3_clear h v0 = some r) : V Γ d mX3_clear 0 [(0, .ref v0)] [] h (none, r) := by
  unfold fX3_clear at H
  refine v_aload_n (q := 1) 0 dX3_clear_0 rfl rfl rfl ?_
  replace H := bs H; obtain ⟨x1, x1e, H⟩ := H
  refine u_gR (q := 4) (r := (RX3, TX3, 8)) x1e dX3_clear_1 w0342 rfl (by decide) rfl rfl ?_
  refine v_iconst (v := 0) (q := 5) dX3_clear_4 (by decide) rfl ?_
  replace H := bs H; obtain ⟨x2, x2e, H⟩ := H
  refine u_callS0 (M' := mJ7_fill_53178) (d' := 1) (As := [.ref x1, .int (0 : Int32)]) (st := []) (q := 8) oJ7_fill_53178 dX3_clear_5 w0716 w0592 rfl (Nat.le_of_ble_eq_true rfl) (Nat.le_of_ble_eq_true rfl) (Nat.lt_of_lt_of_le (by decide) hd) rfl (sJ7_fill_53178 (Nat.le_refl _) x2e) rfl ?_
  refine v_aload_n (q := 9) 0 dX3_clear_8 rfl rfl rfl ?_
  replace H := bs H; obtain ⟨x3, x3e, H⟩ := H
  refine u_gR (q := 12) (r := (RX3, TX3, 8)) x3e dX3_clear_9 w0345 rfl (by decide) rfl rfl ?_
  refine v_iconst (v := 0) (q := 13) dX3_clear_12 (by decide) rfl ?_
  replace H := bs H; obtain ⟨x4, x4e, H⟩ := H
  refine u_callS0 (M' := mJ7_fill_53178) (d' := 1) (As := [.ref x3, .int (0 : Int32)]) (st := []) (q := 16) oJ7_fill_53178 dX3_clear_13 w0716 w0592 rfl (Nat.le_of_ble_eq_true rfl) (Nat.le_of_ble_eq_true rfl) (Nat.lt_of_lt_of_le (by decide) hd) rfl (sJ7_fill_53178 (Nat.le_refl _) x4e) rfl ?_
  refine v_aload_n (q := 17) 0 dX3_clear_16 rfl rfl rfl ?_
  replace H := bs H; obtain ⟨x5, x5e, H⟩ := H
  refine u_gR (q := 20) (r := (RX3, TX3, 8)) x5e dX3_clear_17 w0348 rfl (by decide) rfl rfl ?_
  replace H := bs H; obtain ⟨_, o6, H⟩ := H
  replace H := bs H; obtain ⟨x7, x7e, H⟩ := H
  refine u_callV0 (M' := mX1_clear) (d' := 2) (rc := (RX1, TX1, 4)) (As := []) (st := []) (q := 23) oX1_clear dX3_clear_20 w0717 w0718 w0719 rfl rfl (gO_sp o6).1 (gO_sp o6).2 rfl (Nat.le_of_ble_eq_true rfl) (Nat.le_of_ble_eq_true rfl) (Nat.lt_of_lt_of_le (by decide) hd) rfl (sX1_clear (Nat.le_refl _) x7e) rfl ?_
  refine v_aload_n (q := 24) 0 dX3_clear_23 rfl rfl rfl ?_
  replace H := bs H; obtain ⟨x8, x8e, H⟩ := H
  refine u_gR (q := 27) (r := (RX3, TX3, 8)) x8e dX3_clear_24 w0351 rfl (by decide) rfl rfl ?_
  replace H := bs H; obtain ⟨_, o9, H⟩ := H
  replace H := bs H; obtain ⟨x10, x10e, H⟩ := H
  refine u_callV0 (M' := mX7_clear) (d' := 2) (rc := (RX7, TX7, 7)) (As := []) (st := []) (q := 30) oX7_clear dX3_clear_27 w0722 w0723 w0724 rfl rfl (gO_sp o9).1 (gO_sp o9).2 rfl (Nat.le_of_ble_eq_true rfl) (Nat.le_of_ble_eq_true rfl) (Nat.lt_of_lt_of_le (by decide) hd) rfl (sX7_clear (Nat.le_refl _) x10e) rfl ?_
  refine v_aload_n (q := 31) 0 dX3_clear_30 rfl rfl rfl ?_
  refine v_iconst (v := 0) (q := 32) dX3_clear_31 (by decide) rfl ?_
  replace H := bs H; obtain ⟨h11, h11e, H⟩ := H
  refine u_pI (q := 35) (r := (RX3, TX3, 8)) h11e dX3_clear_32 w0354 rfl (by decide) (Or.inl rfl) rfl rfl ?_
  refine v_aload_n (q := 36) 0 dX3_clear_35 rfl rfl rfl ?_
  refine v_iconst (v := 0) (q := 37) dX3_clear_36 (by decide) rfl ?_
  replace H := bs H; obtain ⟨h12, h12e, H⟩ := H
  refine u_pI (q := 40) (r := (RX3, TX3, 8)) h12e dX3_clear_37 w0356 rfl (by decide) (Or.inl rfl) rfl rfl ?_
  cases H
  exact v_return rfl dX3_clear_40
def mX3_begin : MI := (yX3_begin, cX3_begin, 2, none)
theorem oX3_begin : mOK mX3_begin 1 := ⟨by decide +kernel, by decide +kernel, by decide +kernel, by decide, w0708, w0143⟩
def fX3_begin (h : Hp) (v0 : Nat) (v1 : Nat) : Option (Hp) :=
(gR h 3 v0 0).bind fun x1 =>
(gR h 3 v0 0).bind fun x2 =>
(aL h .int x2).bind fun x3 =>
(kI h .int v1 (0 : Int32) x1 (0 : Int32) x3).bind fun h4 =>
(gO h4 3 v0).bind fun _ =>
(fX3_clear h4 v0).bind fun x6 =>
some x6
set_option maxRecDepth 20000 in
set_option maxHeartbeats 4000000 in
theorem sX3_begin {Γ : Gm} {d : Nat} (hd : 4 ≤ d) {h : Hp} {v0 : Nat} {v1 : Nat} {r : Hp} (H : fX3_begin h v0 v1 = some r) : V Γ d mX3_begin 0 [(0, .ref v0), (1, .ref v1)] [] h (none, r) := by
  unfold fX3_begin at H
  refine v_aload_n (q := 1) 1 dX3_begin_0 rfl rfl rfl ?_
  refine v_iconst (v := 0) (q := 2) dX3_begin_1 (by decide) rfl ?_
  refine v_aload_n (q := 3) 0 dX3_begin_2 rfl rfl rfl ?_
  replace H := bs H; obtain ⟨x1, x1e, H⟩ := H
  refine u_gR (q := 6) (r := (RX3, TX3, 8)) x1e dX3_begin_3 w0339 rfl (by decide) rfl rfl ?_
  refine v_iconst (v := 0) (q := 7) dX3_begin_6 (by decide) rfl ?_
  refine v_aload_n (q := 8) 0 dX3_begin_7 rfl rfl rfl ?_
  replace H := bs H; obtain ⟨x2, x2e, H⟩ := H
  refine u_gR (q := 11) (r := (RX3, TX3, 8)) x2e dX3_begin_8 w0339 rfl (by decide) rfl rfl ?_
  replace H := bs H; obtain ⟨x3, x3e, H⟩ := H
  refine u_aL (q := 12) (ty := .int) (by decide) x3e dX3_begin_11 rfl ?_
  replace H := bs H; obtain ⟨h4, h4e, H⟩ := H
  refine u_kI (q := 15) (ty := .int) rfl rfl (by decide) h4e dX3_begin_12 w0709 w0711 w0710 w0157 (Nat.le_of_ble_eq_true rfl) (Nat.lt_of_lt_of_le (by decide) hd) rfl ?_
  refine v_aload_n (q := 16) 0 dX3_begin_15 rfl rfl rfl ?_
  replace H := bs H; obtain ⟨_, o5, H⟩ := H
  replace H := bs H; obtain ⟨x6, x6e, H⟩ := H
  refine u_callV0 (M' := mX3_clear) (d' := 3) (rc := (RX3, TX3, 8)) (As := []) (st := []) (q := 19) oX3_clear dX3_begin_16 w0712 w0713 w0714 rfl rfl (gO_sp o5).1 (gO_sp o5).2 rfl (Nat.le_of_ble_eq_true rfl) (Nat.le_of_ble_eq_true rfl) (Nat.lt_of_lt_of_le (by decide) hd) rfl (sX3_clear (Nat.le_refl _) x6e) rfl ?_
  cases H
  exact v_return rfl dX3_begin_19
def mX9_begin : MI := (yX9_begin, cX9_begin, 3, none)
theorem oX9_begin : mOK mX9_begin 2 := ⟨by decide +kernel, by decide +kernel, by decide +kernel, by decide, w0772, w0147⟩
def fX9_begin (h : Hp) (v0 : Nat) (v1 : Nat) (v2 : Int32) : Option (Hp) :=
(pR h 9 v0 1 v1).bind fun h1 =>
(pI h1 9 v0 3 v2).bind fun h2 =>
(gR h2 9 v0 1).bind fun x3 =>
(gR h2 5 x3 4).bind fun x4 =>
(gI h2 9 v0 3).bind fun x5 =>
(lI h2 .int x4 x5).bind fun x6 =>
(fX11_contextOf h2 x6).bind fun x7 =>
(pI h2 9 v0 5 x7).bind fun h8 =>
(pI h8 9 v0 6 (0 : Int32)).bind fun h9 =>
(pI h9 9 v0 7 (0 : Int32)).bind fun h10 =>
some h10
set_option maxRecDepth 20000 in
set_option maxHeartbeats 4000000 in
theorem sX9_begin {Γ : Gm} {d : Nat} (hd : 2 ≤ d) {h : Hp} {v0 : Nat} {v1 : Nat} {v2 : Int32} {r : Hp} (H : fX9_begin h v0 v1 v2 = some r) : V Γ d mX9_begin 0 [(0, .ref v0), (1, .ref v1), (2, .int v2)] [] h (none, r) := by
  unfold fX9_begin at H
  refine v_aload_n (q := 1) 0 dX9_begin_0 rfl rfl rfl ?_
  refine v_aload_n (q := 2) 1 dX9_begin_1 rfl rfl rfl ?_
  replace H := bs H; obtain ⟨h1, h1e, H⟩ := H
  refine u_pR (q := 5) (r := (RX9, TX9, 10)) h1e dX9_begin_2 w0424 rfl (by decide) (Or.inl rfl) rfl rfl ?_
  refine v_aload_n (q := 6) 0 dX9_begin_5 rfl rfl rfl ?_
  refine v_iload_n (q := 7) 2 dX9_begin_6 rfl rfl rfl ?_
  replace H := bs H; obtain ⟨h2, h2e, H⟩ := H
  refine u_pI (q := 10) (r := (RX9, TX9, 10)) h2e dX9_begin_7 w0426 rfl (by decide) (Or.inl rfl) rfl rfl ?_
  refine v_aload_n (q := 11) 0 dX9_begin_10 rfl rfl rfl ?_
  refine v_aload_n (q := 12) 0 dX9_begin_11 rfl rfl rfl ?_
  replace H := bs H; obtain ⟨x3, x3e, H⟩ := H
  refine u_gR (q := 15) (r := (RX9, TX9, 10)) x3e dX9_begin_12 w0424 rfl (by decide) rfl rfl ?_
  replace H := bs H; obtain ⟨x4, x4e, H⟩ := H
  refine u_gR (q := 18) (r := (RX5, TX5, 7)) x4e dX9_begin_15 w0241 rfl (by decide) rfl rfl ?_
  refine v_aload_n (q := 19) 0 dX9_begin_18 rfl rfl rfl ?_
  replace H := bs H; obtain ⟨x5, x5e, H⟩ := H
  refine u_gI (q := 22) (r := (RX9, TX9, 10)) x5e dX9_begin_19 w0426 rfl (by decide) rfl rfl ?_
  replace H := bs H; obtain ⟨x6, x6e, H⟩ := H
  refine u_lI (q := 23) x6e dX9_begin_22 rfl ?_
  replace H := bs H; obtain ⟨x7, x7e, H⟩ := H
  refine u_callSN1 (M' := mX11_contextOf) (d' := 1) (As := [.int x6]) (st := [.ref v0]) (q := 26) oX11_contextOf dX9_begin_23 w0773 w0774 rfl (Nat.le_of_ble_eq_true rfl) (Nat.le_of_ble_eq_true rfl) (Nat.lt_of_lt_of_le (by decide) hd) rfl (sX11_contextOf (Nat.le_refl _) x7e) rfl ?_
  replace H := bs H; obtain ⟨h8, h8e, H⟩ := H
  refine u_pI (q := 29) (r := (RX9, TX9, 10)) h8e dX9_begin_26 w0428 rfl (by decide) (Or.inl rfl) rfl rfl ?_
  refine v_aload_n (q := 30) 0 dX9_begin_29 rfl rfl rfl ?_
  refine v_iconst (v := 0) (q := 31) dX9_begin_30 (by decide) rfl ?_
  replace H := bs H; obtain ⟨h9, h9e, H⟩ := H
  refine u_pI (q := 34) (r := (RX9, TX9, 10)) h9e dX9_begin_31 w0429 rfl (by decide) (Or.inl rfl) rfl rfl ?_
  refine v_aload_n (q := 35) 0 dX9_begin_34 rfl rfl rfl ?_
  refine v_iconst (v := 0) (q := 36) dX9_begin_35 (by decide) rfl ?_
  replace H := bs H; obtain ⟨h10, h10e, H⟩ := H
  refine u_pI (q := 39) (r := (RX9, TX9, 10)) h10e dX9_begin_36 w0430 rfl (by decide) (Or.inl rfl) rfl rfl ?_
  cases H
  exact v_return rfl dX9_begin_39
def mX9_takenAs : MI := (yX9_takenAs, cX9_takenAs, 3, some .int)
theorem oX9_takenAs : mOK mX9_takenAs 1 := ⟨by decide +kernel, by decide +kernel, by decide +kernel, by decide, w0788, w0147⟩
def bX9_takenAs_2 (u0 : Nat) (u1 : Int32) (h : Hp) (s2 : Int32) : Option ((Int32) ⊕ ((Unit) ⊕ (Int32))) :=
(gI h 9 u0 6).bind fun x1 =>
if x1 ≤ s2 then (
some (.inr (.inl ()))) else (
(gR h 9 u0 8).bind fun x3 =>
(lI h .int x3 s2).bind fun x4 =>
if x4 = u1 then (
some (.inr (.inr s2))) else (
(some (s2 + (1 : Int32))).bind fun x6 =>
some (.inl x6)))
set_option maxRecDepth 20000 in
set_option maxHeartbeats 4000000 in
theorem sbX9_takenAs_2 {Γ : Gm} {d : Nat} (hd : 1 ≤ d) {u0 : Nat} {u1 : Int32} {h : Hp} {s2 : Int32} {r : (Int32) ⊕ ((Unit) ⊕ (Int32))} {t : Option Value × Hp} (H : bX9_takenAs_2 u0 u1 h s2 = some r) (kI : ∀ s, r = .inl s → (fun s2 => V Γ d mX9_takenAs 2 [(0, .ref u0), (1, .int u1), (2, .int s2)] [] h t) s) (kE : ∀ e, r = .inr e → (fun e => (match e with | .inl a0 => V Γ d mX9_takenAs 33 [] [] h t | .inr b0 => V Γ d mX9_takenAs 20 [(0, .ref u0), (2, .int b0)] [] h t)) e) : V Γ d mX9_takenAs 2 [(0, .ref u0), (1, .int u1), (2, .int s2)] [] h t := by
  unfold bX9_takenAs_2 at H
  refine v_iload_n (q := 3) 2 dX9_takenAs_2 rfl rfl rfl ?_
  refine v_aload_n (q := 4) 0 dX9_takenAs_3 rfl rfl rfl ?_
  replace H := bs H; obtain ⟨x1, x1e, H⟩ := H
  refine u_gI (q := 7) (r := (RX9, TX9, 10)) x1e dX9_takenAs_4 w0429 rfl (by decide) rfl rfl ?_
  refine v_icmp_ge (q1 := 33) (q2 := 10) dX9_takenAs_7 (by decide) rfl (fun c2 => ?_) (fun c2 => ?_)
  · replace H := ip c2 H
    exact V.sub [] rfl (kE (.inl ()) (Option.some.inj H).symm)
  · replace H := ine c2 H
    refine v_aload_n (q := 11) 0 dX9_takenAs_10 rfl rfl rfl ?_
    replace H := bs H; obtain ⟨x3, x3e, H⟩ := H
    refine u_gR (q := 14) (r := (RX9, TX9, 10)) x3e dX9_takenAs_11 w0431 rfl (by decide) rfl rfl ?_
    refine v_iload_n (q := 15) 2 dX9_takenAs_14 rfl rfl rfl ?_
    replace H := bs H; obtain ⟨x4, x4e, H⟩ := H
    refine u_lI (q := 16) x4e dX9_takenAs_15 rfl ?_
    refine v_iload_n (q := 17) 1 dX9_takenAs_16 rfl rfl rfl ?_
    refine v_icmp_ne (q1 := 27) (q2 := 20) dX9_takenAs_17 (by decide) rfl (fun c5 => ?_) (fun c5 => ?_)
    · replace H := ine c5 H
      replace H := bs H; obtain ⟨x6, x6e, H⟩ := H
      refine v_iinc (v := x6) (L' := [(2, .int x6), (0, .ref u0), (1, .int u1)]) (q := 30) 2 dX9_takenAs_27 rfl (Option.some.inj x6e) (by decide) rfl rfl ?_
      refine v_goto (q := 2) dX9_takenAs_30 (by decide) ?_
      exact V.sub [1, 2, 0] rfl (kI x6 (Option.some.inj H).symm)
    · replace H := ip c5 H
      exact V.sub [0, 2] rfl (kE (.inr s2) (Option.some.inj H).symm)
def fX9_takenAs (h : Hp) (v0 : Nat) (v1 : Int32) : Option (Int32) :=
(lp (bX9_takenAs_2 v0 v1 h) FU (0 : Int32)).bind fun e7 =>
(match e7 with
| .inl e8 => (
some (0 : Int32))
| .inr e9 => (
(gR h 9 v0 9).bind fun x10 =>
(lI h .int x10 e9).bind fun x11 =>
some x11))
set_option maxRecDepth 20000 in
set_option maxHeartbeats 4000000 in
theorem sX9_takenAs {Γ : Gm} {d : Nat} (hd : 1 ≤ d) {h : Hp} {v0 : Nat} {v1 : Int32} {r : Int32} (H : fX9_takenAs h v0 v1 = some r) : V Γ d mX9_takenAs 0 [(0, .ref v0), (1, .int v1)] [] h (some (.int r), h) := by
  unfold fX9_takenAs at H
  refine v_iconst (v := 0) (q := 1) dX9_takenAs_0 (by decide) rfl ?_
  refine v_istore_n (L' := [(2, .int (0 : Int32)), (0, .ref v0), (1, .int v1)]) (q := 2) dX9_takenAs_1 rfl (by decide) rfl rfl ?_
  replace H := bs H; obtain ⟨e7, e7L, H⟩ := H
  refine V.sub [1, 2, 0] rfl ?_
  refine lp_V (P := (fun s2 => V Γ d mX9_takenAs 2 [(0, .ref v0), (1, .int v1), (2, .int s2)] [] h (some (.int r), h))) (E := (fun e => (match e with | .inl a0 => V Γ d mX9_takenAs 33 [] [] h (some (.int r), h) | .inr b0 => V Γ d mX9_takenAs 20 [(0, .ref v0), (2, .int b0)] [] h (some (.int r), h)))) (fun s r hb kI kE => sbX9_takenAs_2 hd (s2 := s) (r := r) hb kI kE) FU (0 : Int32) e7 e7L ?_
  rcases e7 with e8 | e9
  · skip
    refine v_iconst (v := 0) (q := 34) dX9_takenAs_33 (by decide) rfl ?_
    cases H
    exact v_ireturn rfl dX9_takenAs_34
  · skip
    refine v_aload_n (q := 21) 0 dX9_takenAs_20 rfl rfl rfl ?_
    replace H := bs H; obtain ⟨x10, x10e, H⟩ := H
    refine u_gR (q := 24) (r := (RX9, TX9, 10)) x10e dX9_takenAs_21 w0432 rfl (by decide) rfl rfl ?_
    refine v_iload_n (q := 25) 1 dX9_takenAs_24 rfl rfl rfl ?_
    replace H := bs H; obtain ⟨x11, x11e, H⟩ := H
    refine u_lI (q := 26) x11e dX9_takenAs_25 rfl ?_
    cases H
    exact v_ireturn rfl dX9_takenAs_26
def mX7_open : MI := (yX7_open, cX7_open, 4, none)
theorem oX7_open : mOK mX7_open 3 := ⟨by decide +kernel, by decide +kernel, by decide +kernel, by decide, w0796, w0145⟩
def jX7_open_49 (h : Hp) : Option (Hp) :=
some h
set_option maxRecDepth 20000 in
set_option maxHeartbeats 4000000 in
theorem sjX7_open_49 {Γ : Gm} {d : Nat} (hd : 1 ≤ d) {h : Hp} {r : Hp} (H : jX7_open_49 h = some r) : V Γ d mX7_open 49 [] [] h (none, r) := by
  unfold jX7_open_49 at H
  cases H
  exact v_return rfl dX7_open_49
def fX7_open (h : Hp) (v0 : Nat) (v1 : Int32) (v2 : Int32) (v3 : Int32) : Option (Hp) :=
(gI h 7 v0 0).bind fun x1 =>
if (60 : Int32) ≤ x1 then (
jX7_open_49 h) else (
(gR h 7 v0 1).bind fun x3 =>
(gI h 7 v0 0).bind fun x4 =>
(tI h x3 x4 v1).bind fun h5 =>
(gR h5 7 v0 2).bind fun x6 =>
(gI h5 7 v0 0).bind fun x7 =>
(tI h5 x6 x7 v2).bind fun h8 =>
(gR h8 7 v0 3).bind fun x9 =>
(gI h8 7 v0 0).bind fun x10 =>
(tI h8 x9 x10 v3).bind fun h11 =>
(gR h11 7 v0 4).bind fun x12 =>
(gI h11 7 v0 0).bind fun x13 =>
(tI h11 x12 x13 (0 : Int32)).bind fun h14 =>
jX7_open_49 h14)
set_option maxRecDepth 20000 in
set_option maxHeartbeats 4000000 in
theorem sX7_open {Γ : Gm} {d : Nat} (hd : 1 ≤ d) {h : Hp} {v0 : Nat} {v1 : Int32} {v2 : Int32} {v3 : Int32} {r : Hp} (H : fX7_open h v0 v1 v2 v3 = some r) : V Γ d mX7_open 0 [(0, .ref v0), (1, .int v1), (2, .int v2), (3, .int v3)] [] h (none, r) := by
  unfold fX7_open at H
  refine v_aload_n (q := 1) 0 dX7_open_0 rfl rfl rfl ?_
  replace H := bs H; obtain ⟨x1, x1e, H⟩ := H
  refine u_gI (q := 4) (r := (RX7, TX7, 7)) x1e dX7_open_1 w0311 rfl (by decide) rfl rfl ?_
  refine v_bipush (v := 60) (q := 6) dX7_open_4 (by decide) rfl ?_
  refine v_icmp_ge (q1 := 49) (q2 := 9) dX7_open_6 (by decide) rfl (fun c2 => ?_) (fun c2 => ?_)
  · replace H := ip c2 H
    exact V.sub [] rfl (sjX7_open_49 hd H)
  · replace H := ine c2 H
    refine v_aload_n (q := 10) 0 dX7_open_9 rfl rfl rfl ?_
    replace H := bs H; obtain ⟨x3, x3e, H⟩ := H
    refine u_gR (q := 13) (r := (RX7, TX7, 7)) x3e dX7_open_10 w0314 rfl (by decide) rfl rfl ?_
    refine v_aload_n (q := 14) 0 dX7_open_13 rfl rfl rfl ?_
    replace H := bs H; obtain ⟨x4, x4e, H⟩ := H
    refine u_gI (q := 17) (r := (RX7, TX7, 7)) x4e dX7_open_14 w0311 rfl (by decide) rfl rfl ?_
    refine v_iload_n (q := 18) 1 dX7_open_17 rfl rfl rfl ?_
    replace H := bs H; obtain ⟨h5, h5e, H⟩ := H
    refine u_tI (q := 19) h5e dX7_open_18 rfl ?_
    refine v_aload_n (q := 20) 0 dX7_open_19 rfl rfl rfl ?_
    replace H := bs H; obtain ⟨x6, x6e, H⟩ := H
    refine u_gR (q := 23) (r := (RX7, TX7, 7)) x6e dX7_open_20 w0316 rfl (by decide) rfl rfl ?_
    refine v_aload_n (q := 24) 0 dX7_open_23 rfl rfl rfl ?_
    replace H := bs H; obtain ⟨x7, x7e, H⟩ := H
    refine u_gI (q := 27) (r := (RX7, TX7, 7)) x7e dX7_open_24 w0311 rfl (by decide) rfl rfl ?_
    refine v_iload_n (q := 28) 2 dX7_open_27 rfl rfl rfl ?_
    replace H := bs H; obtain ⟨h8, h8e, H⟩ := H
    refine u_tI (q := 29) h8e dX7_open_28 rfl ?_
    refine v_aload_n (q := 30) 0 dX7_open_29 rfl rfl rfl ?_
    replace H := bs H; obtain ⟨x9, x9e, H⟩ := H
    refine u_gR (q := 33) (r := (RX7, TX7, 7)) x9e dX7_open_30 w0318 rfl (by decide) rfl rfl ?_
    refine v_aload_n (q := 34) 0 dX7_open_33 rfl rfl rfl ?_
    replace H := bs H; obtain ⟨x10, x10e, H⟩ := H
    refine u_gI (q := 37) (r := (RX7, TX7, 7)) x10e dX7_open_34 w0311 rfl (by decide) rfl rfl ?_
    refine v_iload_n (q := 38) 3 dX7_open_37 rfl rfl rfl ?_
    replace H := bs H; obtain ⟨h11, h11e, H⟩ := H
    refine u_tI (q := 39) h11e dX7_open_38 rfl ?_
    refine v_aload_n (q := 40) 0 dX7_open_39 rfl rfl rfl ?_
    replace H := bs H; obtain ⟨x12, x12e, H⟩ := H
    refine u_gR (q := 43) (r := (RX7, TX7, 7)) x12e dX7_open_40 w0320 rfl (by decide) rfl rfl ?_
    refine v_aload_n (q := 44) 0 dX7_open_43 rfl rfl rfl ?_
    replace H := bs H; obtain ⟨x13, x13e, H⟩ := H
    refine u_gI (q := 47) (r := (RX7, TX7, 7)) x13e dX7_open_44 w0311 rfl (by decide) rfl rfl ?_
    refine v_iconst (v := 0) (q := 48) dX7_open_47 (by decide) rfl ?_
    replace H := bs H; obtain ⟨h14, h14e, H⟩ := H
    refine u_tI (q := 49) h14e dX7_open_48 rfl ?_
    exact V.sub [] rfl (sjX7_open_49 hd H)
def mX7_addNode : MI := (yX7_addNode, cX7_addNode, 2, none)
theorem oX7_addNode : mOK mX7_addNode 1 := ⟨by decide +kernel, by decide +kernel, by decide +kernel, by decide, w0800, w0145⟩
def jX7_addNode_60 (h : Hp) : Option (Hp) :=
some h
set_option maxRecDepth 20000 in
set_option maxHeartbeats 4000000 in
theorem sjX7_addNode_60 {Γ : Gm} {d : Nat} (hd : 1 ≤ d) {h : Hp} {r : Hp} (H : jX7_addNode_60 h = some r) : V Γ d mX7_addNode 60 [] [] h (none, r) := by
  unfold jX7_addNode_60 at H
  cases H
  exact v_return rfl dX7_addNode_60
def fX7_addNode (h : Hp) (v0 : Nat) (v1 : Int32) : Option (Hp) :=
(gI h 7 v0 0).bind fun x1 =>
if (60 : Int32) ≤ x1 then (
jX7_addNode_60 h) else (
(gR h 7 v0 4).bind fun x3 =>
(gI h 7 v0 0).bind fun x4 =>
(lI h .int x3 x4).bind fun x5 =>
if (17 : Int32) ≤ x5 then (
jX7_addNode_60 h) else (
(gR h 7 v0 5).bind fun x7 =>
(gI h 7 v0 0).bind fun x8 =>
(gR h 7 v0 4).bind fun x9 =>
(gI h 7 v0 0).bind fun x10 =>
(lI h .int x9 x10).bind fun x11 =>
(tB h x7 ((x8 * (17 : Int32)) + x11) v1.toInt8.toInt32).bind fun h12 =>
(gR h12 7 v0 4).bind fun x13 =>
(gI h12 7 v0 0).bind fun x14 =>
(lI h12 .int x13 x14).bind fun x15 =>
(tI h12 x13 x14 (x15 + (1 : Int32))).bind fun h16 =>
jX7_addNode_60 h16))
set_option maxRecDepth 20000 in
set_option maxHeartbeats 4000000 in
theorem sX7_addNode {Γ : Gm} {d : Nat} (hd : 1 ≤ d) {h : Hp} {v0 : Nat} {v1 : Int32} {r : Hp} (H : fX7_addNode h v0 v1 = some r) : V Γ d mX7_addNode 0 [(0, .ref v0), (1, .int v1)] [] h (none, r) := by
  unfold fX7_addNode at H
  refine v_aload_n (q := 1) 0 dX7_addNode_0 rfl rfl rfl ?_
  replace H := bs H; obtain ⟨x1, x1e, H⟩ := H
  refine u_gI (q := 4) (r := (RX7, TX7, 7)) x1e dX7_addNode_1 w0311 rfl (by decide) rfl rfl ?_
  refine v_bipush (v := 60) (q := 6) dX7_addNode_4 (by decide) rfl ?_
  refine v_icmp_ge (q1 := 60) (q2 := 9) dX7_addNode_6 (by decide) rfl (fun c2 => ?_) (fun c2 => ?_)
  · replace H := ip c2 H
    exact V.sub [] rfl (sjX7_addNode_60 hd H)
  · replace H := ine c2 H
    refine v_aload_n (q := 10) 0 dX7_addNode_9 rfl rfl rfl ?_
    replace H := bs H; obtain ⟨x3, x3e, H⟩ := H
    refine u_gR (q := 13) (r := (RX7, TX7, 7)) x3e dX7_addNode_10 w0320 rfl (by decide) rfl rfl ?_
    refine v_aload_n (q := 14) 0 dX7_addNode_13 rfl rfl rfl ?_
    replace H := bs H; obtain ⟨x4, x4e, H⟩ := H
    refine u_gI (q := 17) (r := (RX7, TX7, 7)) x4e dX7_addNode_14 w0311 rfl (by decide) rfl rfl ?_
    replace H := bs H; obtain ⟨x5, x5e, H⟩ := H
    refine u_lI (q := 18) x5e dX7_addNode_17 rfl ?_
    refine v_bipush (v := 17) (q := 20) dX7_addNode_18 (by decide) rfl ?_
    refine v_icmp_ge (q1 := 60) (q2 := 23) dX7_addNode_20 (by decide) rfl (fun c6 => ?_) (fun c6 => ?_)
    · replace H := ip c6 H
      exact V.sub [] rfl (sjX7_addNode_60 hd H)
    · replace H := ine c6 H
      refine v_aload_n (q := 24) 0 dX7_addNode_23 rfl rfl rfl ?_
      replace H := bs H; obtain ⟨x7, x7e, H⟩ := H
      refine u_gR (q := 27) (r := (RX7, TX7, 7)) x7e dX7_addNode_24 w0322 rfl (by decide) rfl rfl ?_
      refine v_aload_n (q := 28) 0 dX7_addNode_27 rfl rfl rfl ?_
      replace H := bs H; obtain ⟨x8, x8e, H⟩ := H
      refine u_gI (q := 31) (r := (RX7, TX7, 7)) x8e dX7_addNode_28 w0311 rfl (by decide) rfl rfl ?_
      refine v_bipush (v := 17) (q := 33) dX7_addNode_31 (by decide) rfl ?_
      refine v_imul (q := 34) dX7_addNode_33 rfl ?_
      refine v_aload_n (q := 35) 0 dX7_addNode_34 rfl rfl rfl ?_
      replace H := bs H; obtain ⟨x9, x9e, H⟩ := H
      refine u_gR (q := 38) (r := (RX7, TX7, 7)) x9e dX7_addNode_35 w0320 rfl (by decide) rfl rfl ?_
      refine v_aload_n (q := 39) 0 dX7_addNode_38 rfl rfl rfl ?_
      replace H := bs H; obtain ⟨x10, x10e, H⟩ := H
      refine u_gI (q := 42) (r := (RX7, TX7, 7)) x10e dX7_addNode_39 w0311 rfl (by decide) rfl rfl ?_
      replace H := bs H; obtain ⟨x11, x11e, H⟩ := H
      refine u_lI (q := 43) x11e dX7_addNode_42 rfl ?_
      refine v_iadd (q := 44) dX7_addNode_43 rfl ?_
      refine v_iload_n (q := 45) 1 dX7_addNode_44 rfl rfl rfl ?_
      refine v_i2b (q := 46) dX7_addNode_45 rfl ?_
      replace H := bs H; obtain ⟨h12, h12e, H⟩ := H
      refine u_tB (q := 47) h12e dX7_addNode_46 rfl ?_
      refine v_aload_n (q := 48) 0 dX7_addNode_47 rfl rfl rfl ?_
      replace H := bs H; obtain ⟨x13, x13e, H⟩ := H
      refine u_gR (q := 51) (r := (RX7, TX7, 7)) x13e dX7_addNode_48 w0320 rfl (by decide) rfl rfl ?_
      refine v_aload_n (q := 52) 0 dX7_addNode_51 rfl rfl rfl ?_
      replace H := bs H; obtain ⟨x14, x14e, H⟩ := H
      refine u_gI (q := 55) (r := (RX7, TX7, 7)) x14e dX7_addNode_52 w0311 rfl (by decide) rfl rfl ?_
      refine v_dup2 (q := 56) dX7_addNode_55 rfl rfl rfl ?_
      replace H := bs H; obtain ⟨x15, x15e, H⟩ := H
      refine u_lI (q := 57) x15e dX7_addNode_56 rfl ?_
      refine v_iconst (v := 1) (q := 58) dX7_addNode_57 (by decide) rfl ?_
      refine v_iadd (q := 59) dX7_addNode_58 rfl ?_
      replace H := bs H; obtain ⟨h16, h16e, H⟩ := H
      refine u_tI (q := 60) h16e dX7_addNode_59 rfl ?_
      exact V.sub [] rfl (sjX7_addNode_60 hd H)
def mX7_close : MI := (yX7_close, cX7_close, 3, none)
theorem oX7_close : mOK mX7_close 0 := ⟨by decide +kernel, by decide +kernel, by decide +kernel, by decide, w0804, w0145⟩
def jX7_close_94 (h : Hp) : Option (Hp) :=
some h
set_option maxRecDepth 20000 in
set_option maxHeartbeats 4000000 in
theorem sjX7_close_94 {Γ : Gm} {d : Nat} (hd : 1 ≤ d) {h : Hp} {r : Hp} (H : jX7_close_94 h = some r) : V Γ d mX7_close 94 [] [] h (none, r) := by
  unfold jX7_close_94 at H
  cases H
  exact v_return rfl dX7_close_94
def fX7_close (h : Hp) (v0 : Nat) : Option (Hp) :=
(gI h 7 v0 0).bind fun x1 =>
if (60 : Int32) ≤ x1 then (
jX7_close_94 h) else (
(gR h 7 v0 4).bind fun x3 =>
(gI h 7 v0 0).bind fun x4 =>
(lI h .int x3 x4).bind fun x5 =>
if x5 ≤ 0 then (
jX7_close_94 h) else (
(gR h 7 v0 5).bind fun x7 =>
(gI h 7 v0 0).bind fun x8 =>
(lI h .byte x7 (x8 * (17 : Int32))).bind fun x9 =>
(gR h 7 v0 5).bind fun x10 =>
(gI h 7 v0 0).bind fun x11 =>
(gR h 7 v0 4).bind fun x12 =>
(gI h 7 v0 0).bind fun x13 =>
(lI h .int x12 x13).bind fun x14 =>
(lI h .byte x10 (((x11 * (17 : Int32)) + x14) - (1 : Int32))).bind fun x15 =>
(gR h 7 v0 6).bind fun x16 =>
(gR h 7 v0 1).bind fun x17 =>
(gI h 7 v0 0).bind fun x18 =>
(lI h .int x17 x18).bind fun x19 =>
(lI h .int x16 ((x19 * (16 : Int32)) + x9)).bind fun x20 =>
(tI h x16 ((x19 * (16 : Int32)) + x9) (x20 ||| ((1 : Int32) <<< (x15 &&& 31)))).bind fun h21 =>
(gI h21 7 v0 0).bind fun x22 =>
(pI h21 7 v0 0 (x22 + (1 : Int32))).bind fun h23 =>
jX7_close_94 h23))
set_option maxRecDepth 20000 in
set_option maxHeartbeats 4000000 in
theorem sX7_close {Γ : Gm} {d : Nat} (hd : 1 ≤ d) {h : Hp} {v0 : Nat} {r : Hp} (H : fX7_close h v0 = some r) : V Γ d mX7_close 0 [(0, .ref v0)] [] h (none, r) := by
  unfold fX7_close at H
  refine v_aload_n (q := 1) 0 dX7_close_0 rfl rfl rfl ?_
  replace H := bs H; obtain ⟨x1, x1e, H⟩ := H
  refine u_gI (q := 4) (r := (RX7, TX7, 7)) x1e dX7_close_1 w0311 rfl (by decide) rfl rfl ?_
  refine v_bipush (v := 60) (q := 6) dX7_close_4 (by decide) rfl ?_
  refine v_icmp_ge (q1 := 94) (q2 := 9) dX7_close_6 (by decide) rfl (fun c2 => ?_) (fun c2 => ?_)
  · replace H := ip c2 H
    exact V.sub [] rfl (sjX7_close_94 hd H)
  · replace H := ine c2 H
    refine v_aload_n (q := 10) 0 dX7_close_9 rfl rfl rfl ?_
    replace H := bs H; obtain ⟨x3, x3e, H⟩ := H
    refine u_gR (q := 13) (r := (RX7, TX7, 7)) x3e dX7_close_10 w0320 rfl (by decide) rfl rfl ?_
    refine v_aload_n (q := 14) 0 dX7_close_13 rfl rfl rfl ?_
    replace H := bs H; obtain ⟨x4, x4e, H⟩ := H
    refine u_gI (q := 17) (r := (RX7, TX7, 7)) x4e dX7_close_14 w0311 rfl (by decide) rfl rfl ?_
    replace H := bs H; obtain ⟨x5, x5e, H⟩ := H
    refine u_lI (q := 18) x5e dX7_close_17 rfl ?_
    refine v_if_le (q1 := 94) (q2 := 21) dX7_close_18 (by decide) rfl (fun c6 => ?_) (fun c6 => ?_)
    · replace H := ip c6 H
      exact V.sub [] rfl (sjX7_close_94 hd H)
    · replace H := ine c6 H
      refine v_aload_n (q := 22) 0 dX7_close_21 rfl rfl rfl ?_
      replace H := bs H; obtain ⟨x7, x7e, H⟩ := H
      refine u_gR (q := 25) (r := (RX7, TX7, 7)) x7e dX7_close_22 w0322 rfl (by decide) rfl rfl ?_
      refine v_aload_n (q := 26) 0 dX7_close_25 rfl rfl rfl ?_
      replace H := bs H; obtain ⟨x8, x8e, H⟩ := H
      refine u_gI (q := 29) (r := (RX7, TX7, 7)) x8e dX7_close_26 w0311 rfl (by decide) rfl rfl ?_
      refine v_bipush (v := 17) (q := 31) dX7_close_29 (by decide) rfl ?_
      refine v_imul (q := 32) dX7_close_31 rfl ?_
      replace H := bs H; obtain ⟨x9, x9e, H⟩ := H
      refine u_lB (q := 33) x9e dX7_close_32 rfl ?_
      refine v_istore_n (L' := [(1, .int x9), (0, .ref v0)]) (q := 34) dX7_close_33 rfl (by decide) rfl rfl ?_
      refine v_aload_n (q := 35) 1 dX7_close_34 rfl rfl rfl ?_
      replace H := bs H; obtain ⟨x10, x10e, H⟩ := H
      refine u_gR (q := 38) (r := (RX7, TX7, 7)) x10e dX7_close_35 w0322 rfl (by decide) rfl rfl ?_
      refine v_aload_n (q := 39) 1 dX7_close_38 rfl rfl rfl ?_
      replace H := bs H; obtain ⟨x11, x11e, H⟩ := H
      refine u_gI (q := 42) (r := (RX7, TX7, 7)) x11e dX7_close_39 w0311 rfl (by decide) rfl rfl ?_
      refine v_bipush (v := 17) (q := 44) dX7_close_42 (by decide) rfl ?_
      refine v_imul (q := 45) dX7_close_44 rfl ?_
      refine v_aload_n (q := 46) 1 dX7_close_45 rfl rfl rfl ?_
      replace H := bs H; obtain ⟨x12, x12e, H⟩ := H
      refine u_gR (q := 49) (r := (RX7, TX7, 7)) x12e dX7_close_46 w0320 rfl (by decide) rfl rfl ?_
      refine v_aload_n (q := 50) 1 dX7_close_49 rfl rfl rfl ?_
      replace H := bs H; obtain ⟨x13, x13e, H⟩ := H
      refine u_gI (q := 53) (r := (RX7, TX7, 7)) x13e dX7_close_50 w0311 rfl (by decide) rfl rfl ?_
      replace H := bs H; obtain ⟨x14, x14e, H⟩ := H
      refine u_lI (q := 54) x14e dX7_close_53 rfl ?_
      refine v_iadd (q := 55) dX7_close_54 rfl ?_
      refine v_iconst (v := 1) (q := 56) dX7_close_55 (by decide) rfl ?_
      refine v_isub (q := 57) dX7_close_56 rfl ?_
      replace H := bs H; obtain ⟨x15, x15e, H⟩ := H
      refine u_lB (q := 58) x15e dX7_close_57 rfl ?_
      refine v_istore_n (L' := [(2, .int x15), (1, .int x9), (0, .ref v0)]) (q := 59) dX7_close_58 rfl (by decide) rfl rfl ?_
      refine v_aload_n (q := 60) 2 dX7_close_59 rfl rfl rfl ?_
      replace H := bs H; obtain ⟨x16, x16e, H⟩ := H
      refine u_gR (q := 63) (r := (RX7, TX7, 7)) x16e dX7_close_60 w0323 rfl (by decide) rfl rfl ?_
      refine v_aload_n (q := 64) 2 dX7_close_63 rfl rfl rfl ?_
      replace H := bs H; obtain ⟨x17, x17e, H⟩ := H
      refine u_gR (q := 67) (r := (RX7, TX7, 7)) x17e dX7_close_64 w0314 rfl (by decide) rfl rfl ?_
      refine v_aload_n (q := 68) 2 dX7_close_67 rfl rfl rfl ?_
      replace H := bs H; obtain ⟨x18, x18e, H⟩ := H
      refine u_gI (q := 71) (r := (RX7, TX7, 7)) x18e dX7_close_68 w0311 rfl (by decide) rfl rfl ?_
      replace H := bs H; obtain ⟨x19, x19e, H⟩ := H
      refine u_lI (q := 72) x19e dX7_close_71 rfl ?_
      refine v_bipush (v := 16) (q := 74) dX7_close_72 (by decide) rfl ?_
      refine v_imul (q := 75) dX7_close_74 rfl ?_
      refine v_iload_n (q := 76) 1 dX7_close_75 rfl rfl rfl ?_
      refine v_iadd (q := 77) dX7_close_76 rfl ?_
      refine v_dup2 (q := 78) dX7_close_77 rfl rfl rfl ?_
      replace H := bs H; obtain ⟨x20, x20e, H⟩ := H
      refine u_lI (q := 79) x20e dX7_close_78 rfl ?_
      refine v_iconst (v := 1) (q := 80) dX7_close_79 (by decide) rfl ?_
      refine v_iload_n (q := 81) 0 dX7_close_80 rfl rfl rfl ?_
      refine v_ishl (q := 82) dX7_close_81 rfl ?_
      refine v_ior (q := 83) dX7_close_82 rfl ?_
      replace H := bs H; obtain ⟨h21, h21e, H⟩ := H
      refine u_tI (q := 84) h21e dX7_close_83 rfl ?_
      refine v_aload_n (q := 85) 2 dX7_close_84 rfl rfl rfl ?_
      refine v_dup (q := 86) dX7_close_85 rfl rfl ?_
      replace H := bs H; obtain ⟨x22, x22e, H⟩ := H
      refine u_gI (q := 89) (r := (RX7, TX7, 7)) x22e dX7_close_86 w0311 rfl (by decide) rfl rfl ?_
      refine v_iconst (v := 1) (q := 90) dX7_close_89 (by decide) rfl ?_
      refine v_iadd (q := 91) dX7_close_90 rfl ?_
      replace H := bs H; obtain ⟨h23, h23e, H⟩ := H
      refine u_pI (q := 94) (r := (RX7, TX7, 7)) h23e dX7_close_91 w0311 rfl (by decide) (Or.inl rfl) rfl rfl ?_
      exact V.sub [] rfl (sjX7_close_94 hd H)
def mX9_tell : MI := (yX9_tell, cX9_tell, 3, none)
theorem oX9_tell : mOK mX9_tell 2 := ⟨by decide +kernel, by decide +kernel, by decide +kernel, by decide, w0792, w0147⟩
def fX9_tell (h : Hp) (v0 : Nat) (v1 : Int32) (v2 : Int32) : Option (Hp) :=
(gR h 9 v0 2).bind fun x1 =>
(gR h 3 x1 4).bind fun x2 =>
(gI h 9 v0 3).bind fun x3 =>
(gI h 9 v0 4).bind fun x4 =>
(gO h 7 x2).bind fun _ =>
(fX7_open h x2 v1 x3 x4).bind fun x6 =>
(gR x6 9 v0 2).bind fun x7 =>
(gR x6 3 x7 4).bind fun x8 =>
(gO x6 7 x8).bind fun _ =>
(fX7_addNode x6 x8 v2).bind fun x10 =>
(gR x10 9 v0 2).bind fun x11 =>
(gR x10 3 x11 4).bind fun x12 =>
(gO x10 7 x12).bind fun _ =>
(fX7_close x10 x12).bind fun x14 =>
some x14
set_option maxRecDepth 20000 in
set_option maxHeartbeats 4000000 in
theorem sX9_tell {Γ : Gm} {d : Nat} (hd : 2 ≤ d) {h : Hp} {v0 : Nat} {v1 : Int32} {v2 : Int32} {r : Hp} (H : fX9_tell h v0 v1 v2 = some r) : V Γ d mX9_tell 0 [(0, .ref v0), (1, .int v1), (2, .int v2)] [] h (none, r) := by
  unfold fX9_tell at H
  refine v_aload_n (q := 1) 0 dX9_tell_0 rfl rfl rfl ?_
  replace H := bs H; obtain ⟨x1, x1e, H⟩ := H
  refine u_gR (q := 4) (r := (RX9, TX9, 10)) x1e dX9_tell_1 w0425 rfl (by decide) rfl rfl ?_
  replace H := bs H; obtain ⟨x2, x2e, H⟩ := H
  refine u_gR (q := 7) (r := (RX3, TX3, 8)) x2e dX9_tell_4 w0352 rfl (by decide) rfl rfl ?_
  refine v_iload_n (q := 8) 1 dX9_tell_7 rfl rfl rfl ?_
  refine v_aload_n (q := 9) 0 dX9_tell_8 rfl rfl rfl ?_
  replace H := bs H; obtain ⟨x3, x3e, H⟩ := H
  refine u_gI (q := 12) (r := (RX9, TX9, 10)) x3e dX9_tell_9 w0426 rfl (by decide) rfl rfl ?_
  refine v_aload_n (q := 13) 0 dX9_tell_12 rfl rfl rfl ?_
  replace H := bs H; obtain ⟨x4, x4e, H⟩ := H
  refine u_gI (q := 16) (r := (RX9, TX9, 10)) x4e dX9_tell_13 w0427 rfl (by decide) rfl rfl ?_
  replace H := bs H; obtain ⟨_, o5, H⟩ := H
  replace H := bs H; obtain ⟨x6, x6e, H⟩ := H
  refine u_callV0 (M' := mX7_open) (d' := 1) (rc := (RX7, TX7, 7)) (As := [.int v1, .int x3, .int x4]) (st := []) (q := 19) oX7_open dX9_tell_16 w0793 w0794 w0795 rfl rfl (gO_sp o5).1 (gO_sp o5).2 rfl (Nat.le_of_ble_eq_true rfl) (Nat.le_of_ble_eq_true rfl) (Nat.lt_of_lt_of_le (by decide) hd) rfl (sX7_open (Nat.le_refl _) x6e) rfl ?_
  refine v_aload_n (q := 20) 0 dX9_tell_19 rfl rfl rfl ?_
  replace H := bs H; obtain ⟨x7, x7e, H⟩ := H
  refine u_gR (q := 23) (r := (RX9, TX9, 10)) x7e dX9_tell_20 w0425 rfl (by decide) rfl rfl ?_
  replace H := bs H; obtain ⟨x8, x8e, H⟩ := H
  refine u_gR (q := 26) (r := (RX3, TX3, 8)) x8e dX9_tell_23 w0352 rfl (by decide) rfl rfl ?_
  refine v_iload_n (q := 27) 2 dX9_tell_26 rfl rfl rfl ?_
  replace H := bs H; obtain ⟨_, o9, H⟩ := H
  replace H := bs H; obtain ⟨x10, x10e, H⟩ := H
  refine u_callV0 (M' := mX7_addNode) (d' := 1) (rc := (RX7, TX7, 7)) (As := [.int v2]) (st := []) (q := 30) oX7_addNode dX9_tell_27 w0797 w0798 w0799 rfl rfl (gO_sp o9).1 (gO_sp o9).2 rfl (Nat.le_of_ble_eq_true rfl) (Nat.le_of_ble_eq_true rfl) (Nat.lt_of_lt_of_le (by decide) hd) rfl (sX7_addNode (Nat.le_refl _) x10e) rfl ?_
  refine v_aload_n (q := 31) 0 dX9_tell_30 rfl rfl rfl ?_
  replace H := bs H; obtain ⟨x11, x11e, H⟩ := H
  refine u_gR (q := 34) (r := (RX9, TX9, 10)) x11e dX9_tell_31 w0425 rfl (by decide) rfl rfl ?_
  replace H := bs H; obtain ⟨x12, x12e, H⟩ := H
  refine u_gR (q := 37) (r := (RX3, TX3, 8)) x12e dX9_tell_34 w0352 rfl (by decide) rfl rfl ?_
  replace H := bs H; obtain ⟨_, o13, H⟩ := H
  replace H := bs H; obtain ⟨x14, x14e, H⟩ := H
  refine u_callV0 (M' := mX7_close) (d' := 1) (rc := (RX7, TX7, 7)) (As := []) (st := []) (q := 40) oX7_close dX9_tell_37 w0801 w0802 w0803 rfl rfl (gO_sp o13).1 (gO_sp o13).2 rfl (Nat.le_of_ble_eq_true rfl) (Nat.le_of_ble_eq_true rfl) (Nat.lt_of_lt_of_le (by decide) hd) rfl (sX7_close (Nat.le_refl _) x14e) rfl ?_
  cases H
  exact v_return rfl dX9_tell_40
def mX9_nodeOf : MI := (yX9_nodeOf, cX9_nodeOf, 3, some .int)
theorem oX9_nodeOf : mOK mX9_nodeOf 2 := ⟨by decide +kernel, by decide +kernel, by decide +kernel, by decide, w0812, w0147⟩
def jX9_nodeOf_21 (y0 : Int32) (y1 : Int32) (h : Hp) : Option (Int32) :=
some (y1 + y0)
set_option maxRecDepth 20000 in
set_option maxHeartbeats 4000000 in
theorem sjX9_nodeOf_21 {Γ : Gm} {d : Nat} (hd : 1 ≤ d) {y0 : Int32} {y1 : Int32} {h : Hp} {r : Int32} (H : jX9_nodeOf_21 y0 y1 h = some r) : V Γ d mX9_nodeOf 21 [] [.int y0, .int y1] h (some (.int r), h) := by
  unfold jX9_nodeOf_21 at H
  refine v_iadd (q := 22) dX9_nodeOf_21 rfl ?_
  cases H
  exact v_ireturn rfl dX9_nodeOf_22
def fX9_nodeOf (h : Hp) (v0 : Nat) (v1 : Int32) (v2 : Int32) : Option (Int32) :=
(gR h 9 v0 1).bind fun x1 =>
(gR h 5 x1 3).bind fun x2 =>
(lI h .int x2 v1).bind fun x3 =>
if v2 = (1 : Int32) then (
jX9_nodeOf_21 (1 : Int32) ((2 : Int32) * x3) h) else (
jX9_nodeOf_21 (0 : Int32) ((2 : Int32) * x3) h)
set_option maxRecDepth 20000 in
set_option maxHeartbeats 4000000 in
theorem sX9_nodeOf {Γ : Gm} {d : Nat} (hd : 1 ≤ d) {h : Hp} {v0 : Nat} {v1 : Int32} {v2 : Int32} {r : Int32} (H : fX9_nodeOf h v0 v1 v2 = some r) : V Γ d mX9_nodeOf 0 [(0, .ref v0), (1, .int v1), (2, .int v2)] [] h (some (.int r), h) := by
  unfold fX9_nodeOf at H
  refine v_iconst (v := 2) (q := 1) dX9_nodeOf_0 (by decide) rfl ?_
  refine v_aload_n (q := 2) 0 dX9_nodeOf_1 rfl rfl rfl ?_
  replace H := bs H; obtain ⟨x1, x1e, H⟩ := H
  refine u_gR (q := 5) (r := (RX9, TX9, 10)) x1e dX9_nodeOf_2 w0424 rfl (by decide) rfl rfl ?_
  replace H := bs H; obtain ⟨x2, x2e, H⟩ := H
  refine u_gR (q := 8) (r := (RX5, TX5, 7)) x2e dX9_nodeOf_5 w0236 rfl (by decide) rfl rfl ?_
  refine v_iload_n (q := 9) 1 dX9_nodeOf_8 rfl rfl rfl ?_
  replace H := bs H; obtain ⟨x3, x3e, H⟩ := H
  refine u_lI (q := 10) x3e dX9_nodeOf_9 rfl ?_
  refine v_imul (q := 11) dX9_nodeOf_10 rfl ?_
  refine v_iload_n (q := 12) 2 dX9_nodeOf_11 rfl rfl rfl ?_
  refine v_iconst (v := 1) (q := 13) dX9_nodeOf_12 (by decide) rfl ?_
  refine v_icmp_ne (q1 := 20) (q2 := 16) dX9_nodeOf_13 (by decide) rfl (fun c4 => ?_) (fun c4 => ?_)
  · replace H := ine c4 H
    refine v_iconst (v := 0) (q := 21) dX9_nodeOf_20 (by decide) rfl ?_
    exact V.sub [] rfl (sjX9_nodeOf_21 hd H)
  · replace H := ip c4 H
    refine v_iconst (v := 1) (q := 17) dX9_nodeOf_16 (by decide) rfl ?_
    refine v_goto (q := 21) dX9_nodeOf_17 (by decide) ?_
    exact V.sub [] rfl (sjX9_nodeOf_21 hd H)
def mX9_rowWith : MI := (yX9_rowWith, cX9_rowWith, 5, some .long)
theorem oX9_rowWith : mOK mX9_rowWith 1 := ⟨by decide +kernel, by decide +kernel, by decide +kernel, by decide, w0816, w0147⟩
def bX9_rowWith_5 (u0 : Nat) (u1 : Int32) (h : Hp) (s5 : Int64 × Int32) : Option ((Int64 × Int32) ⊕ (Int64)) :=
(gI h 9 u0 6).bind fun x1 =>
if x1 ≤ s5.2 then (
some (.inr s5.1)) else (
(gR h 9 u0 9).bind fun x3 =>
(lI h .int x3 s5.2).bind fun x4 =>
(some ((s5.1 <<< ((5 : Int32).toInt64 &&& 63)) ||| ((x4 + (1 : Int32)).toInt64))).bind fun x5 =>
(some (s5.2 + (1 : Int32))).bind fun x6 =>
some (.inl (x5, x6)))
set_option maxRecDepth 20000 in
set_option maxHeartbeats 4000000 in
theorem sbX9_rowWith_5 {Γ : Gm} {d : Nat} (hd : 1 ≤ d) {u0 : Nat} {u1 : Int32} {h : Hp} {s5 : Int64 × Int32} {r : (Int64 × Int32) ⊕ (Int64)} {t : Option Value × Hp} (H : bX9_rowWith_5 u0 u1 h s5 = some r) (kI : ∀ s, r = .inl s → (fun s5 => V Γ d mX9_rowWith 5 [(0, .ref u0), (1, .int u1), (2, .long s5.1), (4, .int s5.2)] [] h t) s) (kE : ∀ e, r = .inr e → (fun e => V Γ d mX9_rowWith 35 [(1, .int u1), (2, .long e)] [] h t) e) : V Γ d mX9_rowWith 5 [(0, .ref u0), (1, .int u1), (2, .long s5.1), (4, .int s5.2)] [] h t := by
  unfold bX9_rowWith_5 at H
  refine v_iload (q := 7) 3 dX9_rowWith_5 rfl rfl ?_
  refine v_aload_n (q := 8) 0 dX9_rowWith_7 rfl rfl rfl ?_
  replace H := bs H; obtain ⟨x1, x1e, H⟩ := H
  refine u_gI (q := 11) (r := (RX9, TX9, 10)) x1e dX9_rowWith_8 w0429 rfl (by decide) rfl rfl ?_
  refine v_icmp_ge (q1 := 35) (q2 := 14) dX9_rowWith_11 (by decide) rfl (fun c2 => ?_) (fun c2 => ?_)
  · replace H := ip c2 H
    exact V.sub [1, 2] rfl (kE s5.1 (Option.some.inj H).symm)
  · replace H := ine c2 H
    refine v_lload_n (q := 15) 2 dX9_rowWith_14 rfl rfl rfl ?_
    refine v_iconst (v := 5) (q := 16) dX9_rowWith_15 (by decide) rfl ?_
    refine v_lshl (q := 17) dX9_rowWith_16 rfl ?_
    refine v_aload_n (q := 18) 0 dX9_rowWith_17 rfl rfl rfl ?_
    replace H := bs H; obtain ⟨x3, x3e, H⟩ := H
    refine u_gR (q := 21) (r := (RX9, TX9, 10)) x3e dX9_rowWith_18 w0432 rfl (by decide) rfl rfl ?_
    refine v_iload (q := 23) 3 dX9_rowWith_21 rfl rfl ?_
    replace H := bs H; obtain ⟨x4, x4e, H⟩ := H
    refine u_lI (q := 24) x4e dX9_rowWith_23 rfl ?_
    refine v_iconst (v := 1) (q := 25) dX9_rowWith_24 (by decide) rfl ?_
    refine v_iadd (q := 26) dX9_rowWith_25 rfl ?_
    refine v_i2l (q := 27) dX9_rowWith_26 rfl ?_
    refine v_lor (q := 28) dX9_rowWith_27 rfl ?_
    replace H := bs H; obtain ⟨x5, x5e, H⟩ := H
    refine v_topj (Option.some.inj x5e) ?_
    refine v_lstore_n (L' := [(2, .long x5), (0, .ref u0), (1, .int u1), (4, .int s5.2)]) (q := 29) dX9_rowWith_28 rfl (by decide) rfl rfl ?_
    replace H := bs H; obtain ⟨x6, x6e, H⟩ := H
    refine v_iinc (v := x6) (L' := [(4, .int x6), (2, .long x5), (0, .ref u0), (1, .int u1)]) (q := 32) 3 dX9_rowWith_29 rfl (Option.some.inj x6e) (by decide) rfl rfl ?_
    refine v_goto (q := 5) dX9_rowWith_32 (by decide) ?_
    exact V.sub [2, 3, 1, 0] rfl (kI (x5, x6) (Option.some.inj H).symm)
def fX9_rowWith (h : Hp) (v0 : Nat) (v1 : Int32) : Option (Int64) :=
(lp (bX9_rowWith_5 v0 v1 h) FU ((0 : Int64), (0 : Int32))).bind fun e7 =>
some ((e7 <<< ((5 : Int32).toInt64 &&& 63)) ||| ((v1 + (1 : Int32)).toInt64))
set_option maxRecDepth 20000 in
set_option maxHeartbeats 4000000 in
theorem sX9_rowWith {Γ : Gm} {d : Nat} (hd : 1 ≤ d) {h : Hp} {v0 : Nat} {v1 : Int32} {r : Int64} (H : fX9_rowWith h v0 v1 = some r) : V Γ d mX9_rowWith 0 [(0, .ref v0), (1, .int v1)] [] h (some (.long r), h) := by
  unfold fX9_rowWith at H
  refine v_lconst (v := 0) (q := 1) dX9_rowWith_0 (by decide) rfl ?_
  refine v_lstore_n (L' := [(2, .long (0 : Int64)), (0, .ref v0), (1, .int v1)]) (q := 2) dX9_rowWith_1 rfl (by decide) rfl rfl ?_
  refine v_iconst (v := 0) (q := 3) dX9_rowWith_2 (by decide) rfl ?_
  refine v_istore (L' := [(4, .int (0 : Int32)), (2, .long (0 : Int64)), (0, .ref v0), (1, .int v1)]) (q := 5) dX9_rowWith_3 (by decide) rfl rfl ?_
  replace H := bs H; obtain ⟨e7, e7L, H⟩ := H
  refine V.sub [2, 3, 1, 0] rfl ?_
  refine lp_V (P := (fun s5 => V Γ d mX9_rowWith 5 [(0, .ref v0), (1, .int v1), (2, .long s5.1), (4, .int s5.2)] [] h (some (.long r), h))) (E := (fun e => V Γ d mX9_rowWith 35 [(1, .int v1), (2, .long e)] [] h (some (.long r), h))) (fun s r hb kI kE => sbX9_rowWith_5 hd (s5 := s) (r := r) hb kI kE) FU ((0 : Int64), (0 : Int32)) e7 e7L ?_
  refine v_lload_n (q := 36) 1 dX9_rowWith_35 rfl rfl rfl ?_
  refine v_iconst (v := 5) (q := 37) dX9_rowWith_36 (by decide) rfl ?_
  refine v_lshl (q := 38) dX9_rowWith_37 rfl ?_
  refine v_iload_n (q := 39) 0 dX9_rowWith_38 rfl rfl rfl ?_
  refine v_iconst (v := 1) (q := 40) dX9_rowWith_39 (by decide) rfl ?_
  refine v_iadd (q := 41) dX9_rowWith_40 rfl ?_
  refine v_i2l (q := 42) dX9_rowWith_41 rfl ?_
  refine v_lor (q := 43) dX9_rowWith_42 rfl ?_
  cases H
  exact v_lreturn rfl dX9_rowWith_43
def mX3_addRow : MI := (yX3_addRow, cX3_addRow, 4, none)
theorem oX3_addRow : mOK mX3_addRow 1 := ⟨by decide +kernel, by decide +kernel, by decide +kernel, by decide, w0820, w0143⟩
def bX3_addRow_2 (u0 : Nat) (u1 : Int64) (h : Hp) (s2 : Int32) : Option ((Int32) ⊕ ((Unit) ⊕ (Unit))) :=
(gI h 3 u0 5).bind fun x1 =>
if x1 ≤ s2 then (
some (.inr (.inl ()))) else (
(gR h 3 u0 7).bind fun x3 =>
(lJ h x3 s2).bind fun x4 =>
if (lg_cmp x4 u1) = 0 then (
some (.inr (.inr ()))) else (
(some (s2 + (1 : Int32))).bind fun x6 =>
some (.inl x6)))
set_option maxRecDepth 20000 in
set_option maxHeartbeats 4000000 in
theorem sbX3_addRow_2 {Γ : Gm} {d : Nat} (hd : 3 ≤ d) {u0 : Nat} {u1 : Int64} {h : Hp} {s2 : Int32} {r : (Int32) ⊕ ((Unit) ⊕ (Unit))} {t : Option Value × Hp} (H : bX3_addRow_2 u0 u1 h s2 = some r) (kI : ∀ s, r = .inl s → (fun s2 => V Γ d mX3_addRow 2 [(0, .ref u0), (1, .long u1), (3, .int s2)] [] h t) s) (kE : ∀ e, r = .inr e → (fun e => (match e with | .inl a0 => V Γ d mX3_addRow 38 [(0, .ref u0), (1, .long u1)] [] h t | .inr b0 => V Γ d mX3_addRow 21 [(0, .ref u0)] [] h t)) e) : V Γ d mX3_addRow 2 [(0, .ref u0), (1, .long u1), (3, .int s2)] [] h t := by
  unfold bX3_addRow_2 at H
  refine v_iload_n (q := 3) 2 dX3_addRow_2 rfl rfl rfl ?_
  refine v_aload_n (q := 4) 0 dX3_addRow_3 rfl rfl rfl ?_
  replace H := bs H; obtain ⟨x1, x1e, H⟩ := H
  refine u_gI (q := 7) (r := (RX3, TX3, 8)) x1e dX3_addRow_4 w0354 rfl (by decide) rfl rfl ?_
  refine v_icmp_ge (q1 := 38) (q2 := 10) dX3_addRow_7 (by decide) rfl (fun c2 => ?_) (fun c2 => ?_)
  · replace H := ip c2 H
    exact V.sub [0, 1] rfl (kE (.inl ()) (Option.some.inj H).symm)
  · replace H := ine c2 H
    refine v_aload_n (q := 11) 0 dX3_addRow_10 rfl rfl rfl ?_
    replace H := bs H; obtain ⟨x3, x3e, H⟩ := H
    refine u_gR (q := 14) (r := (RX3, TX3, 8)) x3e dX3_addRow_11 w0358 rfl (by decide) rfl rfl ?_
    refine v_iload_n (q := 15) 2 dX3_addRow_14 rfl rfl rfl ?_
    replace H := bs H; obtain ⟨x4, x4e, H⟩ := H
    refine u_lJ (q := 16) x4e dX3_addRow_15 rfl ?_
    refine v_lload_n (q := 17) 1 dX3_addRow_16 rfl rfl rfl ?_
    refine v_lcmp (q := 18) dX3_addRow_17 rfl ?_
    refine v_if_ne (q1 := 32) (q2 := 21) dX3_addRow_18 (by decide) rfl (fun c5 => ?_) (fun c5 => ?_)
    · replace H := ine c5 H
      replace H := bs H; obtain ⟨x6, x6e, H⟩ := H
      refine v_iinc (v := x6) (L' := [(3, .int x6), (0, .ref u0), (1, .long u1)]) (q := 35) 2 dX3_addRow_32 rfl (Option.some.inj x6e) (by decide) rfl rfl ?_
      refine v_goto (q := 2) dX3_addRow_35 (by decide) ?_
      exact V.sub [1, 2, 0] rfl (kI x6 (Option.some.inj H).symm)
    · replace H := ip c5 H
      exact V.sub [0] rfl (kE (.inr ()) (Option.some.inj H).symm)
def jX3_addRow_109 (h : Hp) : Option (Hp) :=
some h
set_option maxRecDepth 20000 in
set_option maxHeartbeats 4000000 in
theorem sjX3_addRow_109 {Γ : Gm} {d : Nat} (hd : 3 ≤ d) {h : Hp} {r : Hp} (H : jX3_addRow_109 h = some r) : V Γ d mX3_addRow 109 [] [] h (none, r) := by
  unfold jX3_addRow_109 at H
  cases H
  exact v_return rfl dX3_addRow_109
def jX3_addRow_77 (v0 : Nat) (v1 : Int64) (h : Hp) : Option (Hp) :=
(gI h 3 v0 5).bind fun x14 =>
(gR h 3 v0 7).bind fun x15 =>
(aL h .long x15).bind fun x16 =>
if x16 ≤ x14 then (
jX3_addRow_109 h) else (
(gR h 3 v0 7).bind fun x18 =>
(gI h 3 v0 5).bind fun x19 =>
(tJ h x18 x19 v1).bind fun h20 =>
(gI h20 3 v0 5).bind fun x21 =>
(pI h20 3 v0 5 (x21 + (1 : Int32))).bind fun h22 =>
jX3_addRow_109 h22)
set_option maxRecDepth 20000 in
set_option maxHeartbeats 4000000 in
theorem sjX3_addRow_77 {Γ : Gm} {d : Nat} (hd : 3 ≤ d) {v0 : Nat} {v1 : Int64} {h : Hp} {r : Hp} (H : jX3_addRow_77 v0 v1 h = some r) : V Γ d mX3_addRow 77 [(0, .ref v0), (1, .long v1)] [] h (none, r) := by
  unfold jX3_addRow_77 at H
  refine v_aload_n (q := 78) 0 dX3_addRow_77 rfl rfl rfl ?_
  replace H := bs H; obtain ⟨x14, x14e, H⟩ := H
  refine u_gI (q := 81) (r := (RX3, TX3, 8)) x14e dX3_addRow_78 w0354 rfl (by decide) rfl rfl ?_
  refine v_aload_n (q := 82) 0 dX3_addRow_81 rfl rfl rfl ?_
  replace H := bs H; obtain ⟨x15, x15e, H⟩ := H
  refine u_gR (q := 85) (r := (RX3, TX3, 8)) x15e dX3_addRow_82 w0358 rfl (by decide) rfl rfl ?_
  replace H := bs H; obtain ⟨x16, x16e, H⟩ := H
  refine u_aL (q := 86) (ty := .long) (by decide) x16e dX3_addRow_85 rfl ?_
  refine v_icmp_ge (q1 := 109) (q2 := 89) dX3_addRow_86 (by decide) rfl (fun c17 => ?_) (fun c17 => ?_)
  · replace H := ip c17 H
    exact V.sub [] rfl (sjX3_addRow_109 hd H)
  · replace H := ine c17 H
    refine v_aload_n (q := 90) 0 dX3_addRow_89 rfl rfl rfl ?_
    replace H := bs H; obtain ⟨x18, x18e, H⟩ := H
    refine u_gR (q := 93) (r := (RX3, TX3, 8)) x18e dX3_addRow_90 w0358 rfl (by decide) rfl rfl ?_
    refine v_aload_n (q := 94) 0 dX3_addRow_93 rfl rfl rfl ?_
    replace H := bs H; obtain ⟨x19, x19e, H⟩ := H
    refine u_gI (q := 97) (r := (RX3, TX3, 8)) x19e dX3_addRow_94 w0354 rfl (by decide) rfl rfl ?_
    refine v_lload_n (q := 98) 1 dX3_addRow_97 rfl rfl rfl ?_
    replace H := bs H; obtain ⟨h20, h20e, H⟩ := H
    refine u_tJ (q := 99) h20e dX3_addRow_98 rfl ?_
    refine v_aload_n (q := 100) 0 dX3_addRow_99 rfl rfl rfl ?_
    refine v_dup (q := 101) dX3_addRow_100 rfl rfl ?_
    replace H := bs H; obtain ⟨x21, x21e, H⟩ := H
    refine u_gI (q := 104) (r := (RX3, TX3, 8)) x21e dX3_addRow_101 w0354 rfl (by decide) rfl rfl ?_
    refine v_iconst (v := 1) (q := 105) dX3_addRow_104 (by decide) rfl ?_
    refine v_iadd (q := 106) dX3_addRow_105 rfl ?_
    replace H := bs H; obtain ⟨h22, h22e, H⟩ := H
    refine u_pI (q := 109) (r := (RX3, TX3, 8)) h22e dX3_addRow_106 w0354 rfl (by decide) (Or.inl rfl) rfl rfl ?_
    exact V.sub [] rfl (sjX3_addRow_109 hd H)
def fX3_addRow (h : Hp) (v0 : Nat) (v1 : Int64) : Option (Hp) :=
(lp (bX3_addRow_2 v0 v1 h) FU (0 : Int32)).bind fun e7 =>
(match e7 with
| .inl e8 => (
(gI h 3 v0 5).bind fun x10 =>
(gR h 3 v0 7).bind fun x11 =>
(aL h .long x11).bind fun x12 =>
if x10 = x12 then (
(gI h 3 v0 5).bind fun x23 =>
if (8192 : Int32) ≤ x23 then (
jX3_addRow_77 v0 v1 h) else (
(gR h 3 v0 7).bind fun x25 =>
(gI h 3 v0 5).bind fun x26 =>
(fJ7_copyOf_c38d5 h x25 ((2 : Int32) * x26)).bind fun x27 =>
(pR x27.2 3 v0 7 x27.1).bind fun h28 =>
jX3_addRow_77 v0 v1 h28)) else (
jX3_addRow_77 v0 v1 h))
| .inr e9 => (
(gI h 3 v0 6).bind fun x29 =>
(pI h 3 v0 6 (x29 + (1 : Int32))).bind fun h30 =>
some h30))
set_option maxRecDepth 20000 in
set_option maxHeartbeats 4000000 in
theorem sX3_addRow {Γ : Gm} {d : Nat} (hd : 3 ≤ d) {h : Hp} {v0 : Nat} {v1 : Int64} {r : Hp} (H : fX3_addRow h v0 v1 = some r) : V Γ d mX3_addRow 0 [(0, .ref v0), (1, .long v1)] [] h (none, r) := by
  unfold fX3_addRow at H
  refine v_iconst (v := 0) (q := 1) dX3_addRow_0 (by decide) rfl ?_
  refine v_istore_n (L' := [(3, .int (0 : Int32)), (0, .ref v0), (1, .long v1)]) (q := 2) dX3_addRow_1 rfl (by decide) rfl rfl ?_
  replace H := bs H; obtain ⟨e7, e7L, H⟩ := H
  refine V.sub [1, 2, 0] rfl ?_
  refine lp_V (P := (fun s2 => V Γ d mX3_addRow 2 [(0, .ref v0), (1, .long v1), (3, .int s2)] [] h (none, r))) (E := (fun e => (match e with | .inl a0 => V Γ d mX3_addRow 38 [(0, .ref v0), (1, .long v1)] [] h (none, r) | .inr b0 => V Γ d mX3_addRow 21 [(0, .ref v0)] [] h (none, r)))) (fun s r hb kI kE => sbX3_addRow_2 hd (s2 := s) (r := r) hb kI kE) FU (0 : Int32) e7 e7L ?_
  rcases e7 with e8 | e9
  · skip
    refine v_aload_n (q := 39) 0 dX3_addRow_38 rfl rfl rfl ?_
    replace H := bs H; obtain ⟨x10, x10e, H⟩ := H
    refine u_gI (q := 42) (r := (RX3, TX3, 8)) x10e dX3_addRow_39 w0354 rfl (by decide) rfl rfl ?_
    refine v_aload_n (q := 43) 0 dX3_addRow_42 rfl rfl rfl ?_
    replace H := bs H; obtain ⟨x11, x11e, H⟩ := H
    refine u_gR (q := 46) (r := (RX3, TX3, 8)) x11e dX3_addRow_43 w0358 rfl (by decide) rfl rfl ?_
    replace H := bs H; obtain ⟨x12, x12e, H⟩ := H
    refine u_aL (q := 47) (ty := .long) (by decide) x12e dX3_addRow_46 rfl ?_
    refine v_icmp_ne (q1 := 77) (q2 := 50) dX3_addRow_47 (by decide) rfl (fun c13 => ?_) (fun c13 => ?_)
    · replace H := ine c13 H
      exact V.sub [0, 1] rfl (sjX3_addRow_77 hd H)
    · replace H := ip c13 H
      refine v_aload_n (q := 51) 0 dX3_addRow_50 rfl rfl rfl ?_
      replace H := bs H; obtain ⟨x23, x23e, H⟩ := H
      refine u_gI (q := 54) (r := (RX3, TX3, 8)) x23e dX3_addRow_51 w0354 rfl (by decide) rfl rfl ?_
      refine v_sipush (v := 8192) (q := 57) dX3_addRow_54 (by decide) rfl ?_
      refine v_icmp_ge (q1 := 77) (q2 := 60) dX3_addRow_57 (by decide) rfl (fun c24 => ?_) (fun c24 => ?_)
      · replace H := ip c24 H
        exact V.sub [0, 1] rfl (sjX3_addRow_77 hd H)
      · replace H := ine c24 H
        refine v_aload_n (q := 61) 0 dX3_addRow_60 rfl rfl rfl ?_
        refine v_aload_n (q := 62) 0 dX3_addRow_61 rfl rfl rfl ?_
        replace H := bs H; obtain ⟨x25, x25e, H⟩ := H
        refine u_gR (q := 65) (r := (RX3, TX3, 8)) x25e dX3_addRow_62 w0358 rfl (by decide) rfl rfl ?_
        refine v_iconst (v := 2) (q := 66) dX3_addRow_65 (by decide) rfl ?_
        refine v_aload_n (q := 67) 0 dX3_addRow_66 rfl rfl rfl ?_
        replace H := bs H; obtain ⟨x26, x26e, H⟩ := H
        refine u_gI (q := 70) (r := (RX3, TX3, 8)) x26e dX3_addRow_67 w0354 rfl (by decide) rfl rfl ?_
        refine v_imul (q := 71) dX3_addRow_70 rfl ?_
        replace H := bs H; obtain ⟨x27, x27e, H⟩ := H
        refine u_callS1 (M' := mJ7_copyOf_c38d5) (d' := 2) (As := [.ref x25, .int ((2 : Int32) * x26)]) (st := [.ref v0]) (q := 74) oJ7_copyOf_c38d5 dX3_addRow_71 w0821 w0822 rfl (Nat.le_of_ble_eq_true rfl) (Nat.le_of_ble_eq_true rfl) (Nat.lt_of_lt_of_le (by decide) hd) rfl (sJ7_copyOf_c38d5 (Nat.le_refl _) x27e) rfl ?_
        replace H := bs H; obtain ⟨h28, h28e, H⟩ := H
        refine u_pR (q := 77) (r := (RX3, TX3, 8)) h28e dX3_addRow_74 w0358 rfl (by decide) (Or.inl rfl) rfl rfl ?_
        exact V.sub [0, 1] rfl (sjX3_addRow_77 hd H)
  · skip
    refine v_aload_n (q := 22) 0 dX3_addRow_21 rfl rfl rfl ?_
    refine v_dup (q := 23) dX3_addRow_22 rfl rfl ?_
    replace H := bs H; obtain ⟨x29, x29e, H⟩ := H
    refine u_gI (q := 26) (r := (RX3, TX3, 8)) x29e dX3_addRow_23 w0356 rfl (by decide) rfl rfl ?_
    refine v_iconst (v := 1) (q := 27) dX3_addRow_26 (by decide) rfl ?_
    refine v_iadd (q := 28) dX3_addRow_27 rfl ?_
    replace H := bs H; obtain ⟨h30, h30e, H⟩ := H
    refine u_pI (q := 31) (r := (RX3, TX3, 8)) h30e dX3_addRow_28 w0356 rfl (by decide) (Or.inl rfl) rfl rfl ?_
    cases H
    exact v_return rfl dX3_addRow_31
def mX7_toldBehind : MI := (yX7_toldBehind, cX7_toldBehind, 3, some .int)
theorem oX7_toldBehind : mOK mX7_toldBehind 2 := ⟨by decide +kernel, by decide +kernel, by decide +kernel, by decide, w0844, w0145⟩
def fX7_toldBehind (h : Hp) (v0 : Nat) (v1 : Int32) (v2 : Int32) : Option (Int32) :=
(gR h 7 v0 6).bind fun x1 =>
(lI h .int x1 ((v1 * (16 : Int32)) + v2)).bind fun x2 =>
some x2
set_option maxRecDepth 20000 in
set_option maxHeartbeats 4000000 in
theorem sX7_toldBehind {Γ : Gm} {d : Nat} (hd : 1 ≤ d) {h : Hp} {v0 : Nat} {v1 : Int32} {v2 : Int32} {r : Int32} (H : fX7_toldBehind h v0 v1 v2 = some r) : V Γ d mX7_toldBehind 0 [(0, .ref v0), (1, .int v1), (2, .int v2)] [] h (some (.int r), h) := by
  unfold fX7_toldBehind at H
  refine v_aload_n (q := 1) 0 dX7_toldBehind_0 rfl rfl rfl ?_
  replace H := bs H; obtain ⟨x1, x1e, H⟩ := H
  refine u_gR (q := 4) (r := (RX7, TX7, 7)) x1e dX7_toldBehind_1 w0323 rfl (by decide) rfl rfl ?_
  refine v_iload_n (q := 5) 1 dX7_toldBehind_4 rfl rfl rfl ?_
  refine v_bipush (v := 16) (q := 7) dX7_toldBehind_5 (by decide) rfl ?_
  refine v_imul (q := 8) dX7_toldBehind_7 rfl ?_
  refine v_iload_n (q := 9) 2 dX7_toldBehind_8 rfl rfl rfl ?_
  refine v_iadd (q := 10) dX7_toldBehind_9 rfl ?_
  replace H := bs H; obtain ⟨x2, x2e, H⟩ := H
  refine u_lI (q := 11) x2e dX7_toldBehind_10 rfl ?_
  cases H
  exact v_ireturn rfl dX7_toldBehind_11
def mX9_tellOnce : MI := (yX9_tellOnce, cX9_tellOnce, 3, none)
theorem oX9_tellOnce : mOK mX9_tellOnce 2 := ⟨by decide +kernel, by decide +kernel, by decide +kernel, by decide, w0840, w0147⟩
def jX9_tellOnce_25 (h : Hp) : Option (Hp) :=
some h
set_option maxRecDepth 20000 in
set_option maxHeartbeats 4000000 in
theorem sjX9_tellOnce_25 {Γ : Gm} {d : Nat} (hd : 3 ≤ d) {h : Hp} {r : Hp} (H : jX9_tellOnce_25 h = some r) : V Γ d mX9_tellOnce 25 [] [] h (none, r) := by
  unfold jX9_tellOnce_25 at H
  cases H
  exact v_return rfl dX9_tellOnce_25
def fX9_tellOnce (h : Hp) (v0 : Nat) (v1 : Int32) (v2 : Int32) : Option (Hp) :=
(gR h 9 v0 2).bind fun x1 =>
(gR h 3 x1 4).bind fun x2 =>
(gO h 7 x2).bind fun _ =>
(fX7_toldBehind h x2 v1 v2).bind fun x4 =>
(fX11_has h x4 v2).bind fun x5 =>
if x5 = 0 then (
(gO h 9 v0).bind fun _ =>
(fX9_tell h v0 v1 v2).bind fun x8 =>
jX9_tellOnce_25 x8) else (
jX9_tellOnce_25 h)
set_option maxRecDepth 20000 in
set_option maxHeartbeats 4000000 in
theorem sX9_tellOnce {Γ : Gm} {d : Nat} (hd : 3 ≤ d) {h : Hp} {v0 : Nat} {v1 : Int32} {v2 : Int32} {r : Hp} (H : fX9_tellOnce h v0 v1 v2 = some r) : V Γ d mX9_tellOnce 0 [(0, .ref v0), (1, .int v1), (2, .int v2)] [] h (none, r) := by
  unfold fX9_tellOnce at H
  refine v_aload_n (q := 1) 0 dX9_tellOnce_0 rfl rfl rfl ?_
  replace H := bs H; obtain ⟨x1, x1e, H⟩ := H
  refine u_gR (q := 4) (r := (RX9, TX9, 10)) x1e dX9_tellOnce_1 w0425 rfl (by decide) rfl rfl ?_
  replace H := bs H; obtain ⟨x2, x2e, H⟩ := H
  refine u_gR (q := 7) (r := (RX3, TX3, 8)) x2e dX9_tellOnce_4 w0352 rfl (by decide) rfl rfl ?_
  refine v_iload_n (q := 8) 1 dX9_tellOnce_7 rfl rfl rfl ?_
  refine v_iload_n (q := 9) 2 dX9_tellOnce_8 rfl rfl rfl ?_
  replace H := bs H; obtain ⟨_, o3, H⟩ := H
  replace H := bs H; obtain ⟨x4, x4e, H⟩ := H
  refine u_callV1 (M' := mX7_toldBehind) (d' := 1) (rc := (RX7, TX7, 7)) (As := [.int v1, .int v2]) (st := []) (q := 12) oX7_toldBehind dX9_tellOnce_9 w0841 w0842 w0843 rfl rfl (gO_sp o3).1 (gO_sp o3).2 rfl (Nat.le_of_ble_eq_true rfl) (Nat.le_of_ble_eq_true rfl) (Nat.lt_of_lt_of_le (by decide) hd) rfl (sX7_toldBehind (Nat.le_refl _) x4e) rfl ?_
  refine v_iload_n (q := 13) 2 dX9_tellOnce_12 rfl rfl rfl ?_
  replace H := bs H; obtain ⟨x5, x5e, H⟩ := H
  refine u_callSN1 (M' := mX11_has) (d' := 1) (As := [.int x4, .int v2]) (st := []) (q := 16) oX11_has dX9_tellOnce_13 w0782 w0783 rfl (Nat.le_of_ble_eq_true rfl) (Nat.le_of_ble_eq_true rfl) (Nat.lt_of_lt_of_le (by decide) hd) rfl (sX11_has (Nat.le_refl _) x5e) rfl ?_
  refine v_if_ne (q1 := 25) (q2 := 19) dX9_tellOnce_16 (by decide) rfl (fun c6 => ?_) (fun c6 => ?_)
  · replace H := ine c6 H
    exact V.sub [] rfl (sjX9_tellOnce_25 hd H)
  · replace H := ip c6 H
    refine v_aload_n (q := 20) 0 dX9_tellOnce_19 rfl rfl rfl ?_
    refine v_iload_n (q := 21) 1 dX9_tellOnce_20 rfl rfl rfl ?_
    refine v_iload_n (q := 22) 2 dX9_tellOnce_21 rfl rfl rfl ?_
    replace H := bs H; obtain ⟨_, o7, H⟩ := H
    replace H := bs H; obtain ⟨x8, x8e, H⟩ := H
    refine u_callV0 (M' := mX9_tell) (d' := 2) (rc := (RX9, TX9, 10)) (As := [.int v1, .int v2]) (st := []) (q := 25) oX9_tell dX9_tellOnce_22 w0789 w0791 w0016 rfl rfl (gO_sp o7).1 (gO_sp o7).2 rfl (Nat.le_of_ble_eq_true rfl) (Nat.le_of_ble_eq_true rfl) (Nat.lt_of_lt_of_le (by decide) hd) rfl (sX9_tell (Nat.le_refl _) x8e) rfl ?_
    exact V.sub [] rfl (sjX9_tellOnce_25 hd H)
def mX1_leads : MI := (yX1_leads, cX1_leads, 3, some .boolean)
theorem oX1_leads : mOK mX1_leads 2 := ⟨by decide +kernel, by decide +kernel, by decide +kernel, by decide, w0848, w0144⟩
def fX1_leads (h : Hp) (v0 : Nat) (v1 : Int32) (v2 : Int32) : Option (Int32) :=
(gR h 1 v0 1).bind fun x1 =>
(lI h .int x1 v1).bind fun x2 =>
(fX11_has h x2 v2).bind fun x3 =>
(bz x3).bind fun x4 =>
some x4
set_option maxRecDepth 20000 in
set_option maxHeartbeats 4000000 in
theorem sX1_leads {Γ : Gm} {d : Nat} (hd : 2 ≤ d) {h : Hp} {v0 : Nat} {v1 : Int32} {v2 : Int32} {r : Int32} (H : fX1_leads h v0 v1 v2 = some r) : V Γ d mX1_leads 0 [(0, .ref v0), (1, .int v1), (2, .int v2)] [] h (some (.int r), h) := by
  unfold fX1_leads at H
  refine v_aload_n (q := 1) 0 dX1_leads_0 rfl rfl rfl ?_
  replace H := bs H; obtain ⟨x1, x1e, H⟩ := H
  refine u_gR (q := 4) (r := (RX1, TX1, 4)) x1e dX1_leads_1 w0288 rfl (by decide) rfl rfl ?_
  refine v_iload_n (q := 5) 1 dX1_leads_4 rfl rfl rfl ?_
  replace H := bs H; obtain ⟨x2, x2e, H⟩ := H
  refine u_lI (q := 6) x2e dX1_leads_5 rfl ?_
  refine v_iload_n (q := 7) 2 dX1_leads_6 rfl rfl rfl ?_
  replace H := bs H; obtain ⟨x3, x3e, H⟩ := H
  refine u_callSN1 (M' := mX11_has) (d' := 1) (As := [.int x2, .int v2]) (st := []) (q := 10) oX11_has dX1_leads_7 w0849 w0783 rfl (Nat.le_of_ble_eq_true rfl) (Nat.le_of_ble_eq_true rfl) (Nat.lt_of_lt_of_le (by decide) hd) rfl (sX11_has (Nat.le_refl _) x3e) rfl ?_
  replace H := bs H; obtain ⟨x4, x4e, H⟩ := H
  obtain ⟨x4q, x4z⟩ := bz_sp x4e
  refine v_topi x4q.symm ?_
  cases H
  exact v_zreturn rfl (by rw [x4q]; exact x4z) dX1_leads_10
def mX1_learn : MI := (yX1_learn, cX1_learn, 6, none)
theorem oX1_learn : mOK mX1_learn 3 := ⟨by decide +kernel, by decide +kernel, by decide +kernel, by decide, w0853, w0144⟩
def jX1_learn_88 (u0 : Nat) (u1 : Int32) (u4 : Int32) (v5 : Int32) (h : Hp) : Option ((Int32 × Hp) ⊕ (Hp)) :=
(some (v5 + (1 : Int32))).bind fun x16 =>
some (.inl (x16, h))
set_option maxRecDepth 20000 in
set_option maxHeartbeats 4000000 in
theorem sjX1_learn_88 {Γ : Gm} {d : Nat} (hd : 2 ≤ d) {u0 : Nat} {u1 : Int32} {u4 : Int32} {v5 : Int32} {h : Hp} {r : (Int32 × Hp) ⊕ (Hp)} {t : Option Value × Hp} (H : jX1_learn_88 u0 u1 u4 v5 h = some r) (kI : ∀ s, r = .inl s → (fun s49 => V Γ d mX1_learn 49 [(0, .ref u0), (1, .int u1), (4, .int u4), (5, .int s49.1)] [] s49.2 t) s) (kE : ∀ e, r = .inr e → (fun e => V Γ d mX1_learn 94 [] [] e t) e) : V Γ d mX1_learn 88 [(0, .ref u0), (1, .int u1), (4, .int u4), (5, .int v5)] [] h t := by
  unfold jX1_learn_88 at H
  replace H := bs H; obtain ⟨x16, x16e, H⟩ := H
  refine v_iinc (v := x16) (L' := [(5, .int x16), (0, .ref u0), (1, .int u1), (4, .int u4)]) (q := 91) 3 dX1_learn_88 rfl (Option.some.inj x16e) (by decide) rfl rfl ?_
  refine v_goto (q := 49) dX1_learn_91 (by decide) ?_
  exact V.sub [1, 2, 3, 0] rfl (kI (x16, h) (Option.some.inj H).symm)
def jX1_learn_76 (u0 : Nat) (u1 : Int32) (u4 : Int32) (v5 : Int32) (h : Hp) : Option ((Int32 × Hp) ⊕ (Hp)) :=
(gR h 1 u0 2).bind fun x13 =>
(lI h .int x13 v5).bind fun x14 =>
(tI h x13 v5 (x14 ||| u4)).bind fun h15 =>
jX1_learn_88 u0 u1 u4 v5 h15
set_option maxRecDepth 20000 in
set_option maxHeartbeats 4000000 in
theorem sjX1_learn_76 {Γ : Gm} {d : Nat} (hd : 2 ≤ d) {u0 : Nat} {u1 : Int32} {u4 : Int32} {v5 : Int32} {h : Hp} {r : (Int32 × Hp) ⊕ (Hp)} {t : Option Value × Hp} (H : jX1_learn_76 u0 u1 u4 v5 h = some r) (kI : ∀ s, r = .inl s → (fun s49 => V Γ d mX1_learn 49 [(0, .ref u0), (1, .int u1), (4, .int u4), (5, .int s49.1)] [] s49.2 t) s) (kE : ∀ e, r = .inr e → (fun e => V Γ d mX1_learn 94 [] [] e t) e) : V Γ d mX1_learn 76 [(0, .ref u0), (1, .int u1), (4, .int u4), (5, .int v5)] [] h t := by
  unfold jX1_learn_76 at H
  refine v_aload_n (q := 77) 0 dX1_learn_76 rfl rfl rfl ?_
  replace H := bs H; obtain ⟨x13, x13e, H⟩ := H
  refine u_gR (q := 80) (r := (RX1, TX1, 4)) x13e dX1_learn_77 w0291 rfl (by decide) rfl rfl ?_
  refine v_iload (q := 82) 3 dX1_learn_80 rfl rfl ?_
  refine v_dup2 (q := 83) dX1_learn_82 rfl rfl rfl ?_
  replace H := bs H; obtain ⟨x14, x14e, H⟩ := H
  refine u_lI (q := 84) x14e dX1_learn_83 rfl ?_
  refine v_iload (q := 86) 2 dX1_learn_84 rfl rfl ?_
  refine v_ior (q := 87) dX1_learn_86 rfl ?_
  replace H := bs H; obtain ⟨h15, h15e, H⟩ := H
  refine u_tI (q := 88) h15e dX1_learn_87 rfl ?_
  exact V.sub [0, 1, 2, 3] rfl (sjX1_learn_88 hd H kI kE)
def bX1_learn_49 (u0 : Nat) (u1 : Int32) (u4 : Int32) (s49 : Int32 × Hp) : Option ((Int32 × Hp) ⊕ (Hp)) :=
if (16 : Int32) ≤ s49.1 then (
some (.inr s49.2)) else (
if s49.1 = u1 then (
jX1_learn_76 u0 u1 u4 s49.1 s49.2) else (
(gR s49.2 1 u0 2).bind fun x17 =>
(lI s49.2 .int x17 s49.1).bind fun x18 =>
(fX11_has s49.2 x18 u1).bind fun x19 =>
if x19 = 0 then (
jX1_learn_88 u0 u1 u4 s49.1 s49.2) else (
jX1_learn_76 u0 u1 u4 s49.1 s49.2)))
set_option maxRecDepth 20000 in
set_option maxHeartbeats 4000000 in
theorem sbX1_learn_49 {Γ : Gm} {d : Nat} (hd : 2 ≤ d) {u0 : Nat} {u1 : Int32} {u4 : Int32} {s49 : Int32 × Hp} {r : (Int32 × Hp) ⊕ (Hp)} {t : Option Value × Hp} (H : bX1_learn_49 u0 u1 u4 s49 = some r) (kI : ∀ s, r = .inl s → (fun s49 => V Γ d mX1_learn 49 [(0, .ref u0), (1, .int u1), (4, .int u4), (5, .int s49.1)] [] s49.2 t) s) (kE : ∀ e, r = .inr e → (fun e => V Γ d mX1_learn 94 [] [] e t) e) : V Γ d mX1_learn 49 [(0, .ref u0), (1, .int u1), (4, .int u4), (5, .int s49.1)] [] s49.2 t := by
  unfold bX1_learn_49 at H
  refine v_iload (q := 51) 3 dX1_learn_49 rfl rfl ?_
  refine v_bipush (v := 16) (q := 53) dX1_learn_51 (by decide) rfl ?_
  refine v_icmp_ge (q1 := 94) (q2 := 56) dX1_learn_53 (by decide) rfl (fun c11 => ?_) (fun c11 => ?_)
  · replace H := ip c11 H
    exact V.sub [] rfl (kE s49.2 (Option.some.inj H).symm)
  · replace H := ine c11 H
    refine v_iload (q := 58) 3 dX1_learn_56 rfl rfl ?_
    refine v_iload_n (q := 59) 1 dX1_learn_58 rfl rfl rfl ?_
    refine v_icmp_eq (q1 := 76) (q2 := 62) dX1_learn_59 (by decide) rfl (fun c12 => ?_) (fun c12 => ?_)
    · replace H := ip c12 H
      exact V.sub [0, 1, 2, 3] rfl (sjX1_learn_76 hd H kI kE)
    · replace H := ine c12 H
      refine v_aload_n (q := 63) 0 dX1_learn_62 rfl rfl rfl ?_
      replace H := bs H; obtain ⟨x17, x17e, H⟩ := H
      refine u_gR (q := 66) (r := (RX1, TX1, 4)) x17e dX1_learn_63 w0291 rfl (by decide) rfl rfl ?_
      refine v_iload (q := 68) 3 dX1_learn_66 rfl rfl ?_
      replace H := bs H; obtain ⟨x18, x18e, H⟩ := H
      refine u_lI (q := 69) x18e dX1_learn_68 rfl ?_
      refine v_iload_n (q := 70) 1 dX1_learn_69 rfl rfl rfl ?_
      replace H := bs H; obtain ⟨x19, x19e, H⟩ := H
      refine u_callSN1 (M' := mX11_has) (d' := 1) (As := [.int x18, .int u1]) (st := []) (q := 73) oX11_has dX1_learn_70 w0849 w0783 rfl (Nat.le_of_ble_eq_true rfl) (Nat.le_of_ble_eq_true rfl) (Nat.lt_of_lt_of_le (by decide) hd) rfl (sX11_has (Nat.le_refl _) x19e) rfl ?_
      refine v_if_eq (q1 := 88) (q2 := 76) dX1_learn_73 (by decide) rfl (fun c20 => ?_) (fun c20 => ?_)
      · replace H := ip c20 H
        exact V.sub [0, 1, 2, 3] rfl (sjX1_learn_88 hd H kI kE)
      · replace H := ine c20 H
        exact V.sub [0, 1, 2, 3] rfl (sjX1_learn_76 hd H kI kE)
def fX1_learn (h : Hp) (v0 : Nat) (v1 : Int32) (v2 : Int32) (v3 : Int32) : Option (Hp) :=
(gI h 1 v0 0).bind fun x1 =>
(pI h 1 v0 0 (x1 + (1 : Int32))).bind fun h2 =>
(gR h2 1 v0 1).bind fun x3 =>
(lI h2 .int x3 v1).bind fun x4 =>
(tI h2 x3 v1 (x4 ||| ((1 : Int32) <<< (v2 &&& 31)))).bind fun h5 =>
(gR h5 1 v0 3).bind fun x6 =>
(tI h5 x6 ((v1 * (16 : Int32)) + v2) v3).bind fun h7 =>
(gR h7 1 v0 2).bind fun x8 =>
(lI h7 .int x8 v2).bind fun x9 =>
(some (x9 ||| ((1 : Int32) <<< (v2 &&& 31)))).bind fun x10 =>
(lp (bX1_learn_49 v0 v1 x10) FU ((0 : Int32), h7)).bind fun e21 =>
some e21
set_option maxRecDepth 20000 in
set_option maxHeartbeats 4000000 in
theorem sX1_learn {Γ : Gm} {d : Nat} (hd : 2 ≤ d) {h : Hp} {v0 : Nat} {v1 : Int32} {v2 : Int32} {v3 : Int32} {r : Hp} (H : fX1_learn h v0 v1 v2 v3 = some r) : V Γ d mX1_learn 0 [(0, .ref v0), (1, .int v1), (2, .int v2), (3, .int v3)] [] h (none, r) := by
  unfold fX1_learn at H
  refine v_aload_n (q := 1) 0 dX1_learn_0 rfl rfl rfl ?_
  refine v_dup (q := 2) dX1_learn_1 rfl rfl ?_
  replace H := bs H; obtain ⟨x1, x1e, H⟩ := H
  refine u_gI (q := 5) (r := (RX1, TX1, 4)) x1e dX1_learn_2 w0286 rfl (by decide) rfl rfl ?_
  refine v_iconst (v := 1) (q := 6) dX1_learn_5 (by decide) rfl ?_
  refine v_iadd (q := 7) dX1_learn_6 rfl ?_
  replace H := bs H; obtain ⟨h2, h2e, H⟩ := H
  refine u_pI (q := 10) (r := (RX1, TX1, 4)) h2e dX1_learn_7 w0286 rfl (by decide) (Or.inl rfl) rfl rfl ?_
  refine v_aload_n (q := 11) 0 dX1_learn_10 rfl rfl rfl ?_
  replace H := bs H; obtain ⟨x3, x3e, H⟩ := H
  refine u_gR (q := 14) (r := (RX1, TX1, 4)) x3e dX1_learn_11 w0288 rfl (by decide) rfl rfl ?_
  refine v_iload_n (q := 15) 1 dX1_learn_14 rfl rfl rfl ?_
  refine v_dup2 (q := 16) dX1_learn_15 rfl rfl rfl ?_
  replace H := bs H; obtain ⟨x4, x4e, H⟩ := H
  refine u_lI (q := 17) x4e dX1_learn_16 rfl ?_
  refine v_iconst (v := 1) (q := 18) dX1_learn_17 (by decide) rfl ?_
  refine v_iload_n (q := 19) 2 dX1_learn_18 rfl rfl rfl ?_
  refine v_ishl (q := 20) dX1_learn_19 rfl ?_
  refine v_ior (q := 21) dX1_learn_20 rfl ?_
  replace H := bs H; obtain ⟨h5, h5e, H⟩ := H
  refine u_tI (q := 22) h5e dX1_learn_21 rfl ?_
  refine v_aload_n (q := 23) 0 dX1_learn_22 rfl rfl rfl ?_
  replace H := bs H; obtain ⟨x6, x6e, H⟩ := H
  refine u_gR (q := 26) (r := (RX1, TX1, 4)) x6e dX1_learn_23 w0294 rfl (by decide) rfl rfl ?_
  refine v_iload_n (q := 27) 1 dX1_learn_26 rfl rfl rfl ?_
  refine v_bipush (v := 16) (q := 29) dX1_learn_27 (by decide) rfl ?_
  refine v_imul (q := 30) dX1_learn_29 rfl ?_
  refine v_iload_n (q := 31) 2 dX1_learn_30 rfl rfl rfl ?_
  refine v_iadd (q := 32) dX1_learn_31 rfl ?_
  refine v_iload_n (q := 33) 3 dX1_learn_32 rfl rfl rfl ?_
  replace H := bs H; obtain ⟨h7, h7e, H⟩ := H
  refine u_tI (q := 34) h7e dX1_learn_33 rfl ?_
  refine v_aload_n (q := 35) 0 dX1_learn_34 rfl rfl rfl ?_
  replace H := bs H; obtain ⟨x8, x8e, H⟩ := H
  refine u_gR (q := 38) (r := (RX1, TX1, 4)) x8e dX1_learn_35 w0291 rfl (by decide) rfl rfl ?_
  refine v_iload_n (q := 39) 2 dX1_learn_38 rfl rfl rfl ?_
  replace H := bs H; obtain ⟨x9, x9e, H⟩ := H
  refine u_lI (q := 40) x9e dX1_learn_39 rfl ?_
  refine v_iconst (v := 1) (q := 41) dX1_learn_40 (by decide) rfl ?_
  refine v_iload_n (q := 42) 2 dX1_learn_41 rfl rfl rfl ?_
  refine v_ishl (q := 43) dX1_learn_42 rfl ?_
  refine v_ior (q := 44) dX1_learn_43 rfl ?_
  replace H := bs H; obtain ⟨x10, x10e, H⟩ := H
  refine v_topi (Option.some.inj x10e) ?_
  refine v_istore (L' := [(4, .int x10), (0, .ref v0), (1, .int v1), (2, .int v2), (3, .int v3)]) (q := 46) dX1_learn_44 (by decide) rfl rfl ?_
  refine v_iconst (v := 0) (q := 47) dX1_learn_46 (by decide) rfl ?_
  refine v_istore (L' := [(5, .int (0 : Int32)), (4, .int x10), (0, .ref v0), (1, .int v1), (2, .int v2), (3, .int v3)]) (q := 49) dX1_learn_47 (by decide) rfl rfl ?_
  replace H := bs H; obtain ⟨e21, e21L, H⟩ := H
  refine V.sub [2, 3, 1, 0] rfl ?_
  refine lp_V (P := (fun s49 => V Γ d mX1_learn 49 [(0, .ref v0), (1, .int v1), (4, .int x10), (5, .int s49.1)] [] s49.2 (none, r))) (E := (fun e => V Γ d mX1_learn 94 [] [] e (none, r))) (fun s r hb kI kE => sbX1_learn_49 hd (s49 := s) (r := r) hb kI kE) FU ((0 : Int32), h7) e21 e21L ?_
  cases H
  exact v_return rfl dX1_learn_94
def mX9_tellWay : MI := (yX9_tellWay, cX9_tellWay, 4, none)
theorem oX9_tellWay : mOK mX9_tellWay 2 := ⟨by decide +kernel, by decide +kernel, by decide +kernel, by decide, w0857, w0147⟩
def jX9_tellWay_70 (h : Hp) : Option (Hp) :=
some h
set_option maxRecDepth 20000 in
set_option maxHeartbeats 4000000 in
theorem sjX9_tellWay_70 {Γ : Gm} {d : Nat} (hd : 3 ≤ d) {h : Hp} {r : Hp} (H : jX9_tellWay_70 h = some r) : V Γ d mX9_tellWay 70 [] [] h (none, r) := by
  unfold jX9_tellWay_70 at H
  cases H
  exact v_return rfl dX9_tellWay_70
def bX9_tellWay_24 (u0 : Nat) (s24 : Int32 × Hp) : Option ((Int32 × Hp) ⊕ (Hp)) :=
(gR s24.2 9 u0 0).bind fun x8 =>
(gI s24.2 10 x8 1).bind fun x9 =>
if x9 < s24.1 then (
some (.inr s24.2)) else (
(gR s24.2 9 u0 2).bind fun x11 =>
(gR s24.2 3 x11 4).bind fun x12 =>
(gR s24.2 9 u0 0).bind fun x13 =>
(gR s24.2 10 x13 0).bind fun x14 =>
(lI s24.2 .int x14 s24.1).bind fun x15 =>
(gO s24.2 7 x12).bind fun _ =>
(fX7_addNode s24.2 x12 x15).bind fun x17 =>
(some (s24.1 + (1 : Int32))).bind fun x18 =>
some (.inl (x18, x17)))
set_option maxRecDepth 20000 in
set_option maxHeartbeats 4000000 in
theorem sbX9_tellWay_24 {Γ : Gm} {d : Nat} (hd : 3 ≤ d) {u0 : Nat} {s24 : Int32 × Hp} {r : (Int32 × Hp) ⊕ (Hp)} {t : Option Value × Hp} (H : bX9_tellWay_24 u0 s24 = some r) (kI : ∀ s, r = .inl s → (fun s24 => V Γ d mX9_tellWay 24 [(0, .ref u0), (3, .int s24.1)] [] s24.2 t) s) (kE : ∀ e, r = .inr e → (fun e => V Γ d mX9_tellWay 60 [(0, .ref u0)] [] e t) e) : V Γ d mX9_tellWay 24 [(0, .ref u0), (3, .int s24.1)] [] s24.2 t := by
  unfold bX9_tellWay_24 at H
  refine v_iload_n (q := 25) 1 dX9_tellWay_24 rfl rfl rfl ?_
  refine v_aload_n (q := 26) 0 dX9_tellWay_25 rfl rfl rfl ?_
  replace H := bs H; obtain ⟨x8, x8e, H⟩ := H
  refine u_gR (q := 29) (r := (RX9, TX9, 10)) x8e dX9_tellWay_26 w0423 rfl (by decide) rfl rfl ?_
  replace H := bs H; obtain ⟨x9, x9e, H⟩ := H
  refine u_gI (q := 32) (r := (RX10, TX10, 3)) x9e dX9_tellWay_29 w0404 rfl (by decide) rfl rfl ?_
  refine v_icmp_gt (q1 := 60) (q2 := 35) dX9_tellWay_32 (by decide) rfl (fun c10 => ?_) (fun c10 => ?_)
  · replace H := ip c10 H
    exact V.sub [0] rfl (kE s24.2 (Option.some.inj H).symm)
  · replace H := ine c10 H
    refine v_aload_n (q := 36) 0 dX9_tellWay_35 rfl rfl rfl ?_
    replace H := bs H; obtain ⟨x11, x11e, H⟩ := H
    refine u_gR (q := 39) (r := (RX9, TX9, 10)) x11e dX9_tellWay_36 w0425 rfl (by decide) rfl rfl ?_
    replace H := bs H; obtain ⟨x12, x12e, H⟩ := H
    refine u_gR (q := 42) (r := (RX3, TX3, 8)) x12e dX9_tellWay_39 w0352 rfl (by decide) rfl rfl ?_
    refine v_aload_n (q := 43) 0 dX9_tellWay_42 rfl rfl rfl ?_
    replace H := bs H; obtain ⟨x13, x13e, H⟩ := H
    refine u_gR (q := 46) (r := (RX9, TX9, 10)) x13e dX9_tellWay_43 w0423 rfl (by decide) rfl rfl ?_
    replace H := bs H; obtain ⟨x14, x14e, H⟩ := H
    refine u_gR (q := 49) (r := (RX10, TX10, 3)) x14e dX9_tellWay_46 w0399 rfl (by decide) rfl rfl ?_
    refine v_iload_n (q := 50) 1 dX9_tellWay_49 rfl rfl rfl ?_
    replace H := bs H; obtain ⟨x15, x15e, H⟩ := H
    refine u_lI (q := 51) x15e dX9_tellWay_50 rfl ?_
    replace H := bs H; obtain ⟨_, o16, H⟩ := H
    replace H := bs H; obtain ⟨x17, x17e, H⟩ := H
    refine u_callV0 (M' := mX7_addNode) (d' := 1) (rc := (RX7, TX7, 7)) (As := [.int x15]) (st := []) (q := 54) oX7_addNode dX9_tellWay_51 w0797 w0798 w0799 rfl rfl (gO_sp o16).1 (gO_sp o16).2 rfl (Nat.le_of_ble_eq_true rfl) (Nat.le_of_ble_eq_true rfl) (Nat.lt_of_lt_of_le (by decide) hd) rfl (sX7_addNode (Nat.le_refl _) x17e) rfl ?_
    replace H := bs H; obtain ⟨x18, x18e, H⟩ := H
    refine v_iinc (v := x18) (L' := [(3, .int x18), (0, .ref u0)]) (q := 57) 1 dX9_tellWay_54 rfl (Option.some.inj x18e) (by decide) rfl rfl ?_
    refine v_goto (q := 24) dX9_tellWay_57 (by decide) ?_
    exact V.sub [1, 0] rfl (kI (x18, x17) (Option.some.inj H).symm)
def fX9_tellWay (h : Hp) (v0 : Nat) (v1 : Int32) (v2 : Int32) : Option (Hp) :=
(gR h 9 v0 0).bind fun x1 =>
(gR h 9 v0 2).bind fun x2 =>
(gR h 3 x2 3).bind fun x3 =>
(gR h 1 x3 1).bind fun x4 =>
(gO h 10 x1).bind fun _ =>
(fX10_find h x1 x4 v1 v2).bind fun x6 =>
if x6.1 = 0 then (
jX9_tellWay_70 x6.2) else (
(lp (bX9_tellWay_24 v0) FU ((0 : Int32), x6.2)).bind fun e19 =>
(gR e19 9 v0 2).bind fun x20 =>
(gR e19 3 x20 4).bind fun x21 =>
(gO e19 7 x21).bind fun _ =>
(fX7_close e19 x21).bind fun x23 =>
jX9_tellWay_70 x23)
set_option maxRecDepth 20000 in
set_option maxHeartbeats 4000000 in
theorem sX9_tellWay {Γ : Gm} {d : Nat} (hd : 3 ≤ d) {h : Hp} {v0 : Nat} {v1 : Int32} {v2 : Int32} {r : Hp} (H : fX9_tellWay h v0 v1 v2 = some r) : V Γ d mX9_tellWay 0 [(0, .ref v0), (1, .int v1), (2, .int v2)] [] h (none, r) := by
  unfold fX9_tellWay at H
  refine v_aload_n (q := 1) 0 dX9_tellWay_0 rfl rfl rfl ?_
  replace H := bs H; obtain ⟨x1, x1e, H⟩ := H
  refine u_gR (q := 4) (r := (RX9, TX9, 10)) x1e dX9_tellWay_1 w0423 rfl (by decide) rfl rfl ?_
  refine v_aload_n (q := 5) 0 dX9_tellWay_4 rfl rfl rfl ?_
  replace H := bs H; obtain ⟨x2, x2e, H⟩ := H
  refine u_gR (q := 8) (r := (RX9, TX9, 10)) x2e dX9_tellWay_5 w0425 rfl (by decide) rfl rfl ?_
  replace H := bs H; obtain ⟨x3, x3e, H⟩ := H
  refine u_gR (q := 11) (r := (RX3, TX3, 8)) x3e dX9_tellWay_8 w0349 rfl (by decide) rfl rfl ?_
  replace H := bs H; obtain ⟨x4, x4e, H⟩ := H
  refine u_gR (q := 14) (r := (RX1, TX1, 4)) x4e dX9_tellWay_11 w0289 rfl (by decide) rfl rfl ?_
  refine v_iload_n (q := 15) 1 dX9_tellWay_14 rfl rfl rfl ?_
  refine v_iload_n (q := 16) 2 dX9_tellWay_15 rfl rfl rfl ?_
  replace H := bs H; obtain ⟨_, o5, H⟩ := H
  replace H := bs H; obtain ⟨x6, x6e, H⟩ := H
  refine u_callV1 (M' := mX10_find) (d' := 2) (rc := (RX10, TX10, 3)) (As := [.ref x4, .int v1, .int v2]) (st := []) (q := 19) oX10_find dX9_tellWay_16 w0858 w0859 w0860 rfl rfl (gO_sp o5).1 (gO_sp o5).2 rfl (Nat.le_of_ble_eq_true rfl) (Nat.le_of_ble_eq_true rfl) (Nat.lt_of_lt_of_le (by decide) hd) rfl (sX10_find (Nat.le_refl _) x6e) rfl ?_
  refine v_if_eq (q1 := 70) (q2 := 22) dX9_tellWay_19 (by decide) rfl (fun c7 => ?_) (fun c7 => ?_)
  · replace H := ip c7 H
    exact V.sub [] rfl (sjX9_tellWay_70 hd H)
  · replace H := ine c7 H
    refine v_iconst (v := 0) (q := 23) dX9_tellWay_22 (by decide) rfl ?_
    refine v_istore_n (L' := [(3, .int (0 : Int32)), (0, .ref v0), (1, .int v1), (2, .int v2)]) (q := 24) dX9_tellWay_23 rfl (by decide) rfl rfl ?_
    replace H := bs H; obtain ⟨e19, e19L, H⟩ := H
    refine V.sub [1, 0] rfl ?_
    refine lp_V (P := (fun s24 => V Γ d mX9_tellWay 24 [(0, .ref v0), (3, .int s24.1)] [] s24.2 (none, r))) (E := (fun e => V Γ d mX9_tellWay 60 [(0, .ref v0)] [] e (none, r))) (fun s r hb kI kE => sbX9_tellWay_24 hd (s24 := s) (r := r) hb kI kE) FU ((0 : Int32), x6.2) e19 e19L ?_
    refine v_aload_n (q := 61) 0 dX9_tellWay_60 rfl rfl rfl ?_
    replace H := bs H; obtain ⟨x20, x20e, H⟩ := H
    refine u_gR (q := 64) (r := (RX9, TX9, 10)) x20e dX9_tellWay_61 w0425 rfl (by decide) rfl rfl ?_
    replace H := bs H; obtain ⟨x21, x21e, H⟩ := H
    refine u_gR (q := 67) (r := (RX3, TX3, 8)) x21e dX9_tellWay_64 w0352 rfl (by decide) rfl rfl ?_
    replace H := bs H; obtain ⟨_, o22, H⟩ := H
    replace H := bs H; obtain ⟨x23, x23e, H⟩ := H
    refine u_callV0 (M' := mX7_close) (d' := 1) (rc := (RX7, TX7, 7)) (As := []) (st := []) (q := 70) oX7_close dX9_tellWay_67 w0801 w0802 w0803 rfl rfl (gO_sp o22).1 (gO_sp o22).2 rfl (Nat.le_of_ble_eq_true rfl) (Nat.le_of_ble_eq_true rfl) (Nat.lt_of_lt_of_le (by decide) hd) rfl (sX7_close (Nat.le_refl _) x23e) rfl ?_
    exact V.sub [] rfl (sjX9_tellWay_70 hd H)
def mX9_learnOrder : MI := (yX9_learnOrder, cX9_learnOrder, 4, none)
theorem oX9_learnOrder : mOK mX9_learnOrder 2 := ⟨by decide +kernel, by decide +kernel, by decide +kernel, by decide, w0836, w0147⟩
def jX9_learnOrder_98 (h : Hp) : Option (Hp) :=
some h
set_option maxRecDepth 20000 in
set_option maxHeartbeats 4000000 in
theorem sjX9_learnOrder_98 {Γ : Gm} {d : Nat} (hd : 4 ≤ d) {h : Hp} {r : Hp} (H : jX9_learnOrder_98 h = some r) : V Γ d mX9_learnOrder 98 [] [] h (none, r) := by
  unfold jX9_learnOrder_98 at H
  cases H
  exact v_return rfl dX9_learnOrder_98
def fX9_learnOrder (h : Hp) (v0 : Nat) (v1 : Int32) (v2 : Int32) : Option (Hp) :=
(gR h 9 v0 2).bind fun x1 =>
(gR h 3 x1 3).bind fun x2 =>
if v1 = v2 then (
(gO h 9 v0).bind fun _ =>
(fX9_tellOnce h v0 (2 : Int32) v2).bind fun x28 =>
jX9_learnOrder_98 x28) else (
(gO h 1 x2).bind fun _ =>
(fX1_leads h x2 v1 v2).bind fun x5 =>
if x5 = 0 then (
(gI h 9 v0 3).bind fun x7 =>
(gI h 9 v0 4).bind fun x8 =>
(gO h 1 x2).bind fun _ =>
(fX1_learn h x2 v1 v2 ((x7 * (12 : Int32)) + x8)).bind fun x10 =>
(gR x10 1 x2 2).bind fun x11 =>
(lI x10 .int x11 v2).bind fun x12 =>
(fX11_has x10 x12 v1).bind fun x13 =>
if x13 = 0 then (
jX9_learnOrder_98 x10) else (
(gR x10 9 v0 2).bind fun x15 =>
(gR x10 3 x15 4).bind fun x16 =>
(gI x10 9 v0 3).bind fun x17 =>
(gI x10 9 v0 4).bind fun x18 =>
(gO x10 7 x16).bind fun _ =>
(fX7_open x10 x16 (3 : Int32) x17 x18).bind fun x20 =>
(gR x20 9 v0 2).bind fun x21 =>
(gR x20 3 x21 4).bind fun x22 =>
(gO x20 7 x22).bind fun _ =>
(fX7_addNode x20 x22 v1).bind fun x24 =>
(gO x24 9 v0).bind fun _ =>
(fX9_tellWay x24 v0 v2 v1).bind fun x26 =>
jX9_learnOrder_98 x26)) else (
jX9_learnOrder_98 h))
set_option maxRecDepth 20000 in
set_option maxHeartbeats 4000000 in
theorem sX9_learnOrder {Γ : Gm} {d : Nat} (hd : 4 ≤ d) {h : Hp} {v0 : Nat} {v1 : Int32} {v2 : Int32} {r : Hp} (H : fX9_learnOrder h v0 v1 v2 = some r) : V Γ d mX9_learnOrder 0 [(0, .ref v0), (1, .int v1), (2, .int v2)] [] h (none, r) := by
  unfold fX9_learnOrder at H
  refine v_aload_n (q := 1) 0 dX9_learnOrder_0 rfl rfl rfl ?_
  replace H := bs H; obtain ⟨x1, x1e, H⟩ := H
  refine u_gR (q := 4) (r := (RX9, TX9, 10)) x1e dX9_learnOrder_1 w0425 rfl (by decide) rfl rfl ?_
  replace H := bs H; obtain ⟨x2, x2e, H⟩ := H
  refine u_gR (q := 7) (r := (RX3, TX3, 8)) x2e dX9_learnOrder_4 w0349 rfl (by decide) rfl rfl ?_
  refine v_astore_n (L' := [(3, .ref x2), (0, .ref v0), (1, .int v1), (2, .int v2)]) (q := 8) dX9_learnOrder_7 rfl (by decide) rfl rfl ?_
  refine v_iload_n (q := 9) 2 dX9_learnOrder_8 rfl rfl rfl ?_
  refine v_iload_n (q := 10) 3 dX9_learnOrder_9 rfl rfl rfl ?_
  refine v_icmp_ne (q1 := 22) (q2 := 13) dX9_learnOrder_10 (by decide) rfl (fun c3 => ?_) (fun c3 => ?_)
  · replace H := ine c3 H
    refine v_aload_n (q := 23) 0 dX9_learnOrder_22 rfl rfl rfl ?_
    refine v_iload_n (q := 24) 2 dX9_learnOrder_23 rfl rfl rfl ?_
    refine v_iload_n (q := 25) 3 dX9_learnOrder_24 rfl rfl rfl ?_
    replace H := bs H; obtain ⟨_, o4, H⟩ := H
    replace H := bs H; obtain ⟨x5, x5e, H⟩ := H
    refine u_callV1 (M' := mX1_leads) (d' := 2) (rc := (RX1, TX1, 4)) (As := [.int v1, .int v2]) (st := []) (q := 28) oX1_leads dX9_learnOrder_25 w0845 w0846 w0847 rfl rfl (gO_sp o4).1 (gO_sp o4).2 rfl (Nat.le_of_ble_eq_true rfl) (Nat.le_of_ble_eq_true rfl) (Nat.lt_of_lt_of_le (by decide) hd) rfl (sX1_leads (Nat.le_refl _) x5e) rfl ?_
    refine v_if_ne (q1 := 98) (q2 := 31) dX9_learnOrder_28 (by decide) rfl (fun c6 => ?_) (fun c6 => ?_)
    · replace H := ine c6 H
      exact V.sub [] rfl (sjX9_learnOrder_98 hd H)
    · replace H := ip c6 H
      refine v_aload_n (q := 32) 0 dX9_learnOrder_31 rfl rfl rfl ?_
      refine v_iload_n (q := 33) 2 dX9_learnOrder_32 rfl rfl rfl ?_
      refine v_iload_n (q := 34) 3 dX9_learnOrder_33 rfl rfl rfl ?_
      refine v_aload_n (q := 35) 1 dX9_learnOrder_34 rfl rfl rfl ?_
      replace H := bs H; obtain ⟨x7, x7e, H⟩ := H
      refine u_gI (q := 38) (r := (RX9, TX9, 10)) x7e dX9_learnOrder_35 w0426 rfl (by decide) rfl rfl ?_
      refine v_bipush (v := 12) (q := 40) dX9_learnOrder_38 (by decide) rfl ?_
      refine v_imul (q := 41) dX9_learnOrder_40 rfl ?_
      refine v_aload_n (q := 42) 1 dX9_learnOrder_41 rfl rfl rfl ?_
      replace H := bs H; obtain ⟨x8, x8e, H⟩ := H
      refine u_gI (q := 45) (r := (RX9, TX9, 10)) x8e dX9_learnOrder_42 w0427 rfl (by decide) rfl rfl ?_
      refine v_iadd (q := 46) dX9_learnOrder_45 rfl ?_
      replace H := bs H; obtain ⟨_, o9, H⟩ := H
      replace H := bs H; obtain ⟨x10, x10e, H⟩ := H
      refine u_callV0 (M' := mX1_learn) (d' := 2) (rc := (RX1, TX1, 4)) (As := [.int v1, .int v2, .int ((x7 * (12 : Int32)) + x8)]) (st := []) (q := 49) oX1_learn dX9_learnOrder_46 w0850 w0851 w0852 rfl rfl (gO_sp o9).1 (gO_sp o9).2 rfl (Nat.le_of_ble_eq_true rfl) (Nat.le_of_ble_eq_true rfl) (Nat.lt_of_lt_of_le (by decide) hd) rfl (sX1_learn (Nat.le_refl _) x10e) rfl ?_
      refine v_aload_n (q := 50) 0 dX9_learnOrder_49 rfl rfl rfl ?_
      replace H := bs H; obtain ⟨x11, x11e, H⟩ := H
      refine u_gR (q := 53) (r := (RX1, TX1, 4)) x11e dX9_learnOrder_50 w0292 rfl (by decide) rfl rfl ?_
      refine v_iload_n (q := 54) 3 dX9_learnOrder_53 rfl rfl rfl ?_
      replace H := bs H; obtain ⟨x12, x12e, H⟩ := H
      refine u_lI (q := 55) x12e dX9_learnOrder_54 rfl ?_
      refine v_iload_n (q := 56) 2 dX9_learnOrder_55 rfl rfl rfl ?_
      replace H := bs H; obtain ⟨x13, x13e, H⟩ := H
      refine u_callSN1 (M' := mX11_has) (d' := 1) (As := [.int x12, .int v1]) (st := []) (q := 59) oX11_has dX9_learnOrder_56 w0782 w0783 rfl (Nat.le_of_ble_eq_true rfl) (Nat.le_of_ble_eq_true rfl) (Nat.lt_of_lt_of_le (by decide) hd) rfl (sX11_has (Nat.le_refl _) x13e) rfl ?_
      refine v_if_eq (q1 := 98) (q2 := 62) dX9_learnOrder_59 (by decide) rfl (fun c14 => ?_) (fun c14 => ?_)
      · replace H := ip c14 H
        exact V.sub [] rfl (sjX9_learnOrder_98 hd H)
      · replace H := ine c14 H
        refine v_aload_n (q := 63) 1 dX9_learnOrder_62 rfl rfl rfl ?_
        replace H := bs H; obtain ⟨x15, x15e, H⟩ := H
        refine u_gR (q := 66) (r := (RX9, TX9, 10)) x15e dX9_learnOrder_63 w0425 rfl (by decide) rfl rfl ?_
        replace H := bs H; obtain ⟨x16, x16e, H⟩ := H
        refine u_gR (q := 69) (r := (RX3, TX3, 8)) x16e dX9_learnOrder_66 w0352 rfl (by decide) rfl rfl ?_
        refine v_iconst (v := 3) (q := 70) dX9_learnOrder_69 (by decide) rfl ?_
        refine v_aload_n (q := 71) 1 dX9_learnOrder_70 rfl rfl rfl ?_
        replace H := bs H; obtain ⟨x17, x17e, H⟩ := H
        refine u_gI (q := 74) (r := (RX9, TX9, 10)) x17e dX9_learnOrder_71 w0426 rfl (by decide) rfl rfl ?_
        refine v_aload_n (q := 75) 1 dX9_learnOrder_74 rfl rfl rfl ?_
        replace H := bs H; obtain ⟨x18, x18e, H⟩ := H
        refine u_gI (q := 78) (r := (RX9, TX9, 10)) x18e dX9_learnOrder_75 w0427 rfl (by decide) rfl rfl ?_
        replace H := bs H; obtain ⟨_, o19, H⟩ := H
        replace H := bs H; obtain ⟨x20, x20e, H⟩ := H
        refine u_callV0 (M' := mX7_open) (d' := 1) (rc := (RX7, TX7, 7)) (As := [.int (3 : Int32), .int x17, .int x18]) (st := []) (q := 81) oX7_open dX9_learnOrder_78 w0793 w0794 w0795 rfl rfl (gO_sp o19).1 (gO_sp o19).2 rfl (Nat.le_of_ble_eq_true rfl) (Nat.le_of_ble_eq_true rfl) (Nat.lt_of_lt_of_le (by decide) hd) rfl (sX7_open (Nat.le_refl _) x20e) rfl ?_
        refine v_aload_n (q := 82) 1 dX9_learnOrder_81 rfl rfl rfl ?_
        replace H := bs H; obtain ⟨x21, x21e, H⟩ := H
        refine u_gR (q := 85) (r := (RX9, TX9, 10)) x21e dX9_learnOrder_82 w0425 rfl (by decide) rfl rfl ?_
        replace H := bs H; obtain ⟨x22, x22e, H⟩ := H
        refine u_gR (q := 88) (r := (RX3, TX3, 8)) x22e dX9_learnOrder_85 w0352 rfl (by decide) rfl rfl ?_
        refine v_iload_n (q := 89) 2 dX9_learnOrder_88 rfl rfl rfl ?_
        replace H := bs H; obtain ⟨_, o23, H⟩ := H
        replace H := bs H; obtain ⟨x24, x24e, H⟩ := H
        refine u_callV0 (M' := mX7_addNode) (d' := 1) (rc := (RX7, TX7, 7)) (As := [.int v1]) (st := []) (q := 92) oX7_addNode dX9_learnOrder_89 w0797 w0798 w0799 rfl rfl (gO_sp o23).1 (gO_sp o23).2 rfl (Nat.le_of_ble_eq_true rfl) (Nat.le_of_ble_eq_true rfl) (Nat.lt_of_lt_of_le (by decide) hd) rfl (sX7_addNode (Nat.le_refl _) x24e) rfl ?_
        refine v_aload_n (q := 93) 1 dX9_learnOrder_92 rfl rfl rfl ?_
        refine v_iload_n (q := 94) 3 dX9_learnOrder_93 rfl rfl rfl ?_
        refine v_iload_n (q := 95) 2 dX9_learnOrder_94 rfl rfl rfl ?_
        replace H := bs H; obtain ⟨_, o25, H⟩ := H
        replace H := bs H; obtain ⟨x26, x26e, H⟩ := H
        refine u_callV0 (M' := mX9_tellWay) (d' := 3) (rc := (RX9, TX9, 10)) (As := [.int v2, .int v1]) (st := []) (q := 98) oX9_tellWay dX9_learnOrder_95 w0854 w0856 w0022 rfl rfl (gO_sp o25).1 (gO_sp o25).2 rfl (Nat.le_of_ble_eq_true rfl) (Nat.le_of_ble_eq_true rfl) (Nat.lt_of_lt_of_le (by decide) hd) rfl (sX9_tellWay (Nat.le_refl _) x26e) rfl ?_
        exact V.sub [] rfl (sjX9_learnOrder_98 hd H)
  · replace H := ip c3 H
    refine v_aload_n (q := 14) 1 dX9_learnOrder_13 rfl rfl rfl ?_
    refine v_iconst (v := 2) (q := 15) dX9_learnOrder_14 (by decide) rfl ?_
    refine v_iload_n (q := 16) 3 dX9_learnOrder_15 rfl rfl rfl ?_
    replace H := bs H; obtain ⟨_, o27, H⟩ := H
    replace H := bs H; obtain ⟨x28, x28e, H⟩ := H
    refine u_callV0 (M' := mX9_tellOnce) (d' := 3) (rc := (RX9, TX9, 10)) (As := [.int (2 : Int32), .int v2]) (st := []) (q := 19) oX9_tellOnce dX9_learnOrder_16 w0837 w0839 w0021 rfl rfl (gO_sp o27).1 (gO_sp o27).2 rfl (Nat.le_of_ble_eq_true rfl) (Nat.le_of_ble_eq_true rfl) (Nat.lt_of_lt_of_le (by decide) hd) rfl (sX9_tellOnce (Nat.le_refl _) x28e) rfl ?_
    refine v_goto (q := 98) dX9_learnOrder_19 (by decide) ?_
    exact V.sub [] rfl (sjX9_learnOrder_98 hd H)

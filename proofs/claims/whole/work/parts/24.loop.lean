/-- every call keeps the invariant, with like answers -/
def LawOK (X T : Nat) (Inv : Nat → Hp → Prop) : Prop := (∀ n h, Inv n h → X < hN h ∧ hS h X = .inl 11) ∧ (∀ n h, Inv n h → Inv (n + 1) h) ∧ ∀ (n k : Nat) (h : Hp) (a b c e g : Int32), k < 35 → n < 512 → Inv n h → ∃ (r : Int32) (h1 : Hp) (m1 : Mem), opC k X h a b c e g = some (r, h1) ∧ opR k (mOf T h1) a b c e g = some (r, m1) ∧ RS T h1 ∧ Inv (n + 1) (hm T h1 m1)
set_option maxRecDepth 20000 in
set_option maxHeartbeats 4000000 in
theorem law_body {Γ : Gm} {d : Nat} (hd : 13 ≤ d) {X T : Nat} {Inv : Nat → Hp → Prop} (ok : LawOK X T Inv) {n : Nat} {h : Hp} (hi : Inv n h) (hn : n < 512) {i : Int32} (hj0 : vp_in i Γ.2.2.2.2.2.2.1) (hj1 : vp_in (i + 1) Γ.2.2.2.2.2.2.1) (hj2 : vp_in (i + 2) Γ.2.2.2.2.2.2.1) (hj3 : vp_in (i + 3) Γ.2.2.2.2.2.2.1) (hj4 : vp_in (i + 4) Γ.2.2.2.2.2.2.1) (hj5 : vp_in (i + 5) Γ.2.2.2.2.2.2.1) {G : Option Value × Hp → Prop} (IH : ∀ h2, Inv (n + 1) h2 → ∃ t, G t ∧ V Γ d mL 1163 [(0, .retAddr 3), (1, .ref X), (2, .ref T), (3, .int i)] [] h2 t) : ∃ t, G t ∧ V Γ d mL 27 [(0, .retAddr 3), (1, .ref X), (2, .ref T), (3, .int i)] [] h t := by
  have hX := ok.1 n h hi
  have sw : ∀ {t : Option Value × Hp}, (∀ x : Int32, Γ.2.2.2.2.2.2.2 i.toNatClampNeg &&& 63 = x → V Γ d mL 33 [(0, .retAddr 3), (1, .ref X), (2, .ref T), (3, .int i)] [.int x] h t) → V Γ d mL 27 [(0, .retAddr 3), (1, .ref X), (2, .ref T), (3, .int i)] [] h t := by
    intro t k
    refine v_aload_nX (q := 28) 0 dL_law_27 rfl rfl rfl ?_
    refine v_iload_n (q := 29) 3 dL_law_28 rfl rfl rfl ?_
    refine v_sld (q := 30) dL_law_29 hj0 rfl ?_
    refine v_bipush (v := 63) (q := 32) dL_law_30 (by decide) rfl ?_
    refine v_iand (q := 33) dL_law_32 rfl ?_
    exact k _ rfl
  by_cases c0 : Γ.2.2.2.2.2.2.2 i.toNatClampNeg &&& 63 = (0 : Int32)
  · obtain ⟨r, h1, m1, e1, e2, rs, inv1⟩ := ok.2.2 n 0 h (Γ.2.2.2.2.2.2.2 (i + 1).toNatClampNeg) (Γ.2.2.2.2.2.2.2 (i + 2).toNatClampNeg) (Γ.2.2.2.2.2.2.2 (i + 3).toNatClampNeg) (Γ.2.2.2.2.2.2.2 (i + 4).toNatClampNeg) (Γ.2.2.2.2.2.2.2 (i + 5).toNatClampNeg) (by decide) hn hi
    obtain ⟨t, ht, kv⟩ := IH _ inv1
    refine ⟨t, ht, sw (fun x hx => ?_)⟩
    rw [c0] at hx
    subst hx
    exact v_tabIn (off := 155) (q := 188) dL_law_33 (by decide) (by decide) (by decide) (by decide) (law_0 hd hX rs hj1 hj2 hj3 hj4 hj5 e1 e2 kv)
  by_cases c1 : Γ.2.2.2.2.2.2.2 i.toNatClampNeg &&& 63 = (1 : Int32)
  · obtain ⟨r, h1, m1, e1, e2, rs, inv1⟩ := ok.2.2 n 1 h (Γ.2.2.2.2.2.2.2 (i + 1).toNatClampNeg) (Γ.2.2.2.2.2.2.2 (i + 2).toNatClampNeg) (Γ.2.2.2.2.2.2.2 (i + 3).toNatClampNeg) (Γ.2.2.2.2.2.2.2 (i + 4).toNatClampNeg) (Γ.2.2.2.2.2.2.2 (i + 5).toNatClampNeg) (by decide) hn hi
    obtain ⟨t, ht, kv⟩ := IH _ inv1
    refine ⟨t, ht, sw (fun x hx => ?_)⟩
    rw [c1] at hx
    subst hx
    exact v_tabIn (off := 218) (q := 251) dL_law_33 (by decide) (by decide) (by decide) (by decide) (law_1 hd hX rs hj1 hj2 hj3 hj4 hj5 e1 e2 kv)
  by_cases c2 : Γ.2.2.2.2.2.2.2 i.toNatClampNeg &&& 63 = (2 : Int32)
  · obtain ⟨r, h1, m1, e1, e2, rs, inv1⟩ := ok.2.2 n 2 h (Γ.2.2.2.2.2.2.2 (i + 1).toNatClampNeg) (Γ.2.2.2.2.2.2.2 (i + 2).toNatClampNeg) (Γ.2.2.2.2.2.2.2 (i + 3).toNatClampNeg) (Γ.2.2.2.2.2.2.2 (i + 4).toNatClampNeg) (Γ.2.2.2.2.2.2.2 (i + 5).toNatClampNeg) (by decide) hn hi
    obtain ⟨t, ht, kv⟩ := IH _ inv1
    refine ⟨t, ht, sw (fun x hx => ?_)⟩
    rw [c2] at hx
    subst hx
    exact v_tabIn (off := 241) (q := 274) dL_law_33 (by decide) (by decide) (by decide) (by decide) (law_2 hd hX rs hj1 hj2 hj3 hj4 hj5 e1 e2 kv)
  by_cases c3 : Γ.2.2.2.2.2.2.2 i.toNatClampNeg &&& 63 = (3 : Int32)
  · obtain ⟨r, h1, m1, e1, e2, rs, inv1⟩ := ok.2.2 n 3 h (Γ.2.2.2.2.2.2.2 (i + 1).toNatClampNeg) (Γ.2.2.2.2.2.2.2 (i + 2).toNatClampNeg) (Γ.2.2.2.2.2.2.2 (i + 3).toNatClampNeg) (Γ.2.2.2.2.2.2.2 (i + 4).toNatClampNeg) (Γ.2.2.2.2.2.2.2 (i + 5).toNatClampNeg) (by decide) hn hi
    obtain ⟨t, ht, kv⟩ := IH _ inv1
    refine ⟨t, ht, sw (fun x hx => ?_)⟩
    rw [c3] at hx
    subst hx
    exact v_tabIn (off := 254) (q := 287) dL_law_33 (by decide) (by decide) (by decide) (by decide) (law_3 hd hX rs hj1 hj2 hj3 hj4 hj5 e1 e2 kv)
  by_cases c4 : Γ.2.2.2.2.2.2.2 i.toNatClampNeg &&& 63 = (4 : Int32)
  · obtain ⟨r, h1, m1, e1, e2, rs, inv1⟩ := ok.2.2 n 4 h (Γ.2.2.2.2.2.2.2 (i + 1).toNatClampNeg) (Γ.2.2.2.2.2.2.2 (i + 2).toNatClampNeg) (Γ.2.2.2.2.2.2.2 (i + 3).toNatClampNeg) (Γ.2.2.2.2.2.2.2 (i + 4).toNatClampNeg) (Γ.2.2.2.2.2.2.2 (i + 5).toNatClampNeg) (by decide) hn hi
    obtain ⟨t, ht, kv⟩ := IH _ inv1
    refine ⟨t, ht, sw (fun x hx => ?_)⟩
    rw [c4] at hx
    subst hx
    exact v_tabIn (off := 277) (q := 310) dL_law_33 (by decide) (by decide) (by decide) (by decide) (law_4 hd hX rs hj1 hj2 hj3 hj4 hj5 e1 e2 kv)
  by_cases c5 : Γ.2.2.2.2.2.2.2 i.toNatClampNeg &&& 63 = (5 : Int32)
  · obtain ⟨r, h1, m1, e1, e2, rs, inv1⟩ := ok.2.2 n 5 h (Γ.2.2.2.2.2.2.2 (i + 1).toNatClampNeg) (Γ.2.2.2.2.2.2.2 (i + 2).toNatClampNeg) (Γ.2.2.2.2.2.2.2 (i + 3).toNatClampNeg) (Γ.2.2.2.2.2.2.2 (i + 4).toNatClampNeg) (Γ.2.2.2.2.2.2.2 (i + 5).toNatClampNeg) (by decide) hn hi
    obtain ⟨t, ht, kv⟩ := IH _ inv1
    refine ⟨t, ht, sw (fun x hx => ?_)⟩
    rw [c5] at hx
    subst hx
    exact v_tabIn (off := 300) (q := 333) dL_law_33 (by decide) (by decide) (by decide) (by decide) (law_5 hd hX rs hj1 hj2 hj3 hj4 hj5 e1 e2 kv)
  by_cases c6 : Γ.2.2.2.2.2.2.2 i.toNatClampNeg &&& 63 = (6 : Int32)
  · obtain ⟨r, h1, m1, e1, e2, rs, inv1⟩ := ok.2.2 n 6 h (Γ.2.2.2.2.2.2.2 (i + 1).toNatClampNeg) (Γ.2.2.2.2.2.2.2 (i + 2).toNatClampNeg) (Γ.2.2.2.2.2.2.2 (i + 3).toNatClampNeg) (Γ.2.2.2.2.2.2.2 (i + 4).toNatClampNeg) (Γ.2.2.2.2.2.2.2 (i + 5).toNatClampNeg) (by decide) hn hi
    obtain ⟨t, ht, kv⟩ := IH _ inv1
    refine ⟨t, ht, sw (fun x hx => ?_)⟩
    rw [c6] at hx
    subst hx
    exact v_tabIn (off := 313) (q := 346) dL_law_33 (by decide) (by decide) (by decide) (by decide) (law_6 hd hX rs hj1 hj2 hj3 hj4 hj5 e1 e2 kv)
  by_cases c7 : Γ.2.2.2.2.2.2.2 i.toNatClampNeg &&& 63 = (7 : Int32)
  · obtain ⟨r, h1, m1, e1, e2, rs, inv1⟩ := ok.2.2 n 7 h (Γ.2.2.2.2.2.2.2 (i + 1).toNatClampNeg) (Γ.2.2.2.2.2.2.2 (i + 2).toNatClampNeg) (Γ.2.2.2.2.2.2.2 (i + 3).toNatClampNeg) (Γ.2.2.2.2.2.2.2 (i + 4).toNatClampNeg) (Γ.2.2.2.2.2.2.2 (i + 5).toNatClampNeg) (by decide) hn hi
    obtain ⟨t, ht, kv⟩ := IH _ inv1
    refine ⟨t, ht, sw (fun x hx => ?_)⟩
    rw [c7] at hx
    subst hx
    exact v_tabIn (off := 346) (q := 379) dL_law_33 (by decide) (by decide) (by decide) (by decide) (law_7 hd hX rs hj1 hj2 hj3 hj4 hj5 e1 e2 kv)
  by_cases c8 : Γ.2.2.2.2.2.2.2 i.toNatClampNeg &&& 63 = (8 : Int32)
  · obtain ⟨r, h1, m1, e1, e2, rs, inv1⟩ := ok.2.2 n 8 h (Γ.2.2.2.2.2.2.2 (i + 1).toNatClampNeg) (Γ.2.2.2.2.2.2.2 (i + 2).toNatClampNeg) (Γ.2.2.2.2.2.2.2 (i + 3).toNatClampNeg) (Γ.2.2.2.2.2.2.2 (i + 4).toNatClampNeg) (Γ.2.2.2.2.2.2.2 (i + 5).toNatClampNeg) (by decide) hn hi
    obtain ⟨t, ht, kv⟩ := IH _ inv1
    refine ⟨t, ht, sw (fun x hx => ?_)⟩
    rw [c8] at hx
    subst hx
    exact v_tabIn (off := 359) (q := 392) dL_law_33 (by decide) (by decide) (by decide) (by decide) (law_8 hd hX rs hj1 hj2 hj3 hj4 hj5 e1 e2 kv)
  by_cases c9 : Γ.2.2.2.2.2.2.2 i.toNatClampNeg &&& 63 = (9 : Int32)
  · obtain ⟨r, h1, m1, e1, e2, rs, inv1⟩ := ok.2.2 n 9 h (Γ.2.2.2.2.2.2.2 (i + 1).toNatClampNeg) (Γ.2.2.2.2.2.2.2 (i + 2).toNatClampNeg) (Γ.2.2.2.2.2.2.2 (i + 3).toNatClampNeg) (Γ.2.2.2.2.2.2.2 (i + 4).toNatClampNeg) (Γ.2.2.2.2.2.2.2 (i + 5).toNatClampNeg) (by decide) hn hi
    obtain ⟨t, ht, kv⟩ := IH _ inv1
    refine ⟨t, ht, sw (fun x hx => ?_)⟩
    rw [c9] at hx
    subst hx
    exact v_tabIn (off := 372) (q := 405) dL_law_33 (by decide) (by decide) (by decide) (by decide) (law_9 hd hX rs hj1 hj2 hj3 hj4 hj5 e1 e2 kv)
  by_cases c10 : Γ.2.2.2.2.2.2.2 i.toNatClampNeg &&& 63 = (10 : Int32)
  · obtain ⟨r, h1, m1, e1, e2, rs, inv1⟩ := ok.2.2 n 10 h (Γ.2.2.2.2.2.2.2 (i + 1).toNatClampNeg) (Γ.2.2.2.2.2.2.2 (i + 2).toNatClampNeg) (Γ.2.2.2.2.2.2.2 (i + 3).toNatClampNeg) (Γ.2.2.2.2.2.2.2 (i + 4).toNatClampNeg) (Γ.2.2.2.2.2.2.2 (i + 5).toNatClampNeg) (by decide) hn hi
    obtain ⟨t, ht, kv⟩ := IH _ inv1
    refine ⟨t, ht, sw (fun x hx => ?_)⟩
    rw [c10] at hx
    subst hx
    exact v_tabIn (off := 395) (q := 428) dL_law_33 (by decide) (by decide) (by decide) (by decide) (law_10 hd hX rs hj1 hj2 hj3 hj4 hj5 e1 e2 kv)
  by_cases c11 : Γ.2.2.2.2.2.2.2 i.toNatClampNeg &&& 63 = (11 : Int32)
  · obtain ⟨r, h1, m1, e1, e2, rs, inv1⟩ := ok.2.2 n 11 h (Γ.2.2.2.2.2.2.2 (i + 1).toNatClampNeg) (Γ.2.2.2.2.2.2.2 (i + 2).toNatClampNeg) (Γ.2.2.2.2.2.2.2 (i + 3).toNatClampNeg) (Γ.2.2.2.2.2.2.2 (i + 4).toNatClampNeg) (Γ.2.2.2.2.2.2.2 (i + 5).toNatClampNeg) (by decide) hn hi
    obtain ⟨t, ht, kv⟩ := IH _ inv1
    refine ⟨t, ht, sw (fun x hx => ?_)⟩
    rw [c11] at hx
    subst hx
    exact v_tabIn (off := 428) (q := 461) dL_law_33 (by decide) (by decide) (by decide) (by decide) (law_11 hd hX rs hj1 hj2 hj3 hj4 hj5 e1 e2 kv)
  by_cases c12 : Γ.2.2.2.2.2.2.2 i.toNatClampNeg &&& 63 = (12 : Int32)
  · obtain ⟨r, h1, m1, e1, e2, rs, inv1⟩ := ok.2.2 n 12 h (Γ.2.2.2.2.2.2.2 (i + 1).toNatClampNeg) (Γ.2.2.2.2.2.2.2 (i + 2).toNatClampNeg) (Γ.2.2.2.2.2.2.2 (i + 3).toNatClampNeg) (Γ.2.2.2.2.2.2.2 (i + 4).toNatClampNeg) (Γ.2.2.2.2.2.2.2 (i + 5).toNatClampNeg) (by decide) hn hi
    obtain ⟨t, ht, kv⟩ := IH _ inv1
    refine ⟨t, ht, sw (fun x hx => ?_)⟩
    rw [c12] at hx
    subst hx
    exact v_tabIn (off := 471) (q := 504) dL_law_33 (by decide) (by decide) (by decide) (by decide) (law_12 hd hX rs hj1 hj2 hj3 hj4 hj5 e1 e2 kv)
  by_cases c13 : Γ.2.2.2.2.2.2.2 i.toNatClampNeg &&& 63 = (13 : Int32)
  · obtain ⟨r, h1, m1, e1, e2, rs, inv1⟩ := ok.2.2 n 13 h (Γ.2.2.2.2.2.2.2 (i + 1).toNatClampNeg) (Γ.2.2.2.2.2.2.2 (i + 2).toNatClampNeg) (Γ.2.2.2.2.2.2.2 (i + 3).toNatClampNeg) (Γ.2.2.2.2.2.2.2 (i + 4).toNatClampNeg) (Γ.2.2.2.2.2.2.2 (i + 5).toNatClampNeg) (by decide) hn hi
    obtain ⟨t, ht, kv⟩ := IH _ inv1
    refine ⟨t, ht, sw (fun x hx => ?_)⟩
    rw [c13] at hx
    subst hx
    exact v_tabIn (off := 514) (q := 547) dL_law_33 (by decide) (by decide) (by decide) (by decide) (law_13 hd hX rs hj1 hj2 hj3 hj4 hj5 e1 e2 kv)
  by_cases c14 : Γ.2.2.2.2.2.2.2 i.toNatClampNeg &&& 63 = (14 : Int32)
  · obtain ⟨r, h1, m1, e1, e2, rs, inv1⟩ := ok.2.2 n 14 h (Γ.2.2.2.2.2.2.2 (i + 1).toNatClampNeg) (Γ.2.2.2.2.2.2.2 (i + 2).toNatClampNeg) (Γ.2.2.2.2.2.2.2 (i + 3).toNatClampNeg) (Γ.2.2.2.2.2.2.2 (i + 4).toNatClampNeg) (Γ.2.2.2.2.2.2.2 (i + 5).toNatClampNeg) (by decide) hn hi
    obtain ⟨t, ht, kv⟩ := IH _ inv1
    refine ⟨t, ht, sw (fun x hx => ?_)⟩
    rw [c14] at hx
    subst hx
    exact v_tabIn (off := 537) (q := 570) dL_law_33 (by decide) (by decide) (by decide) (by decide) (law_14 hd hX rs hj1 hj2 hj3 hj4 hj5 e1 e2 kv)
  by_cases c15 : Γ.2.2.2.2.2.2.2 i.toNatClampNeg &&& 63 = (15 : Int32)
  · obtain ⟨r, h1, m1, e1, e2, rs, inv1⟩ := ok.2.2 n 15 h (Γ.2.2.2.2.2.2.2 (i + 1).toNatClampNeg) (Γ.2.2.2.2.2.2.2 (i + 2).toNatClampNeg) (Γ.2.2.2.2.2.2.2 (i + 3).toNatClampNeg) (Γ.2.2.2.2.2.2.2 (i + 4).toNatClampNeg) (Γ.2.2.2.2.2.2.2 (i + 5).toNatClampNeg) (by decide) hn hi
    obtain ⟨t, ht, kv⟩ := IH _ inv1
    refine ⟨t, ht, sw (fun x hx => ?_)⟩
    rw [c15] at hx
    subst hx
    exact v_tabIn (off := 580) (q := 613) dL_law_33 (by decide) (by decide) (by decide) (by decide) (law_15 hd hX rs hj1 hj2 hj3 hj4 hj5 e1 e2 kv)
  by_cases c16 : Γ.2.2.2.2.2.2.2 i.toNatClampNeg &&& 63 = (16 : Int32)
  · obtain ⟨r, h1, m1, e1, e2, rs, inv1⟩ := ok.2.2 n 16 h (Γ.2.2.2.2.2.2.2 (i + 1).toNatClampNeg) (Γ.2.2.2.2.2.2.2 (i + 2).toNatClampNeg) (Γ.2.2.2.2.2.2.2 (i + 3).toNatClampNeg) (Γ.2.2.2.2.2.2.2 (i + 4).toNatClampNeg) (Γ.2.2.2.2.2.2.2 (i + 5).toNatClampNeg) (by decide) hn hi
    obtain ⟨t, ht, kv⟩ := IH _ inv1
    refine ⟨t, ht, sw (fun x hx => ?_)⟩
    rw [c16] at hx
    subst hx
    exact v_tabIn (off := 603) (q := 636) dL_law_33 (by decide) (by decide) (by decide) (by decide) (law_16 hd hX rs hj1 hj2 hj3 hj4 hj5 e1 e2 kv)
  by_cases c17 : Γ.2.2.2.2.2.2.2 i.toNatClampNeg &&& 63 = (17 : Int32)
  · obtain ⟨r, h1, m1, e1, e2, rs, inv1⟩ := ok.2.2 n 17 h (Γ.2.2.2.2.2.2.2 (i + 1).toNatClampNeg) (Γ.2.2.2.2.2.2.2 (i + 2).toNatClampNeg) (Γ.2.2.2.2.2.2.2 (i + 3).toNatClampNeg) (Γ.2.2.2.2.2.2.2 (i + 4).toNatClampNeg) (Γ.2.2.2.2.2.2.2 (i + 5).toNatClampNeg) (by decide) hn hi
    obtain ⟨t, ht, kv⟩ := IH _ inv1
    refine ⟨t, ht, sw (fun x hx => ?_)⟩
    rw [c17] at hx
    subst hx
    exact v_tabIn (off := 636) (q := 669) dL_law_33 (by decide) (by decide) (by decide) (by decide) (law_17 hd hX rs hj1 hj2 hj3 hj4 hj5 e1 e2 kv)
  by_cases c18 : Γ.2.2.2.2.2.2.2 i.toNatClampNeg &&& 63 = (18 : Int32)
  · obtain ⟨r, h1, m1, e1, e2, rs, inv1⟩ := ok.2.2 n 18 h (Γ.2.2.2.2.2.2.2 (i + 1).toNatClampNeg) (Γ.2.2.2.2.2.2.2 (i + 2).toNatClampNeg) (Γ.2.2.2.2.2.2.2 (i + 3).toNatClampNeg) (Γ.2.2.2.2.2.2.2 (i + 4).toNatClampNeg) (Γ.2.2.2.2.2.2.2 (i + 5).toNatClampNeg) (by decide) hn hi
    obtain ⟨t, ht, kv⟩ := IH _ inv1
    refine ⟨t, ht, sw (fun x hx => ?_)⟩
    rw [c18] at hx
    subst hx
    exact v_tabIn (off := 669) (q := 702) dL_law_33 (by decide) (by decide) (by decide) (by decide) (law_18 hd hX rs hj1 hj2 hj3 hj4 hj5 e1 e2 kv)
  by_cases c19 : Γ.2.2.2.2.2.2.2 i.toNatClampNeg &&& 63 = (19 : Int32)
  · obtain ⟨r, h1, m1, e1, e2, rs, inv1⟩ := ok.2.2 n 19 h (Γ.2.2.2.2.2.2.2 (i + 1).toNatClampNeg) (Γ.2.2.2.2.2.2.2 (i + 2).toNatClampNeg) (Γ.2.2.2.2.2.2.2 (i + 3).toNatClampNeg) (Γ.2.2.2.2.2.2.2 (i + 4).toNatClampNeg) (Γ.2.2.2.2.2.2.2 (i + 5).toNatClampNeg) (by decide) hn hi
    obtain ⟨t, ht, kv⟩ := IH _ inv1
    refine ⟨t, ht, sw (fun x hx => ?_)⟩
    rw [c19] at hx
    subst hx
    exact v_tabIn (off := 702) (q := 735) dL_law_33 (by decide) (by decide) (by decide) (by decide) (law_19 hd hX rs hj1 hj2 hj3 hj4 hj5 e1 e2 kv)
  by_cases c20 : Γ.2.2.2.2.2.2.2 i.toNatClampNeg &&& 63 = (20 : Int32)
  · obtain ⟨r, h1, m1, e1, e2, rs, inv1⟩ := ok.2.2 n 20 h (Γ.2.2.2.2.2.2.2 (i + 1).toNatClampNeg) (Γ.2.2.2.2.2.2.2 (i + 2).toNatClampNeg) (Γ.2.2.2.2.2.2.2 (i + 3).toNatClampNeg) (Γ.2.2.2.2.2.2.2 (i + 4).toNatClampNeg) (Γ.2.2.2.2.2.2.2 (i + 5).toNatClampNeg) (by decide) hn hi
    obtain ⟨t, ht, kv⟩ := IH _ inv1
    refine ⟨t, ht, sw (fun x hx => ?_)⟩
    rw [c20] at hx
    subst hx
    exact v_tabIn (off := 725) (q := 758) dL_law_33 (by decide) (by decide) (by decide) (by decide) (law_20 hd hX rs hj1 hj2 hj3 hj4 hj5 e1 e2 kv)
  by_cases c21 : Γ.2.2.2.2.2.2.2 i.toNatClampNeg &&& 63 = (21 : Int32)
  · obtain ⟨r, h1, m1, e1, e2, rs, inv1⟩ := ok.2.2 n 21 h (Γ.2.2.2.2.2.2.2 (i + 1).toNatClampNeg) (Γ.2.2.2.2.2.2.2 (i + 2).toNatClampNeg) (Γ.2.2.2.2.2.2.2 (i + 3).toNatClampNeg) (Γ.2.2.2.2.2.2.2 (i + 4).toNatClampNeg) (Γ.2.2.2.2.2.2.2 (i + 5).toNatClampNeg) (by decide) hn hi
    obtain ⟨t, ht, kv⟩ := IH _ inv1
    refine ⟨t, ht, sw (fun x hx => ?_)⟩
    rw [c21] at hx
    subst hx
    exact v_tabIn (off := 748) (q := 781) dL_law_33 (by decide) (by decide) (by decide) (by decide) (law_21 hd hX rs hj1 hj2 hj3 hj4 hj5 e1 e2 kv)
  by_cases c22 : Γ.2.2.2.2.2.2.2 i.toNatClampNeg &&& 63 = (22 : Int32)
  · obtain ⟨r, h1, m1, e1, e2, rs, inv1⟩ := ok.2.2 n 22 h (Γ.2.2.2.2.2.2.2 (i + 1).toNatClampNeg) (Γ.2.2.2.2.2.2.2 (i + 2).toNatClampNeg) (Γ.2.2.2.2.2.2.2 (i + 3).toNatClampNeg) (Γ.2.2.2.2.2.2.2 (i + 4).toNatClampNeg) (Γ.2.2.2.2.2.2.2 (i + 5).toNatClampNeg) (by decide) hn hi
    obtain ⟨t, ht, kv⟩ := IH _ inv1
    refine ⟨t, ht, sw (fun x hx => ?_)⟩
    rw [c22] at hx
    subst hx
    exact v_tabIn (off := 771) (q := 804) dL_law_33 (by decide) (by decide) (by decide) (by decide) (law_22 hd hX rs hj1 hj2 hj3 hj4 hj5 e1 e2 kv)
  by_cases c23 : Γ.2.2.2.2.2.2.2 i.toNatClampNeg &&& 63 = (23 : Int32)
  · obtain ⟨r, h1, m1, e1, e2, rs, inv1⟩ := ok.2.2 n 23 h (Γ.2.2.2.2.2.2.2 (i + 1).toNatClampNeg) (Γ.2.2.2.2.2.2.2 (i + 2).toNatClampNeg) (Γ.2.2.2.2.2.2.2 (i + 3).toNatClampNeg) (Γ.2.2.2.2.2.2.2 (i + 4).toNatClampNeg) (Γ.2.2.2.2.2.2.2 (i + 5).toNatClampNeg) (by decide) hn hi
    obtain ⟨t, ht, kv⟩ := IH _ inv1
    refine ⟨t, ht, sw (fun x hx => ?_)⟩
    rw [c23] at hx
    subst hx
    exact v_tabIn (off := 804) (q := 837) dL_law_33 (by decide) (by decide) (by decide) (by decide) (law_23 hd hX rs hj1 hj2 hj3 hj4 hj5 e1 e2 kv)
  by_cases c24 : Γ.2.2.2.2.2.2.2 i.toNatClampNeg &&& 63 = (24 : Int32)
  · obtain ⟨r, h1, m1, e1, e2, rs, inv1⟩ := ok.2.2 n 24 h (Γ.2.2.2.2.2.2.2 (i + 1).toNatClampNeg) (Γ.2.2.2.2.2.2.2 (i + 2).toNatClampNeg) (Γ.2.2.2.2.2.2.2 (i + 3).toNatClampNeg) (Γ.2.2.2.2.2.2.2 (i + 4).toNatClampNeg) (Γ.2.2.2.2.2.2.2 (i + 5).toNatClampNeg) (by decide) hn hi
    obtain ⟨t, ht, kv⟩ := IH _ inv1
    refine ⟨t, ht, sw (fun x hx => ?_)⟩
    rw [c24] at hx
    subst hx
    exact v_tabIn (off := 847) (q := 880) dL_law_33 (by decide) (by decide) (by decide) (by decide) (law_24 hd hX rs hj1 hj2 hj3 hj4 hj5 e1 e2 kv)
  by_cases c25 : Γ.2.2.2.2.2.2.2 i.toNatClampNeg &&& 63 = (25 : Int32)
  · obtain ⟨r, h1, m1, e1, e2, rs, inv1⟩ := ok.2.2 n 25 h (Γ.2.2.2.2.2.2.2 (i + 1).toNatClampNeg) (Γ.2.2.2.2.2.2.2 (i + 2).toNatClampNeg) (Γ.2.2.2.2.2.2.2 (i + 3).toNatClampNeg) (Γ.2.2.2.2.2.2.2 (i + 4).toNatClampNeg) (Γ.2.2.2.2.2.2.2 (i + 5).toNatClampNeg) (by decide) hn hi
    obtain ⟨t, ht, kv⟩ := IH _ inv1
    refine ⟨t, ht, sw (fun x hx => ?_)⟩
    rw [c25] at hx
    subst hx
    exact v_tabIn (off := 880) (q := 913) dL_law_33 (by decide) (by decide) (by decide) (by decide) (law_25 hd hX rs hj1 hj2 hj3 hj4 hj5 e1 e2 kv)
  by_cases c26 : Γ.2.2.2.2.2.2.2 i.toNatClampNeg &&& 63 = (26 : Int32)
  · obtain ⟨r, h1, m1, e1, e2, rs, inv1⟩ := ok.2.2 n 26 h (Γ.2.2.2.2.2.2.2 (i + 1).toNatClampNeg) (Γ.2.2.2.2.2.2.2 (i + 2).toNatClampNeg) (Γ.2.2.2.2.2.2.2 (i + 3).toNatClampNeg) (Γ.2.2.2.2.2.2.2 (i + 4).toNatClampNeg) (Γ.2.2.2.2.2.2.2 (i + 5).toNatClampNeg) (by decide) hn hi
    obtain ⟨t, ht, kv⟩ := IH _ inv1
    refine ⟨t, ht, sw (fun x hx => ?_)⟩
    rw [c26] at hx
    subst hx
    exact v_tabIn (off := 893) (q := 926) dL_law_33 (by decide) (by decide) (by decide) (by decide) (law_26 hd hX rs hj1 hj2 hj3 hj4 hj5 e1 e2 kv)
  by_cases c27 : Γ.2.2.2.2.2.2.2 i.toNatClampNeg &&& 63 = (27 : Int32)
  · obtain ⟨r, h1, m1, e1, e2, rs, inv1⟩ := ok.2.2 n 27 h (Γ.2.2.2.2.2.2.2 (i + 1).toNatClampNeg) (Γ.2.2.2.2.2.2.2 (i + 2).toNatClampNeg) (Γ.2.2.2.2.2.2.2 (i + 3).toNatClampNeg) (Γ.2.2.2.2.2.2.2 (i + 4).toNatClampNeg) (Γ.2.2.2.2.2.2.2 (i + 5).toNatClampNeg) (by decide) hn hi
    obtain ⟨t, ht, kv⟩ := IH _ inv1
    refine ⟨t, ht, sw (fun x hx => ?_)⟩
    rw [c27] at hx
    subst hx
    exact v_tabIn (off := 906) (q := 939) dL_law_33 (by decide) (by decide) (by decide) (by decide) (law_27 hd hX rs hj1 hj2 hj3 hj4 hj5 e1 e2 kv)
  by_cases c28 : Γ.2.2.2.2.2.2.2 i.toNatClampNeg &&& 63 = (28 : Int32)
  · obtain ⟨r, h1, m1, e1, e2, rs, inv1⟩ := ok.2.2 n 28 h (Γ.2.2.2.2.2.2.2 (i + 1).toNatClampNeg) (Γ.2.2.2.2.2.2.2 (i + 2).toNatClampNeg) (Γ.2.2.2.2.2.2.2 (i + 3).toNatClampNeg) (Γ.2.2.2.2.2.2.2 (i + 4).toNatClampNeg) (Γ.2.2.2.2.2.2.2 (i + 5).toNatClampNeg) (by decide) hn hi
    obtain ⟨t, ht, kv⟩ := IH _ inv1
    refine ⟨t, ht, sw (fun x hx => ?_)⟩
    rw [c28] at hx
    subst hx
    exact v_tabIn (off := 929) (q := 962) dL_law_33 (by decide) (by decide) (by decide) (by decide) (law_28 hd hX rs hj1 hj2 hj3 hj4 hj5 e1 e2 kv)
  by_cases c29 : Γ.2.2.2.2.2.2.2 i.toNatClampNeg &&& 63 = (29 : Int32)
  · obtain ⟨r, h1, m1, e1, e2, rs, inv1⟩ := ok.2.2 n 29 h (Γ.2.2.2.2.2.2.2 (i + 1).toNatClampNeg) (Γ.2.2.2.2.2.2.2 (i + 2).toNatClampNeg) (Γ.2.2.2.2.2.2.2 (i + 3).toNatClampNeg) (Γ.2.2.2.2.2.2.2 (i + 4).toNatClampNeg) (Γ.2.2.2.2.2.2.2 (i + 5).toNatClampNeg) (by decide) hn hi
    obtain ⟨t, ht, kv⟩ := IH _ inv1
    refine ⟨t, ht, sw (fun x hx => ?_)⟩
    rw [c29] at hx
    subst hx
    exact v_tabIn (off := 952) (q := 985) dL_law_33 (by decide) (by decide) (by decide) (by decide) (law_29 hd hX rs hj1 hj2 hj3 hj4 hj5 e1 e2 kv)
  by_cases c30 : Γ.2.2.2.2.2.2.2 i.toNatClampNeg &&& 63 = (30 : Int32)
  · obtain ⟨r, h1, m1, e1, e2, rs, inv1⟩ := ok.2.2 n 30 h (Γ.2.2.2.2.2.2.2 (i + 1).toNatClampNeg) (Γ.2.2.2.2.2.2.2 (i + 2).toNatClampNeg) (Γ.2.2.2.2.2.2.2 (i + 3).toNatClampNeg) (Γ.2.2.2.2.2.2.2 (i + 4).toNatClampNeg) (Γ.2.2.2.2.2.2.2 (i + 5).toNatClampNeg) (by decide) hn hi
    obtain ⟨t, ht, kv⟩ := IH _ inv1
    refine ⟨t, ht, sw (fun x hx => ?_)⟩
    rw [c30] at hx
    subst hx
    exact v_tabIn (off := 985) (q := 1018) dL_law_33 (by decide) (by decide) (by decide) (by decide) (law_30 hd hX rs hj1 hj2 hj3 hj4 hj5 e1 e2 kv)
  by_cases c31 : Γ.2.2.2.2.2.2.2 i.toNatClampNeg &&& 63 = (31 : Int32)
  · obtain ⟨r, h1, m1, e1, e2, rs, inv1⟩ := ok.2.2 n 31 h (Γ.2.2.2.2.2.2.2 (i + 1).toNatClampNeg) (Γ.2.2.2.2.2.2.2 (i + 2).toNatClampNeg) (Γ.2.2.2.2.2.2.2 (i + 3).toNatClampNeg) (Γ.2.2.2.2.2.2.2 (i + 4).toNatClampNeg) (Γ.2.2.2.2.2.2.2 (i + 5).toNatClampNeg) (by decide) hn hi
    obtain ⟨t, ht, kv⟩ := IH _ inv1
    refine ⟨t, ht, sw (fun x hx => ?_)⟩
    rw [c31] at hx
    subst hx
    exact v_tabIn (off := 1028) (q := 1061) dL_law_33 (by decide) (by decide) (by decide) (by decide) (law_31 hd hX rs hj1 hj2 hj3 hj4 hj5 e1 e2 kv)
  by_cases c32 : Γ.2.2.2.2.2.2.2 i.toNatClampNeg &&& 63 = (32 : Int32)
  · obtain ⟨r, h1, m1, e1, e2, rs, inv1⟩ := ok.2.2 n 32 h (Γ.2.2.2.2.2.2.2 (i + 1).toNatClampNeg) (Γ.2.2.2.2.2.2.2 (i + 2).toNatClampNeg) (Γ.2.2.2.2.2.2.2 (i + 3).toNatClampNeg) (Γ.2.2.2.2.2.2.2 (i + 4).toNatClampNeg) (Γ.2.2.2.2.2.2.2 (i + 5).toNatClampNeg) (by decide) hn hi
    obtain ⟨t, ht, kv⟩ := IH _ inv1
    refine ⟨t, ht, sw (fun x hx => ?_)⟩
    rw [c32] at hx
    subst hx
    exact v_tabIn (off := 1061) (q := 1094) dL_law_33 (by decide) (by decide) (by decide) (by decide) (law_32 hd hX rs hj1 hj2 hj3 hj4 hj5 e1 e2 kv)
  by_cases c33 : Γ.2.2.2.2.2.2.2 i.toNatClampNeg &&& 63 = (33 : Int32)
  · obtain ⟨r, h1, m1, e1, e2, rs, inv1⟩ := ok.2.2 n 33 h (Γ.2.2.2.2.2.2.2 (i + 1).toNatClampNeg) (Γ.2.2.2.2.2.2.2 (i + 2).toNatClampNeg) (Γ.2.2.2.2.2.2.2 (i + 3).toNatClampNeg) (Γ.2.2.2.2.2.2.2 (i + 4).toNatClampNeg) (Γ.2.2.2.2.2.2.2 (i + 5).toNatClampNeg) (by decide) hn hi
    obtain ⟨t, ht, kv⟩ := IH _ inv1
    refine ⟨t, ht, sw (fun x hx => ?_)⟩
    rw [c33] at hx
    subst hx
    exact v_tabIn (off := 1084) (q := 1117) dL_law_33 (by decide) (by decide) (by decide) (by decide) (law_33 hd hX rs hj1 hj2 hj3 hj4 hj5 e1 e2 kv)
  by_cases c34 : Γ.2.2.2.2.2.2.2 i.toNatClampNeg &&& 63 = (34 : Int32)
  · obtain ⟨r, h1, m1, e1, e2, rs, inv1⟩ := ok.2.2 n 34 h (Γ.2.2.2.2.2.2.2 (i + 1).toNatClampNeg) (Γ.2.2.2.2.2.2.2 (i + 2).toNatClampNeg) (Γ.2.2.2.2.2.2.2 (i + 3).toNatClampNeg) (Γ.2.2.2.2.2.2.2 (i + 4).toNatClampNeg) (Γ.2.2.2.2.2.2.2 (i + 5).toNatClampNeg) (by decide) hn hi
    obtain ⟨t, ht, kv⟩ := IH _ inv1
    refine ⟨t, ht, sw (fun x hx => ?_)⟩
    rw [c34] at hx
    subst hx
    exact v_tabIn (off := 1107) (q := 1140) dL_law_33 (by decide) (by decide) (by decide) (by decide) (law_34 hd hX rs hj1 hj2 hj3 hj4 hj5 e1 e2 kv)
  obtain ⟨t, ht, kv⟩ := IH h (ok.2.1 n h hi)
  refine ⟨t, ht, sw (fun x hx => ?_)⟩
  rw [hx] at c0
  rw [hx] at c1
  rw [hx] at c2
  rw [hx] at c3
  rw [hx] at c4
  rw [hx] at c5
  rw [hx] at c6
  rw [hx] at c7
  rw [hx] at c8
  rw [hx] at c9
  rw [hx] at c10
  rw [hx] at c11
  rw [hx] at c12
  rw [hx] at c13
  rw [hx] at c14
  rw [hx] at c15
  rw [hx] at c16
  rw [hx] at c17
  rw [hx] at c18
  rw [hx] at c19
  rw [hx] at c20
  rw [hx] at c21
  rw [hx] at c22
  rw [hx] at c23
  rw [hx] at c24
  rw [hx] at c25
  rw [hx] at c26
  rw [hx] at c27
  rw [hx] at c28
  rw [hx] at c29
  rw [hx] at c30
  rw [hx] at c31
  rw [hx] at c32
  rw [hx] at c33
  rw [hx] at c34
  have t0 := lv_neT (a := 0) c0 (by decide)
  have t1 := lv_neT (a := 1) c1 (by decide)
  have t2 := lv_neT (a := 2) c2 (by decide)
  have t3 := lv_neT (a := 3) c3 (by decide)
  have t4 := lv_neT (a := 4) c4 (by decide)
  have t5 := lv_neT (a := 5) c5 (by decide)
  have t6 := lv_neT (a := 6) c6 (by decide)
  have t7 := lv_neT (a := 7) c7 (by decide)
  have t8 := lv_neT (a := 8) c8 (by decide)
  have t9 := lv_neT (a := 9) c9 (by decide)
  have t10 := lv_neT (a := 10) c10 (by decide)
  have t11 := lv_neT (a := 11) c11 (by decide)
  have t12 := lv_neT (a := 12) c12 (by decide)
  have t13 := lv_neT (a := 13) c13 (by decide)
  have t14 := lv_neT (a := 14) c14 (by decide)
  have t15 := lv_neT (a := 15) c15 (by decide)
  have t16 := lv_neT (a := 16) c16 (by decide)
  have t17 := lv_neT (a := 17) c17 (by decide)
  have t18 := lv_neT (a := 18) c18 (by decide)
  have t19 := lv_neT (a := 19) c19 (by decide)
  have t20 := lv_neT (a := 20) c20 (by decide)
  have t21 := lv_neT (a := 21) c21 (by decide)
  have t22 := lv_neT (a := 22) c22 (by decide)
  have t23 := lv_neT (a := 23) c23 (by decide)
  have t24 := lv_neT (a := 24) c24 (by decide)
  have t25 := lv_neT (a := 25) c25 (by decide)
  have t26 := lv_neT (a := 26) c26 (by decide)
  have t27 := lv_neT (a := 27) c27 (by decide)
  have t28 := lv_neT (a := 28) c28 (by decide)
  have t29 := lv_neT (a := 29) c29 (by decide)
  have t30 := lv_neT (a := 30) c30 (by decide)
  have t31 := lv_neT (a := 31) c31 (by decide)
  have t32 := lv_neT (a := 32) c32 (by decide)
  have t33 := lv_neT (a := 33) c33 (by decide)
  have t34 := lv_neT (a := 34) c34 (by decide)
  exact v_tabOut (q := 1163) dL_law_33 (by omega) (by decide) kv
theorem nI_6 : (6 : Int32) = nI 6 := by decide
theorem nI_j (n j : Nat) {v : Int32} (hv : v = nI j) : nI n + v = nI (n + j) := by rw [hv]; exact nI_add n j
set_option maxRecDepth 20000 in
set_option maxHeartbeats 4000000 in
/-- the law's loop -/
theorem law_loop {Γ : Gm} {d : Nat} (hd : 13 ≤ d) {X T : Nat} {Inv : Nat → Hp → Prop} (ok : LawOK X T Inv) (hL : Γ.2.2.2.2.2.2.1 ≤ 3072) : ∀ (f n : Nat) (h : Hp), Inv n h → 513 ≤ n + f → n ≤ 512 → ∃ t : Option Value × Hp, (t.1 = some (.int 1) ∧ ∃ n2, n2 ≤ 512 ∧ Inv n2 t.2) ∧ V Γ d mL 18 [(0, .retAddr 3), (1, .ref X), (2, .ref T), (3, .int (nI (6 * n)))] [] h t := by
  intro f
  induction f with
  | zero => intro n h hi h1 h2; omega
  | succ f ih =>
    intro n h hi h1 h2
    have key : ∀ {t : Option Value × Hp}, (nI Γ.2.2.2.2.2.2.1 - 6 < nI (6 * n) → V Γ d mL 1169 [(0, .retAddr 3), (1, .ref X), (2, .ref T), (3, .int (nI (6 * n)))] [] h t) → (¬ nI Γ.2.2.2.2.2.2.1 - 6 < nI (6 * n) → V Γ d mL 27 [(0, .retAddr 3), (1, .ref X), (2, .ref T), (3, .int (nI (6 * n)))] [] h t) → V Γ d mL 18 [(0, .retAddr 3), (1, .ref X), (2, .ref T), (3, .int (nI (6 * n)))] [] h t := by
      intro t k1 k2
      refine v_iload_n (q := 19) 3 dL_law_18 rfl rfl rfl ?_
      refine v_aload_nX (q := 20) 0 dL_law_19 rfl rfl rfl ?_
      refine v_slen (q := 21) dL_law_20 rfl ?_
      refine v_bipush (v := 6) (q := 23) dL_law_21 (by decide) rfl ?_
      refine v_isub (q := 24) dL_law_23 rfl ?_
      exact v_icmp_gt (q1 := 1169) (q2 := 27) dL_law_24 (by decide) rfl k1 k2
    have cmp : (nI Γ.2.2.2.2.2.2.1 - 6).toInt = (Γ.2.2.2.2.2.2.1 : Int) - 6 := by
      rw [nI_6]
      exact pk_sub_toInt (by omega) (by omega)
    have ci : (nI (6 * n)).toInt = ((6 * n : Nat) : Int) := nI_toInt (by omega)
    by_cases hc : nI Γ.2.2.2.2.2.2.1 - 6 < nI (6 * n)
    · refine ⟨(some (.int 1), h), ⟨rfl, n, h2, hi⟩, key (fun _ => ?_) (fun z => absurd hc z)⟩
      refine v_iconst (v := 1) (q := 1170) dL_law_1169 (by decide) rfl ?_
      exact v_zreturn rfl (Or.inr rfl) dL_law_1170
    · have hle : 6 * n + 6 ≤ Γ.2.2.2.2.2.2.1 := by
        rw [Int32.lt_iff_toInt_lt, cmp, ci] at hc
        omega
      have vj : ∀ (j : Nat) {v : Int32}, j < 6 → v = nI j → vp_in (nI (6 * n) + v) Γ.2.2.2.2.2.2.1 := fun j v hj hv => by
        rw [nI_j _ j hv]
        exact vp_in_nI (by omega) (by omega)
      have hn : n < 512 := by omega
      obtain ⟨t, ht, kv⟩ := law_body hd ok hi hn (i := nI (6 * n)) (vp_in_nI (by omega) (by omega)) (vj 1 (by decide) (by decide)) (vj 2 (by decide) (by decide)) (vj 3 (by decide) (by decide)) (vj 4 (by decide) (by decide)) (vj 5 (by decide) (by decide)) (G := fun t => t.1 = some (.int 1) ∧ ∃ n2, n2 ≤ 512 ∧ Inv n2 t.2) (fun h2 hi2 => by
        obtain ⟨t, ht, kv⟩ := ih (n + 1) h2 hi2 (by omega) (by omega)
        refine ⟨t, ht, ?_⟩
        refine v_iinc (v := nI (6 * (n + 1))) (L' := [(3, .int (nI (6 * (n + 1)))), (0, .retAddr 3), (1, .ref X), (2, .ref T)]) (q := 1166) 3 dL_law_1163 rfl (by rw [show Int32.ofInt 6 = nI 6 by decide, nI_add]; exact congrArg nI (by omega)) (by decide) rfl rfl ?_
        refine v_goto (q := 18) dL_law_1166 (by decide) ?_
        exact V.sub [1, 2, 3, 0] rfl kv)
      exact ⟨t, ht, key (fun z => absurd z hc) (fun _ => kv)⟩

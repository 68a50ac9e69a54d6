/-! the reference's come is addM -/
/-- what a search of the reference leaves alone -/
def RFr (m m' : Mem) : Prop := (∀ o, 0 < o → (o ≤ 22 ∨ 36 ≤ o) → m' o = m o) ∧ ∀ j, j ≠ 46 → j ≠ 47 → j ≠ 52 → m' 0 j = m 0 j
theorem RFr.rfl' {m : Mem} : RFr m m := ⟨fun _ _ _ => rfl, fun _ _ _ _ => rfl⟩
theorem RFr.tr {m m' m'' : Mem} (h : RFr m m') (h' : RFr m' m'') : RFr m m'' := ⟨fun o h1 h2 => by rw [h'.1 o h1 h2, h.1 o h1 h2], fun j h1 h2 h3 => by rw [h'.2 j h1 h2 h3, h.2 j h1 h2 h3]⟩
/-- the reference holds the search -/
def RZ (Pl : PD) (S : Nat → Nat) (X : Nat) (m : Mem) (Z : SS) : Prop := (∃ T, RT m (zN Z) T) ∧ m 0 46 = nI (zN Z) ∧ m 0 47 = (if zO Z = 1 then nI (zN Z - 1) else mI) ∧ (∀ j, j < zN Z → ∃ K, (∀ e, e < 5 → m 27 (5 * j + e) = nI (K e)) ∧ PK Pl X K (zM Z j)) ∧ (0 < zN Z → m 28 0 = mI ∧ m 29 0 = mI ∧ m 30 0 = mI) ∧ (∀ j, 0 < j → j < zN Z → m 28 j = nI (zB Z j / 64) ∧ m 29 j = nI (zB Z j % 64 / 8) ∧ m 30 j = nI (zB Z j % 8) - 1) ∧ (zO Z = 1 → RNGr Pl S X (zM Z (zN Z - 1)) m)
section RCM
variable {Pl : PD} {S : Nat → Nat} {X : Nat} {M : MO} {m m' : Mem} {Z : SS} {k : Nat} {v1 v2 v3 : Int32}
theorem RXc.rf (R : RXc m Pl S X) (h : RFr m m') : RXc m' Pl S X := R.fr (h.2 9 (by decide) (by decide) (by decide)) (h.2 40 (by decide) (by decide) (by decide)) (fun o h1 h2 => h.1 o h1 (by omega))
theorem RNGr.fr (r : RNGr Pl S X M m) (h0 : m' 0 52 = m 0 52) (hs : ∀ o, 32 ≤ o → o ≤ 34 → m' o = m o) : RNGr Pl S X M m' := by
  obtain ⟨⟨u, K, x, u6, ul, w, e, hx⟩, lw⟩ := r
  refine ⟨⟨u, K, x, u6, ul, w, by rw [h0]; exact e, fun i hi => by rw [hs 34 (by decide) (by decide)]; exact hx i hi⟩, fun t ht => ?_⟩
  have := lw t ht
  unfold LW6 at this ⊢
  rw [show 25 + 7 = 32 from rfl, show 25 + 8 = 33 from rfl] at *
  rw [hs 32 (by decide) (by decide), hs 33 (by decide) (by decide)]
  exact this
/-- rows 23 .. 26 and what lies behind the last moment may change -/
theorem RZ.fr (z : RZ Pl S X m Z) (h0 : ∀ j, j = 46 ∨ j = 47 ∨ j = 52 → m' 0 j = m 0 j) (h27 : ∀ x, x < 5 * zN Z → m' 27 x = m 27 x) (hs : ∀ o, 28 ≤ o → o ≤ 34 → m' o = m o) : RZ Pl S X m' Z := by
  obtain ⟨⟨T, t1, t2⟩, z1, z2, z3, z4, z5, z6⟩ := z
  refine ⟨⟨T, ?_, t2.cg fun i hi => ky_eq.mpr fun e he => (h27 _ (by omega)).symm⟩, by rw [h0 46 (by omega)]; exact z1, by rw [h0 47 (by omega)]; exact z2, fun j hj => ?_, ?_, ?_, fun q => (z6 q).fr (h0 52 (by omega)) (fun o o1 o2 => hs o (by omega) (by omega))⟩
  · rw [hs 31 (by decide) (by decide)]; exact t1
  · obtain ⟨K, k1, k2⟩ := z3 j hj
    exact ⟨K, fun e he => by rw [h27 _ (by omega)]; exact k1 e he, k2⟩
  · rw [hs 28 (by decide) (by decide), hs 29 (by decide) (by decide), hs 30 (by decide) (by decide)]; exact z4
  · rw [hs 28 (by decide) (by decide), hs 29 (by decide) (by decide), hs 30 (by decide) (by decide)]; exact z5
theorem r_come (R : RXc m Pl S X) (I : MOK Pl X M) (r : RMo Pl X m M) (z : RZ Pl S X m Z) (hO : zO Z = 3) (hn : zN Z ≤ 4000) (hM : ∀ j, j < zN Z → MOK Pl X (zM Z j)) (hk : (zN Z = 0 ∧ v1 = mI ∧ v2 = mI ∧ v3 = mI) ∨ (0 < zN Z ∧ v1 = nI (k / 64) ∧ v2 = nI (k % 64 / 8) ∧ v3 = nI (k % 8) - 1)) : wp (gX12_come m v1 v2 v3) (fun y => RFr m y.2 ∧ RZ Pl S X y.2 (addM Pl S X Z M k) ∧ y.1 = (if zO (addM Pl S X Z M k) = 2 then 0 else 1)) := by
  have pw := R.2.1
  obtain ⟨⟨T, rt⟩, z1, z2, z3, z4, z5, z6⟩ := id z
  generalize hN : zN Z = n at *
  unfold gX12_come
  rw [wp_bind, z1]
  refine wp_mono (r_pack hn pw I r) ?_
  rintro x1 ⟨K, ⟨w1, w2, w3⟩, pk⟩
  have e46 : x1 0 46 = nI n := by rw [w1 0 (by decide)]; exact z1
  have kyl : ∀ i, i < n → ky m i = ky x1 i := fun i hi => ky_eq.mpr fun e he => (w2 _ (by omega)).symm
  have rt1 : RT x1 n T := ⟨by rw [w1 31 (by decide)]; exact rt.1, rt.2.cg kyl⟩
  have zx : RZ Pl S X x1 Z := z.fr (fun j _ => by rw [w1 0 (by decide)]) (fun x hx => w2 x (by omega)) (fun o _ _ => w1 o (by omega))
  have fx : RFr m x1 := ⟨fun o o1 o2 => w1 o (by omega), fun j _ _ _ => by rw [w1 0 (by decide)]⟩
  rw [wp_bind]
  refine wp_mono (r_hash (v1 := v1) (v2 := v2) (v3 := v3) e46 hn) ?_
  rintro y rfl
  rw [wp_bind, wp_some, rH_is, wp_bind]
  refine wp_mono (r_probe (v1 := v1) (v2 := v2) (v3 := v3) e46 hn rt1) ?_
  rintro y ⟨s, sl, rfl, hc⟩
  have keq : ∀ i, i < n → (ky x1 i = ky x1 n ↔ mEq (zM Z i) M) := by
    intro i hi
    obtain ⟨K', k1, k2⟩ := z3 i hi
    rw [← pk_key (hM i hi) I k2 pk, ky_eq]
    constructor
    · intro h e he
      have := h e he
      rw [w2 _ (by omega), k1 e he, w3 e he, i_eq (k2.lt he) (pk.lt he)] at this
      exact this
    · intro h e he
      rw [w2 _ (by omega), k1 e he, w3 e he, h e he]
  rw [wp_bind, w_rd sl (by decide)]
  rcases hc with ⟨i, i1, i2, i3⟩ | ⟨hall, i2, i3, d, d1, d2, d3⟩
  · rw [i2, wp_f (by rw [nI_lt0 (by omega)]; exact id), wp_some]
    rw [addM_old (by rw [hN]; exact i1) ((keq i i1).mp i3)]
    exact ⟨fx, zx, by rw [hO]; rfl⟩
  · have nw : nwM Z M := ⟨hO, fun ⟨j, j1, j2⟩ => hall j (by rw [← hN]; exact j1) ((keq j (by rw [← hN]; exact j1)).mpr j2)⟩
    rw [i2, wp_t (by rw [m_lt0]; trivial), e46]
    by_cases n4 : n = 4000
    · rw [wp_t (by rw [n4]; rfl), wp_some, addM_full nw (by rw [hN]; exact n4)]
      refine ⟨fx, ?_, rfl⟩
      obtain ⟨y0, y1, y2, y3, y4, y5, _⟩ := zx
      refine ⟨y0, y1, ?_, y3, y4, y5, fun q => absurd (show (2 : Nat) = 1 from q) (by decide)⟩
      show x1 0 47 = _
      rw [y2, hO]; rfl
    · rw [wp_f (by rw [L_4000, i_eq (by omega) (by decide)]; exact n4), wp_bind, w_wr sl (by decide), wp_bind, up_r (by decide), e46, w_wr (by omega) (by decide), wp_bind, up_r (by decide), up_r (by decide), e46, w_wr (by omega) (by decide), wp_bind, up_r (by decide), up_r (by decide), up_r (by decide), e46, w_wr (by omega) (by decide), wp_bind, wp_some, up_r (by decide), up_r (by decide), up_r (by decide), up_r (by decide), e46, L_1, i_add, ← L_1]
      let m2 : Mem := up (up (up (up (up x1 31 s (nI n)) 28 n v1) 29 n v2) 30 n v3) 0 46 (nI (n + 1))
      show wp ((gX12_layRing m2).bind _) _
      have g0 : ∀ o, o ≠ 0 → o ≠ 28 → o ≠ 29 → o ≠ 30 → o ≠ 31 → m2 o = x1 o := fun o o0 o28 o29 o30 o31 => by
        show up (up (up (up (up x1 31 s (nI n)) 28 n v1) 29 n v2) 30 n v3) 0 46 (nI (n + 1)) o = _
        rw [up_r o0, up_r o30, up_r o29, up_r o28, up_r o31]
      have g1 : ∀ j, j ≠ 46 → m2 0 j = x1 0 j := fun j hj => by
        show up (up (up (up (up x1 31 s (nI n)) 28 n v1) 29 n v2) 30 n v3) 0 46 (nI (n + 1)) 0 j = _
        rw [up_ne (by omega), up_r (by decide), up_r (by decide), up_r (by decide), up_r (by decide)]
      have g46 : m2 0 46 = nI (n + 1) := up_at
      have g28 : ∀ j, m2 28 j = if j = n then v1 else x1 28 j := fun j => by
        show up (up (up (up (up x1 31 s (nI n)) 28 n v1) 29 n v2) 30 n v3) 0 46 (nI (n + 1)) 28 j = _
        rw [up_r (by decide), up_r (by decide), up_r (by decide), up_a, up_r (by decide)]
      have g29 : ∀ j, m2 29 j = if j = n then v2 else x1 29 j := fun j => by
        show up (up (up (up (up x1 31 s (nI n)) 28 n v1) 29 n v2) 30 n v3) 0 46 (nI (n + 1)) 29 j = _
        rw [up_r (by decide), up_r (by decide), up_a, up_r (by decide), up_r (by decide)]
      have g30 : ∀ j, m2 30 j = if j = n then v3 else x1 30 j := fun j => by
        show up (up (up (up (up x1 31 s (nI n)) 28 n v1) 29 n v2) 30 n v3) 0 46 (nI (n + 1)) 30 j = _
        rw [up_r (by decide), up_a, up_r (by decide), up_r (by decide), up_r (by decide)]
      have g31 : ∀ j, m2 31 j = if j = s then nI n else x1 31 j := fun j => by
        show up (up (up (up (up x1 31 s (nI n)) 28 n v1) 29 n v2) 30 n v3) 0 46 (nI (n + 1)) 31 j = _
        rw [up_r (by decide), up_r (by decide), up_r (by decide), up_r (by decide), up_a]
      have f2 : RFr m m2 := fx.tr ⟨fun o o1 o2 => g0 o (by omega) (by omega) (by omega) (by omega) (by omega), fun j j1 _ _ => g1 j j1⟩
      have R2 : RXc m2 Pl S X := R.rf f2
      have r2 : RMo Pl X m2 M := r.fr fun o o1 o2 => by rw [g0 o (by omega) (by omega) (by omega) (by omega) (by omega), w1 o (by omega)]
      rw [wp_bind]
      refine wp_mono (r_layRing R2 I r2) ?_
      rintro ⟨y1, y2⟩ ⟨q1, q2, q3⟩
      change ∀ o, o ≠ 0 → o ≠ 32 → o ≠ 33 → o ≠ 34 → o ≠ 35 → y2 o = m2 o at q1
      change ∀ j, j ≠ 52 → y2 0 j = m2 0 j at q2
      have f3 : RFr m y2 := f2.tr ⟨fun o o1 o2 => q1 o (by omega) (by omega) (by omega) (by omega) (by omega), fun j _ _ j3 => q2 j j3⟩
      have y46 : y2 0 46 = nI (n + 1) := by rw [q2 46 (by decide)]; exact g46
      have y47 : y2 0 47 = mI := by rw [q2 47 (by decide), g1 47 (by decide), w1 0 (by decide), z2, hO]; rfl
      -- the parts that both ends share
      have core : ∀ c : Mem, (∀ o, o ≠ 0 → c o = y2 o) → (∃ T, RT c (n + 1) T) ∧ (∀ j, j < n + 1 → ∃ K, (∀ e, e < 5 → c 27 (5 * j + e) = nI (K e)) ∧ PK Pl X K (sbf (zM Z) n M j)) ∧ (0 < n + 1 → c 28 0 = mI ∧ c 29 0 = mI ∧ c 30 0 = mI) ∧ (∀ j, 0 < j → j < n + 1 → c 28 j = nI (sbf (zB Z) n k j / 64) ∧ c 29 j = nI (sbf (zB Z) n k j % 64 / 8) ∧ c 30 j = nI (sbf (zB Z) n k j % 8) - 1) := by
        intro c hc
        have c27 : c 27 = x1 27 := by rw [hc 27 (by decide), q1 27 (by decide) (by decide) (by decide) (by decide) (by decide), g0 27 (by decide) (by decide) (by decide) (by decide) (by decide)]
        have c28 : ∀ j, c 28 j = if j = n then v1 else m 28 j := fun j => by rw [hc 28 (by decide), q1 28 (by decide) (by decide) (by decide) (by decide) (by decide), g28, w1 28 (by decide)]
        have c29 : ∀ j, c 29 j = if j = n then v2 else m 29 j := fun j => by rw [hc 29 (by decide), q1 29 (by decide) (by decide) (by decide) (by decide) (by decide), g29, w1 29 (by decide)]
        have c30 : ∀ j, c 30 j = if j = n then v3 else m 30 j := fun j => by rw [hc 30 (by decide), q1 30 (by decide) (by decide) (by decide) (by decide) (by decide), g30, w1 30 (by decide)]
        have c31 : ∀ j, c 31 j = if j = s then nI n else x1 31 j := fun j => by rw [hc 31 (by decide), q1 31 (by decide) (by decide) (by decide) (by decide) (by decide), g31]
        have kc : ∀ i, ky c i = ky x1 i := fun i => ky_eq.mpr fun e _ => by rw [c27]
        refine ⟨⟨sbf T s (some n), fun s' hs' => ?_, ?_⟩, fun j hj => ?_, fun _ => ?_, fun j j0 hj => ?_⟩
        · rw [c31]
          by_cases y : s' = s
          · rw [if_pos y, y, sbf_at]; exact Or.inr ⟨n, rfl, rfl⟩
          · rw [if_neg y, sbf_ne y]; exact rt1.1 s' hs'
        · have tp := rt1.2.put (by decide) d1 d3 (by rw [← d2]; exact i3)
          rw [← d2] at tp
          refine tp.cg fun i hi => ?_
          rw [kc]
          by_cases y : i = n
          · rw [y, sbf_at]
          · rw [sbf_ne y]
        · by_cases y : j = n
          · rw [y, sbf_at]; exact ⟨K, fun e he => by rw [c27]; exact w3 e he, pk⟩
          · rw [sbf_ne y]
            obtain ⟨K', k1, k2⟩ := z3 j (by omega)
            exact ⟨K', fun e he => by rw [c27, w2 _ (by omega)]; exact k1 e he, k2⟩
        · rw [c28, c29, c30]
          rcases hk with ⟨h0, h1, h2, h3⟩ | ⟨h0, _⟩
          · rw [if_pos h0.symm, if_pos h0.symm, if_pos h0.symm]; exact ⟨h1, h2, h3⟩
          · rw [if_neg (by omega), if_neg (by omega), if_neg (by omega)]; exact z4 h0
        · rw [c28, c29, c30]
          by_cases y : j = n
          · rw [if_pos y, if_pos y, if_pos y, y, sbf_at]
            rcases hk with ⟨h0, _⟩ | ⟨_, h1, h2, h3⟩
            · omega
            · exact ⟨h1, h2, h3⟩
          · rw [if_neg y, if_neg y, if_neg y, sbf_ne y]; exact z5 j j0 (by omega)
      rw [addM_new nw (by rw [hN]; exact n4), hN]
      rcases q3 with ⟨e1, st, rg⟩ | ⟨e1, st⟩
      · change y1 = 1 at e1
        change RNGr Pl S X M y2 at rg
        rw [e1]
        show wp (if (1 : Int32) = 0 then _ else _) _
        rw [wp_f (by decide), wp_bind, wp_some]
        show wp (gjX12_come_195 (up y2 0 47 (y2 0 46 - 1))) _
        unfold gjX12_come_195
        rw [wp_some, y46, show (nI (n + 1) - (1 : Int32)) = nI n from i_sub (a := n + 1) (b := 1) (by omega)]
        rw [ci_t st]
        obtain ⟨p1, p2, p3, p4⟩ := core (up y2 0 47 (nI n)) (fun o ho => by rw [up_r ho])
        refine ⟨f3.tr ⟨fun o o1 _ => by show up y2 0 47 (nI n) o = _; rw [up_r (by omega)], fun j _ j2 _ => by show up y2 0 47 (nI n) 0 j = _; rw [up_ne (by omega)]⟩, ⟨p1, ?_, ?_, p2, p3, p4, fun _ => ?_⟩, rfl⟩
        · show up y2 0 47 (nI n) 0 46 = _
          rw [up_ne (by omega)]; exact y46
        · show up y2 0 47 (nI n) 0 47 = nI (n + 1 - 1)
          rw [up_at, Nat.add_sub_cancel]
        · show RNGr Pl S X (sbf (zM Z) n M (n + 1 - 1)) (up y2 0 47 (nI n))
          rw [Nat.add_sub_cancel, sbf_at]
          exact rg.fr (up_ne (by omega)) (fun o o1 _ => up_r (by omega))
      · change y1 = 0 at e1
        rw [e1]
        show wp (if (0 : Int32) = 0 then _ else _) _
        rw [wp_t rfl]
        show wp (gjX12_come_195 y2) _
        unfold gjX12_come_195
        rw [wp_some, ci_f st]
        obtain ⟨p1, p2, p3, p4⟩ := core y2 (fun o _ => rfl)
        exact ⟨f3, ⟨p1, y46, y47, p2, p3, p4, fun q => absurd (show (3 : Nat) = 1 from q) (by decide)⟩, rfl⟩
end RCM

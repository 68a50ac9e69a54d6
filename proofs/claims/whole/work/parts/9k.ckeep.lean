/-! the class's state of a search against the search told once -/
/-- what a piece of the search leaves alone -/
def FR8 (a : Nat) (h : Hp) (m : Mem) (h' : Hp) (m' : Mem) : Prop := (∃ J, h' = (h.1, h.2.1, J, h.2.2.2) ∧ ∀ o, o ≠ a + 2 → o ≠ a + 3 → J o = h.2.2.1 o) ∧ (∀ o, o < a ∨ a + 11 < o → m' o = m o) ∧ m' (a + 6) = m (a + 6) ∧ ∀ k, k = 8 ∨ k = 9 ∨ k = 14 → m' a k = m a k
/-- the class holds Z -/
def CZ (h : Hp) (m : Mem) (a turn : Nat) (Z : SS) : Prop := ∃ ks T, CT m a turn T ∧ TB 8192 cH (zN Z) ks T ∧ CJ h a (zN Z) ks ∧ m a 0 = nI (zO Z) ∧ m a 1 = nI (zN Z) ∧ (∀ j, j < zN Z → EN (ks j).1 (ks j).2 (zM Z j) ∧ m (a + 4) j = nI (zB Z j)) ∧ (zO Z ≠ 1 → m a 2 = 0 ∧ m a 3 = 0 ∧ m a 4 = 0)
section CK2
variable {h h' h2 : Hp} {m m' m2 : Mem} {a b c turn : Nat} {Pl : PD} {S : Nat → Nat} {X : Nat} {Z : SS} {M : MO} {st ow k : Nat}
theorem FR8.rfl' : FR8 a h m h m := ⟨⟨h.2.2.1, rfl, fun _ _ _ => rfl⟩, fun _ _ => rfl, rfl, fun _ _ => rfl⟩
theorem FR8.tr (x : FR8 a h m h' m') (y : FR8 a h' m' h2 m2) : FR8 a h m h2 m2 := by
  obtain ⟨⟨J, e, j⟩, x2, x3, x4⟩ := x
  obtain ⟨⟨J', e', j'⟩, y2, y3, y4⟩ := y
  subst e
  subst e'
  exact ⟨⟨J', rfl, fun o p q => (j' o p q).trans (j o p q)⟩, fun o ho => (y2 o ho).trans (x2 o ho), y3.trans x3, fun k hk => (y4 k hk).trans (x4 k hk)⟩
theorem FR8.sh (x : FR8 a h m h' m') (s : Sh8 h a) : Sh8 h' a := by
  obtain ⟨⟨J, e, j⟩, _⟩ := x
  subst e
  exact s
theorem FR8.up {o j : Nat} {v : Int32} (h1 : o = a ∧ j ≠ 8 ∧ j ≠ 9 ∧ j ≠ 14 ∨ a < o ∧ o ≤ a + 11 ∧ o ≠ a + 6) : FR8 a h m h (up m o j v) := by
  refine ⟨⟨h.2.2.1, rfl, fun _ _ _ => rfl⟩, fun o' ho => up_r (by omega), up_r (by omega), fun k hk => up_ne (by omega)⟩
theorem CX.fr (C : CX h m a b c Pl S X) (f : FR8 a h m h' m') (hb : b + 4 < a ∨ a + 11 < b) (hc : c < a ∨ a + 11 < c) : CX h' m' a b c Pl S X := by
  obtain ⟨⟨J, e, j⟩, f2, f3, f4⟩ := f
  subst e
  obtain ⟨c1, c2, c3, c4, c5, c6, c7, c8, c9⟩ := C
  refine ⟨c1, ⟨c2.1, ?_, ?_, ?_, fun l hl => ?_, fun p hp => ?_⟩, c3, c4, c5, c6, fun q j hq hj => ?_, fun t ht => ?_, fun t ht => ?_⟩
  · show m' b 0 = _
    rw [f2 b (by omega)]; exact c2.2.1
  · show m' b 1 = _
    rw [f2 b (by omega)]; exact c2.2.2.1
  · show m' b 2 = _
    rw [f2 b (by omega)]; exact c2.2.2.2.1
  · show m' (b + 1) l = _
    rw [f2 (b + 1) (by omega)]; exact c2.2.2.2.2.1 l hl
  · show m' (b + 2) p = _ ∧ m' (b + 3) p = _
    rw [f2 (b + 2) (by omega), f2 (b + 3) (by omega)]; exact c2.2.2.2.2.2 p hp
  · rw [f2 c hc]; exact c7 q j hq hj
  · rw [f4 8 (by omega)]; exact c8 t ht
  · rw [f4 9 (by omega)]; exact c9 t ht
/-- what keeping gives, in terms of the search -/
theorem k_keep (s : Sh8 h a) (z : CZ h m a turn Z) (hO : zO Z = 3) (hn : zN Z ≤ 4000) (E : EN st ow M) : wp (fX8_keep (wI h m) a (lN st) (lN ow) (nI k)) (fun r => ∃ h' m', r.2 = wI h' m' ∧ FR8 a h m h' m' ∧ ((r.1 = 0 ∧ zO (addM Pl S X Z M k) ≠ 1 ∧ CZ h' m' a turn (addM Pl S X Z M k)) ∨ (r.1 = 1 ∧ nwM Z M ∧ zN Z ≠ 4000 ∧ CZ h' m' a turn (3, zN Z + 1, sbf (zM Z) (zN Z) M, sbf (zB Z) (zN Z) k)))) := by
  obtain ⟨ks, T, ct, tb, cj, e0, e1, em, er⟩ := z
  refine wp_mono (c_keep (k := k) s ct tb hn e1 cj E.s64 E.o64) (fun r hr => ?_)
  have nw : (∀ j, j < zN Z → ks j ≠ (st, ow)) → nwM Z M := fun hj => ⟨hO, fun ⟨j, j1, j2⟩ => hj j j1 (by
    have := (en_inj (em j j1).1 E).mpr j2
    exact Prod.ext this.1 this.2)⟩
  rcases hr with ⟨rfl, j, j1, j2⟩ | ⟨rfl, n4, hj⟩ | ⟨n4, hj, d, d1, d2, d3, rfl⟩
  · refine ⟨h, m, rfl, FR8.rfl', Or.inl ⟨rfl, ?_⟩⟩
    rw [addM_old j1 ((en_inj (em j j1).1 E).mp (by rw [j2]; exact ⟨rfl, rfl⟩))]
    exact ⟨by omega, ks, T, ct, tb, cj, e0, e1, em, er⟩
  · refine ⟨h, _, rfl, FR8.up (by omega), Or.inl ⟨rfl, ?_⟩⟩
    rw [addM_full (nw hj) n4]
    refine ⟨by show (2 : Nat) ≠ 1; decide, ks, T, ⟨by rw [up_ne (by omega)]; exact ct.1, ct.2.1, fun s' hs' => ?_⟩, tb, cj, up_at, ?_, fun j hj => ?_, fun _ => ?_⟩
    · rw [up_r (by omega)]; exact ct.2.2 s' hs'
    · rw [up_ne (by omega)]; exact e1
    · rw [up_r (by omega)]; exact em j hj
    · rw [up_ne (by omega), up_ne (by omega), up_ne (by omega)]; exact er (by omega)
  · have fr : FR8 a h m (sJ (sJ h (a + 2) (zN Z) (lN st)) (a + 3) (zN Z) (lN ow)) (up (up (up m (a + 4) (zN Z) (nI k)) (a + 5) ((cH (st, ow) + d) % 8192) (nI (turn * 8192 + zN Z))) a 1 (nI (zN Z + 1))) := by
      refine FR8.tr (h' := sJ (sJ h (a + 2) (zN Z) (lN st)) (a + 3) (zN Z) (lN ow)) (m' := m) ⟨⟨_, rfl, fun o p q => ?_⟩, fun _ _ => rfl, rfl, fun _ _ => rfl⟩ ((FR8.up (by omega)).tr ((FR8.up (by omega)).tr (FR8.up (by omega))))
      funext j
      show (if o = a + 3 ∧ j = zN Z then _ else if o = a + 2 ∧ j = zN Z then _ else h.2.2.1 o j) = _
      rw [if_neg (fun z => q z.1), if_neg (fun z => p z.1)]
    refine ⟨_, _, rfl, fr, Or.inr ⟨rfl, nw hj, n4, sbf ks (zN Z) (st, ow), sbf T ((cH (st, ow) + d) % 8192) (some (zN Z)), ⟨?_, ct.2.1, fun s' hs' => ?_⟩, tb.put (by decide) d1 d3 d2, fun j hj' => ?_, ?_, up_at, fun j hj' => ?_, fun _ => ?_⟩⟩
    · rw [up_ne (by omega), up_r (by omega), up_r (by omega)]; exact ct.1
    · rw [up_r (by omega), up_a]
      by_cases z : s' = (cH (st, ow) + d) % 8192
      · rw [if_pos z, z, sbf_at]
        have t18 := ct.2.1
        refine ⟨turn * 8192 + zN Z, rfl, by omega, by omega, ?_⟩
        rw [if_pos (by omega)]
        congr 1
        omega
      · rw [if_neg z, up_r (by omega), sbf_ne z]; exact ct.2.2 s' hs'
    · have hj2 : j < zN Z + 1 := hj'
      by_cases z : j = zN Z
      · rw [z, sbf_at]
        refine ⟨?_, hJ_at, E.s64, E.o64⟩
        rw [hJ_ne (Or.inl (by omega))]; exact hJ_at
      · rw [sbf_ne z]
        have := cj j (by omega)
        refine ⟨?_, ?_, this.2.2⟩
        · rw [hJ_ne (Or.inl (by omega)), hJ_ne (Or.inr z)]; exact this.1
        · rw [hJ_ne (Or.inr z), hJ_ne (Or.inl (by omega))]; exact this.2.1
    · rw [up_ne (by omega), up_r (by omega), up_r (by omega), e0, hO]; rfl
    · have hj2 : j < zN Z + 1 := hj'
      show EN (sbf ks (zN Z) (st, ow) j).1 (sbf ks (zN Z) (st, ow) j).2 (sbf (zM Z) (zN Z) M j) ∧ _ = nI (sbf (zB Z) (zN Z) k j)
      rw [up_r (by omega), up_r (by omega), up_a]
      by_cases z : j = zN Z
      · rw [z, sbf_at, sbf_at, sbf_at, if_pos rfl]; exact ⟨E, rfl⟩
      · rw [sbf_ne z, sbf_ne z, sbf_ne z, if_neg z]; exact em j (by omega)
    · obtain ⟨r2, r3, r4⟩ := er (by omega)
      refine ⟨?_, ?_, ?_⟩
      · rw [up_ne (by omega), up_r (by omega), up_r (by omega)]; exact r2
      · rw [up_ne (by omega), up_r (by omega), up_r (by omega)]; exact r3
      · rw [up_ne (by omega), up_r (by omega), up_r (by omega)]; exact r4
end CK2

/-- THE CLAIM OUT OF PLAIN FUNCTIONS: what is left is the constructor of LockWatch (c1), the reference's (c2), and an invariant that every call keeps with like answers and that bounds the room -/
theorem whole_open {h1 h2 : Hp} (c1 : ∀ Γ : Gm, V Γ 4 mX11_init 0 [(0, .ref 0)] [] (nw hE0 (.inl 11)) (none, h1)) (c2 : fX12_init (nw h1 (.inl 12)) (hN h1) = some h2) {Inv : Nat → Hp → Prop} (ok : LawOK 0 (hN h1) Inv) (hi : Inv 0 h2) (cap : ∀ n h, n ≤ 512 → Inv n h → hN h ≤ 600000 ∧ hZ h ≤ 7302250)
    {p : Program} {e : Env} {s : State} {m : MethodId} {below : List Frame} {meth : Method} {c : Code} (l : Launch) {b L : Nat} {xs : Nat → Int32} (hL : L ≤ 3072) (C0 : lw_At p s m meth c b L xs) : W p l e room_1 s m #[Value.ref b] below meth c s.heap [] 0 0 (lw_Z below #[Value.ref b] s) (entryFrame m ([Value.ref b] : List Value).toArray 4) := by
  obtain ⟨Γ, g1, g2, g3, g4, g5, hE⟩ := en_of l C0
  obtain ⟨hf, n2, hn2, hi2, hV⟩ := law_V (Γ := Γ) (d := 13) (d1 := 4) (Nat.le_refl _) (by decide) (by rw [g4]; exact hL) (c1 Γ) c2 ok hi
  exact law_W C0 g1 g2 g3 hE (by decide) (cap n2 hf hn2 hi2).1 (cap n2 hf hn2 hi2).2 hV

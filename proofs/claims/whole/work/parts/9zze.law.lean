/-! what holds between the calls -/
def CB (n : Nat) (g : GS) : Prop := ∃ s r, s + r ≤ n ∧ (∀ i, i ≤ sL g → bndA (sP g) (sH g i) s r) ∧ ∀ k B, sX g k = some B → bndA (sP g) B s r
section LAW
variable {h : Hp} {m : Mem} {g : GS} {own own' : Nat → Nat} {ad : Nat → Option Nat} {n : Nat}
theorem cb_k (cb : CB n g) (ok : okG g) (hn : n < 512) : aK (sH g (sA g)) + 12 ≤ 4000 := by
  obtain ⟨s, r, h1, h2, _⟩ := cb
  obtain ⟨a1, a2⟩ := h2 (sA g) ok.2.2.1
  omega
theorem cb_up (cb : CB n g) : CB (n + 1) g := by
  obtain ⟨s, r, h1, h2⟩ := cb
  exact ⟨s, r, by omega, h2⟩
theorem cb_act {A : LA} (ok : okG g) {s r s' r' : Nat} (h2 : ∀ i, i ≤ sL g → bndA (sP g) (sH g i) s r) (h3 : ∀ k B, sX g k = some B → bndA (sP g) B s r) (hs : s ≤ s') (hr : r ≤ r') (hn : s' + r' ≤ n) (hA : bndA (sP g) A s' r') : CB n (actG g A) := by
  have o2 := ok.2.2.1
  have o3 := ok.2.2.2.1
  refine ⟨s', r', hn, fun i hi => ?_, fun k B hB => bnd_up (h3 k B hB) hs hr⟩
  change i ≤ a0 g + 1 at hi
  show bndA (sP g) (sbf (h0 g) (a0 g + 1) A i) s' r'
  by_cases z : i = a0 g + 1
  · rw [z, sbf_at]; exact hA
  · rw [sbf_ne z]
    unfold h0
    unfold a0 at hi z
    by_cases y : sA g = 12
    · rw [if_pos y] at hi z ⊢
      exact bnd_up (h2 (i + 1) (by omega)) hs hr
    · rw [if_neg y] at hi z ⊢
      exact bnd_up (h2 i (by omega)) hs hr
theorem pst_same {m1 : Mem} (I : IC h g own ad) (F : FI h own (sP g)) (J : IR m1 g) (ok : okG g) : PST h h m1 g := ⟨J, ok, ⟨own, ad, I, F⟩, by omega, by omega, fun _ _ _ _ => rfl⟩
theorem aft_pst {h1 : Hp} {m1 : Mem} {g' : GS} (F : FI h own (sP g)) (A : AFT h h1 m1 own g') (hp : sP g' = sP g) : PST h h1 m1 g' := by
  obtain ⟨J, ok, own', ad', I, ⟨nf1, nf2, nf3, nf4, nf5⟩, oe, _, z1, z2⟩ := A
  have e : sd h1 = sd h ∧ sz h1 = sz h := by
    unfold sd sz
    rw [nf4]; exact ⟨rfl, rfl⟩
  refine ⟨J, ok, ⟨own', ad', I, ?_⟩, by rw [e.1]; omega, by rw [e.2]; omega, fun a j h1 h2 => nf3 a (by omega) h2 j⟩
  rw [hp]
  exact fi_k F nf1 nf2 nf3 nf4 oe
theorem law_op (I : IC h g own ad) (F : FI h own (sP g)) (J : IR m g) (ok : okG g) (cb : CB n g) (hn : n < 512) (a b c d e : Int32) : ∀ k, k < 35 → ∃ r h1 m1, opC k 0 h a b c d e = some (r, h1) ∧ opR k m a b c d e = some (r, m1) ∧ ∃ g', CB (n + 1) g' ∧ PST h h1 m1 g' := by
  have hA := cb_k cb ok hn
  have up := cb_up cb
  have rdo : ∀ {k : Nat} {fc gr : Option Int32}, opC k 0 h a b c d e = fc.bind (fun r => some (r, h)) → opR k m a b c d e = gr.bind (fun r => some (r, m)) → (∃ r, fc = some r ∧ gr = some r) → ∃ r h1 m1, opC k 0 h a b c d e = some (r, h1) ∧ opR k m a b c d e = some (r, m1) ∧ ∃ g', CB (n + 1) g' ∧ PST h h1 m1 g' := fun {k fc gr} e1 e2 ⟨r, q1, q2⟩ => ⟨r, h, m, by rw [e1, q1]; rfl, by rw [e2, q2]; rfl, g, up, pst_same I F J ok⟩
  have rdm : ∀ {k : Nat} {fc : Option Int32}, opC k 0 h a b c d e = fc.bind (fun r => some (r, h)) → (∃ r m1, fc = some r ∧ opR k m a b c d e = some (r, m1) ∧ IR m1 g) → ∃ r h1 m1, opC k 0 h a b c d e = some (r, h1) ∧ opR k m a b c d e = some (r, m1) ∧ ∃ g', CB (n + 1) g' ∧ PST h h1 m1 g' := fun {k fc} e1 ⟨r, m1, q1, q2, q3⟩ => ⟨r, h, m1, by rw [e1, q1]; rfl, q2, g, up, pst_same I F q3 ok⟩
  have ask : ∀ {k : Nat}, (∃ r h1 m1, opC k 0 h a b c d e = some (r, h1) ∧ opR k m a b c d e = some (r, m1) ∧ ASK h h1 m1 own g) → ∃ r h1 m1, opC k 0 h a b c d e = some (r, h1) ∧ opR k m a b c d e = some (r, m1) ∧ ∃ g', CB (n + 1) g' ∧ PST h h1 m1 g' := fun {k} ⟨r, h1, m1, q1, q2, q3⟩ => ⟨r, h1, m1, q1, q2, g, up, ask_pst I ok q3⟩
  have aft : ∀ {k : Nat}, (∃ r h1 m1, opC k 0 h a b c d e = some (r, h1) ∧ opR k m a b c d e = some (r, m1) ∧ AFT h h1 m1 own g) → ∃ r h1 m1, opC k 0 h a b c d e = some (r, h1) ∧ opR k m a b c d e = some (r, m1) ∧ ∃ g', CB (n + 1) g' ∧ PST h h1 m1 g' := fun {k} ⟨r, h1, m1, q1, q2, q3⟩ => ⟨r, h1, m1, q1, q2, g, up, aft_pst F q3 rfl⟩
  have pst : ∀ {k : Nat}, (∃ r h1 m1, opC k 0 h a b c d e = some (r, h1) ∧ opR k m a b c d e = some (r, m1) ∧ PST h h1 m1 g) → ∃ r h1 m1, opC k 0 h a b c d e = some (r, h1) ∧ opR k m a b c d e = some (r, m1) ∧ ∃ g', CB (n + 1) g' ∧ PST h h1 m1 g' := fun {k} ⟨r, h1, m1, q1, q2, q3⟩ => ⟨r, h1, m1, q1, q2, g, up, q3⟩
  obtain ⟨s, r0, hsr, b2, b3⟩ := id cb
  have pw := ok.2.1
  intro k hk
  match k, hk with
  | 0, _ =>
    obtain ⟨r, h1, m1, q1, q2, g', q3, q4⟩ := o_feed I J ok a b c d e
    rcases q4 with rfl | ⟨n', B, _, rfl⟩
    · exact ⟨r, h1, m1, q1, q2, _, up, aft_pst F q3 rfl⟩
    · exact ⟨r, h1, m1, q1, q2, tpG g n' B, up, aft_pst F q3 rfl⟩
  | 1, _ =>
    obtain ⟨r, h1, m1, q1, q2, g', q3, q4⟩ := o_end I J ok a
    rcases q4 with rfl | ⟨n', B, _, rfl⟩
    · exact ⟨r, h1, m1, q1, q2, _, up, aft_pst F q3 rfl⟩
    · exact ⟨r, h1, m1, q1, q2, tpG g n' B, up, aft_pst F q3 rfl⟩
  | 2, _ =>
    obtain ⟨r, h1, m1, q1, q2, q3⟩ := o_store I J ok
    rcases q3 with ⟨e', q3⟩ | ⟨q, qw, J1, ok1, ad', I1, x1, k1, i1, z1, r8, n1, zz1⟩
    · exact ⟨r, h1, m1, q1, q2, fltG g e', up, aft_pst F q3 rfl⟩
    · have e : sd h1 = sd h ∧ sz h1 = sz h := by
        unfold sd sz
        rw [r8]; exact ⟨rfl, rfl⟩
      refine ⟨r, h1, m1, q1, q2, strG g q, ⟨0, 0, by omega, fun i _ => bnd_no ok1.2.1, fun k B hB => by cases hB⟩, J1, ok1, ⟨own, ad', I1, fi_0 F x1 k1 z1 r8 (fun _ _ q => q)⟩, by rw [e.1]; omega, by rw [e.2]; omega, fun a j h1 h2 => i1 a (by omega) h2 j (by omega)⟩
  | 3, _ => exact rdo rfl rfl (o_fault I J ok a)
  | 4, _ =>
    obtain ⟨r, h1, m1, q1, q2, g', q3, q4⟩ := o_runs I J ok hA a
    rcases q4 with ⟨_, rfl⟩ | ⟨p, hp, _, rfl⟩
    · exact ⟨r, h1, m1, q1, q2, _, up, aft_pst F q3 rfl⟩
    · exact ⟨r, h1, m1, q1, q2, _, cb_act ok b2 b3 (Nat.le_refl s) (Nat.le_succ r0) (by omega) (bnd_run pw hp (b2 _ ok.2.2.1)), aft_pst F q3 rfl⟩
  | 5, _ =>
    obtain ⟨r, h1, m1, q1, q2, q3⟩ := o_forget I J ok
    exact ⟨r, h1, m1, q1, q2, _, cb_act ok b2 b3 (Nat.le_refl s) (Nat.le_refl r0) (by omega) (bnd_no pw), aft_pst F q3 rfl⟩
  | 6, _ =>
    obtain ⟨r, h1, m1, q1, q2, g', q3, q4⟩ := o_swap I J ok a b
    rcases q4 with ⟨_, rfl⟩ | ⟨p, t, hp, ht, _, _, rfl⟩
    · exact ⟨r, h1, m1, q1, q2, _, up, aft_pst F q3 rfl⟩
    · exact ⟨r, h1, m1, q1, q2, _, cb_act ok b2 b3 (Nat.le_succ s) (Nat.le_refl r0) (by omega) (bnd_sw pw ht hp (b2 _ ok.2.2.1)), aft_pst F q3 rfl⟩
  | 7, _ =>
    obtain ⟨r, h1, m1, q1, q2, g', q3, q4⟩ := o_undo I J ok
    rcases q4 with ⟨_, rfl⟩ | ⟨_, rfl⟩
    · exact ⟨r, h1, m1, q1, q2, _, up, aft_pst F q3 rfl⟩
    · exact ⟨r, h1, m1, q1, q2, setA g (sA g - 1), up, aft_pst F q3 rfl⟩
  | 8, _ =>
    obtain ⟨r, h1, m1, q1, q2, g', q3, q4⟩ := o_redo I J ok
    rcases q4 with ⟨_, rfl⟩ | ⟨_, rfl⟩
    · exact ⟨r, h1, m1, q1, q2, _, up, aft_pst F q3 rfl⟩
    · exact ⟨r, h1, m1, q1, q2, setA g (sA g + 1), up, aft_pst F q3 rfl⟩
  | 9, _ => exact rdo rfl rfl (o_lock I J ok a)
  | 10, _ => exact rdo rfl rfl (o_program I J ok a b)
  | 11, _ => exact rdo rfl rfl (o_step I J ok a b c)
  | 12, _ => exact rdo rfl rfl (o_edge I J ok a b c)
  | 13, _ => exact rdo rfl rfl (o_uses I J ok a)
  | 14, _ =>
    obtain ⟨r, h1, m1, q1, q2, ⟨I1, ⟨nf1, nf2, nf3, nf4, nf5⟩, z1, z2⟩, J1⟩ := o_way I J ok a b c
    have e : sd h1 = sd h ∧ sz h1 = sz h := by
      unfold sd sz
      rw [nf4]; exact ⟨rfl, rfl⟩
    exact ⟨r, h1, m1, q1, q2, g, up, J1, ok, ⟨own, ad, I1, fi_k F nf1 nf2 nf3 nf4 (fun _ _ q => q)⟩, by rw [e.1]; omega, by rw [e.2]; omega, fun a j h1 h2 => nf3 a (by omega) h2 j⟩
  | 15, _ => exact rdm rfl (o_reaches I J ok a)
  | 16, _ => exact rdo rfl rfl (o_report I J ok a b)
  | 17, _ => exact rdo rfl rfl (o_chain I J ok a b)
  | 18, _ =>
    obtain ⟨r, h1, m1, q1, q2, ⟨own', I1, ⟨nf1, nf2, nf3, nf4, nf5⟩, oe, _, z1, z2⟩, J1⟩ := o_would I J ok hA a b
    have e : sd h1 = sd h ∧ sz h1 = sz h := by
      unfold sd sz
      rw [nf4]; exact ⟨rfl, rfl⟩
    exact ⟨r, h1, m1, q1, q2, g, up, J1, ok, ⟨own', ad, I1, fi_k F nf1 nf2 nf3 nf4 (fun a ha q => by rw [oe a ha]; exact q)⟩, by rw [e.1]; omega, by rw [e.2]; omega, fun a j h1 h2 => nf3 a (by omega) h2 j⟩
  | 19, _ => exact aft (o_mends I J ok a)
  | 20, _ => exact rdm rfl (o_order I J ok a)
  | 21, _ => exact aft (o_all I J ok a)
  | 22, _ => exact ask (stuck_both I F J ok a)
  | 23, _ => exact ask (o_move I F J ok a b c)
  | 24, _ => exact ask (o_clash I F J ok a b)
  | 25, _ => exact ask (o_least I F J ok)
  | 26, _ => exact pst (o_missed I F J ok)
  | 27, _ => exact ask (o_proves I F J ok a)
  | 28, _ => exact aft (o_bestSwap I J ok a)
  | 29, _ => exact pst (o_eased I F J ok a b)
  | 30, _ =>
    obtain ⟨r, h1, q1, q2, q3⟩ := o_spell I J ok hA a b c
    exact ⟨r, h1, m, q1, by show (gX12_spell m a b c).bind _ = _; rw [q2]; rfl, g, up, aft_pst F q3 rfl⟩
  | 31, _ => exact aft (o_depth I J ok hA a b)
  | 32, _ =>
    obtain ⟨r, h1, m1, q1, q2, g', q3, q4⟩ := o_image I J ok a
    rcases q4 with ⟨_, rfl⟩ | ⟨k, _, _, rfl⟩
    · exact ⟨r, h1, m1, q1, q2, _, up, aft_pst F q3 rfl⟩
    · refine ⟨r, h1, m1, q1, q2, imgG g k, ⟨s, r0, by omega, b2, fun k' B hB => ?_⟩, aft_pst F q3 rfl⟩
      change sbf (sX g) k (some (sH g (sA g))) k' = some B at hB
      by_cases z : k' = k
      · rw [z, sbf_at] at hB
        cases hB
        exact b2 _ ok.2.2.1
      · rw [sbf_ne z] at hB
        exact b3 k' B hB
  | 33, _ =>
    obtain ⟨r, h1, m1, q1, q2, g', q3, q4⟩ := o_back I J ok a
    rcases q4 with rfl | ⟨k, B, _, _, hB, rfl⟩
    · exact ⟨r, h1, m1, q1, q2, _, up, aft_pst F q3 rfl⟩
    · exact ⟨r, h1, m1, q1, q2, bckG g B, ⟨s, r0, by omega, fun i _ => b3 k B hB, b3⟩, aft_pst F q3 rfl⟩
  | 34, _ => exact rdo rfl rfl (o_about I J ok a)
  | k + 35, hk => omega
/-- the invariant -/
def InvW (n : Nat) (h : Hp) : Prop := ∃ g own ad, IC h g own ad ∧ FI h own (sP g) ∧ IR (mOf 81 h) g ∧ okG g ∧ CB n g ∧ hN h + sd h ≤ 200 + 20 * n ∧ hZ h + sz h ≤ 2000000 + 10200 * n
theorem fi_hm {Pl : PD} (o : OWN own (hN h)) (f : FI h own Pl) (m : Mem) : FI (hm 81 h m) own Pl := by
  obtain ⟨s, f⟩ := f
  have k : ∀ a, 120 ≤ a → ∀ j, hI (hm 81 h m) a j = hI h a j := fun a ha j => hm_I (by omega)
  have i : ∀ a, 74 ≤ a → a ≤ 80 → ∀ j, hI (hm 81 h m) a j = hI h a j := fun a h1 h2 j => hm_I (by omega)
  have s' : SDS (hm 81 h m) own := by
    rcases s with s | ⟨a, turn, s1, s2, s3, s4, s5⟩
    · exact Or.inl s
    · refine Or.inr ⟨a, turn, s1, s2, s3, s4.x (hm_X h m), by rw [k a s2]; exact s5.1, s5.2.1, fun t ht => ?_⟩
      rw [k (a + 5) (by omega)]; exact s5.2.2 t ht
  refine ⟨s', ?_⟩
  rcases f with f | ⟨T, t1, _, f1, f2, f3, f4⟩
  · exact Or.inl (by rw [i 74 (by decide) (by decide)]; exact f)
  · refine Or.inr ⟨T, t1, s', by rw [i 74 (by decide) (by decide)]; exact f1, fun j hj => by rw [i 80 (by decide) (by decide)]; exact f2 j hj, fun X hX => ?_, fun X hX hl => ?_⟩
    · rw [i 79 (by decide) (by decide), i 75 (by decide) (by decide), i 76 (by decide) (by decide), i 77 (by decide) (by decide), i 78 (by decide) (by decide)]
      exact f3 X hX
    · rw [i 74 (by decide) (by decide)] at hl
      obtain ⟨a, a1, a2⟩ := f4 X hX hl
      rcases s with s | ⟨b, turn, s1, s2, s3, s4, s5⟩
      · rw [s] at a1; cases a1
      · rw [a1] at s1
        cases s1
        exact ⟨a, a1, csp_k a2 (k a (by omega)) (k (a + 1) (by omega))⟩
theorem mo_hm {m1 : Mem} {o : Nat} (ho : o < 39) : mOf 81 (hm 81 h m1) o = m1 o := by
  funext j
  show (if 81 ≤ 81 + o ∧ 81 + o < 81 + 39 then m1 (81 + o - 81) j else _) = _
  rw [if_pos (by omega), show 81 + o - 81 = o by omega]
theorem law_ok : LawOK 0 81 InvW := by
  refine ⟨fun n h ⟨g, own, ad, I, _⟩ => ⟨by have := I.1.1; omega, I.1.2.1⟩, fun n h ⟨g, own, ad, I, F, J, ok, cb, z1, z2⟩ => ⟨g, own, ad, I, F, J, ok, cb_up cb, by omega, by omega⟩, ?_⟩
  rintro n k h a b c e f hk hn ⟨g, own, ad, I, F, J, ok, cb, z1, z2⟩
  obtain ⟨r, h1, m1, e1, e2, g1, cb1, ps⟩ := law_op I F J ok cb hn a b c e f k hk
  have mo : ∀ o, o < 39 → mOf 81 h1 o = mOf 81 h o := fun o ho => funext fun j => ps.2.2.2.2.2 (81 + o) j (by omega) (by omega)
  have J' : IR (mOf 81 h1) g := J.go (fun o ho => mo o (by omega)) (fun j _ => by rw [mo 0 (by decide)])
  obtain ⟨r', h1', m1', e1', e2', g', cb', J1, ok1, ⟨own', ad', I1, F1⟩, y1, y2, _⟩ := law_op I F J' ok cb hn a b c e f k hk
  rw [e1] at e1'
  cases e1'
  refine ⟨r, h1, m1', e1, e2', I1.1.rs, g', own', ad', I1.mem ok1.2.2.2.1 m1', fi_hm I1.2.1 F1 m1', J1.go (fun o ho => mo_hm (by omega)) (fun j _ => by rw [mo_hm (by decide)]), ok1, cb', ?_, ?_⟩
  · show hN h1 + sd h1 ≤ _; omega
  · have y2' : hZ h1 + sz h1 ≤ hZ h + sz h + 10200 := y2
    show hZ h1 + sz h1 ≤ 2000000 + 10200 * (n + 1)
    refine Nat.le_trans y2' ?_
    rw [Nat.mul_add, ← Nat.add_assoc]
    exact Nat.add_le_add_right z2 10200
theorem law_cap : ∀ n h, n ≤ 512 → InvW n h → hN h ≤ 600000 ∧ hZ h ≤ 7302250 := fun n h hn ⟨g, own, ad, _, _, _, _, _, z1, z2⟩ => ⟨by omega, by omega⟩
end LAW

/-! ===== items on the model's side; the text ===== -/
section T6
variable {S : Sx} {D : Int} {mem M : Zm} {L : Nat} {T : Nat → Int} {A A0 : Nat → Int}
theorem Ms.set {p : Nat} {B : Nat → Int} (h : Ms L T M A p) : Ms L T (setR M 35 B) B p := by
  obtain ⟨⟨b1, b2⟩, _⟩ := h
  refine ⟨⟨⟨?_, fun i hi => ?_⟩, ?_⟩, setR_at _ _ _⟩
  · rw [setR_ne _ _ (by omega)]; exact b1.1
  · rw [setR_ne _ _ (by omega)]; exact b1.2 i hi
  · rw [setR_ne _ _ (by omega)]; exact b2
theorem FM.set {B : Nat → Int} : FM M (setR M 35 B) := ⟨fun o _ y => setR_ne _ _ y, fun s _ => by rw [setR_ne _ _ (by omega)]⟩
theorem Ms.f17 {p : Nat} (h : Ms L T M A p) : Ms L T (mup M 34 17 (p : Int)) A p ∧ FM M (mup M 34 17 (p : Int)) ∧ mup M 34 17 (p : Int) 34 17 = (p : Int) := by
  obtain ⟨⟨h1, h2, h3, h4, h6⟩, h5⟩ := h
  exact ⟨⟨⟨h1.up (by omega), by rw [mup_ne (by omega)]; exact h2, by rw [mup_ne (by omega)]; exact h3, by rw [mup_ne (by omega)]; exact h4, fun z => by rw [mup_ne (by omega)]; exact h6 z⟩, by rw [mup_other 35 (by omega)]; exact h5⟩, ⟨fun o x y => mup_other o x, fun s x => mup_ne (by omega)⟩, mup_at _ _ _ _⟩
theorem ms_child (hT : okT L T) {p : Nat} (hp : p ≤ L) (hA : KA A0 A) (h : Ms L T M A p) {k : Int} (hk : 0 ≤ k ∧ k ≤ 6) : MO S L T mX4_childHere [Aq 34, Iq k] M (chS L T A p k) := by
  have h0 := hA.1.1
  have hn := hA.1.n
  have e0 : M 35 0 = A 0 := by rw [h.2]
  have e14 : M 34 14 = (p : Int) := h.1.2.2.1
  have n1 := nx_in hT hp
  unfold MO chS
  by_cases c8 : A 0 = 8
  · rw [if_pos c8]
    obtain ⟨g1, g2, g3⟩ := h.f17
    exact ⟨mup M 34 17 (p : Int), ct1Z rfl (bI_in _) (by decide) (Nat.le_of_ble_eq_true rfl) (rg_X4_childHere_0 ⟨fun _ => ⟨rfl, by rw [e14]⟩, fun z => by omega⟩), g1, g2, fun _ => g3⟩
  · rw [if_neg c8]
    obtain ⟨k1, k2⟩ := ka_add (A0 := A0) hA (by omega) (k := k) hk
    have ea : setR M 35 (addA (M 35) k 0) = setR M 35 (addA A k 0) := by rw [h.2]
    have ec : setR M 35 (addA A k 0) 35 0 - 1 = ((nA A : Nat) : Int) := by rw [setR_at, k2]; omega
    obtain ⟨m2, b1, b2, b3⟩ := ms_next (S := S) hT hp (h.set (B := addA A k 0))
    have g1 := ph_ok (T := T) hT n1.2 k1 (c := decide (w5 L T (nx L T p) 107 110 111 119 115)) (i := 12 + 14 * nA A + 1) (lo := 0) (hi := 255) (by omega) (by omega) (by omega) (fun v a b => rng1 (by omega) ⟨a, b⟩)
    have v1 := ms_five (S := S) hT n1.2 b2 (a := 107) (b := 110) (c := 111) (d := 119) (e := 115)
    rw [bId] at v1
    obtain ⟨m3, c1, c2, c3, c4⟩ := ms_perh (S := S) hT n1.2 b2 (i := 12 + 14 * nA A + 1) (by omega) (lo := 0) (hi := 255) (c := decide (w5 L T (nx L T p) 107 110 111 119 115))
    obtain ⟨r1, er1⟩ : ∃ r1, r1 = phS L T (addA A k 0) (nx L T p) (decide (w5 L T (nx L T p) 107 110 111 119 115)) (12 + 14 * nA A + 1) 0 255 := ⟨_, rfl⟩
    rw [← er1] at c1 c2 c4 g1 ⊢
    have i1 : 12 + 14 * ((nA A : Nat) : Int) + 1 = ((12 + 14 * nA A + 1 : Nat) : Int) := by omega
    have i2 : 12 + 14 * ((nA A : Nat) : Int) + 2 = ((12 + 14 * nA A + 2 : Nat) : Int) := by omega
    have i4 : 12 + 14 * ((nA A : Nat) : Int) + 4 = ((12 + 14 * nA A + 4 : Nat) : Int) := by omega
    have f3 : FM M m3 := (FM.set.tr b3).tr c3
    have ok35 : OKA (M 35) ∧ M 35 0 < 8 := by rw [h.2]; exact ⟨hA.1, by omega⟩
    cases q1 : r1.1
    · rw [q1] at c1
      rw [thn_f q1, thn_f q1, q1]
      refine ⟨m3, ct1Z rfl (bI_in _) (by decide) (Nat.le_of_ble_eq_true rfl) (rg_X4_childHere_0 ?_), c2, f3, fun _ => c4 q1⟩
      rw [ea, ec, i1]
      exact ⟨fun z => by omega, fun _ => ⟨ok35, by omega, m2, b1, _, m2, v1, by omega, _, m3, c1, fun _ => ⟨rfl, rfl⟩, fun z => absurd rfl z⟩⟩
    · rw [q1] at c1
      have e1 : thn r1 (fun B q => phS L T B q (decide (w4 L T q 102 114 111 109)) (12 + 14 * nA A + 2) 0 (A 0 - 1)) = phS L T r1.2.1 r1.2.2 (decide (w4 L T r1.2.2 102 114 111 109)) (12 + 14 * nA A + 2) 0 (A 0 - 1) := by unfold thn; rw [if_pos q1]
      rw [e1]
      have g2 := ph_ok (T := T) hT g1.2.2.2 g1.1 (c := decide (w4 L T r1.2.2 102 114 111 109)) (i := 12 + 14 * nA A + 2) (lo := 0) (hi := A 0 - 1) (by omega) (by omega) (by omega) (fun v a b => rng2 (by omega) ⟨by omega, by rw [g1.2.1, k2]; omega⟩)
      have v2 := ms_four (S := S) hT g1.2.2.2 c2 (a := 102) (b := 114) (c := 111) (d := 109)
      rw [bId] at v2
      obtain ⟨m4, d1, d2, d3, d4⟩ := ms_perh (S := S) hT g1.2.2.2 c2 (i := 12 + 14 * nA A + 2) (by omega) (lo := 0) (hi := A 0 - 1) (c := decide (w4 L T r1.2.2 102 114 111 109))
      obtain ⟨r2, er2⟩ : ∃ r2, r2 = phS L T r1.2.1 r1.2.2 (decide (w4 L T r1.2.2 102 114 111 109)) (12 + 14 * nA A + 2) 0 (A 0 - 1) := ⟨_, rfl⟩
      rw [← er2] at d1 d2 d4 g2 ⊢
      rw [← hn.1] at d1
      cases q2 : r2.1
      · rw [q2] at d1
        rw [thn_f q2, q2]
        refine ⟨m4, ct1Z rfl (bI_in _) (by decide) (Nat.le_of_ble_eq_true rfl) (rg_X4_childHere_0 ?_), d2, f3.tr d3, fun _ => d4 q2⟩
        rw [ea, ec, i1, i2]
        exact ⟨fun z => by omega, fun _ => ⟨ok35, by omega, m2, b1, _, m2, v1, by omega, _, m3, c1, fun z => absurd z (by decide), fun _ => ⟨_, m3, v2, by omega, by omega, _, m4, d1, fun _ => ⟨rfl, rfl⟩, fun z => absurd rfl z⟩⟩⟩
      · rw [q2] at d1
        have e2 : thn r2 (fun B q => phS L T B q (decide (w8 L T q 98 105 115 99 117 105 116 115)) (12 + 14 * nA A + 4) 0 999) = phS L T r2.2.1 r2.2.2 (decide (w8 L T r2.2.2 98 105 115 99 117 105 116 115)) (12 + 14 * nA A + 4) 0 999 := by unfold thn; rw [if_pos q2]
        rw [e2]
        obtain ⟨cc, ecc⟩ : ∃ cc : Bool, cc = decide (w8 L T r2.2.2 98 105 115 99 117 105 116 115) := ⟨_, rfl⟩
        rw [← ecc]
        obtain ⟨m5, e1, e2, e3, e4⟩ := ms_perh (S := S) hT g2.2.2.2 d2 (i := 12 + 14 * nA A + 4) (by omega) (lo := 0) (hi := 999) (c := cc)
        obtain ⟨r3, er3⟩ : ∃ r3, r3 = phS L T r2.2.1 r2.2.2 cc (12 + 14 * nA A + 4) 0 999 := ⟨_, rfl⟩
        rw [← er3] at e1 e2 e4 ⊢
        have hl := ms_len hT g2.2.2.2 d2 (n := 8)
        have x0 := ms_has3 (S := S) hT g2.2.2.2 d2 (i := 0) (by omega) (a := 98) (b := 105) (c := 115)
        have x3 := ms_has3 (S := S) hT g2.2.2.2 d2 (i := 3) (by omega) (a := 99) (b := 117) (c := 105)
        have x5 := ms_has3 (S := S) hT g2.2.2.2 d2 (i := 5) (by omega) (a := 105) (b := 116) (c := 115)
        have leaf : ∀ v : Int, bI (cc = true) = v → ∃ (v27 : Int) (m28 : Zm), Ct1 S mX4_perhaps [Aq 34, Iq v, Iq ((12 + 14 * nA A + 4 : Nat) : Int), Iq 0, Iq 999] m4 (some (Iq v27)) m28 ∧ ((((v27 = 0) → ((fun r m => r = some (Iq (bI (r3.1 = true))) ∧ m = m5) (some (Iq 0)) m28)) ∧ (¬ (v27 = 0) → ((fun r m => r = some (Iq (bI (r3.1 = true))) ∧ m = m5) (some (Iq 1)) m28)))) := fun v ev => ⟨_, m5, ev ▸ e1, fun z => ⟨by rw [z], rfl⟩, fun z => ⟨by rw [bIt (bI1.1 z)], rfl⟩⟩
        have no : ¬ w8 L T r2.2.2 98 105 115 99 117 105 116 115 → bI (cc = true) = 0 := fun w => bIf (by rw [ecc, decide_eq_true_iff]; exact w)
        refine ⟨m5, ct1Z rfl (bI_in _) (by decide) (Nat.le_of_ble_eq_true rfl) (rg_X4_childHere_0 ?_), e2, (f3.tr d3).tr e3, e4⟩
        rw [ea, ec, i1, i2, i4]
        exact ⟨fun z => by omega, fun _ => ⟨ok35, by omega, m2, b1, _, m2, v1, by omega, _, m3, c1, fun z => absurd z (by decide), fun _ => ⟨_, m3, v2, by omega, by omega, _, m4, d1, fun z => absurd z (by decide), fun _ => ⟨ms_in hT g2.2.2.2 d2, fun z => ⟨_, m4, x0, fun z0 => ⟨by omega, leaf 0 (no (fun w => bI0.1 z0 ⟨w.2.2.1, w.2.2.2.1, w.2.2.2.2.1⟩))⟩, fun z0 => ⟨_, m4, x3, fun z3 => ⟨by omega, leaf 0 (no (fun w => bI0.1 z3 ⟨w.2.2.2.2.2.1, w.2.2.2.2.2.2.1, w.2.2.2.2.2.2.2.1⟩))⟩, fun z3 => ⟨_, m4, x5, fun z5 => ⟨by omega, leaf 0 (no (fun w => bI0.1 z5 ⟨w.2.2.2.2.2.2.2.1, w.2.2.2.2.2.2.2.2.1, w.2.2.2.2.2.2.2.2.2⟩))⟩, fun z5 => ⟨by omega, leaf 1 (bIt (by rw [ecc, decide_eq_true_iff]; have y := hl.1 z; have y0 := bI1.1 z0; have y3 := bI1.1 z3; have y5 := bI1.1 z5; exact ⟨y.1, y.2, y0.1, y0.2.1, y0.2.2, y3.1, y3.2.1, y3.2.2, y5.2.1, y5.2.2⟩))⟩⟩⟩⟩, fun z => ⟨by omega, leaf 0 (no (fun w => z (hl.2 ⟨w.1, w.2.1⟩)))⟩⟩⟩⟩⟩
theorem ms_right (hT : okT L T) {p : Nat} (hp : p ≤ L) (h : Ms L T M A p) : MO S L T mX4_rightHere [Aq 34] M (rtS L T A p) := by
  have n1 := nx_in hT hp
  obtain ⟨m1, a1, a2, a3⟩ := ms_next (S := S) hT hp h
  obtain ⟨m2, b1, b2, b3, b4⟩ := ms_num (S := S) a2 (lo := 0) (hi := 7)
  unfold MO rtS
  cases q : nmB L T (nx L T p) 0 7
  · rw [q] at b1
    rw [if_neg (by decide)]
    exact ⟨m2, ct1Z rfl (bI_in _) (by decide) (Nat.le_of_ble_eq_true rfl) (rg_X4_rightHere_0 ⟨m1, a1, _, m2, b1, fun _ => ⟨rfl, rfl⟩, fun z => absurd rfl z⟩), b2, a3.tr b3, fun _ => b4 q⟩
  · rw [q] at b1
    rw [if_pos rfl]
    have q := of_decide_eq_true q
    have v1 : m2 34 16 = tkV L T (nx L T p) := b2.1.2.2.2.2 q.1
    obtain ⟨m3, c1, c2, c3, c4⟩ := ms_perh (S := S) hT n1.2 b2 (i := 4 + (tkV L T (nx L T p)).toNat) (by omega) (lo := 0) (hi := 99) (c := true)
    obtain ⟨r, er⟩ : ∃ r, r = phS L T A (nx L T p) true (4 + (tkV L T (nx L T p)).toNat) 0 99 := ⟨_, rfl⟩
    rw [← er] at c1 c2 c4 ⊢
    rw [show ((4 + (tkV L T (nx L T p)).toNat : Nat) : Int) = 4 + tkV L T (nx L T p) by omega] at c1
    refine ⟨m3, ct1Z rfl (bI_in _) (by decide) (Nat.le_of_ble_eq_true rfl) (rg_X4_rightHere_0 ?_), c2, (a3.tr b3).tr c3, c4⟩
    refine ⟨m1, a1, _, m2, b1, fun z => absurd z (by decide), fun _ => ?_⟩
    rw [v1]
    exact ⟨by omega, _, m3, c1, fun z => ⟨by rw [z], rfl⟩, fun z => ⟨by rw [bIt (bI1.1 z)], rfl⟩⟩
theorem ms_item (hT : okT L T) {p : Nat} (hp : p ≤ L) (hA : KA A0 A) (h : Ms L T M A p) : MO S L T mX4_itemHere [Aq 34] M (itS L T A p) := by
  have kd := kdV_in (L := L) (T := T) p
  have k1 := ms_kind (S := S) hT hp h
  have w1 := ms_five (S := S) hT hp h (a := 114) (b := 105) (c := 103) (d := 104) (e := 116)
  have w2 := ms_five (S := S) hT hp h (a := 108) (b := 105) (c := 109) (d := 105) (e := 116)
  have e14 : M 34 14 = (p : Int) := h.1.2.2.1
  unfold MO itS
  by_cases c1 : 0 ≤ kdV L T p
  · rw [if_pos c1]
    obtain ⟨m1, a, b⟩ := ms_child (S := S) hT hp hA h (k := kdV L T p) ⟨c1, kd.2⟩
    exact ⟨m1, ct1Z rfl (bI_in _) (by decide) (Nat.le_of_ble_eq_true rfl) (rg_X4_itemHere_0 ⟨_, _, k1, fun z => by omega, fun _ => ⟨_, m1, a, rfl, rfl⟩⟩), b⟩
  · rw [if_neg c1]
    by_cases c2 : w5 L T p 114 105 103 104 116
    · rw [if_pos c2]
      rw [bIt c2] at w1
      obtain ⟨m1, a, b⟩ := ms_right (S := S) hT hp h
      exact ⟨m1, ct1Z rfl (bI_in _) (by decide) (Nat.le_of_ble_eq_true rfl) (rg_X4_itemHere_0 ⟨_, _, k1, fun _ => ⟨_, _, w1, fun z => absurd z (by decide), fun _ => ⟨_, m1, a, rfl, rfl⟩⟩, fun z => by omega⟩), b⟩
    · rw [if_neg c2]
      rw [bIf c2] at w1
      by_cases c3 : w5 L T p 108 105 109 105 116
      · rw [if_pos c3]
        rw [bIt c3] at w2
        obtain ⟨m1, a, b⟩ := ms_perh (S := S) hT hp h (i := 3) (by omega) (lo := 1) (hi := 9) (c := true)
        exact ⟨m1, ct1Z rfl (bI_in _) (by decide) (Nat.le_of_ble_eq_true rfl) (rg_X4_itemHere_0 ⟨_, _, k1, fun _ => ⟨_, _, w1, fun _ => ⟨_, _, w2, fun z => absurd z (by decide), fun _ => ⟨_, m1, a, rfl, rfl⟩⟩, fun z => absurd rfl z⟩, fun z => by omega⟩), b⟩
      · rw [if_neg c3]
        rw [bIf c3] at w2
        obtain ⟨g1, g2, g3⟩ := h.f17
        exact ⟨mup M 34 17 (p : Int), ct1Z rfl (bI_in _) (by decide) (Nat.le_of_ble_eq_true rfl) (rg_X4_itemHere_0 ⟨_, _, k1, fun _ => ⟨_, _, w1, fun _ => ⟨_, _, w2, fun _ => ⟨rfl, by rw [e14]⟩, fun z => absurd rfl z⟩, fun z => absurd rfl z⟩, fun z => by omega⟩), g1, g2, fun _ => g3⟩
/-- the whole text -/
def txS (L : Nat) (T : Nat → Int) : Nat → (Nat → Int) → Nat → Int → Int × (Nat → Int)
  | 0, A, p, _ => (-1 - (p : Int), A)
  | f + 1, A, p, n => if (itS L T A p).1 = false then (-1 - ((itS L T A p).2.2 : Int), A) else if tkS L T (itS L T A p).2.2 = 0 then (n, (itS L T A p).2.1) else if tkS L T (itS L T A p).2.2 = 3 then txS L T f (itS L T A p).2.1 (nx L T (itS L T A p).2.2) (n + 1) else (-1 - ((itS L T A p).2.2 : Int), A)
theorem nx_3 (hT : okT L T) {p : Nat} (hp : p ≤ L) (h : tkS L T p = 3) : p + 1 ≤ nx L T p := by
  have e : tkE L T p = p + 1 := by unfold tkE; rw [h]; rfl
  obtain ⟨a, b⟩ := tkE_in hT hp
  obtain ⟨c, d, _⟩ := tkP_spec hT b
  unfold nx
  omega
theorem tx_ok (hT : okT L T) : ∀ (f : Nat) (A : Nat → Int) (p : Nat) (n : Int), p ≤ L → L < p + f → KA A0 A → 1 ≤ n → ((txS L T f A p n).1 < 0 ∧ -200 ≤ (txS L T f A p n).1) ∨ (0 ≤ (txS L T f A p n).1 ∧ KA A0 (txS L T f A p n).2) := by
  have hl := hT.1
  intro f
  induction f with
  | zero => intro A p n hp h; omega
  | succ f ih =>
    intro A p n hp hf hA hn
    obtain ⟨k1, k2, k3⟩ := it_ok hT hp hA
    have e : txS L T (f + 1) A p n = if (itS L T A p).1 = false then (-1 - ((itS L T A p).2.2 : Int), A) else if tkS L T (itS L T A p).2.2 = 0 then (n, (itS L T A p).2.1) else if tkS L T (itS L T A p).2.2 = 3 then txS L T f (itS L T A p).2.1 (nx L T (itS L T A p).2.2) (n + 1) else (-1 - ((itS L T A p).2.2 : Int), A) := rfl
    rw [e]
    split
    · exact .inl ⟨by show -1 - _ < (0 : Int); omega, by show (-200 : Int) ≤ -1 - _; omega⟩
    · split
      · exact .inr ⟨by show 0 ≤ n; omega, k1⟩
      · split
        · rename_i q
          have g := nx_3 hT k3 q
          exact ih _ _ _ (nx_in hT k3).2 (by omega) k1 (by omega)
        · exact .inl ⟨by show -1 - _ < (0 : Int); omega, by show (-200 : Int) ≤ -1 - _; omega⟩
/-- the reader goes through -/
theorem xs_text (hT : okT L T) : ∀ (f : Nat) (A : Nat → Int) (p n : Nat) (M : Zm), p ≤ L → L < p + f → KA A0 A → n ≤ p + 1 → 1 ≤ n → Xs L T M A p → ∃ m2, PW S mX2_readInto (fun r m => r = some (Iq (txS L T f A p (n : Int)).1) ∧ m = m2) 11 [some (Aq 22), some (Aq 8), some (Iq (n : Int))] [] M ∧ FX M m2 ∧ (0 ≤ (txS L T f A p (n : Int)).1 → XR m2 8 (txS L T f A p (n : Int)).2) := by
  have hl := hT.1
  intro f
  induction f with
  | zero => intro A p n M hp h; omega
  | succ f ih =>
    intro A p n M hp hf hA hn hn1 hX
    obtain ⟨k1, k2, k3⟩ := it_ok hT hp hA
    obtain ⟨m1, a1, a2, a3⟩ := xs_item (S := S) hT hp hA hX
    have e : txS L T (f + 1) A p (n : Int) = if (itS L T A p).1 = false then (-1 - ((itS L T A p).2.2 : Int), A) else if tkS L T (itS L T A p).2.2 = 0 then ((n : Int), (itS L T A p).2.1) else if tkS L T (itS L T A p).2.2 = 3 then txS L T f (itS L T A p).2.1 (nx L T (itS L T A p).2.2) ((n : Int) + 1) else (-1 - ((itS L T A p).2.2 : Int), A) := rfl
    obtain ⟨r, er⟩ : ∃ r, r = itS L T A p := ⟨_, rfl⟩
    rw [← er] at e k1 k2 k3 a1 a2
    have e2 : m1 22 2 = (r.2.2 : Int) := a2.1.2.1
    have e4 : m1 22 4 = tkS L T r.2.2 := a2.1.2.2.2.1
    rw [e]
    cases q : r.1
    · rw [if_pos rfl]
      rw [q] at a1
      refine ⟨m1, rg_X2_readInto_11 isR8 ⟨fun z => by omega, fun _ => ⟨_, m1, a1, fun _ => ?_, fun z => absurd rfl z⟩⟩, a3, fun z => absurd (show (0 : Int) ≤ -1 - (r.2.2 : Int) from z) (by omega)⟩
      rw [e2]
      exact ⟨by omega, rfl, rfl⟩
    · rw [if_neg (by decide)]
      rw [q] at a1
      by_cases c0 : tkS L T r.2.2 = 0
      · rw [if_pos c0]
        refine ⟨m1, rg_X2_readInto_11 isR8 ⟨fun z => by omega, fun _ => ⟨_, m1, a1, fun z => absurd z (by decide), fun _ => ⟨fun _ => ⟨rfl, rfl⟩, fun z => ?_⟩⟩⟩, a3, fun _ => a2.2⟩
        rw [e4] at z; exact absurd c0 z
      · rw [if_neg c0]
        by_cases c3 : tkS L T r.2.2 = 3
        · rw [if_pos c3]
          obtain ⟨m2, b1, b2, b3⟩ := xs_next (S := S) hT k3 a2
          have g := nx_3 hT k3 c3
          obtain ⟨m3, d1, d2, d3⟩ := ih r.2.1 (nx L T r.2.2) (n + 1) m2 (nx_in hT k3).2 (by omega) k1 (by omega) (by omega) b2
          rw [show ((n + 1 : Nat) : Int) = (n : Int) + 1 by omega] at d1 d3
          refine ⟨m3, rg_X2_readInto_11 isR8 ⟨fun z => by omega, fun _ => ⟨_, m1, a1, fun z => absurd z (by decide), fun _ => ⟨fun z => ?_, fun _ => ⟨fun _ => ⟨m2, b1, by omega, d1⟩, fun z => ?_⟩⟩⟩⟩, (a3.tr b3).tr d2, d3⟩
          · rw [e4] at z; exact absurd z c0
          · rw [e4] at z; exact absurd c3 z
        · rw [if_neg c3]
          refine ⟨m1, rg_X2_readInto_11 isR8 ⟨fun z => by omega, fun _ => ⟨_, m1, a1, fun z => absurd z (by decide), fun _ => ⟨fun z => ?_, fun _ => ⟨fun z => ?_, fun _ => ?_⟩⟩⟩⟩, a3, fun z => absurd (show (0 : Int) ≤ -1 - (r.2.2 : Int) from z) (by omega)⟩
          · rw [e4] at z; exact absurd z c0
          · rw [e4] at z; exact absurd z c3
          · rw [e2]; exact ⟨by omega, rfl, rfl⟩
end T6

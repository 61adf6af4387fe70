/-! ===== items: child, right, limit ===== -/
section T5
variable {S : Sx} {mem M : Zm} {L : Nat} {T : Nat → Int} {A A0 : Nat → Int}
def KA (A0 A : Nat → Int) : Prop := OKA A ∧ A 1 = A0 1 ∧ ∀ i, 134 ≤ i → A i = A0 i
def thn (r : RS) (f : (Nat → Int) → Nat → RS) : RS := if r.1 = true then f r.2.1 r.2.2 else r
def chS (L : Nat) (T : Nat → Int) (A : Nat → Int) (p : Nat) (kind : Int) : RS :=
  if A 0 = 8 then (false, A, p) else thn (thn (phS L T (addA A kind 0) (nx L T p) (decide (w5 L T (nx L T p) 107 110 111 119 115)) (12 + 14 * nA A + 1) 0 255) (fun B q => phS L T B q (decide (w4 L T q 102 114 111 109)) (12 + 14 * nA A + 2) 0 (A 0 - 1))) (fun B q => phS L T B q (decide (w8 L T q 98 105 115 99 117 105 116 115)) (12 + 14 * nA A + 4) 0 999)
def rtS (L : Nat) (T : Nat → Int) (A : Nat → Int) (p : Nat) : RS := if nmB L T (nx L T p) 0 7 = true then phS L T A (nx L T p) true (4 + (tkV L T (nx L T p)).toNat) 0 99 else (false, A, nx L T p)
def itS (L : Nat) (T : Nat → Int) (A : Nat → Int) (p : Nat) : RS := if 0 ≤ kdV L T p then chS L T A p (kdV L T p) else if w5 L T p 114 105 103 104 116 then rtS L T A p else if w5 L T p 108 105 109 105 116 then phS L T A p true 3 1 9 else (false, A, p)
def GR (L : Nat) (A0 : Nat → Int) (n : Int) (p : Nat) (r : RS) : Prop := KA A0 r.2.1 ∧ r.2.1 0 = n ∧ p ≤ r.2.2 ∧ r.2.2 ≤ L
theorem ph_ok (hT : okT L T) {p : Nat} (hp : p ≤ L) (hA : KA A0 A) {c : Bool} {i : Nat} {lo hi : Int} (h0 : i ≠ 0) (h1 : i ≠ 1) (h2 : i < 134) (hr : ∀ v, lo ≤ v → v ≤ hi → rng (A 0) i v) : GR L A0 (A 0) p (phS L T A p c i lo hi) := by
  have n1 := nx_in hT hp
  have n2 := nx_in hT n1.2
  unfold phS GR
  split
  · split
    · rename_i q
      have q := of_decide_eq_true q
      exact ⟨⟨hA.1.st h0 (fun _ => hr _ q.2.1 q.2.2), by show up _ _ _ 1 = _; rw [up_ne (fun z => h1 z.symm)]; exact hA.2.1, fun j hj => by show up _ _ _ j = _; rw [up_ne (by omega)]; exact hA.2.2 j hj⟩, by show up _ _ _ 0 = _; rw [up_ne (fun z => h0 z.symm)], by show p ≤ nx L T (nx L T p); omega, n2.2⟩
    · exact ⟨hA, rfl, n1.1, n1.2⟩
  · exact ⟨hA, rfl, Nat.le_refl _, hp⟩
theorem thn_f {r : RS} {f : (Nat → Int) → Nat → RS} (h : r.1 = false) : thn r f = r := if_neg (by rw [h]; decide)
theorem thn_ok {p : Nat} {n : Int} {r : RS} {f : (Nat → Int) → Nat → RS} (h : GR L A0 n p r) (hf : ∀ B q, KA A0 B → B 0 = n → q ≤ L → GR L A0 n q (f B q)) : GR L A0 n p (thn r f) := by
  unfold thn
  split
  · obtain ⟨a, b, c, d⟩ := hf _ _ h.1 h.2.1 h.2.2.2
    exact ⟨a, b, Nat.le_trans h.2.2.1 c, d⟩
  · exact h
theorem addA_hi {k w : Int} {i : Nat} (h : OKA A) (h8 : A 0 < 8) (hi : 134 ≤ i) : addA A k w i = A i := by
  have hn := h.n
  unfold addA
  rw [up_ne (by omega), ad1_other (by omega)]
  unfold adF
  rw [up_ne (by omega), up_ne (by omega), up_ne (by omega), up_ne (by omega), up_ne (by omega), up_ne (by omega)]
theorem ka_add (hA : KA A0 A) (h8 : A 0 < 8) {k : Int} (hk : 0 ≤ k ∧ k ≤ 6) : KA A0 (addA A k 0) ∧ addA A k 0 0 = A 0 + 1 := by
  obtain ⟨a, b, c⟩ := addA_ok hA.1 h8 hk (knows := 0) (by omega)
  exact ⟨⟨a, by rw [c]; exact hA.2.1, fun i hi => by rw [addA_hi hA.1 h8 hi]; exact hA.2.2 i hi⟩, b⟩
theorem it_ok (hT : okT L T) {p : Nat} (hp : p ≤ L) (hA : KA A0 A) : KA A0 (itS L T A p).2.1 ∧ p ≤ (itS L T A p).2.2 ∧ (itS L T A p).2.2 ≤ L := by
  have n1 := nx_in hT hp
  have h0 := hA.1.1
  have hn := hA.1.n
  have kd := kdV_in (L := L) (T := T) p
  unfold itS
  split
  · unfold chS
    split
    · exact ⟨hA, Nat.le_refl _, hp⟩
    · obtain ⟨k1, k2⟩ := ka_add (A0 := A0) hA (by omega) (k := kdV L T p) (by omega)
      have g1 := ph_ok (T := T) hT n1.2 k1 (c := decide (w5 L T (nx L T p) 107 110 111 119 115)) (i := 12 + 14 * nA A + 1) (lo := 0) (hi := 255) (by omega) (by omega) (by omega) (fun v a b => rng1 (by omega) ⟨a, b⟩)
      rw [k2] at g1
      have g2 := thn_ok g1 (f := fun B q => phS L T B q (decide (w4 L T q 102 114 111 109)) (12 + 14 * nA A + 2) 0 (A 0 - 1)) (fun B q b1 b2 b3 => b2 ▸ ph_ok (T := T) hT b3 b1 (by omega) (by omega) (by omega) (fun v a b => rng2 (by omega) ⟨by omega, by omega⟩))
      have g3 := thn_ok g2 (f := fun B q => phS L T B q (decide (w8 L T q 98 105 115 99 117 105 116 115)) (12 + 14 * nA A + 4) 0 999) (fun B q b1 b2 b3 => b2 ▸ ph_ok (T := T) hT b3 b1 (by omega) (by omega) (by omega) (fun v a b => rng4 (by omega) ⟨a, b⟩))
      exact ⟨g3.1, Nat.le_trans n1.1 g3.2.2.1, g3.2.2.2⟩
  · split
    · unfold rtS
      split
      · rename_i q
        have q := of_decide_eq_true q
        have g := ph_ok (T := T) hT n1.2 hA (c := true) (i := 4 + (tkV L T (nx L T p)).toNat) (lo := 0) (hi := 99) (by omega) (by omega) (by omega) (fun v a b => rngR (by omega) ⟨a, b⟩)
        exact ⟨g.1, Nat.le_trans n1.1 g.2.2.1, g.2.2.2⟩
      · exact ⟨hA, n1.1, n1.2⟩
    · split
      · have g := ph_ok (T := T) hT hp hA (c := true) (i := 3) (lo := 1) (hi := 9) (by omega) (by omega) (by omega) (fun v a b => by unfold rng; omega)
        exact ⟨g.1, g.2.2.1, g.2.2.2⟩
      · exact ⟨hA, Nat.le_refl _, hp⟩
theorem bId (p : Prop) [Decidable p] : bI p = bI (decide p = true) := bIc decide_eq_true_iff.symm
theorem FX.ofFr {a b : Zm} (h : Fr 8 a b) : FX a b := fun o x y => h o (by omega)
/-! the reader's side -/
theorem Xs.fr {p : Nat} {B : Nat → Int} {m2 : Zm} (h : Xs L T M A p) (hX : XR m2 8 B) (hf : Fr 8 M m2) : Xs L T m2 B p := by
  obtain ⟨⟨b1, b2⟩, _⟩ := h
  refine ⟨⟨⟨?_, fun i hi => ?_⟩, ?_⟩, hX⟩
  · rw [hf 22 (by omega)]; exact b1.1
  · rw [hf 23 (by omega)]; exact b1.2 i hi
  · rw [hf 22 (by omega)]; exact b2
theorem xs_child (hT : okT L T) {p : Nat} (hp : p ≤ L) (hA : KA A0 A) (h : Xs L T M A p) {k : Nat} (hk : k < 7) : XO S L T mX2_readChild [Aq 22, Aq 8, Iq (k : Int)] M (chS L T A p (k : Int)) := by
  have h0 := hA.1.1
  have hn := hA.1.n
  have e7 : M 8 7 = A 0 := h.2.1.1
  have n1 := nx_in hT hp
  unfold XO chS
  by_cases c8 : A 0 = 8
  · rw [if_pos c8]
    exact ⟨M, ct1Z rfl (bI_in _) (by decide) (Nat.le_of_ble_eq_true rfl) (rg_X2_readChild_0 isR8 ⟨fun z => by omega, fun _ => ⟨rfl, rfl⟩⟩), h, fun _ _ _ => rfl⟩
  · rw [if_neg c8]
    obtain ⟨m1, a1, a2, a3⟩ := xt_add (S := S) isR8 h.2 hA.1 (by omega) (k : Int) 0
    rw [← hn.1] at a1
    obtain ⟨k1, k2⟩ := ka_add (A0 := A0) hA (by omega) (k := (k : Int)) (by omega)
    obtain ⟨m2, b1, b2, b3⟩ := xs_next (S := S) hT hp (h.fr a2 a3)
    have g1 := ph_ok (T := T) hT n1.2 k1 (c := decide (w5 L T (nx L T p) 107 110 111 119 115)) (i := 12 + 14 * nA A + 1) (lo := 0) (hi := 255) (by omega) (by omega) (by omega) (fun v a b => rng1 (by omega) ⟨a, b⟩)
    obtain ⟨r1, er1⟩ : ∃ r1, r1 = phS L T (addA A (k : Int) 0) (nx L T p) (decide (w5 L T (nx L T p) 107 110 111 119 115)) (12 + 14 * nA A + 1) 0 255 := ⟨_, rfl⟩
    obtain ⟨m3, c1, c2, c3⟩ := xs_perh (S := S) hT n1.2 b2 (k := nA A) (w := 1) (by omega) (by omega) (K := 461414299507) (hi := 255) (c := decide (w5 L T (nx L T p) 107 110 111 119 115)) (by rw [decide_eq_true_iff]; exact wd_knows hT n1.2)
    rw [← er1] at c1 c2 g1 ⊢
    have f3 : FX M m3 := ((FX.ofFr a3).tr b3).tr c3
    cases q1 : r1.1
    · rw [q1] at c1
      have e : thn (thn r1 (fun B q => phS L T B q (decide (w4 L T q 102 114 111 109)) (12 + 14 * nA A + 2) 0 (A 0 - 1))) (fun B q => phS L T B q (decide (w8 L T q 98 105 115 99 117 105 116 115)) (12 + 14 * nA A + 4) 0 999) = r1 := by
        rw [thn_f q1, thn_f q1]
      rw [e, q1]
      exact ⟨m3, ct1Z rfl (bI_in _) (by decide) (Nat.le_of_ble_eq_true rfl) (rg_X2_readChild_0 isR8 ⟨fun _ => ⟨_, m1, a1, m2, b1, _, m3, c1, fun _ => ⟨rfl, rfl⟩, fun z => absurd rfl z⟩, fun z => by omega⟩), c2, f3⟩
    · rw [q1] at c1
      have e1 : thn r1 (fun B q => phS L T B q (decide (w4 L T q 102 114 111 109)) (12 + 14 * nA A + 2) 0 (A 0 - 1)) = phS L T r1.2.1 r1.2.2 (decide (w4 L T r1.2.2 102 114 111 109)) (12 + 14 * nA A + 2) 0 (A 0 - 1) := by unfold thn; rw [if_pos q1]
      rw [e1]
      have g2 := ph_ok (T := T) hT g1.2.2.2 g1.1 (c := decide (w4 L T r1.2.2 102 114 111 109)) (i := 12 + 14 * nA A + 2) (lo := 0) (hi := A 0 - 1) (by omega) (by omega) (by omega) (fun v a b => rng2 (by omega) ⟨by omega, by rw [g1.2.1, k2]; omega⟩)
      obtain ⟨r2, er2⟩ : ∃ r2, r2 = phS L T r1.2.1 r1.2.2 (decide (w4 L T r1.2.2 102 114 111 109)) (12 + 14 * nA A + 2) 0 (A 0 - 1) := ⟨_, rfl⟩
      obtain ⟨m4, d1, d2, d3⟩ := xs_perh (S := S) hT g1.2.2.2 c2 (k := nA A) (w := 2) (by omega) (by omega) (K := 1718775661) (hi := A 0 - 1) (c := decide (w4 L T r1.2.2 102 114 111 109)) (by rw [decide_eq_true_iff]; exact wd_from hT g1.2.2.2)
      rw [← er2] at d1 d2 g2 ⊢
      have d1 : Ct1 S mX2_readPerhaps [Aq 22, Aq 8, Iq ((nA A : Nat) : Int), Jq 1718775661, Iq ((2 : Nat) : Int), Iq (((nA A : Nat) : Int) - 1)] m3 (some (Iq (bI (r2.1 = true)))) m4 := by rw [hn.1] at d1 ⊢; exact d1
      cases q2 : r2.1
      · rw [q2] at d1
        have e : thn r2 (fun B q => phS L T B q (decide (w8 L T q 98 105 115 99 117 105 116 115)) (12 + 14 * nA A + 4) 0 999) = r2 := by unfold thn; rw [q2, if_neg (by decide)]
        rw [e, q2]
        exact ⟨m4, ct1Z rfl (bI_in _) (by decide) (Nat.le_of_ble_eq_true rfl) (rg_X2_readChild_0 isR8 ⟨fun _ => ⟨_, m1, a1, m2, b1, _, m3, c1, fun z => absurd z (by decide), fun _ => ⟨by omega, _, m4, d1, fun _ => ⟨rfl, rfl⟩, fun z => absurd rfl z⟩⟩, fun z => by omega⟩), d2, f3.tr d3⟩
      · rw [q2] at d1
        have e2 : thn r2 (fun B q => phS L T B q (decide (w8 L T q 98 105 115 99 117 105 116 115)) (12 + 14 * nA A + 4) 0 999) = phS L T r2.2.1 r2.2.2 (decide (w8 L T r2.2.2 98 105 115 99 117 105 116 115)) (12 + 14 * nA A + 4) 0 999 := by unfold thn; rw [if_pos q2]
        rw [e2]
        obtain ⟨r3, er3⟩ : ∃ r3, r3 = phS L T r2.2.1 r2.2.2 (decide (w8 L T r2.2.2 98 105 115 99 117 105 116 115)) (12 + 14 * nA A + 4) 0 999 := ⟨_, rfl⟩
        obtain ⟨m5, e1, e2, e3⟩ := xs_perh (S := S) hT g2.2.2.2 d2 (k := nA A) (w := 4) (by omega) (by omega) (K := 7091325959280358515) (hi := 999) (c := decide (w8 L T r2.2.2 98 105 115 99 117 105 116 115)) (by rw [decide_eq_true_iff]; exact wd_biscuits hT g2.2.2.2)
        rw [← er3] at e1 e2 ⊢
        refine ⟨m5, ct1Z rfl (bI_in _) (by decide) (Nat.le_of_ble_eq_true rfl) (rg_X2_readChild_0 isR8 ⟨fun _ => ⟨_, m1, a1, m2, b1, _, m3, c1, fun z => absurd z (by decide), fun _ => ⟨by omega, _, m4, d1, fun z => absurd z (by decide), fun _ => ⟨_, m5, e1, fun z => ⟨by rw [z], rfl⟩, fun z => ⟨?_, rfl⟩⟩⟩⟩, fun z => by omega⟩), e2, (f3.tr d3).tr e3⟩
        rw [bIt (bI1.1 z)]
theorem xs_right (hT : okT L T) {p : Nat} (hp : p ≤ L) (h : Xs L T M A p) : XO S L T mX2_readRight [Aq 22, Aq 8] M (rtS L T A p) := by
  have n1 := nx_in hT hp
  have n2 := nx_in hT n1.2
  obtain ⟨m1, a1, a2, a3⟩ := xs_next (S := S) hT hp h
  have b1 := xs_num (S := S) a2 (lo := 0) (hi := 7)
  unfold XO rtS
  cases q : nmB L T (nx L T p) 0 7
  · rw [q] at b1
    rw [if_neg (by decide)]
    exact ⟨m1, ct1Z rfl (bI_in _) (by decide) (Nat.le_of_ble_eq_true rfl) (rg_X2_readRight_0 isR8 ⟨m1, a1, _, _, b1, fun _ => ⟨rfl, rfl⟩, fun z => absurd rfl z⟩), a2, a3⟩
  · rw [q] at b1
    rw [if_pos rfl]
    unfold phS
    rw [if_pos rfl]
    have q := of_decide_eq_true q
    have v1 : m1 22 6 = tkV L T (nx L T p) := a2.1.2.2.2.2.2 q.1
    obtain ⟨m2, c1, c2, c3⟩ := xs_next (S := S) hT n1.2 a2
    have d1 := xs_num (S := S) c2 (lo := 0) (hi := 99)
    cases y : nmB L T (nx L T (nx L T p)) 0 99
    · rw [y] at d1
      rw [if_neg (by decide)]
      exact ⟨m2, ct1Z rfl (bI_in _) (by decide) (Nat.le_of_ble_eq_true rfl) (rg_X2_readRight_0 isR8 ⟨m1, a1, _, _, b1, fun z => absurd z (by decide), fun _ => ⟨m2, c1, _, _, d1, fun _ => ⟨rfl, rfl⟩, fun z => absurd rfl z⟩⟩), c2, a3.tr c3⟩
    · rw [y] at d1
      rw [if_pos rfl]
      have y := of_decide_eq_true y
      have v2 : m2 22 6 = tkV L T (nx L T (nx L T p)) := c2.1.2.2.2.2.2 y.1
      have x3 : Xs L T (mup m2 (8 + 1) (tkV L T (nx L T p)).toNat (tkV L T (nx L T (nx L T p)))) (up A (4 + (tkV L T (nx L T p)).toNat) (tkV L T (nx L T (nx L T p)))) (nx L T (nx L T p)) := c2.fr (c2.2.rgt (by omega) _) (Fr.mup (by omega))
      obtain ⟨m3, e1, e2, e3⟩ := xs_next (S := S) hT n2.2 x3
      refine ⟨m3, ct1Z rfl (bI_in _) (by decide) (Nat.le_of_ble_eq_true rfl) (rg_X2_readRight_0 isR8 ⟨m1, a1, _, _, b1, fun z => absurd z (by decide), fun _ => ⟨m2, c1, _, _, d1, fun z => absurd z (by decide), fun _ => ⟨by rw [v1]; omega, m3, ?_, rfl, rfl⟩⟩⟩), e2, ((a3.tr c3).tr (FX.ofFr (Fr.mup (by omega)))).tr e3⟩
      rw [v1, v2]; exact e1
theorem xs_limit (hT : okT L T) {p : Nat} (hp : p ≤ L) (h : Xs L T M A p) : XO S L T mX2_readLimit [Aq 22, Aq 8] M (phS L T A p true 3 1 9) := by
  have n1 := nx_in hT hp
  obtain ⟨m1, a1, a2, a3⟩ := xs_next (S := S) hT hp h
  have b1 := xs_num (S := S) a2 (lo := 1) (hi := 9)
  unfold XO phS
  rw [if_pos rfl]
  cases q : nmB L T (nx L T p) 1 9
  · rw [q] at b1
    rw [if_neg (by decide)]
    exact ⟨m1, ct1Z rfl (bI_in _) (by decide) (Nat.le_of_ble_eq_true rfl) (rg_X2_readLimit_0 isR8 ⟨m1, a1, _, _, b1, fun _ => ⟨rfl, rfl⟩, fun z => absurd rfl z⟩), a2, a3⟩
  · rw [q] at b1
    rw [if_pos rfl]
    have q := of_decide_eq_true q
    have v1 : m1 22 6 = tkV L T (nx L T p) := a2.1.2.2.2.2.2 q.1
    have x3 : Xs L T (mup m1 8 6 (tkV L T (nx L T p))) (up A 3 (tkV L T (nx L T p))) (nx L T p) := a2.fr (a2.2.own (s := 6) (i := 3) (by omega) _) (Fr.mup (by omega))
    obtain ⟨m3, e1, e2, e3⟩ := xs_next (S := S) hT n1.2 x3
    refine ⟨m3, ct1Z rfl (bI_in _) (by decide) (Nat.le_of_ble_eq_true rfl) (rg_X2_readLimit_0 isR8 ⟨m1, a1, _, _, b1, fun z => absurd z (by decide), fun _ => ⟨m3, ?_, rfl, rfl⟩⟩), e2, (a3.tr (FX.ofFr (Fr.mup (by omega)))).tr e3⟩
    rw [v1]; exact e1
theorem kd_eq (hT : okT L T) {p : Nat} (hp : p ≤ L) : kdV L T p = if tkW L T p = 426953501796 then 0 else if tkW L T p = 7564409 then 1 else if tkW L T p = 126909563302009 then 2 else if tkW L T p = 495623497070 then 3 else if tkW L T p = 1818327673 then 4 else if tkW L T p = 114827802801012 then 5 else if tkW L T p = 126879447934322 then 6 else -1 := by
  unfold kdV
  simp only [wd_child hT hp, wd_sly hT hp, wd_sloppy hT hp, wd_seven hT hp, wd_lazy hT hp, wd_honest hT hp, wd_seller hT hp]
theorem cmpE {a b : Int} : cmpL a b = 0 ↔ a = b := by
  unfold cmpL
  split
  · omega
  · split <;> omega
theorem xs_item (hT : okT L T) {p : Nat} (hp : p ≤ L) (hA : KA A0 A) (h : Xs L T M A p) : XO S L T mX2_readItem [Aq 22, Aq 8] M (itS L T A p) := by
  have e5 : M 22 5 = tkW L T p := h.1.2.2.2.2.1
  have kd := kdV_in (L := L) (T := T) p
  have ke := kd_eq hT hp
  have wr := wd_right hT hp
  have wl := wd_limit hT hp
  by_cases c1 : tkW L T p = 491394656372
  · have k1 : kdV L T p = -1 := by rw [ke, c1]; decide
    have e : itS L T A p = rtS L T A p := by unfold itS; rw [if_neg (by omega), if_pos (wr.1 c1)]
    rw [e]
    obtain ⟨m1, a, b, d⟩ := xs_right (S := S) hT hp h
    exact ⟨m1, ct1Z rfl (bI_in _) (by decide) (Nat.le_of_ble_eq_true rfl) (rg_X2_readItem_0 isR8 ⟨fun _ => ⟨_, m1, a, rfl, rfl⟩, fun z => absurd (cmpE.2 (by rw [e5, c1])) z⟩), b, d⟩
  · have n1 : ¬ cmpL (M 22 5) 491394656372 = 0 := fun z => c1 (by rw [← e5]; exact cmpE.1 z)
    by_cases c2 : tkW L T p = 465625246068
    · have k1 : kdV L T p = -1 := by rw [ke, c2]; decide
      have e : itS L T A p = phS L T A p true 3 1 9 := by unfold itS; rw [if_neg (by omega), if_neg (fun w => c1 (wr.2 w)), if_pos (wl.1 c2)]
      rw [e]
      obtain ⟨m1, a, b, d⟩ := xs_limit (S := S) hT hp h
      exact ⟨m1, ct1Z rfl (bI_in _) (by decide) (Nat.le_of_ble_eq_true rfl) (rg_X2_readItem_0 isR8 ⟨fun z => absurd z n1, fun _ => ⟨fun _ => ⟨_, m1, a, rfl, rfl⟩, fun z => absurd (cmpE.2 (by rw [e5, c2])) z⟩⟩), b, d⟩
    · have n2 : ¬ cmpL (M 22 5) 465625246068 = 0 := fun z => c2 (by rw [← e5]; exact cmpE.1 z)
      have tb : ∀ j : Nat, j < 7 → (tkW L T p = tbK j ↔ kdV L T p = (j : Int)) := by
        intro j hj
        rw [ke]
        have h7 : j = 0 ∨ j = 1 ∨ j = 2 ∨ j = 3 ∨ j = 4 ∨ j = 5 ∨ j = 6 := by omega
        rcases h7 with rfl | rfl | rfl | rfl | rfl | rfl | rfl
        · rw [show tbK 0 = 426953501796 from rfl]; (repeat' split) <;> omega
        · rw [show tbK 1 = 7564409 from rfl]; (repeat' split) <;> omega
        · rw [show tbK 2 = 126909563302009 from rfl]; (repeat' split) <;> omega
        · rw [show tbK 3 = 495623497070 from rfl]; (repeat' split) <;> omega
        · rw [show tbK 4 = 1818327673 from rfl]; (repeat' split) <;> omega
        · rw [show tbK 5 = 114827802801012 from rfl]; (repeat' split) <;> omega
        · rw [show tbK 6 = 126879447934322 from rfl]; (repeat' split) <;> omega
      have lp : ∀ n : Nat, n ≤ 7 → (∀ j : Nat, j < n → ¬ kdV L T p = (j : Int)) → ∀ Q, PW S mX2_readItem Q 36 [some (Aq 22), some (Aq 8), some (Iq (n : Int))] [] M → PW S mX2_readItem Q 36 [some (Aq 22), some (Aq 8), some (Iq 0)] [] M := by
        intro n
        induction n with
        | zero => intro _ _ Q hq; exact hq
        | succ n ih =>
          intro hn hj Q hq
          refine ih (by omega) (fun j q => hj j (by omega)) Q (rg_X2_readItem_36 isR8 ⟨fun z => by omega, fun _ => ⟨by omega, fun z => ?_, fun _ => ⟨by omega, hq⟩⟩⟩)
          rw [Int.toNat_natCast] at z
          exact absurd ((tb n (by omega)).1 (by rw [← e5]; exact cmpE.1 z)) (hj n (by omega))
      by_cases c3 : 0 ≤ kdV L T p
      · obtain ⟨k, hk, ek⟩ := int_nat (x := kdV L T p) (n := 7) ⟨c3, by omega⟩
        have e : itS L T A p = chS L T A p (k : Int) := by unfold itS; rw [if_pos c3, ek]
        rw [e]
        obtain ⟨m1, a, b, d⟩ := xs_child (S := S) hT hp hA h hk
        refine ⟨m1, ct1Z rfl (bI_in _) (by decide) (Nat.le_of_ble_eq_true rfl) (rg_X2_readItem_0 isR8 ⟨fun z => absurd z n1, fun _ => ⟨fun z => absurd z n2, fun _ => lp k (by omega) (fun j hj => by omega) _ (rg_X2_readItem_36 isR8 ⟨fun z => by omega, fun _ => ⟨by omega, fun _ => ⟨_, m1, a, rfl, rfl⟩, fun z => ?_⟩⟩)⟩⟩), b, d⟩
        rw [Int.toNat_natCast] at z
        exact absurd (cmpE.2 (by rw [e5]; exact (tb k hk).2 ek)) z
      · have e : itS L T A p = (false, A, p) := by unfold itS; rw [if_neg c3, if_neg (fun w => c1 (wr.2 w)), if_neg (fun w => c2 (wl.2 w))]
        rw [e]
        exact ⟨M, ct1Z rfl (bI_in _) (by decide) (Nat.le_of_ble_eq_true rfl) (rg_X2_readItem_0 isR8 ⟨fun z => absurd z n1, fun _ => ⟨fun z => absurd z n2, fun _ => lp 7 (by omega) (fun j hj => by omega) _ (rg_X2_readItem_36 isR8 ⟨fun _ => ⟨rfl, rfl⟩, fun z => by omega⟩)⟩⟩), h, fun _ _ _ => rfl⟩
end T5

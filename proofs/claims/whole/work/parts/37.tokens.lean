/-! ===== tokens ===== -/
section T1
variable {S : Sx} {mem M : Zm} {L : Nat} {T : Nat → Int}
def bt (L : Nat) (T : Nat → Int) (i : Nat) : Int := if i < L then T i else -1
def pSp (v : Int) : Bool := decide (v = 32)
def pLt (v : Int) : Bool := decide (97 ≤ v ∧ v ≤ 122)
def pDg (v : Int) : Bool := decide (48 ≤ v ∧ v ≤ 57)
def sk (P : Int → Bool) (g : Nat → Int) : Nat → Nat → Nat
  | 0, i => i
  | f + 1, i => if P (g i) = true then sk P g f (i + 1) else i
theorem sk_spec {P : Int → Bool} (hP : P (-1) = false) : ∀ (f i : Nat), i ≤ L → L - i < f → i ≤ sk P (bt L T) f i ∧ sk P (bt L T) f i ≤ L ∧ (∀ k, i ≤ k → k < sk P (bt L T) f i → k < L ∧ P (T k) = true) ∧ P (bt L T (sk P (bt L T) f i)) = false := by
  intro f
  induction f with
  | zero => intro i _ h; omega
  | succ f ih =>
    intro i hi hf
    have e : sk P (bt L T) (f + 1) i = if P (bt L T i) = true then sk P (bt L T) f (i + 1) else i := rfl
    rw [e]
    by_cases c : P (bt L T i) = true
    · rw [if_pos c]
      have hl : i < L := Decidable.of_not_not (fun q => by
        rw [show bt L T i = -1 from if_neg q, hP] at c
        exact absurd c (by decide))
      obtain ⟨h1, h2, h3, h4⟩ := ih (i + 1) (by omega) (by omega)
      refine ⟨by omega, h2, fun k a b => ?_, h4⟩
      by_cases q : k = i
      · subst q; refine ⟨hl, ?_⟩; rw [show bt L T k = T k from if_pos hl] at c; exact c
      · exact h3 k (by omega) b
    · rw [if_neg c]
      exact ⟨Nat.le_refl _, hi, fun k a b => by omega, by cases q : P (bt L T i); rfl; exact absurd q c⟩
def vlN (T : Nat → Int) (p : Nat) : Nat → Int
  | 0 => 0
  | n + 1 => if vlN T p n ≤ 999 then 10 * vlN T p n + T (p + n) - 48 else vlN T p n
def wN8 (T : Nat → Int) (p : Nat) : Nat → Int
  | 0 => 0
  | n + 1 => 256 * wN8 T p n + T (p + n)
def tkP (L : Nat) (T : Nat → Int) (b : Nat) : Nat := sk pSp (bt L T) 121 b
def tkS (L : Nat) (T : Nat → Int) (p : Nat) : Int := if bt L T p < 0 then 0 else if pLt (bt L T p) = true then 1 else if pDg (bt L T p) = true then 2 else if bt L T p = 59 then 3 else 4
def tkE (L : Nat) (T : Nat → Int) (p : Nat) : Nat := if tkS L T p = 0 then p else if tkS L T p = 1 then sk pLt (bt L T) 121 p else if tkS L T p = 2 then sk pDg (bt L T) 121 p else p + 1
def tkV (L : Nat) (T : Nat → Int) (p : Nat) : Int := vlN T p (tkE L T p - p)
def tkW (L : Nat) (T : Nat → Int) (p : Nat) : Int := if tkS L T p = 1 ∧ tkE L T p - p ≤ 8 then wN8 T p (tkE L T p - p) else 0
def okT (L : Nat) (T : Nat → Int) : Prop := L ≤ 120 ∧ ∀ i, i < L → 0 ≤ T i ∧ T i ≤ 255
theorem tkP_spec (h : okT L T) {b : Nat} (hb : b ≤ L) : b ≤ tkP L T b ∧ tkP L T b ≤ L ∧ (∀ k, b ≤ k → k < tkP L T b → k < L ∧ T k = 32) ∧ ¬ bt L T (tkP L T b) = 32 := by
  obtain ⟨h1, h2, h3, h4⟩ := sk_spec (L := L) (T := T) (P := pSp) (by decide) 121 b hb (by have := h.1; omega)
  refine ⟨h1, h2, fun k a b => ⟨(h3 k a b).1, of_decide_eq_true (h3 k a b).2⟩, of_decide_eq_false h4⟩
theorem tkS_in (p : Nat) : tkS L T p = 0 ∨ tkS L T p = 1 ∨ tkS L T p = 2 ∨ tkS L T p = 3 ∨ tkS L T p = 4 := by
  unfold tkS
  split
  · omega
  · split
    · omega
    · split
      · omega
      · split <;> omega
theorem bt_lt (h : okT L T) {p : Nat} : p < L ↔ 0 ≤ bt L T p := by
  unfold bt
  split
  · rename_i q; have := h.2 p q; omega
  · omega
theorem tkE_in (h : okT L T) {p : Nat} (hp : p ≤ L) : p ≤ tkE L T p ∧ tkE L T p ≤ L := by
  have hl := h.1
  have a := sk_spec (L := L) (T := T) (P := pLt) (by decide) 121 p hp (by omega)
  have b := sk_spec (L := L) (T := T) (P := pDg) (by decide) 121 p hp (by omega)
  have s := tkS_in (L := L) (T := T) p
  unfold tkE
  split
  · omega
  · rename_i q
    have : p < L := (bt_lt h).2 (Int.not_lt.1 (fun z => q (if_pos z)))
    split
    · omega
    · split <;> omega
theorem tkS1 {p : Nat} (h : tkS L T p = 1) : pLt (bt L T p) = true := by
  unfold tkS at h
  split at h
  · exact absurd h (by decide)
  · split at h
    · assumption
    · split at h
      · exact absurd h (by decide)
      · split at h <;> exact absurd h (by decide)
theorem tkS2 {p : Nat} (h : tkS L T p = 2) : pDg (bt L T p) = true := by
  unfold tkS at h
  split at h
  · exact absurd h (by decide)
  · split at h
    · exact absurd h (by decide)
    · split at h
      · assumption
      · split at h <;> exact absurd h (by decide)
/-- letters of a word -/
theorem tk_lt (h : okT L T) {p : Nat} (hp : p ≤ L) (h1 : tkS L T p = 1) {k : Nat} (hk : k < tkE L T p - p) : p + k < L ∧ 97 ≤ T (p + k) ∧ T (p + k) ≤ 122 := by
  have a := sk_spec (L := L) (T := T) (P := pLt) (by decide) 121 p hp (by have := h.1; omega)
  have e : tkE L T p = sk pLt (bt L T) 121 p := by unfold tkE; rw [h1]; rfl
  rw [e] at hk
  have := a.2.2.1 (p + k) (by omega) (by omega)
  exact ⟨this.1, of_decide_eq_true this.2⟩
theorem tk_dg (h : okT L T) {p : Nat} (hp : p ≤ L) (h1 : tkS L T p = 2) {k : Nat} (hk : k < tkE L T p - p) : p + k < L ∧ 48 ≤ T (p + k) ∧ T (p + k) ≤ 57 := by
  have a := sk_spec (L := L) (T := T) (P := pDg) (by decide) 121 p hp (by have := h.1; omega)
  have e : tkE L T p = sk pDg (bt L T) 121 p := by unfold tkE; rw [h1]; rfl
  rw [e] at hk
  have := a.2.2.1 (p + k) (by omega) (by omega)
  exact ⟨this.1, of_decide_eq_true this.2⟩
theorem tk_lte (h : okT L T) {p : Nat} (hp : p ≤ L) (h1 : tkS L T p = 1) : ¬ (97 ≤ bt L T (tkE L T p) ∧ bt L T (tkE L T p) ≤ 122) := by
  have a := sk_spec (L := L) (T := T) (P := pLt) (by decide) 121 p hp (by have := h.1; omega)
  have e : tkE L T p = sk pLt (bt L T) 121 p := by unfold tkE; rw [h1]; rfl
  rw [e]
  exact of_decide_eq_false a.2.2.2
theorem tk_dge (h : okT L T) {p : Nat} (hp : p ≤ L) (h1 : tkS L T p = 2) : ¬ (48 ≤ bt L T (tkE L T p) ∧ bt L T (tkE L T p) ≤ 57) := by
  have a := sk_spec (L := L) (T := T) (P := pDg) (by decide) 121 p hp (by have := h.1; omega)
  have e : tkE L T p = sk pDg (bt L T) 121 p := by unfold tkE; rw [h1]; rfl
  rw [e]
  exact of_decide_eq_false a.2.2.2
theorem vl_in (h : okT L T) {p : Nat} (hp : p ≤ L) (h1 : tkS L T p = 2) : ∀ n, n ≤ tkE L T p - p → 0 ≤ vlN T p n ∧ vlN T p n ≤ 9999 := by
  intro n
  induction n with
  | zero => intro _; show (0 : Int) ≤ 0 ∧ (0 : Int) ≤ 9999; omega
  | succ n ih =>
    intro hn
    have i := ih (by omega)
    have d := tk_dg h hp h1 (k := n) (by omega)
    have e : vlN T p (n + 1) = if vlN T p n ≤ 999 then 10 * vlN T p n + T (p + n) - 48 else vlN T p n := rfl
    rw [e]
    split <;> omega
/-! the model's side -/
def TM (L : Nat) (T : Nat → Int) (M : Zm) : Prop := M 34 7 = (L : Int) ∧ ∀ i, i < L → M 40 i = T i
def MTk (L : Nat) (T : Nat → Int) (M : Zm) (p : Nat) : Prop := TM L T M ∧ M 34 13 = tkS L T p ∧ M 34 14 = (p : Int) ∧ M 34 15 = ((tkE L T p : Nat) : Int) ∧ (tkS L T p = 2 → M 34 16 = tkV L T p)
theorem tm_bt {M : Zm} (h : TM L T M) (i : Nat) : btA M (i : Int) = bt L T i := by
  unfold btA bt
  rw [h.1, Int.toNat_natCast]
  by_cases q : i < L
  · rw [if_pos q, if_pos (by omega), h.2 i q]
  · rw [if_neg q, if_neg (by omega)]
theorem TM.up {M : Zm} (h : TM L T M) {s : Nat} {v : Int} (hs : s ≠ 7) : TM L T (mup M 34 s v) := ⟨by rw [mup_ne (by omega)]; exact h.1, fun i hi => by rw [mup_other 40 (by omega)]; exact h.2 i hi⟩
theorem ct_X4_next (hT : okT L T) (hM : TM L T mem) {b : Nat} (hb : b ≤ L) (e15 : mem 34 15 = (b : Int)) : ∃ m2, Ct1 S mX4_nextToken [Aq 34] mem none m2 ∧ MTk L T m2 (tkP L T b) ∧ (∀ o, o ≠ 34 → m2 o = mem o) ∧ (∀ s, ¬ (13 ≤ s ∧ s ≤ 16) → m2 34 s = mem 34 s) := by
  have hl := hT.1
  obtain ⟨p1, p2, p3, p4⟩ := tkP_spec hT hb
  obtain ⟨p, ep⟩ : ∃ p, p = tkP L T b := ⟨_, rfl⟩
  rw [← ep] at p1 p2 p3 p4 ⊢
  obtain ⟨q1, q2⟩ := tkE_in hT p2
  -- spaces
  obtain ⟨m1, ⟨a1, a2, a3, a4⟩, ago⟩ := loopE (fun Q j (M : Zm) => PW S mX4_nextToken Q 8 [some (Aq 34), none] [] M) (fun j M => TM L T M ∧ M 34 14 = ((b + j : Nat) : Int) ∧ (∀ o, o ≠ 34 → M o = mem o) ∧ ∀ s, ¬ (13 ≤ s ∧ s ≤ 16) → M 34 s = mem 34 s) (n := p - b) (s0 := mup mem 34 14 (mem 34 15)) ⟨hM.up (by omega), by rw [mup_at, e15]; rfl, fun o ho => mup_other o ho, fun s hs => mup_ne (by omega)⟩ (by
    intro j M hj ⟨c1, c2, c3, c4⟩
    have sp := p3 (b + j) (by omega) (by omega)
    have eb : btA M ((b + j : Nat) : Int) = 32 := by rw [tm_bt c1, show bt L T (b + j) = T (b + j) from if_pos sp.1]; exact sp.2
    refine ⟨mup M 34 14 (((b + j : Nat) : Int) + 1), ⟨c1.up (by omega), by rw [mup_at]; omega, fun o ho => by rw [mup_other o ho]; exact c3 o ho, fun s hs => by rw [mup_ne (by omega)]; exact c4 s hs⟩, fun Q hq => rg_X4_nextToken_8 ?_⟩
    rw [c2, c1.1]
    exact ⟨by omega, fun _ => ⟨by omega, hq⟩, fun z => absurd eb z⟩)
  rw [show b + (p - b) = p by omega] at a2
  -- the state behind the first look
  have st : ∃ M : Zm, (TM L T M ∧ M 34 13 = tkS L T p ∧ M 34 14 = (p : Int) ∧ M 34 15 = (p : Int) ∧ M 34 16 = 0 ∧ (∀ o, o ≠ 34 → M o = mem o) ∧ ∀ s, ¬ (13 ≤ s ∧ s ≤ 16) → M 34 s = mem 34 s) ∧ ∀ Q, PW S mX4_nextToken Q 101 [some (Aq 34), some (Iq (bt L T p))] [] M → PW S mX4_nextToken Q 8 [some (Aq 34), none] [] m1 := by
    refine ⟨mup (mup (mup m1 34 15 (p : Int)) 34 13 (tkS L T p)) 34 16 0, ⟨((a1.up (by omega)).up (by omega)).up (by omega), by rw [mup_ne (by omega), mup_at], by rw [mup_ne (by omega), mup_ne (by omega), mup_ne (by omega)]; exact a2, by rw [mup_ne (by omega), mup_ne (by omega), mup_at], by rw [mup_at], fun o ho => by rw [mup_other o ho, mup_other o ho, mup_other o ho]; exact a3 o ho, fun s hs => by rw [mup_ne (by omega), mup_ne (by omega), mup_ne (by omega)]; exact a4 s hs⟩, fun Q hq => rg_X4_nextToken_8 ?_⟩
    have eb : btA m1 (p : Int) = bt L T p := tm_bt a1 p
    have eb2 : btA (mup m1 34 15 (p : Int)) (p : Int) = bt L T p := tm_bt (a1.up (by omega)) p
    have e14 : mup m1 34 15 (p : Int) 34 14 = (p : Int) := by rw [mup_ne (by omega)]; exact a2
    have e7 : mup m1 34 15 (p : Int) 34 7 = (L : Int) := by rw [mup_ne (by omega)]; exact a1.1
    simp only [a2, e14, e7, eb, eb2, a1.1]
    unfold tkS at hq
    refine ⟨by omega, fun z => absurd z p4, fun _ => ⟨by omega, fun z => ⟨fun z1 => ?_, fun z1 => ⟨fun z2 => ?_, fun z2 => ⟨fun z3 => ?_, fun z3 => ?_⟩⟩⟩, fun z => ?_⟩⟩
    · rw [if_neg (by omega), if_pos (show pLt (bt L T p) = true from decide_eq_true z1)] at hq; exact hq
    · rw [if_neg (by omega), if_neg (show ¬ pLt (bt L T p) = true from fun w => z1 (of_decide_eq_true w)), if_pos (show pDg (bt L T p) = true from decide_eq_true z2)] at hq; exact hq
    · rw [if_neg (by omega), if_neg (show ¬ pLt (bt L T p) = true from fun w => z1 (of_decide_eq_true w)), if_neg (show ¬ pDg (bt L T p) = true from fun w => z2 (of_decide_eq_true w)), if_pos z3] at hq; exact hq
    · rw [if_neg (by omega), if_neg (show ¬ pLt (bt L T p) = true from fun w => z1 (of_decide_eq_true w)), if_neg (show ¬ pDg (bt L T p) = true from fun w => z2 (of_decide_eq_true w)), if_neg z3] at hq; exact hq
    · rw [if_pos (by omega)] at hq; exact hq
  obtain ⟨m2, ⟨b1, b2, b3, b4, b5, b6, b7⟩, bgo⟩ := st
  have sin := tkS_in (L := L) (T := T) p
  have fin : ∀ m3 : Zm, Ct1 S mX4_nextToken [Aq 34] mem none m3 ↔ Ct1 S mX4_nextToken [Aq 34] mem none m3 := fun _ => Iff.rfl
  have beg : ∀ m3 : Zm, PW S mX4_nextToken (fun r m => r = none ∧ m = m3) 101 [some (Aq 34), some (Iq (bt L T p))] [] m2 → Ct1 S mX4_nextToken [Aq 34] mem none m3 := fun m3 hq => ct1V rfl (by decide) (Nat.le_of_ble_eq_true rfl) (rg_X4_nextToken_0 (ago _ (bgo _ hq)))
  by_cases s1 : tkS L T p = 1
  · -- a word
    obtain ⟨m3, ⟨c1, c2, c3, c4, c5, c6⟩, cgo⟩ := loopE (fun Q j (M : Zm) => PW S mX4_nextToken Q 101 [some (Aq 34), some (Iq (bt L T p))] [] M) (fun j M => TM L T M ∧ M 34 13 = 1 ∧ M 34 14 = (p : Int) ∧ M 34 15 = ((p + j : Nat) : Int) ∧ (∀ o, o ≠ 34 → M o = mem o) ∧ ∀ s, ¬ (13 ≤ s ∧ s ≤ 16) → M 34 s = mem 34 s) (n := tkE L T p - p) (s0 := m2) ⟨b1, by rw [b2, s1], b3, b4, b6, b7⟩ (by
      intro j M hj ⟨d1, d2, d3, d4, d5, d6⟩
      have le := tk_lt hT p2 s1 (k := j) hj
      have eb : btA M ((p + j : Nat) : Int) = T (p + j) := by rw [tm_bt d1]; exact if_pos le.1
      refine ⟨mup M 34 15 (((p + j : Nat) : Int) + 1), ⟨d1.up (by omega), by rw [mup_ne (by omega)]; exact d2, by rw [mup_ne (by omega)]; exact d3, by rw [mup_at]; omega, fun o ho => by rw [mup_other o ho]; exact d5 o ho, fun s hs => by rw [mup_ne (by omega)]; exact d6 s hs⟩, fun Q hq => rg_X4_nextToken_101 ?_⟩
      rw [d2, d4, d1.1, eb]
      exact ⟨fun _ => ⟨by omega, fun _ => ⟨by omega, hq⟩, fun z => by omega⟩, fun z => absurd rfl z⟩)
    rw [show p + (tkE L T p - p) = tkE L T p by omega] at c4
    refine ⟨mup m3 34 15 (((tkE L T p : Nat) : Int) + 0), beg _ (cgo _ (rg_X4_nextToken_101 ?_)), ⟨c1.up (by omega), by rw [mup_ne (by omega), c2, s1], by rw [mup_ne (by omega)]; exact c3, by rw [mup_at]; omega, fun z => by omega⟩, fun o ho => by rw [mup_other o ho]; exact c5 o ho, fun s hs => by rw [mup_ne (by omega)]; exact c6 s hs⟩
    have eb : btA m3 ((tkE L T p : Nat) : Int) = bt L T (tkE L T p) := tm_bt c1 _
    rw [c2, c4, c1.1, eb]
    refine ⟨fun _ => ⟨by omega, fun z => absurd z (tk_lte hT p2 s1), fun _ => rg_X4_nextToken_136 ?_⟩, fun z => absurd rfl z⟩
    rw [c2, c4]
    exact ⟨fun z => by omega, fun _ => ⟨fun _ => ⟨by omega, rfl, rfl⟩, fun z => by omega⟩⟩
  · by_cases s2 : tkS L T p = 2
    · -- a number
      have e101 : ∀ Q, PW S mX4_nextToken Q 136 [some (Aq 34), some (Iq (bt L T p))] [] m2 → PW S mX4_nextToken Q 101 [some (Aq 34), some (Iq (bt L T p))] [] m2 := fun Q hq => rg_X4_nextToken_101 ⟨fun z => by omega, fun _ => hq⟩
      obtain ⟨m3, ⟨c1, c2, c3, c4, c5, c6, c7⟩, cgo⟩ := loopE (fun Q j (M : Zm) => PW S mX4_nextToken Q 136 [some (Aq 34), some (Iq (bt L T p))] [] M) (fun j M => TM L T M ∧ M 34 13 = 2 ∧ M 34 14 = (p : Int) ∧ M 34 15 = ((p + j : Nat) : Int) ∧ M 34 16 = vlN T p j ∧ (∀ o, o ≠ 34 → M o = mem o) ∧ ∀ s, ¬ (13 ≤ s ∧ s ≤ 16) → M 34 s = mem 34 s) (n := tkE L T p - p) (s0 := m2) ⟨b1, by rw [b2, s2], b3, b4, b5, b6, b7⟩ (by
        intro j M hj ⟨d1, d2, d3, d4, d5, d6, d7⟩
        have le := tk_dg hT p2 s2 (k := j) hj
        have vi := vl_in hT p2 s2 j (by omega)
        have eb : btA M ((p + j : Nat) : Int) = T (p + j) := by rw [tm_bt d1]; exact if_pos le.1
        have ev : vlN T p (j + 1) = if vlN T p j ≤ 999 then 10 * vlN T p j + T (p + j) - 48 else vlN T p j := rfl
        refine ⟨mup (mup M 34 16 (vlN T p (j + 1))) 34 15 (((p + j : Nat) : Int) + 1), ⟨(d1.up (by omega)).up (by omega), by rw [mup_ne (by omega), mup_ne (by omega)]; exact d2, by rw [mup_ne (by omega), mup_ne (by omega)]; exact d3, by rw [mup_at]; omega, by rw [mup_ne (by omega), mup_at], fun o ho => by rw [mup_other o ho, mup_other o ho]; exact d6 o ho, fun s hs => by rw [mup_ne (by omega), mup_ne (by omega)]; exact d7 s hs⟩, fun Q hq => rg_X4_nextToken_136 ?_⟩
        have e15' : ∀ v, mup M 34 16 v 34 15 = ((p + j : Nat) : Int) := fun v => by rw [mup_ne (by omega)]; exact d4
        rw [d2, d4, d1.1, d5, eb, e15', e15']
        refine ⟨fun _ => ⟨by omega, fun _ => ⟨fun z => ⟨by omega, by omega, by omega, by omega, by omega, ?_⟩, fun z => ⟨by omega, ?_⟩⟩, fun z => by omega⟩, fun z => absurd rfl z⟩
        · rw [ev, if_pos z] at hq; exact hq
        · rw [ev, if_neg z] at hq; exact hq)
      rw [show p + (tkE L T p - p) = tkE L T p by omega] at c4
      refine ⟨mup m3 34 15 (((tkE L T p : Nat) : Int) + 0), beg _ (e101 _ (cgo _ (rg_X4_nextToken_136 ?_))), ⟨c1.up (by omega), by rw [mup_ne (by omega), c2, s2], by rw [mup_ne (by omega)]; exact c3, by rw [mup_at]; omega, fun z => by rw [mup_ne (by omega)]; exact c5⟩, fun o ho => by rw [mup_other o ho]; exact c6 o ho, fun s hs => by rw [mup_ne (by omega)]; exact c7 s hs⟩
      have eb : btA m3 ((tkE L T p : Nat) : Int) = bt L T (tkE L T p) := tm_bt c1 _
      rw [c2, c4, c1.1, eb]
      exact ⟨fun _ => ⟨by omega, fun z => absurd z (tk_dge hT p2 s2), fun _ => ⟨fun _ => ⟨by omega, rfl, rfl⟩, fun z => by omega⟩⟩, fun z => absurd rfl z⟩
    · -- a sign or the end
      have e101 : ∀ Q, PW S mX4_nextToken Q 136 [some (Aq 34), some (Iq (bt L T p))] [] m2 → PW S mX4_nextToken Q 101 [some (Aq 34), some (Iq (bt L T p))] [] m2 := fun Q hq => rg_X4_nextToken_101 ⟨fun z => by omega, fun _ => hq⟩
      have eE : tkE L T p = if tkS L T p = 0 then p else p + 1 := by unfold tkE; rw [if_neg s1, if_neg s2]
      refine ⟨mup m2 34 15 ((tkE L T p : Nat) : Int), beg _ (e101 _ (rg_X4_nextToken_136 ?_)), ⟨b1.up (by omega), by rw [mup_ne (by omega)]; exact b2, by rw [mup_ne (by omega)]; exact b3, by rw [mup_at], fun z => absurd z s2⟩, fun o ho => by rw [mup_other o ho]; exact b6 o ho, fun s hs => by rw [mup_ne (by omega)]; exact b7 s hs⟩
      rw [b2, b4]
      refine ⟨fun z => absurd z s2, fun _ => ⟨fun z => ⟨by omega, rfl, ?_⟩, fun z => ⟨by omega, rfl, ?_⟩⟩⟩
      · rw [eE, if_pos (by omega)]; congr 1 <;> omega
      · rw [eE, if_neg (by omega)]; congr 1
end T1

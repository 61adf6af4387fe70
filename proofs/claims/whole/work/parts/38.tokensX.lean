/-! ===== tokens, the reader's side ===== -/
section T2
variable {S : Sx} {mem M : Zm} {L : Nat} {T : Nat → Int}
theorem pack8 {a d : Nat} (ha : a < 36028797018963968) (hd : d < 256) : lOr (lShl (a : Int) 8) (d : Int) = ((256 * a + d : Nat) : Int) := by
  unfold lOr lShl
  rw [Int64.ofInt_toInt]
  have hs : (((Int32.ofInt 8).toInt64 &&& 63).toBitVec.smod 64) = 8#64 := by decide
  have h1 : (Int64.ofInt (a : Int)).toBitVec.toNat = a := by
    rw [Int64.toBitVec_ofInt, BitVec.toNat_ofInt]
    omega
  have h2 : (Int64.ofInt (d : Int)).toBitVec.toNat = d := by
    rw [Int64.toBitVec_ofInt, BitVec.toNat_ofInt]
    omega
  have h3 : (Int64.ofInt (a : Int) <<< ((Int32.ofInt 8).toInt64 &&& 63) ||| Int64.ofInt (d : Int)).toBitVec.toNat = 256 * a + d := by
    rw [Int64.toBitVec_or, Int64.toBitVec_shiftLeft, hs, BitVec.toNat_or, h2]
    rw [show (Int64.ofInt (a : Int)).toBitVec <<< 8#64 = (Int64.ofInt (a : Int)).toBitVec <<< 8 from rfl, BitVec.toNat_shiftLeft, h1, Nat.shiftLeft_eq, Nat.mod_eq_of_lt (by omega), ← Nat.shiftLeft_eq, ← Nat.shiftLeft_add_eq_or_of_lt (by omega), Nat.shiftLeft_eq]
    omega
  show (Int64.ofInt (a : Int) <<< ((Int32.ofInt 8).toInt64 &&& 63) ||| Int64.ofInt (d : Int)).toBitVec.toInt = _
  rw [BitVec.toInt_eq_toNat_of_lt (by rw [h3]; omega), h3]
theorem toB_255 : ∀ n : Nat, n < 256 → toB (n : Int) = if n < 128 then (n : Int) else (n : Int) - 256 := by decide +kernel
def TX (L : Nat) (T : Nat → Int) (M : Zm) : Prop := M 22 1 = (L : Int) ∧ ∀ i, i < L → M 23 i = toB (T i)
def XTk (L : Nat) (T : Nat → Int) (M : Zm) (p : Nat) : Prop := TX L T M ∧ M 22 2 = (p : Int) ∧ M 22 3 = ((tkE L T p : Nat) : Int) ∧ M 22 4 = tkS L T p ∧ M 22 5 = tkW L T p ∧ (tkS L T p = 2 → M 22 6 = tkV L T p)
theorem TX.up {M : Zm} (h : TX L T M) {s : Nat} {v : Int} (hs : s ≠ 1) : TX L T (mup M 22 s v) := ⟨by rw [mup_ne (by omega)]; exact h.1, fun i hi => by rw [mup_other 23 (by omega)]; exact h.2 i hi⟩
theorem TX.lo {M : Zm} (hT : okT L T) (h : TX L T M) {i : Nat} (hi : i < L) : (T i < 128 ∧ M 23 i = T i) ∨ (128 ≤ T i ∧ M 23 i < 0) := by
  have r := hT.2 i hi
  obtain ⟨n, hn, en⟩ := int_nat (x := T i) (n := 256) ⟨by omega, by omega⟩
  rw [h.2 i hi, en, toB_255 n hn]
  split <;> omega
theorem wN_in (h : okT L T) {p : Nat} (hp : p ≤ L) (h1 : tkS L T p = 1) : ∀ n, n ≤ tkE L T p - p → n ≤ 7 → ∃ a : Nat, wN8 T p n = (a : Int) ∧ a < 36028797018963968 := by
  have w : ∀ n, n ≤ tkE L T p - p → n ≤ 7 → ∃ a : Nat, wN8 T p n = (a : Int) ∧ a < 123 * 256 ^ (n - 1) := by
    intro n
    induction n with
    | zero => intro _ _; exact ⟨0, rfl, by decide⟩
    | succ n ih =>
      intro hn h7
      obtain ⟨a, e, ha⟩ := ih (by omega) (by omega)
      have le := tk_lt h hp h1 (k := n) (by omega)
      obtain ⟨d, hd, ed⟩ := int_nat (x := T (p + n)) (n := 123) ⟨by omega, by omega⟩
      refine ⟨256 * a + d, by show 256 * wN8 T p n + T (p + n) = _; rw [e, ed]; omega, ?_⟩
      by_cases q : n = 0
      · subst q
        have : wN8 T p 0 = 0 := rfl
        show 256 * a + d < 123 * 256 ^ 0
        omega
      · have e2 : 256 ^ (n + 1 - 1) = 256 ^ (n - 1) * 256 := by rw [← Nat.pow_succ]; congr 1; omega
        rw [e2]
        omega
  intro n hn h7
  obtain ⟨a, e, ha⟩ := w n hn h7
  refine ⟨a, e, Nat.lt_of_lt_of_le ha ?_⟩
  have : 256 ^ (n - 1) ≤ 256 ^ 6 := Nat.pow_le_pow_right (by omega) (by omega)
  have e6 : (256 : Nat) ^ 6 = 281474976710656 := by decide
  omega
theorem xt_word (hT : okT L T) (hM : TX L T mem) {p : Nat} (hp : p ≤ L) (s1 : tkS L T p = 1) (e2 : mem 22 2 = (p : Int)) (e3 : mem 22 3 = (p : Int)) (e5 : mem 22 5 = 0) : ∃ m2, Ct1 S mX2_takeWord [Aq 22] mem none m2 ∧ XTk L T m2 p ∧ ∀ o, o ≠ 22 → m2 o = mem o := by
  have hl := hT.1
  obtain ⟨q1, q2⟩ := tkE_in hT hp
  obtain ⟨m1, ⟨a1, a2, a3, a4, a5, a6⟩, ago⟩ := loopE (fun Q j (M : Zm) => PW S mX2_takeWord Q 5 [some (Aq 22)] [] M) (fun j M => TX L T M ∧ M 22 2 = (p : Int) ∧ M 22 3 = ((p + j : Nat) : Int) ∧ M 22 4 = 1 ∧ (j ≤ 8 → M 22 5 = wN8 T p j) ∧ ∀ o, o ≠ 22 → M o = mem o) (n := tkE L T p - p) (s0 := mup mem 22 4 1) ⟨hM.up (by omega), by rw [mup_ne (by omega)]; exact e2, by rw [mup_ne (by omega)]; exact e3, mup_at _ _ _ _, fun _ => by rw [mup_ne (by omega)]; exact e5, fun o ho => mup_other o ho⟩ (by
    intro j M hj ⟨b1, b2, b3, b4, b5, b6⟩
    have le := tk_lt hT hp s1 (k := j) hj
    have lo := b1.lo hT le.1
    have eb : M 23 (((p + j : Nat) : Int)).toNat = T (p + j) := by rw [Int.toNat_natCast]; omega
    refine ⟨mup (mup M 22 5 (lOr (lShl (M 22 5) 8) (T (p + j)))) 22 3 (((p + j : Nat) : Int) + 1), ⟨(b1.up (by omega)).up (by omega), by rw [mup_ne (by omega), mup_ne (by omega)]; exact b2, by rw [mup_at]; omega, by rw [mup_ne (by omega), mup_ne (by omega)]; exact b4, fun h8 => ?_, fun o ho => by rw [mup_other o ho, mup_other o ho]; exact b6 o ho⟩, fun Q hq => rg_X2_takeWord_5 ?_⟩
    · rw [mup_ne (by omega), mup_at, b5 (by omega)]
      obtain ⟨a, ea, ha⟩ := wN_in hT hp s1 j (by omega) (by omega)
      obtain ⟨d, hd, ed⟩ := int_nat (x := T (p + j)) (n := 256) ⟨by omega, by omega⟩
      show _ = 256 * wN8 T p j + T (p + j)
      rw [ea, ed, pack8 ha hd]
      omega
    · have e3' : ∀ v, mup M 22 5 v 22 3 = ((p + j : Nat) : Int) := fun v => by rw [mup_ne (by omega)]; exact b3
      rw [b3, b1.1, eb, e3']
      exact ⟨fun z => by omega, fun _ => ⟨by omega, fun z => by omega, fun _ => ⟨by omega, fun z => by omega, fun _ => ⟨by omega, by omega, hq⟩⟩⟩⟩)
  rw [show p + (tkE L T p - p) = tkE L T p by omega] at a3
  have en := tk_lte hT hp s1
  have stop : ∀ m3 : Zm, (((tkE L T p : Nat) : Int) - (p : Int) ≤ 8 → m3 = m1) → (¬ ((tkE L T p : Nat) : Int) - (p : Int) ≤ 8 → m3 = mup m1 22 5 0) → Ct1 S mX2_takeWord [Aq 22] mem none m3 := by
    intro m3 g1 g2
    refine ct1V rfl (by decide) (Nat.le_of_ble_eq_true rfl) (rg_X2_takeWord_0 (ago _ (rg_X2_takeWord_5 ?_)))
    rw [a3, a1.1, a2, Int.toNat_natCast]
    have lf : in32 (((tkE L T p : Nat) : Int) - (p : Int)) ∧ (((((tkE L T p : Nat) : Int) - (p : Int) ≤ 8) → ((fun r m => r = none ∧ m = m3) (none : Option PV) m1)) ∧ (¬ (((tkE L T p : Nat) : Int) - (p : Int) ≤ 8) → ((fun r m => r = none ∧ m = m3) (none : Option PV) (mup m1 22 5 0)))) := ⟨by omega, fun z => ⟨rfl, (g1 z).symm⟩, fun z => ⟨rfl, (g2 z).symm⟩⟩
    refine ⟨fun _ => lf, fun z => ⟨by omega, fun _ => lf, fun z1 => ⟨by omega, fun _ => lf, fun z2 => ?_⟩⟩⟩
    have hlt : tkE L T p < L := by omega
    have lo := a1.lo hT hlt
    rw [show bt L T (tkE L T p) = T (tkE L T p) from if_pos hlt] at en
    omega
  by_cases c : tkE L T p - p ≤ 8
  · exact ⟨m1, stop m1 (fun _ => rfl) (fun z => by omega), ⟨a1, a2, a3, by rw [a4, s1], by rw [a5 c]; exact (if_pos ⟨s1, c⟩).symm, fun z => by omega⟩, a6⟩
  · refine ⟨mup m1 22 5 0, stop _ (fun z => by omega) (fun _ => rfl), ⟨a1.up (by omega), by rw [mup_ne (by omega)]; exact a2, by rw [mup_ne (by omega)]; exact a3, by rw [mup_ne (by omega), a4, s1], by rw [mup_at]; exact (if_neg (fun z => c z.2)).symm, fun z => by omega⟩, fun o ho => by rw [mup_other o ho]; exact a6 o ho⟩
theorem xt_number (hT : okT L T) (hM : TX L T mem) {p : Nat} (hp : p ≤ L) (s2 : tkS L T p = 2) (e2 : mem 22 2 = (p : Int)) (e3 : mem 22 3 = (p : Int)) (e5 : mem 22 5 = 0) : ∃ m2, Ct1 S mX2_takeNumber [Aq 22] mem none m2 ∧ XTk L T m2 p ∧ ∀ o, o ≠ 22 → m2 o = mem o := by
  have hl := hT.1
  obtain ⟨q1, q2⟩ := tkE_in hT hp
  obtain ⟨m1, ⟨a1, a2, a3, a4, a5, a7, a6⟩, ago⟩ := loopE (fun Q j (M : Zm) => PW S mX2_takeNumber Q 10 [some (Aq 22)] [] M) (fun j M => TX L T M ∧ M 22 2 = (p : Int) ∧ M 22 3 = ((p + j : Nat) : Int) ∧ M 22 4 = 2 ∧ M 22 5 = 0 ∧ M 22 6 = vlN T p j ∧ ∀ o, o ≠ 22 → M o = mem o) (n := tkE L T p - p) (s0 := mup (mup mem 22 4 2) 22 6 0) ⟨(hM.up (by omega)).up (by omega), by rw [mup_ne (by omega), mup_ne (by omega)]; exact e2, by rw [mup_ne (by omega), mup_ne (by omega)]; exact e3, by rw [mup_ne (by omega), mup_at], by rw [mup_ne (by omega), mup_ne (by omega)]; exact e5, by rw [mup_at]; rfl, fun o ho => by rw [mup_other o ho, mup_other o ho]⟩ (by
    intro j M hj ⟨b1, b2, b3, b4, b5, b7, b6⟩
    have le := tk_dg hT hp s2 (k := j) hj
    have lo := b1.lo hT le.1
    have vi := vl_in hT hp s2 j (by omega)
    have eb : M 23 (((p + j : Nat) : Int)).toNat = T (p + j) := by rw [Int.toNat_natCast]; omega
    have ev : vlN T p (j + 1) = if vlN T p j ≤ 999 then 10 * vlN T p j + T (p + j) - 48 else vlN T p j := rfl
    by_cases c : vlN T p j ≤ 999
    · refine ⟨mup (mup M 22 6 (vlN T p j * 10 + T (p + j) - 48)) 22 3 (((p + j : Nat) : Int) + 1), ⟨(b1.up (by omega)).up (by omega), by rw [mup_ne (by omega), mup_ne (by omega)]; exact b2, by rw [mup_at]; omega, by rw [mup_ne (by omega), mup_ne (by omega)]; exact b4, by rw [mup_ne (by omega), mup_ne (by omega)]; exact b5, by rw [mup_ne (by omega), mup_at, ev, if_pos c]; omega, fun o ho => by rw [mup_other o ho, mup_other o ho]; exact b6 o ho⟩, fun Q hq => rg_X2_takeNumber_10 ?_⟩
      have e3' : ∀ v, mup M 22 6 v 22 3 = ((p + j : Nat) : Int) := fun v => by rw [mup_ne (by omega)]; exact b3
      rw [b3, b1.1, eb, b7, e3']
      exact ⟨fun z => by omega, fun _ => ⟨by omega, fun z => by omega, fun _ => ⟨by omega, fun z => by omega, fun _ => ⟨fun z => by omega, fun _ => ⟨by omega, by omega, by omega, by omega, by omega, hq⟩⟩⟩⟩⟩
    · refine ⟨mup M 22 3 (((p + j : Nat) : Int) + 1), ⟨b1.up (by omega), by rw [mup_ne (by omega)]; exact b2, by rw [mup_at]; omega, by rw [mup_ne (by omega)]; exact b4, by rw [mup_ne (by omega)]; exact b5, by rw [mup_ne (by omega), b7, ev, if_neg c], fun o ho => by rw [mup_other o ho]; exact b6 o ho⟩, fun Q hq => rg_X2_takeNumber_10 ?_⟩
      rw [b3, b1.1, eb, b7]
      exact ⟨fun z => by omega, fun _ => ⟨by omega, fun z => by omega, fun _ => ⟨by omega, fun z => by omega, fun _ => ⟨fun _ => ⟨by omega, hq⟩, fun z => by omega⟩⟩⟩⟩)
  rw [show p + (tkE L T p - p) = tkE L T p by omega] at a3
  have en := tk_dge hT hp s2
  refine ⟨m1, ct1V rfl (by decide) (Nat.le_of_ble_eq_true rfl) (rg_X2_takeNumber_0 (ago _ (rg_X2_takeNumber_10 ?_))), ⟨a1, a2, a3, by rw [a4, s2], by rw [a5]; exact (if_neg (fun z => by omega)).symm, fun _ => a7⟩, a6⟩
  rw [a3, a1.1, Int.toNat_natCast]
  refine ⟨fun _ => ⟨rfl, rfl⟩, fun z => ⟨by omega, fun _ => ⟨rfl, rfl⟩, fun z1 => ⟨by omega, fun _ => ⟨rfl, rfl⟩, fun z2 => ?_⟩⟩⟩
  have hlt : tkE L T p < L := by omega
  have lo := a1.lo hT hlt
  rw [show bt L T (tkE L T p) = T (tkE L T p) from if_pos hlt] at en
  omega
theorem xt_next (hT : okT L T) (hM : TX L T mem) {b : Nat} (hb : b ≤ L) (e3 : mem 22 3 = (b : Int)) : ∃ m2, Ct1 S mX2_nextToken [Aq 22] mem none m2 ∧ XTk L T m2 (tkP L T b) ∧ ∀ o, o ≠ 22 → m2 o = mem o := by
  have hl := hT.1
  obtain ⟨p1, p2, p3, p4⟩ := tkP_spec hT hb
  obtain ⟨p, ep⟩ : ∃ p, p = tkP L T b := ⟨_, rfl⟩
  rw [← ep] at p1 p2 p3 p4 ⊢
  obtain ⟨m1, ⟨a1, a2, a3⟩, ago⟩ := loopE (fun Q j (M : Zm) => PW S mX2_nextToken Q 0 [some (Aq 22)] [] M) (fun j M => TX L T M ∧ M 22 3 = ((b + j : Nat) : Int) ∧ (∀ o, o ≠ 22 → M o = mem o)) (n := p - b) (s0 := mem) ⟨hM, by rw [e3]; rfl, fun _ _ => rfl⟩ (by
    intro j M hj ⟨c1, c2, c3⟩
    have sp := p3 (b + j) (by omega) (by omega)
    have lo := c1.lo hT sp.1
    have eb : M 23 (((b + j : Nat) : Int)).toNat = 32 := by rw [Int.toNat_natCast]; omega
    refine ⟨mup M 22 3 (((b + j : Nat) : Int) + 1), ⟨c1.up (by omega), by rw [mup_at]; omega, fun o ho => by rw [mup_other o ho]; exact c3 o ho⟩, fun Q hq => rg_X2_nextToken_0 ?_⟩
    rw [c2, c1.1, eb]
    exact ⟨fun z => by omega, fun _ => ⟨by omega, fun _ => ⟨by omega, hq⟩, fun z => absurd rfl z⟩⟩)
  rw [show b + (p - b) = p by omega] at a2
  obtain ⟨N, eN⟩ : ∃ N, N = mup (mup (mup m1 22 2 (p : Int)) 22 5 0) 22 6 (-1) := ⟨_, rfl⟩
  have n0 : TX L T N := by rw [eN]; exact ((a1.up (by omega)).up (by omega)).up (by omega)
  have n2 : N 22 2 = (p : Int) := by rw [eN, mup_ne (by omega), mup_ne (by omega), mup_at]
  have n3 : N 22 3 = (p : Int) := by rw [eN, mup_ne (by omega), mup_ne (by omega), mup_ne (by omega)]; exact a2
  have n5 : N 22 5 = 0 := by rw [eN, mup_ne (by omega), mup_at]
  have no : ∀ o, o ≠ 22 → N o = mem o := fun o ho => by rw [eN, mup_other o ho, mup_other o ho, mup_other o ho]; exact a3 o ho
  have n34 : ∀ v, mup N 22 4 v 22 3 = (p : Int) := fun v => by rw [mup_ne (by omega)]; exact n3
  have beg : ∀ m3 : Zm, PW S mX2_nextToken (fun r m => r = none ∧ m = m3) 0 [some (Aq 22)] [] m1 → Ct1 S mX2_nextToken [Aq 22] mem none m3 := fun m3 hq => ct1V rfl (by decide) (Nat.le_of_ble_eq_true rfl) (ago _ hq)
  by_cases hlt : p < L
  · have ebt : bt L T p = T p := if_pos hlt
    rw [ebt] at p4
    have r := hT.2 p hlt
    have lo := a1.lo hT hlt
    have lo2 := n0.lo hT hlt
    have gate : ∀ m3 : Zm, ((N 23 p < 97 ∨ 122 < N 23 p) → ((N 23 p < 48 ∨ 57 < N 23 p) → (N 23 p = 59 → m3 = mup (mup N 22 4 3) 22 3 ((p : Int) + 1)) ∧ (¬ N 23 p = 59 → m3 = mup (mup N 22 4 4) 22 3 ((p : Int) + 1))) ∧ (¬ (N 23 p < 48 ∨ 57 < N 23 p) → Ct1 S mX2_takeNumber [Aq 22] N none m3)) → (¬ (N 23 p < 97 ∨ 122 < N 23 p) → Ct1 S mX2_takeWord [Aq 22] N none m3) → Ct1 S mX2_nextToken [Aq 22] mem none m3 := by
      intro m3 g1 g2
      refine beg m3 (rg_X2_nextToken_0 ?_)
      rw [a2, a1.1, Int.toNat_natCast, ← eN, n2, n0.1, Int.toNat_natCast, n34, n34]
      have w : ¬ (N 23 p < 97 ∨ 122 < N 23 p) → ∃ (m18 : Zm), Ct1 S mX2_takeWord [Aq 22] N none m18 ∧ ((fun r m => r = none ∧ m = m3) (none : Option PV) m18) := fun z => ⟨m3, g2 z, rfl, rfl⟩
      have nn : (N 23 p < 97 ∨ 122 < N 23 p) → ¬ (N 23 p < 48 ∨ 57 < N 23 p) → ∃ (m18 : Zm), Ct1 S mX2_takeNumber [Aq 22] N none m18 ∧ ((fun r m => r = none ∧ m = m3) (none : Option PV) m18) := fun z y => ⟨m3, (g1 z).2 y, rfl, rfl⟩
      have sg : (N 23 p < 97 ∨ 122 < N 23 p) → (N 23 p < 48 ∨ 57 < N 23 p) → N 23 p = 59 → ((fun r m => r = none ∧ m = m3) (none : Option PV) (mup (mup N 22 4 3) 22 3 ((p : Int) + 1))) := fun z y x => ⟨rfl, (((g1 z).1 y).1 x).symm⟩
      have ot : (N 23 p < 97 ∨ 122 < N 23 p) → (N 23 p < 48 ∨ 57 < N 23 p) → ¬ N 23 p = 59 → ((fun r m => r = none ∧ m = m3) (none : Option PV) (mup (mup N 22 4 4) 22 3 ((p : Int) + 1))) := fun z y x => ⟨rfl, (((g1 z).1 y).2 x).symm⟩
      have rg1 : 0 ≤ (p : Int) ∧ (p : Int) < 120 := by omega
      have i32 : in32 ((p : Int) + 1) := by omega
      have hne : ¬ m1 23 p = 32 := by omega
      exact ⟨fun z => absurd z (by omega), fun _ => ⟨rg1, fun z => absurd z hne, fun _ => ⟨fun _ => ⟨rg1, fun z1 => ⟨rg1, fun z3 => ⟨rg1, fun z4 => ⟨i32, sg (.inl z1) (.inl z3) z4⟩, fun z4 => ⟨i32, ot (.inl z1) (.inl z3) z4⟩⟩, fun z3 => ⟨rg1, fun z4 => ⟨rg1, fun z5 => ⟨i32, sg (.inl z1) (.inr z4) z5⟩, fun z5 => ⟨i32, ot (.inl z1) (.inr z4) z5⟩⟩, fun z4 => nn (.inl z1) (by omega)⟩⟩, fun z1 => ⟨rg1, fun z2 => ⟨rg1, fun z3 => ⟨rg1, fun z4 => ⟨i32, sg (.inr z2) (.inl z3) z4⟩, fun z4 => ⟨i32, ot (.inr z2) (.inl z3) z4⟩⟩, fun z3 => ⟨rg1, fun z4 => ⟨rg1, fun z5 => ⟨i32, sg (.inr z2) (.inr z4) z5⟩, fun z5 => ⟨i32, ot (.inr z2) (.inr z4) z5⟩⟩, fun z4 => nn (.inr z2) (by omega)⟩⟩, fun z2 => w (by omega)⟩⟩, fun z => absurd z (by omega)⟩⟩⟩
    by_cases c1 : 97 ≤ T p ∧ T p ≤ 122
    · have s1 : tkS L T p = 1 := by unfold tkS; rw [ebt, if_neg (by omega), if_pos (show pLt (T p) = true from decide_eq_true c1)]
      obtain ⟨m3, k1, k2, k3⟩ := xt_word (S := S) hT n0 p2 s1 n2 n3 n5
      exact ⟨m3, gate m3 (fun z => by omega) (fun _ => k1), k2, fun o ho => by rw [k3 o ho]; exact no o ho⟩
    · have nl : ¬ pLt (T p) = true := fun w => c1 (of_decide_eq_true w)
      by_cases c2 : 48 ≤ T p ∧ T p ≤ 57
      · have s2 : tkS L T p = 2 := by unfold tkS; rw [ebt, if_neg (by omega), if_neg nl, if_pos (show pDg (T p) = true from decide_eq_true c2)]
        obtain ⟨m3, k1, k2, k3⟩ := xt_number (S := S) hT n0 p2 s2 n2 n3 n5
        exact ⟨m3, gate m3 (fun z => ⟨fun y => by omega, fun _ => k1⟩) (fun z => by omega), k2, fun o ho => by rw [k3 o ho]; exact no o ho⟩
      · have nd : ¬ pDg (T p) = true := fun w => c2 (of_decide_eq_true w)
        obtain ⟨v, hv, ev⟩ : ∃ v : Int, tkS L T p = v ∧ ((T p = 59 ∧ v = 3) ∨ (¬ T p = 59 ∧ v = 4)) := by
          by_cases c3 : T p = 59
          · exact ⟨3, by unfold tkS; rw [ebt, if_neg (by omega), if_neg nl, if_neg nd, if_pos c3], .inl ⟨c3, rfl⟩⟩
          · exact ⟨4, by unfold tkS; rw [ebt, if_neg (by omega), if_neg nl, if_neg nd, if_neg c3], .inr ⟨c3, rfl⟩⟩
        have eE : tkE L T p = p + 1 := by unfold tkE; rw [hv, if_neg (by omega), if_neg (by omega), if_neg (by omega)]
        have eW : tkW L T p = 0 := if_neg (fun z => by omega)
        refine ⟨mup (mup N 22 4 v) 22 3 ((p : Int) + 1), gate _ (fun z => ⟨fun y => ⟨fun x => by rw [show v = 3 by omega], fun x => by rw [show v = 4 by omega]⟩, fun y => by omega⟩) (fun z => by omega), ⟨(n0.up (by omega)).up (by omega), by rw [mup_ne (by omega), mup_ne (by omega)]; exact n2, by rw [mup_at, eE]; omega, by rw [mup_ne (by omega), mup_at, hv], by rw [mup_ne (by omega), mup_ne (by omega), n5, eW], fun z => by omega⟩, fun o ho => by rw [mup_other o ho, mup_other o ho]; exact no o ho⟩
  · have s0 : tkS L T p = 0 := by unfold tkS; rw [show bt L T p = -1 from if_neg hlt]; rfl
    have eE : tkE L T p = p := by unfold tkE; rw [if_pos s0]
    have eW : tkW L T p = 0 := if_neg (fun z => by omega)
    refine ⟨mup N 22 4 0, beg _ (rg_X2_nextToken_0 ?_), ⟨n0.up (by omega), by rw [mup_ne (by omega)]; exact n2, by rw [mup_ne (by omega), n3, eE], by rw [mup_at, s0], by rw [mup_ne (by omega), n5, eW], fun z => by omega⟩, fun o ho => by rw [mup_other o ho]; exact no o ho⟩
    rw [a2, a1.1, Int.toNat_natCast, ← eN, n2, n0.1]
    have lf : ((fun r m => r = none ∧ m = mup N 22 4 0) (none : Option PV) (mup N 22 4 0)) := ⟨rfl, rfl⟩
    (repeat' (first | exact lf | intro _ | apply And.intro)) <;> (first | omega | (exfalso; omega))
end T2

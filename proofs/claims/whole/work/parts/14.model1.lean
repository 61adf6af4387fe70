/-! ===== the model's side: kinds, sets, sums ===== -/
section MA
variable {S : Sx} {mem : Zm} {x0 x1 x2 x3 x4 : Int} {r0 r1 : Nat}
theorem ct_X4_lends (h : 0 ≤ x1 ∧ x1 < 8 ∧ 0 ≤ mem 35 1) : Ct1 S mX4_lends [Aq 34, Iq x1] mem (some (Iq (bI (lendP (mem 35 (12 + 14 * x1.toNat)) (mem 35 1) (mem 35 (12 + 14 * x1.toNat + 4)))))) mem :=
  ct1Z rfl bIr (by decide) (Nat.le_of_ble_eq_true rfl) (rg_X4_lends_0 ⟨by omega, fun c => ⟨by omega, fun d => ⟨by rw [bIt (by omega)], rfl⟩, fun d => ⟨by rw [bIf (by omega)], rfl⟩⟩, fun c => ⟨by rw [bIf (by omega)], rfl⟩, fun c => ⟨by omega, fun d => ⟨by rw [bIf (by omega)], rfl⟩, fun d => ⟨by rw [bIt (by omega)], rfl⟩⟩, fun c => ⟨by rw [bIt (by omega)], rfl⟩⟩)
theorem o7_in (d : Int) (h : 0 ≤ d ∧ d ≤ 9) : 0 ≤ o7 d ∧ o7 d ≤ 9 := by unfold o7; split <;> omega
theorem ct_X4_slipsOf (h : 0 ≤ x2 ∧ -1 ≤ x3 ∧ x3 < 100 ∧ 0 ≤ mem 35 1) : Ct1 S mX4_slipsOf [Aq 34, Iq x1, Iq x2, Iq x3] mem (some (Iq (slipV x1 (mem 35 1) x2 x3))) mem := by
  refine ct1I rfl (by decide) (Nat.le_of_ble_eq_true rfl) (rg_X4_slipsOf_0 ⟨fun c => ⟨by omega, fun d => ?_, fun d => ?_⟩, fun c => ⟨by unfold slipV; rw [if_pos (by omega)], rfl⟩⟩)
  · have e : exch x2 x3 = x3 % 10 * 10 + x3 / 10 := by unfold exch; rw [if_neg (by omega)]
    have i1 := o7_in ((x3 % 10 * 10 + x3 / 10) / 10) (by omega)
    have i2 := o7_in ((x3 % 10 * 10 + x3 / 10) % 10) (by omega)
    have e2 : sevn (exch x2 x3) = 10 * o7 ((x3 % 10 * 10 + x3 / 10) / 10) + o7 ((x3 % 10 * 10 + x3 / 10) % 10) := by rw [e]; rfl
    have hs : slipV x1 (mem 35 1) x2 x3 = if x1 = 1 ∨ x1 = 6 then (if x2 % 4 = 0 then -1 else x3) else if x1 = 2 then exch x2 x3 else if x1 = 3 then sevn (exch x2 x3) else if x1 = 4 then (if mem 35 1 % 2 = 0 then sevn (exch x2 x3) else -1) else if x1 = 5 then -1 else x3 := by unfold slipV; rw [if_neg (by omega)]
    rw [hs, e2, e]
    refine ⟨by omega, by omega, by omega, by omega, by omega, by omega, by omega, by omega, fun q => ⟨by omega, fun t => ⟨by rw [if_pos (by omega), if_pos t], rfl⟩, fun t => ⟨by rw [if_pos (by omega), if_neg t], rfl⟩⟩, fun q => ⟨by rw [if_neg (by omega), if_pos q], rfl⟩, fun q => ⟨by rw [if_neg (by omega), if_neg (by omega), if_pos q], rfl⟩, fun q => ⟨by omega, fun t => ⟨by rw [if_neg (by omega), if_neg (by omega), if_neg (by omega), if_pos q, if_neg (by omega)], rfl⟩, fun t => ⟨by rw [if_neg (by omega), if_neg (by omega), if_neg (by omega), if_pos q, if_pos (by omega)], rfl⟩⟩, fun q => ⟨by rw [if_neg (by omega), if_neg (by omega), if_neg (by omega), if_neg (by omega), if_pos q], rfl⟩, fun q => ⟨by omega, fun t => ⟨by rw [if_pos (by omega), if_pos t], rfl⟩, fun t => ⟨by rw [if_pos (by omega), if_neg t], rfl⟩⟩, fun q => ⟨by rw [if_neg (by omega), if_neg (by omega), if_neg (by omega), if_neg (by omega), if_neg (by omega)], rfl⟩⟩
  · have e : exch x2 x3 = x3 := by unfold exch; rw [if_pos (by omega)]
    have i1 := o7_in (x3 / 10) (by omega)
    have i2 := o7_in (x3 % 10) (by omega)
    have e2 : sevn (exch x2 x3) = 10 * o7 (x3 / 10) + o7 (x3 % 10) := by rw [e]; rfl
    have hs : slipV x1 (mem 35 1) x2 x3 = if x1 = 1 ∨ x1 = 6 then (if x2 % 4 = 0 then -1 else x3) else if x1 = 2 then exch x2 x3 else if x1 = 3 then sevn (exch x2 x3) else if x1 = 4 then (if mem 35 1 % 2 = 0 then sevn (exch x2 x3) else -1) else if x1 = 5 then -1 else x3 := by unfold slipV; rw [if_neg (by omega)]
    rw [hs, e2, e]
    refine ⟨by omega, by omega, by omega, by omega, fun q => ⟨by omega, fun t => ⟨by rw [if_pos (by omega), if_pos t], rfl⟩, fun t => ⟨by rw [if_pos (by omega), if_neg t], rfl⟩⟩, fun q => ⟨by rw [if_neg (by omega), if_pos q], rfl⟩, fun q => ⟨by rw [if_neg (by omega), if_neg (by omega), if_pos q], rfl⟩, fun q => ⟨by omega, fun t => ⟨by rw [if_neg (by omega), if_neg (by omega), if_neg (by omega), if_pos q, if_neg (by omega)], rfl⟩, fun t => ⟨by rw [if_neg (by omega), if_neg (by omega), if_neg (by omega), if_pos q, if_pos (by omega)], rfl⟩⟩, fun q => ⟨by rw [if_neg (by omega), if_neg (by omega), if_neg (by omega), if_neg (by omega), if_pos q], rfl⟩, fun q => ⟨by omega, fun t => ⟨by rw [if_pos (by omega), if_pos t], rfl⟩, fun t => ⟨by rw [if_pos (by omega), if_neg t], rfl⟩⟩, fun q => ⟨by rw [if_neg (by omega), if_neg (by omega), if_neg (by omega), if_neg (by omega), if_neg (by omega)], rfl⟩⟩
/-- sums to which there is an answer -/
def adB (A : Nat → Int) (c k : Nat) : Bool := decide (¬ A (12 + 14 * c + (6 + k)) = -1)
theorem ct_X4_answered (h : 0 ≤ x1 ∧ x1 < 8) : Ct1 S mX4_answered [Aq 34, Iq x1] mem (some (Iq (sS (adB (mem 35) x1.toNat) 8))) mem := by
  obtain ⟨c, hc, rfl⟩ := int_nat h
  rw [Int.toNat_natCast]
  refine ct1I rfl (by decide) (Nat.le_of_ble_eq_true rfl) (rg_X4_answered_0 ?_)
  exact loopN (n := 8) (P := fun i => PW S mX4_answered (fun r m => r = some (Iq (sS (adB (mem 35) c) 8)) ∧ m = mem) 4 [some (Aq 34), some (Iq (c : Int)), some (Iq (sS (adB (mem 35) c) i)), some (Iq (i : Int))] [] mem)
    (rg_X4_answered_4 ⟨fun _ => ⟨rfl, rfl⟩, fun q => absurd (by decide) q⟩)
    (fun i hi ih => rg_X4_answered_4 ⟨fun q => by omega, fun q => ⟨by omega, by omega, fun d => ⟨by omega, by
      rw [sS_f0 (P := adB (mem 35) c) hi (decide_eq_false (fun z => z d))]; exact ih⟩, fun d => ⟨by omega, by
      rw [sS_t (P := adB (mem 35) c) hi (decide_eq_true d)]; exact ih⟩⟩⟩) 0 (by omega)
theorem ct_X4_alikeOf (h : 0 ≤ x1 ∧ x1 < 8 ∧ 0 ≤ x2 ∧ x2 < 8) : Ct1 S mX4_alikeOf [Aq 34, Iq x1, Iq x2] mem (some (Iq (alk (mem 35) x1.toNat x2.toNat))) mem := by
  obtain ⟨a, ha, rfl⟩ := int_nat (n := 8) ⟨h.1, h.2.1⟩
  obtain ⟨b, hb, rfl⟩ := int_nat (n := 8) h.2.2
  rw [Int.toNat_natCast, Int.toNat_natCast]
  refine ct1I rfl (by decide) (Nat.le_of_ble_eq_true rfl) (rg_X4_alikeOf_0 ?_)
  exact loopN (n := 8) (P := fun i => PW S mX4_alikeOf (fun r m => r = some (Iq (alk (mem 35) a b)) ∧ m = mem) 5 [some (Aq 34), some (Iq (a : Int)), some (Iq (b : Int)), some (Iq (sS (alkB (mem 35) a b) i)), some (Iq (i : Int)), none] [] mem)
    (rg_X4_alikeOf_5 ⟨fun _ => ⟨rfl, rfl⟩, fun q => absurd (by decide) q⟩)
    (fun i hi ih => rg_X4_alikeOf_5 ⟨fun q => by omega, fun q => ⟨by omega, by omega, by omega, by omega, fun d => ⟨fun d2 => ⟨by omega, by
      rw [sS_f0 (P := alkB (mem 35) a b) hi (decide_eq_false (fun z => z.2.1 d2))]; exact ih⟩, fun d2 => ⟨by omega, by omega, fun d3 => ⟨by omega, by
      rw [sS_f0 (P := alkB (mem 35) a b) hi (decide_eq_false (fun z => z.2.2 d3))]; exact ih⟩, fun d3 => ⟨by omega, by
      rw [sS_t (P := alkB (mem 35) a b) hi (decide_eq_true ⟨d, d2, d3⟩)]; exact ih⟩⟩⟩, fun d => ⟨by omega, by
      rw [sS_f0 (P := alkB (mem 35) a b) hi (decide_eq_false (fun z => d z.1))]; exact ih⟩⟩⟩) 0 (by omega)
def sumA (A : Nat → Int) (w : Nat) : Nat → Int
  | 0 => 0
  | n + 1 => sumA A w n + A (12 + 14 * n + w)
theorem sumA_in {A : Nat → Int} (h : OKA A) {w : Nat} (hw : 3 ≤ w ∧ w ≤ 5) : ∀ n : Nat, (n : Int) ≤ A 0 → 0 ≤ sumA A w n ∧ sumA A w n ≤ 9999 * n := by
  intro n
  induction n with
  | zero => intro _; exact ⟨Int.le_refl _, Int.le_refl _⟩
  | succ n ih =>
    intro hn
    have h1 := ih (by omega)
    have h3 := h.c3 (c := n) (by omega)
    have h4 := h.c4 (c := n) (by omega)
    have h5 := h.c5 (c := n) (by omega)
    show 0 ≤ sumA A w n + A (12 + 14 * n + w) ∧ sumA A w n + A (12 + 14 * n + w) ≤ 9999 * ((n + 1 : Nat) : Int)
    have hw3 : w = 3 ∨ w = 4 ∨ w = 5 := by omega
    rcases hw3 with rfl | rfl | rfl <;> omega
theorem ct_X4_sumOf (h : OKA (mem 35) ∧ 3 ≤ x1 ∧ x1 ≤ 5) : Ct1 S mX4_sumOf [Aq 34, Iq x1] mem (some (Iq (sumA (mem 35) x1.toNat (nA (mem 35))))) mem := by
  obtain ⟨hA, h⟩ := h
  obtain ⟨w, hw, rfl⟩ := int_nat (x := x1) (n := 6) ⟨by omega, by omega⟩
  rw [Int.toNat_natCast]
  have hn := hA.n
  refine ct1I rfl (by decide) (Nat.le_of_ble_eq_true rfl) (rg_X4_sumOf_0 ?_)
  exact loopN (n := nA (mem 35)) (P := fun i => PW S mX4_sumOf (fun r m => r = some (Iq (sumA (mem 35) w (nA (mem 35)))) ∧ m = mem) 4 [some (Aq 34), some (Iq (w : Int)), some (Iq (sumA (mem 35) w i)), some (Iq (i : Int))] [] mem)
    (rg_X4_sumOf_4 ⟨fun _ => ⟨rfl, rfl⟩, fun q => absurd (by omega) q⟩)
    (fun i hi ih => rg_X4_sumOf_4 ⟨fun q => by omega, fun q => ⟨by omega, by
      have g := sumA_in hA (w := w) (by omega) (i + 1) (by omega)
      have g2 : sumA (mem 35) w (i + 1) = sumA (mem 35) w i + mem 35 (12 + 14 * ((i : Int)).toNat + ((w : Int)).toNat) := rfl
      omega, by omega, ih⟩⟩) 0 (by omega)
/-- from whom another one copies -/
def lndA (A : Nat → Int) : Nat → Int
  | 0 => 0
  | n + 1 => if A (12 + 14 * n + 2) < 0 then lndA A n else bOr (lndA A n) (bShl 1 (A (12 + 14 * n + 2)))
theorem lndA_in {A : Nat → Int} (h : OKA A) : ∀ n : Nat, (n : Int) ≤ A 0 → 0 ≤ lndA A n ∧ lndA A n < 256 := by
  intro n
  induction n with
  | zero => intro _; exact ⟨Int.le_refl _, by show (0 : Int) < 256; decide⟩
  | succ n ih =>
    intro hn
    have h1 := ih (by omega)
    have h2 := h.c2 (c := n) (by omega)
    have h0 := h.1
    unfold lndA
    split
    · exact h1
    · exact or_in h1 (by omega)
theorem ct_X4_lenders (hA : OKA (mem 35)) : Ct1 S mX4_lenders [Aq 34] mem (some (Iq (lndA (mem 35) (nA (mem 35))))) mem := by
  have hn := hA.n
  refine ct1I rfl (by decide) (Nat.le_of_ble_eq_true rfl) (rg_X4_lenders_0 ?_)
  exact loopN (n := nA (mem 35)) (P := fun i => PW S mX4_lenders (fun r m => r = some (Iq (lndA (mem 35) (nA (mem 35)))) ∧ m = mem) 4 [some (Aq 34), some (Iq (lndA (mem 35) i)), some (Iq (i : Int))] [] mem)
    (rg_X4_lenders_4 ⟨fun _ => ⟨rfl, rfl⟩, fun q => absurd (by omega) q⟩)
    (fun i hi ih => rg_X4_lenders_4 ⟨fun q => by omega, fun q => ⟨by omega, fun d => ⟨by omega, by
      have e : lndA (mem 35) (i + 1) = lndA (mem 35) i := if_pos d
      rw [or_0 (lndA_in hA i (by omega)), ← e]; exact ih⟩, fun d => ⟨by omega, by omega, by
      have e : lndA (mem 35) (i + 1) = bOr (lndA (mem 35) i) (bShl 1 (mem 35 (12 + 14 * i + 2))) := if_neg d
      rw [e] at ih; exact ih⟩⟩⟩) 0 (by omega)
/-- who has most marks: the set, and the most -/
def bstA (A : Nat → Int) : Nat → Int × Int
  | 0 => (0, -1)
  | n + 1 => (if A (12 + 14 * n + 3) ≤ (bstA A n).2 then (if A (12 + 14 * n + 3) = (bstA A n).2 then bOr (bstA A n).1 (bShl 1 (n : Int)) else (bstA A n).1) else bShl 1 (n : Int), max (bstA A n).2 (A (12 + 14 * n + 3)))
theorem ct_X4_bests (hA : OKA (mem 35)) : Ct1 S mX4_bests [Aq 34] mem (some (Iq (bstA (mem 35) (nA (mem 35))).1)) mem := by
  have hn := hA.n
  refine ct1I rfl (by decide) (Nat.le_of_ble_eq_true rfl) (rg_X4_bests_0 ?_)
  exact loopN (n := nA (mem 35)) (P := fun i => PW S mX4_bests (fun r m => r = some (Iq (bstA (mem 35) (nA (mem 35))).1) ∧ m = mem) 6 [some (Aq 34), some (Iq (bstA (mem 35) i).1), some (Iq (bstA (mem 35) i).2), some (Iq (i : Int)), none] [] mem)
    (rg_X4_bests_6 ⟨fun _ => ⟨rfl, rfl⟩, fun q => absurd (by omega) q⟩)
    (fun i hi ih => rg_X4_bests_6 ⟨fun q => by omega, fun q => ⟨by omega, fun d => ⟨fun d2 => ⟨by omega, by
      have e : (bstA (mem 35) (i + 1)).1 = bOr (bstA (mem 35) i).1 (bShl 1 (i : Int)) := (if_pos d).trans (if_pos d2)
      rw [e] at ih; exact ih⟩, fun d2 => ⟨by omega, by
      have e : (bstA (mem 35) (i + 1)).1 = (bstA (mem 35) i).1 := (if_pos d).trans (if_neg d2)
      rw [e] at ih; exact ih⟩⟩, fun d => ⟨by omega, by
      have e : (bstA (mem 35) (i + 1)).1 = bShl 1 (i : Int) := if_neg d
      rw [e] at ih; exact ih⟩⟩⟩) 0 (by omega)
def unkA (A : Nat → Int) : Nat → Int
  | 0 => 255
  | n + 1 => bAnd (unkA A n) (bXor (A (12 + 14 * n + 1)) (-1))
theorem ct_X4_unknown (hA : OKA (mem 35)) : Ct1 S mX4_unknown [Aq 34] mem (some (Iq (unkA (mem 35) (nA (mem 35))))) mem := by
  have hn := hA.n
  refine ct1I rfl (by decide) (Nat.le_of_ble_eq_true rfl) (rg_X4_unknown_0 ?_)
  exact loopN (n := nA (mem 35)) (P := fun i => PW S mX4_unknown (fun r m => r = some (Iq (unkA (mem 35) (nA (mem 35)))) ∧ m = mem) 6 [some (Aq 34), some (Iq (unkA (mem 35) i)), some (Iq (i : Int))] [] mem)
    (rg_X4_unknown_6 ⟨fun _ => ⟨rfl, rfl⟩, fun q => absurd (by omega) q⟩)
    (fun i hi ih => rg_X4_unknown_6 ⟨fun q => by omega, fun q => ⟨by omega, by omega, ih⟩⟩) 0 (by omega)
theorem ct_X4_isAsked : Ct1 S mX4_isAsked [Aq 34, Iq x1, Iq x2] mem (some (Iq (bI ((0 ≤ x1 ∧ x1 < mem 35 0) ∧ (0 ≤ x2 ∧ x2 ≤ 20))))) mem :=
  ct1Z rfl bIr (by decide) (Nat.le_of_ble_eq_true rfl) (rg_X4_isAsked_0 ⟨fun c => ⟨fun d => ⟨by rw [bIt (by omega)], rfl⟩, fun d => ⟨by rw [bIf (by omega)], rfl⟩⟩, fun c => ⟨by rw [bIf (by omega)], rfl⟩⟩)
def wntV (mem : Zm) (t : Int) : Int := if 0 ≤ t ∧ t < 4 then (if 0 ≤ mem 41 t.toNat then 0 else -1000006) else -1000001
theorem ct_X4_wants : Ct1 S mX4_wants [Aq 34, Iq x1] mem (some (Iq (wntV mem x1))) mem :=
  ct1I rfl (by decide) (Nat.le_of_ble_eq_true rfl) (rg_X4_wants_0 ⟨fun c => ⟨c, fun d => ⟨by unfold wntV; rw [if_pos c, if_pos d], rfl⟩, fun d => ⟨by unfold wntV; rw [if_pos c, if_neg d], rfl⟩⟩, fun c => ⟨by unfold wntV; rw [if_neg c], rfl⟩⟩)
/-- what a fact of a child may become -/
abbrev mayP (n c w v : Int) : Prop := (w = 0 ∧ 0 ≤ v ∧ v ≤ 6) ∨ (w = 1 ∧ 0 ≤ v ∧ v ≤ 255) ∨ (w = 2 ∧ (v = -1 ∨ (0 ≤ v ∧ v < n ∧ ¬ v = c))) ∨ (w = 3 ∧ 0 ≤ v ∧ v ≤ 9999) ∨ (w = 4 ∧ 0 ≤ v ∧ v ≤ 999) ∨ (w = 5 ∧ 0 ≤ v ∧ v ≤ 9999)
theorem bIc {p q : Prop} [Decidable p] [Decidable q] (h : p ↔ q) : bI p = bI q := by
  unfold bI
  by_cases hp : p
  · rw [if_pos hp, if_pos (h.mp hp)]
  · rw [if_neg hp, if_neg (fun z => hp (h.mpr z))]
theorem ct_X4_may : Ct1 S mX4_may [Aq 34, Iq x1, Iq x2, Iq x3] mem (some (Iq (bI (mayP (mem 35 0) x1 x2 x3)))) mem :=
  ct1Z rfl bIr (by decide) (Nat.le_of_ble_eq_true rfl) (rg_X4_may_0 ⟨fun c => ⟨by rw [bIc (q := mayP (mem 35 0) x1 x2 x3) (by omega)], rfl⟩, fun c => ⟨by rw [bIc (q := mayP (mem 35 0) x1 x2 x3) (by omega)], rfl⟩, fun c => ⟨fun d => ⟨by rw [bIt (by omega)], rfl⟩, fun d => ⟨fun e => ⟨fun f => ⟨by rw [bIf (by omega)], rfl⟩, fun f => ⟨by rw [bIt (by omega)], rfl⟩⟩, fun e => ⟨by rw [bIf (by omega)], rfl⟩⟩⟩, fun c => ⟨by rw [bIc (q := mayP (mem 35 0) x1 x2 x3) (by omega)], rfl⟩, fun c => ⟨by rw [bIc (q := mayP (mem 35 0) x1 x2 x3) (by omega)], rfl⟩, fun c => ⟨by rw [bIc (q := mayP (mem 35 0) x1 x2 x3) (by omega)], rfl⟩, fun c => ⟨by rw [bIf (by omega)], rfl⟩⟩)
/-- a new child -/
def ad1 (A : Nat → Int) (c : Nat) : Nat → (Nat → Int)
  | 0 => A
  | n + 1 => up (ad1 A c n) (12 + 14 * c + (6 + n)) (-1)
def adF (A : Nat → Int) (c : Nat) (kind knows : Int) : Nat → Int := up (up (up (up (up (up A (12 + 14 * c) kind) (12 + 14 * c + 1) knows) (12 + 14 * c + 2) (-1)) (12 + 14 * c + 3) 0) (12 + 14 * c + 4) 5) (12 + 14 * c + 5) 0
def addA (A : Nat → Int) (kind knows : Int) : Nat → Int := up (ad1 (adF A (nA A) kind knows) (nA A) 8) 0 (A 0 + 1)
theorem ad1_other {A : Nat → Int} {c : Nat} : ∀ {n i : Nat}, (i < 12 + 14 * c + 6 ∨ 12 + 14 * c + (6 + n) ≤ i) → ad1 A c n i = A i := by
  intro n
  induction n with
  | zero => intro i _; rfl
  | succ n ih =>
    intro i hi
    show up _ _ _ i = _
    rw [up_ne (by omega), ih (by omega)]
theorem adF_other {A : Nat → Int} {c : Nat} {kind knows : Int} {i : Nat} (h : i < 12 + 14 * c ∨ 12 + 14 * c + 6 ≤ i) : adF A c kind knows i = A i := by
  unfold adF
  rw [up_ne (by omega), up_ne (by omega), up_ne (by omega), up_ne (by omega), up_ne (by omega), up_ne (by omega)]
theorem ct_X4_comes (h : OKA (mem 35) ∧ mem 35 0 < 8) : Ct1 S mX4_comes [Aq 34, Iq x1, Iq x2] mem none (setR mem 35 (addA (mem 35) x1 x2)) := by
  obtain ⟨hA, h⟩ := h
  have hn := hA.n
  generalize hA0 : mem 35 = A at hA h hn ⊢
  have e0 : A 0 = ((nA A : Nat) : Int) := hn.1.symm
  refine ct1V rfl (by decide) (Nat.le_of_ble_eq_true rfl) (rg_X4_comes_0 ?_)
  have h00 : mem 35 0 = ((nA A : Nat) : Int) := by rw [hA0]; exact e0
  rw [h00]
  refine ⟨by omega, by omega, by omega, by omega, by omega, by omega, by omega, by omega, by omega, by omega, by omega, by omega, ?_⟩
  have em : (mup (mup (mup (mup (mup (mup mem 35 (12 + 14 * ((nA A : Nat) : Int) + 0).toNat x1) 35 (12 + 14 * ((nA A : Nat) : Int) + 1).toNat x2) 35 (12 + 14 * ((nA A : Nat) : Int) + 2).toNat (-1)) 35 (12 + 14 * ((nA A : Nat) : Int) + 3).toNat 0) 35 (12 + 14 * ((nA A : Nat) : Int) + 4).toNat 5) 35 (12 + 14 * ((nA A : Nat) : Int) + 5).toNat 0) = setR mem 35 (adF A (nA A) x1 x2) := by
    rw [show (12 + 14 * ((nA A : Nat) : Int) + 0).toNat = 12 + 14 * nA A by omega, show (12 + 14 * ((nA A : Nat) : Int) + 1).toNat = 12 + 14 * nA A + 1 by omega, show (12 + 14 * ((nA A : Nat) : Int) + 2).toNat = 12 + 14 * nA A + 2 by omega, show (12 + 14 * ((nA A : Nat) : Int) + 3).toNat = 12 + 14 * nA A + 3 by omega, show (12 + 14 * ((nA A : Nat) : Int) + 4).toNat = 12 + 14 * nA A + 4 by omega, show (12 + 14 * ((nA A : Nat) : Int) + 5).toNat = 12 + 14 * nA A + 5 by omega]
    simp only [mup_setR, setR_setR, setR_at, hA0]
    rfl
  rw [em]
  refine loopN (n := 8) (P := fun i => PW S mX4_comes (fun r m => r = none ∧ m = setR mem 35 (addA A x1 x2)) 76 [some (Aq 34), some (Iq x1), some (Iq x2), some (Iq ((nA A : Nat) : Int)), some (Iq (i : Int))] [] (setR mem 35 (ad1 (adF A (nA A) x1 x2) (nA A) i)))
    (rg_X4_comes_76 ⟨fun _ => ?_, fun q => absurd (by decide) q⟩)
    (fun i hi ih => rg_X4_comes_76 ⟨fun q => by omega, fun q => ⟨by omega, by omega, by omega, by omega, ?_⟩⟩) 0 (by omega)
  · rw [setR_at, ad1_other (by omega), adF_other (by omega), e0]
    refine ⟨by omega, rfl, ?_⟩
    rw [mup_setR, setR_setR, setR_at]
    unfold addA
    rw [e0]
  · rw [mup_setR, setR_setR, setR_at, show (12 + 14 * ((nA A : Nat) : Int) + (6 + (i : Int))).toNat = 12 + 14 * nA A + (6 + i) by omega]
    exact ih
end MA

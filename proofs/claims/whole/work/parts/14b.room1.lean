/-! ===== the class's side: kinds, findings ===== -/
section RA
variable {S : Sx} {mem : Zm} {x0 x1 x2 x3 x4 : Int} {r0 r1 : Nat}
theorem ct_X0_price (hr0 : isRoom r0) (h : 0 ≤ x1 ∧ x1 < 8 ∧ 0 ≤ mem (r0 + 2) (6 * x1.toNat) ∧ mem (r0 + 2) (6 * x1.toNat) ≤ 6) : Ct1 S mX0_price [Aq r0, Iq x1] mem (some (Iq (payV (mem (r0 + 2) (6 * x1.toNat))))) mem :=
  ct1I rfl (by decide) (Nat.le_of_ble_eq_true rfl) (rg_X0_price_0 hr0 ⟨by omega, by omega, by rw [tbP_pay ⟨h.2.2.1, h.2.2.2⟩], rfl⟩)
theorem ct_X0_isLending (hr0 : isRoom r0) (h : 0 ≤ x1 ∧ x1 < 8 ∧ 0 ≤ mem r0 8) : Ct1 S mX0_isLending [Aq r0, Iq x1] mem (some (Iq (bI (lendP (mem (r0 + 2) (6 * x1.toNat)) (mem r0 8) (mem (r0 + 2) (6 * x1.toNat + 4)))))) mem :=
  ct1Z rfl bIr (by decide) (Nat.le_of_ble_eq_true rfl) (rg_X0_isLending_0 hr0 ⟨by omega, fun c => ⟨by omega, fun d => ⟨by rw [bIt (by omega)], rfl⟩, fun d => ⟨by rw [bIf (by omega)], rfl⟩⟩, fun c => ⟨by rw [bIf (by omega)], rfl⟩, fun c => ⟨by omega, fun d => ⟨by rw [bIf (by omega)], rfl⟩, fun d => ⟨by rw [bIt (by omega)], rfl⟩⟩, fun c => ⟨by rw [bIt (by omega)], rfl⟩⟩)
theorem ct_X0_slipOf (hr0 : isRoom r0) (h : 0 ≤ x1 ∧ x1 < 8 ∧ 0 ≤ x2 ∧ -1 ≤ x3 ∧ x3 < 100 ∧ 0 ≤ mem r0 8 ∧ 0 ≤ mem (r0 + 2) (6 * x1.toNat) ∧ mem (r0 + 2) (6 * x1.toNat) ≤ 6) : Ct1 S mX0_slipOf [Aq r0, Iq x1, Iq x2, Iq x3] mem (some (Iq (slipV (mem (r0 + 2) (6 * x1.toNat)) (mem r0 8) x2 x3))) mem := by
  generalize hk : mem (r0 + 2) (6 * x1.toNat) = k at h ⊢
  generalize hdy : mem r0 8 = dy at h ⊢
  refine ct1I rfl (by decide) (Nat.le_of_ble_eq_true rfl) (rg_X0_slipOf_0 hr0 ?_)
  rw [hk, hdy]
  refine ⟨fun c => ⟨by unfold slipV; rw [if_pos (by omega)], rfl⟩, fun c => ?_⟩
  have i1 := exch_in (s := x2) (a := x3) (by omega)
  have hs : slipV k dy x2 x3 = if k = 1 ∨ k = 6 then (if x2 % 4 = 0 then -1 else x3) else if k = 2 then exch x2 x3 else if k = 3 then sevn (exch x2 x3) else if k = 4 then (if dy % 2 = 0 then sevn (exch x2 x3) else -1) else if k = 5 then -1 else x3 := by unfold slipV; rw [if_neg (by omega)]
  rw [hs]
  exact ⟨by omega, fun q => ⟨by rw [if_neg (by omega), if_neg (by omega), if_neg (by omega), if_neg (by omega), if_neg (by omega)], rfl⟩, fun q => ⟨by omega, fun t => ⟨by rw [if_pos (by omega), if_pos t], rfl⟩, fun t => ⟨by rw [if_pos (by omega), if_neg t], rfl⟩⟩, fun q => ⟨by omega, by rw [if_neg (by omega), if_pos q], rfl⟩, fun q => ⟨by omega, by omega, by rw [if_neg (by omega), if_neg (by omega), if_pos q], rfl⟩, fun q => ⟨by omega, fun t => ⟨by omega, by omega, by rw [if_neg (by omega), if_neg (by omega), if_neg (by omega), if_pos q, if_pos t], rfl⟩, fun t => ⟨by rw [if_neg (by omega), if_neg (by omega), if_neg (by omega), if_pos q, if_neg t], rfl⟩⟩, fun q => ⟨by rw [if_neg (by omega), if_neg (by omega), if_neg (by omega), if_neg (by omega), if_pos q], rfl⟩, fun q => ⟨by omega, fun t => ⟨by rw [if_pos (by omega), if_pos t], rfl⟩, fun t => ⟨by rw [if_pos (by omega), if_neg t], rfl⟩⟩, fun q => by omega⟩
/-- a finding is counted: on the class's side -/
def fndx (mem : Zm) (f : Int) : Zm := mup mem 33 (-1000001 - f).toNat (mem 33 (-1000001 - f).toNat + 1)
def fOX (mem : Zm) (f : Int) : Prop := -1000007 ≤ f ∧ f ≤ -1000001 ∧ mem 33 (-1000001 - f).toNat < 2147483647 ∧ -1 ≤ mem 33 (-1000001 - f).toNat
theorem ct_X3_finding (h : fOX mem x1) : Ct1 S mX3_finding [Aq 0, Iq x1] mem (some (Iq x1)) (fndx mem x1) := by
  unfold fOX at h
  exact ct1I rfl (by decide) (Nat.le_of_ble_eq_true rfl) (rg_X3_finding_0 ⟨by omega, fun c => ⟨by omega, by omega, by omega, rfl, rfl⟩, fun c => by omega⟩)
theorem ct_X3_canBecome (h : 0 ≤ x2 ∧ x2 ≤ 5) : Ct1 S mX3_canBecome [Aq 0, Iq x1, Iq x2, Iq x3] mem (some (Iq (bI (mayP (mem 1 7) x1 x2 x3)))) mem := by
  refine ct1Z rfl bIr (by decide) (Nat.le_of_ble_eq_true rfl) (rg_X3_canBecome_0 ?_)
  repeat' (first | intro _ | apply And.intro)
  all_goals first | rfl | (rw [bIc (q := mayP (mem 1 7) x1 x2 x3) (by omega)]; done) | (rw [bIf (by omega)]; done) | (rw [bIt (by omega)]; done)
def shcV (mem : Zm) (t : Int) : Int := if 0 ≤ t ∧ t < 4 then (if mem (25 + 2 * t.toNat) 1 = 0 then -1000006 else 0) else -1000001
theorem ct_X3_sheetCheck : Ct1 S mX3_sheetCheck [Aq 0, Iq x1] mem (some (Iq (shcV mem x1))) mem :=
  ct1I rfl (by decide) (Nat.le_of_ble_eq_true rfl) (rg_X3_sheetCheck_0 ⟨fun c => ⟨by omega, fun d => ⟨by unfold shcV; rw [if_pos (by omega), if_pos d], rfl⟩, fun d => ⟨by unfold shcV; rw [if_pos (by omega), if_neg d], rfl⟩⟩, fun c => ⟨by unfold shcV; rw [if_neg (by omega)], rfl⟩⟩)
def undL (ab : Int) : Nat → Int → Bool
  | 0, _ => false
  | n + 1, k => if 0 ≤ k ∧ k ≤ 6 then (if k = ab then true else undL ab n (tbU k.toNat)) else false
theorem undL_all : ∀ k : Nat, k < 7 → ∀ a : Nat, a < 7 → bI (undL (a : Int) 7 (k : Int) = true) = undI (k : Int) (a : Int) := by decide +kernel
theorem ct_X3_isUnder (h : 0 ≤ x0 ∧ x0 < 7 ∧ 0 ≤ x1 ∧ x1 < 7) : Ct1 S mX3_isUnder [Iq x0, Iq x1] mem (some (Iq (undI x0 x1))) mem := by
  obtain ⟨k, hk, rfl⟩ := int_nat (x := x0) (n := 7) ⟨h.1, h.2.1⟩
  obtain ⟨a, ha, rfl⟩ := int_nat (x := x1) (n := 7) h.2.2
  rw [← undL_all k hk a ha]
  refine ct1Z rfl bIr (by decide) (Nat.le_of_ble_eq_true rfl) (rg_X3_isUnder_0 ?_)
  have key : ∀ (n : Nat) (at_ : Int), n ≤ 7 → undL (a : Int) n at_ = undL (a : Int) 7 (k : Int) → PW S mX3_isUnder (fun r m => r = some (Iq (bI (undL (a : Int) 7 (k : Int) = true))) ∧ m = mem) 4 [some (Iq (k : Int)), some (Iq (a : Int)), some (Iq at_), some (Iq (7 - (n : Int)))] [] mem := by
    intro n
    induction n with
    | zero =>
      intro q _ e
      have e2 : undL (a : Int) 7 (k : Int) = false := e.symm
      exact rg_X3_isUnder_4 ⟨fun _ => ⟨by rw [e2]; rfl, rfl⟩, fun z => by omega⟩
    | succ n ih =>
      intro q hn e
      refine rg_X3_isUnder_4 ⟨fun z => by omega, fun z => ⟨fun c => ⟨fun d => ?_, fun d => ?_⟩, fun c => ?_⟩⟩
      · have e2 : undL (a : Int) 7 (k : Int) = true := by rw [← e]; exact (if_pos (by omega)).trans (if_pos d)
        exact ⟨by rw [e2]; rfl, rfl⟩
      · have e2 : undL (a : Int) (n + 1) q = undL (a : Int) n (tbU q.toNat) := (if_pos (by omega)).trans (if_neg d)
        refine ⟨by omega, by omega, ?_⟩
        have := ih (tbU q.toNat) (by omega) (by rw [← e2]; exact e)
        rw [show (7 - ((n + 1 : Nat) : Int)) + 1 = 7 - (n : Int) by omega]
        exact this
      · have e2 : undL (a : Int) 7 (k : Int) = false := by rw [← e]; exact if_neg (by omega)
        exact ⟨by rw [e2]; rfl, rfl⟩
  exact key 7 (k : Int) (by omega) rfl
end RA

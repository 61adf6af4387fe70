/-! ===== words of the document as formulas ===== -/
def payV (k : Int) : Int := if k = 2 ∨ k = 3 ∨ k = 4 then 2 else if k = 5 ∨ k = 6 then 0 else 1
abbrev lendP (k d b : Int) : Prop := ¬ k = 5 ∧ (k = 4 → d % 2 = 0) ∧ (k = 6 → b < 20)
def slipV (k d s a : Int) : Int := if a < 0 then -1 else if k = 1 ∨ k = 6 then (if s % 4 = 0 then -1 else a) else if k = 2 then exch s a else if k = 3 then sevn (exch s a) else if k = 4 then (if d % 2 = 0 then sevn (exch s a) else -1) else if k = 5 then -1 else a
theorem ct_X4_pays' {S : Sx} {mem : Zm} {x0 : Int} : Ct1 S mX4_pays [Iq x0] mem (some (Iq (payV x0))) mem := ct_X4_pays
def btA (mem : Zm) (i : Int) : Int := if i < mem 34 7 then mem 40 i.toNat else -1
theorem ct_X4_byteAt' {S : Sx} {mem : Zm} {x1 : Int} (h : 0 ≤ x1 ∧ mem 34 7 ≤ 120) : Ct1 S mX4_byteAt [Aq 34, Iq x1] mem (some (Iq (btA mem x1))) mem := ct_X4_byteAt h
def fOK (mem : Zm) (f : Int) : Prop := -1000007 ≤ f ∧ f ≤ -1000001 ∧ mem 39 0 < 2147483647 ∧ mem 39 (-1000000 - f).toNat < 2147483647 ∧ -1 ≤ mem 39 0 ∧ -1 ≤ mem 39 (-1000000 - f).toNat
theorem ct_X4_finds' {S : Sx} {mem : Zm} {x1 : Int} (h : fOK mem x1) : Ct1 S mX4_finds [Aq 34, Iq x1] mem (some (Iq x1)) (fnds mem x1) := ct_X4_finds h
def drwZ (z : Int) : Int := wr (wr (z * 1103515245) + 12345)
def drwV (z : Int) : Int := bUshr (drwZ z) 8
theorem ct_X4_draw' {S : Sx} {mem : Zm} : Ct1 S mX4_draw [Aq 34] mem (some (Iq (drwV (mem 35 2)))) (mup mem 35 2 (drwZ (mem 35 2))) := ct_X4_draw
theorem ct_X0_draw' {S : Sx} {mem : Zm} {r0 : Nat} (hr0 : isRoom r0) : Ct1 S mX0_draw [Aq r0] mem (some (Iq (drwV (mem r0 9)))) (mup mem r0 9 (drwZ (mem r0 9))) := ct_X0_draw hr0
theorem tbP_pay {k : Int} (h : 0 ≤ k ∧ k ≤ 6) : tbP k.toNat = payV k := by
  obtain ⟨j, hj, rfl⟩ := int_nat (n := 7) ⟨h.1, by omega⟩
  have : ∀ j : Nat, j < 7 → tbP ((j : Int)).toNat = payV (j : Int) := by decide
  exact this j hj

/-! ===== leaves, more ===== -/
/-- a row with one number put -/
def up (A : Nat → Int) (k : Nat) (v : Int) : Nat → Int := fun i => if i = k then v else A i
def setR (mem : Zm) (o : Nat) (f : Nat → Int) : Zm := fun o2 => if o2 = o then f else mem o2
theorem mup_setR (mem : Zm) (o k : Nat) (v : Int) : mup mem o k v = setR mem o (up (mem o) k v) := by
  funext o2 k2
  unfold mup setR up
  by_cases h : o2 = o
  · subst h
    by_cases h2 : k2 = k
    · rw [if_pos ⟨rfl, h2⟩, if_pos rfl]; simp [h2]
    · rw [if_neg (fun q => h2 q.2), if_pos rfl]; simp [h2]
  · rw [if_neg (fun q => h q.1), if_neg h]
theorem setR_at (mem : Zm) (o : Nat) (f : Nat → Int) : setR mem o f o = f := if_pos rfl
theorem setR_ne {o o2 : Nat} (mem : Zm) (f : Nat → Int) (h : o2 ≠ o) : setR mem o f o2 = mem o2 := if_neg h
theorem setR_setR (mem : Zm) (o : Nat) (f h : Nat → Int) : setR (setR mem o f) o h = setR mem o h := by
  funext o2
  unfold setR
  split <;> rfl
theorem setR_self (mem : Zm) (o : Nat) : setR mem o (mem o) = mem := by
  funext o2
  unfold setR
  split
  · rename_i q; rw [q]
  · rfl
theorem up_at (A : Nat → Int) (k : Nat) (v : Int) : up A k v k = v := if_pos rfl
theorem up_ne {A : Nat → Int} {k i : Nat} {v : Int} (h : i ≠ k) : up A k v i = A i := if_neg h
theorem mup_at (mem : Zm) (o k : Nat) (v : Int) : mup mem o k v o k = v := if_pos ⟨rfl, rfl⟩
theorem mup_ne {mem : Zm} {o k o2 k2 : Nat} {v : Int} (h : ¬ (o2 = o ∧ k2 = k)) : mup mem o k v o2 k2 = mem o2 k2 := if_neg h
theorem mup_o {mem : Zm} {o k : Nat} {v : Int} (o2 : Nat) (h : o2 ≠ o) : mup mem o k v o2 = mem o2 := mup_other o2 h
/-- loops that count up to n -/
theorem loopN {P : Nat → Prop} {n : Nat} (hend : P n) (hstep : ∀ i, i < n → P (i + 1) → P i) : ∀ i, i ≤ n → P i := by
  have key : ∀ j i, i + j = n → P i := by
    intro j
    induction j with
    | zero => intro i h; have : i = n := by omega
              rw [this]; exact hend
    | succ j ih => intro i h; exact hstep i (by omega) (ih (i + 1) (by omega))
  exact fun i h => key (n - i) i (by omega)
/-- how many of eight bits -/
def pcn (x : Int) : Int := x % 2 + x / 2 % 2 + x / 4 % 2 + x / 8 % 2 + x / 16 % 2 + x / 32 % 2 + x / 64 % 2 + x / 128 % 2
set_option maxRecDepth 100000 in
theorem bc_ok : ∀ n : Nat, n < 256 → ((in32 ((n : Int) - (bAnd (bUshr (n : Int) 1) 1431655765))) ∧ (in32 ((bAnd ((n : Int) - (bAnd (bUshr (n : Int) 1) 1431655765)) 858993459) + (bAnd (bUshr ((n : Int) - (bAnd (bUshr (n : Int) 1) 1431655765)) 2) 858993459))) ∧ (in32 (((bAnd ((n : Int) - (bAnd (bUshr (n : Int) 1) 1431655765)) 858993459) + (bAnd (bUshr ((n : Int) - (bAnd (bUshr (n : Int) 1) 1431655765)) 2) 858993459)) + (bUshr ((bAnd ((n : Int) - (bAnd (bUshr (n : Int) 1) 1431655765)) 858993459) + (bAnd (bUshr ((n : Int) - (bAnd (bUshr (n : Int) 1) 1431655765)) 2) 858993459)) 4))) ∧ (in32 ((bAnd (((bAnd ((n : Int) - (bAnd (bUshr (n : Int) 1) 1431655765)) 858993459) + (bAnd (bUshr ((n : Int) - (bAnd (bUshr (n : Int) 1) 1431655765)) 2) 858993459)) + (bUshr ((bAnd ((n : Int) - (bAnd (bUshr (n : Int) 1) 1431655765)) 858993459) + (bAnd (bUshr ((n : Int) - (bAnd (bUshr (n : Int) 1) 1431655765)) 2) 858993459)) 4)) 252645135) + (bUshr (bAnd (((bAnd ((n : Int) - (bAnd (bUshr (n : Int) 1) 1431655765)) 858993459) + (bAnd (bUshr ((n : Int) - (bAnd (bUshr (n : Int) 1) 1431655765)) 2) 858993459)) + (bUshr ((bAnd ((n : Int) - (bAnd (bUshr (n : Int) 1) 1431655765)) 858993459) + (bAnd (bUshr ((n : Int) - (bAnd (bUshr (n : Int) 1) 1431655765)) 2) 858993459)) 4)) 252645135) 8))) ∧ (in32 (((bAnd (((bAnd ((n : Int) - (bAnd (bUshr (n : Int) 1) 1431655765)) 858993459) + (bAnd (bUshr ((n : Int) - (bAnd (bUshr (n : Int) 1) 1431655765)) 2) 858993459)) + (bUshr ((bAnd ((n : Int) - (bAnd (bUshr (n : Int) 1) 1431655765)) 858993459) + (bAnd (bUshr ((n : Int) - (bAnd (bUshr (n : Int) 1) 1431655765)) 2) 858993459)) 4)) 252645135) + (bUshr (bAnd (((bAnd ((n : Int) - (bAnd (bUshr (n : Int) 1) 1431655765)) 858993459) + (bAnd (bUshr ((n : Int) - (bAnd (bUshr (n : Int) 1) 1431655765)) 2) 858993459)) + (bUshr ((bAnd ((n : Int) - (bAnd (bUshr (n : Int) 1) 1431655765)) 858993459) + (bAnd (bUshr ((n : Int) - (bAnd (bUshr (n : Int) 1) 1431655765)) 2) 858993459)) 4)) 252645135) 8)) + (bUshr ((bAnd (((bAnd ((n : Int) - (bAnd (bUshr (n : Int) 1) 1431655765)) 858993459) + (bAnd (bUshr ((n : Int) - (bAnd (bUshr (n : Int) 1) 1431655765)) 2) 858993459)) + (bUshr ((bAnd ((n : Int) - (bAnd (bUshr (n : Int) 1) 1431655765)) 858993459) + (bAnd (bUshr ((n : Int) - (bAnd (bUshr (n : Int) 1) 1431655765)) 2) 858993459)) 4)) 252645135) + (bUshr (bAnd (((bAnd ((n : Int) - (bAnd (bUshr (n : Int) 1) 1431655765)) 858993459) + (bAnd (bUshr ((n : Int) - (bAnd (bUshr (n : Int) 1) 1431655765)) 2) 858993459)) + (bUshr ((bAnd ((n : Int) - (bAnd (bUshr (n : Int) 1) 1431655765)) 858993459) + (bAnd (bUshr ((n : Int) - (bAnd (bUshr (n : Int) 1) 1431655765)) 2) 858993459)) 4)) 252645135) 8)) 16)))) ∧ (bAnd (((bAnd (((bAnd ((n : Int) - (bAnd (bUshr (n : Int) 1) 1431655765)) 858993459) + (bAnd (bUshr ((n : Int) - (bAnd (bUshr (n : Int) 1) 1431655765)) 2) 858993459)) + (bUshr ((bAnd ((n : Int) - (bAnd (bUshr (n : Int) 1) 1431655765)) 858993459) + (bAnd (bUshr ((n : Int) - (bAnd (bUshr (n : Int) 1) 1431655765)) 2) 858993459)) 4)) 252645135) + (bUshr (bAnd (((bAnd ((n : Int) - (bAnd (bUshr (n : Int) 1) 1431655765)) 858993459) + (bAnd (bUshr ((n : Int) - (bAnd (bUshr (n : Int) 1) 1431655765)) 2) 858993459)) + (bUshr ((bAnd ((n : Int) - (bAnd (bUshr (n : Int) 1) 1431655765)) 858993459) + (bAnd (bUshr ((n : Int) - (bAnd (bUshr (n : Int) 1) 1431655765)) 2) 858993459)) 4)) 252645135) 8)) + (bUshr ((bAnd (((bAnd ((n : Int) - (bAnd (bUshr (n : Int) 1) 1431655765)) 858993459) + (bAnd (bUshr ((n : Int) - (bAnd (bUshr (n : Int) 1) 1431655765)) 2) 858993459)) + (bUshr ((bAnd ((n : Int) - (bAnd (bUshr (n : Int) 1) 1431655765)) 858993459) + (bAnd (bUshr ((n : Int) - (bAnd (bUshr (n : Int) 1) 1431655765)) 2) 858993459)) 4)) 252645135) + (bUshr (bAnd (((bAnd ((n : Int) - (bAnd (bUshr (n : Int) 1) 1431655765)) 858993459) + (bAnd (bUshr ((n : Int) - (bAnd (bUshr (n : Int) 1) 1431655765)) 2) 858993459)) + (bUshr ((bAnd ((n : Int) - (bAnd (bUshr (n : Int) 1) 1431655765)) 858993459) + (bAnd (bUshr ((n : Int) - (bAnd (bUshr (n : Int) 1) 1431655765)) 2) 858993459)) 4)) 252645135) 8)) 16)) 63) = pcn (n : Int) := by decide +kernel
theorem int_nat {x : Int} {n : Nat} (h : 0 ≤ x ∧ x < n) : ∃ j : Nat, j < n ∧ x = (j : Int) := ⟨x.toNat, by omega, by omega⟩
section LG
variable {S : Sx} {mem : Zm} {x0 x1 x2 x3 x4 : Int} {r0 r1 : Nat}
theorem ct_J6_bitCount_0f7a4 (h : 0 ≤ x0 ∧ x0 < 256) : Ct1 S mJ6_bitCount_0f7a4 [Iq x0] mem (some (Iq (pcn x0))) mem := by
  obtain ⟨j, hj, rfl⟩ := int_nat h
  obtain ⟨⟨a1, a2, a3, a4, a5⟩, hb⟩ := bc_ok j hj
  exact ct1I rfl (by decide) (Nat.le_of_ble_eq_true rfl) (rg_J6_bitCount_0f7a4_0 ⟨a1, a2, a3, a4, a5, by rw [hb], rfl⟩)
set_option maxRecDepth 100000 in
theorem kern_ok : ∀ n : Nat, n < 256 → n ≠ 0 → (0 ≤ bAnd (n : Int) ((n : Int) - 1) ∧ bAnd (n : Int) ((n : Int) - 1) < (n : Int) ∧ pcn (n : Int) = pcn (bAnd (n : Int) ((n : Int) - 1)) + 1) := by decide +kernel
theorem pcn_le {x : Int} : 0 ≤ pcn x ∧ pcn x ≤ 8 := by unfold pcn; omega
theorem ct_X4_many (h : 0 ≤ x0 ∧ x0 < 256) : Ct1 S mX4_many [Iq x0] mem (some (Iq (pcn x0))) mem := by
  refine ct1I rfl (by decide) (Nat.le_of_ble_eq_true rfl) (rg_X4_many_0 ?_)
  have key : ∀ (k : Nat) (b a : Int), 0 ≤ b → b < k → b < 256 → 0 ≤ a → a + pcn b = pcn x0 → PW S mX4_many (fun r m => r = some (Iq (pcn x0)) ∧ m = mem) 4 [some (Iq x0), some (Iq a), some (Iq b)] [] mem := by
    intro k
    induction k with
    | zero => intro b a h1 h2; omega
    | succ k ih =>
      intro b a h1 h2 h3 h4 h5
      have hp := pcn_le (x := x0)
      have hq := pcn_le (x := b)
      refine rg_X4_many_4 ⟨fun c => ⟨?_, rfl⟩, fun c => ⟨by omega, by omega, ?_⟩⟩
      · subst c
        have : pcn 0 = 0 := by decide
        rw [show a = pcn x0 by omega]
      · obtain ⟨j, hj, rfl⟩ := int_nat (n := 256) ⟨h1, h3⟩
        obtain ⟨g1, g2, g3⟩ := kern_ok j hj (by omega)
        exact ih _ _ g1 (by omega) (by omega) (by omega) (by omega)
  exact key 256 x0 0 h.1 h.2 h.2 (by omega) (by omega)
theorem ct_X4_pays : Ct1 S mX4_pays [Iq x0] mem (some (Iq (if x0 = 2 ∨ x0 = 3 ∨ x0 = 4 then 2 else if x0 = 5 ∨ x0 = 6 then 0 else 1))) mem :=
  ct1I rfl (by decide) (Nat.le_of_ble_eq_true rfl) (rg_X4_pays_0 ⟨fun c => ⟨by rw [if_pos (by omega)], rfl⟩, fun c => ⟨by rw [if_pos (by omega)], rfl⟩, fun c => ⟨by rw [if_pos (by omega)], rfl⟩, fun c => ⟨by rw [if_neg (by omega), if_pos (by omega)], rfl⟩, fun c => ⟨by rw [if_neg (by omega), if_pos (by omega)], rfl⟩, fun c => ⟨by rw [if_neg (by omega), if_neg (by omega)], rfl⟩⟩)
def o7 (d : Int) : Int := if d = 7 then 1 else d
theorem ct_X4_oneForSeven : Ct1 S mX4_oneForSeven [Iq x0] mem (some (Iq (o7 x0))) mem :=
  ct1I rfl (by decide) (Nat.le_of_ble_eq_true rfl) (rg_X4_oneForSeven_0 ⟨fun c => ⟨by unfold o7; rw [if_pos c], rfl⟩, fun c => ⟨by unfold o7; rw [if_neg c], rfl⟩⟩)
/-- two digits exchanged -/
def exch (s a : Int) : Int := if s % 2 = 0 then a else a % 10 * 10 + a / 10
theorem ct_X0_exchanged (h : 0 ≤ x0 ∧ 0 ≤ x1 ∧ x1 < 100) : Ct1 S mX0_exchanged [Iq x0, Iq x1] mem (some (Iq (exch x0 x1))) mem :=
  ct1I rfl (by decide) (Nat.le_of_ble_eq_true rfl) (rg_X0_exchanged_0 ⟨h.1, fun c => ⟨by unfold exch; rw [if_pos c], rfl⟩, fun c => ⟨h.2.1, by omega, h.2.1, by omega, by unfold exch; rw [if_neg c], rfl⟩⟩)
def sevn (a : Int) : Int := 10 * o7 (a / 10) + o7 (a % 10)
theorem ct_X0_onesForSevens (h : 0 ≤ x0 ∧ x0 < 100) : Ct1 S mX0_onesForSevens [Iq x0] mem (some (Iq (sevn x0))) mem :=
  ct1I rfl (by decide) (Nat.le_of_ble_eq_true rfl) (rg_X0_onesForSevens_0 ⟨h.1, fun c => ⟨h.1, fun d => ⟨by unfold sevn o7; rw [if_pos c, if_pos d]; rfl, rfl⟩, fun d => ⟨h.1, by omega, by unfold sevn o7; rw [if_pos c, if_neg d]; rfl, rfl⟩⟩, fun c => ⟨h.1, h.1, fun d => ⟨by omega, by omega, by unfold sevn o7; rw [if_neg c, if_pos d, Int.mul_comm], rfl⟩, fun d => ⟨h.1, by omega, by omega, by unfold sevn o7; rw [if_neg c, if_neg d, Int.mul_comm], rfl⟩⟩⟩)
theorem ct_X4_isLetter : Ct1 S mX4_isLetter [Iq x0] mem (some (Iq (bI (97 ≤ x0 ∧ x0 ≤ 122)))) mem :=
  ct1Z rfl bIr (by decide) (Nat.le_of_ble_eq_true rfl) (rg_X4_isLetter_0 ⟨fun c => ⟨by rw [bIf (by omega)], rfl⟩, fun c => ⟨fun d => ⟨by rw [bIf (by omega)], rfl⟩, fun d => ⟨by rw [bIt (by omega)], rfl⟩⟩⟩)
theorem ct_X4_isDigit : Ct1 S mX4_isDigit [Iq x0] mem (some (Iq (bI (48 ≤ x0 ∧ x0 ≤ 57)))) mem :=
  ct1Z rfl bIr (by decide) (Nat.le_of_ble_eq_true rfl) (rg_X4_isDigit_0 ⟨fun c => ⟨by rw [bIf (by omega)], rfl⟩, fun c => ⟨fun d => ⟨by rw [bIf (by omega)], rfl⟩, fun d => ⟨by rw [bIt (by omega)], rfl⟩⟩⟩)
theorem ct_X4_byteAt (h : 0 ≤ x1 ∧ mem 34 7 ≤ 120) : Ct1 S mX4_byteAt [Aq 34, Iq x1] mem (some (Iq (if x1 < mem 34 7 then mem 40 x1.toNat else -1))) mem :=
  ct1I rfl (by decide) (Nat.le_of_ble_eq_true rfl) (rg_X4_byteAt_0 ⟨fun c => ⟨by rw [if_neg (by omega)], rfl⟩, fun c => ⟨by omega, by rw [if_pos (by omega)], rfl⟩⟩)
theorem ct_X4_isWord (h : in32 (mem 34 15 - mem 34 14)) : Ct1 S mX4_isWord [Aq 34, Iq x1] mem (some (Iq (bI (mem 34 13 = 1 ∧ mem 34 15 - mem 34 14 = x1)))) mem :=
  ct1Z rfl bIr (by decide) (Nat.le_of_ble_eq_true rfl) (rg_X4_isWord_0 ⟨fun c => ⟨h, fun d => ⟨by rw [bIt ⟨c, d⟩], rfl⟩, fun d => ⟨by rw [bIf (fun q => d q.2)], rfl⟩⟩, fun c => ⟨by rw [bIf (fun q => c q.1)], rfl⟩⟩)
theorem ct_X4_fails : Ct1 S mX4_fails [Aq 34] mem (some (Iq 0)) (mup mem 34 17 (mem 34 14)) :=
  ct1Z rfl (Or.inl rfl) (by decide) (Nat.le_of_ble_eq_true rfl) (rg_X4_fails_0 ⟨rfl, rfl⟩)
def undr (own kind : Int) : Prop := kind = 0 ∨ own = kind ∨ kind = 2 ∧ (own = 3 ∨ own = 4) ∨ kind = 3 ∧ own = 4 ∨ kind = 1 ∧ own = 6
theorem undr_dec (a b : Int) : (undr a b) ∨ ¬ undr a b := Classical.em _
def undI (own kind : Int) : Int := bI (kind = 0 ∨ own = kind ∨ kind = 2 ∧ (own = 3 ∨ own = 4) ∨ kind = 3 ∧ own = 4 ∨ kind = 1 ∧ own = 6)
theorem ct_X4_isUnder : Ct1 S mX4_isUnder [Iq x0, Iq x1] mem (some (Iq (undI x0 x1))) mem := by
  refine ct1Z rfl bIr (by decide) (Nat.le_of_ble_eq_true rfl) (rg_X4_isUnder_0 ?_)
  unfold undI
  repeat' (first | intro _ | apply And.intro)
  all_goals first | rfl | (rw [bIf (by omega)]; done) | (rw [bIt (by omega)]; done)
/-- what copyRow leaves -/
def cprow (mem : Zm) (a b : Nat) : Zm := setR mem b (fun k => if k < 134 then mem a k else mem b k)
theorem ct_X4_copyRow (h0 : shp r0 = (1, 134)) (h1 : shp r1 = (1, 134)) (h : r0 ≠ r1) : Ct1 S mX4_copyRow [Aq r0, Aq r1] mem none (cprow mem r0 r1) := by
  refine ct1V rfl (by decide) (Nat.le_of_ble_eq_true rfl) (rg_X4_copyRow_0 h0 h1 ?_)
  have key := loopN (n := 134) (P := fun i => PW S mX4_copyRow (fun r m => r = none ∧ m = cprow mem r0 r1) 2 [some (Aq r0), some (Aq r1), some (Iq (i : Int))] [] (setR mem r1 (fun k => if k < i then mem r0 k else mem r1 k)))
    (rg_X4_copyRow_2 h0 h1 ⟨fun c => ⟨rfl, rfl⟩, fun c => absurd (by decide) c⟩) (fun i hi ih => rg_X4_copyRow_2 h0 h1 ⟨fun c => by omega, fun c => ⟨by omega, by omega, by omega, by
      have e : mup (setR mem r1 (fun k => if k < i then mem r0 k else mem r1 k)) r1 ((i : Int)).toNat (setR mem r1 (fun k => if k < i then mem r0 k else mem r1 k) r0 ((i : Int)).toNat) = setR mem r1 (fun k => if k < i + 1 then mem r0 k else mem r1 k) := by
        rw [mup_setR, setR_setR, setR_at, setR_ne _ _ h]
        congr 1
        funext k
        unfold up
        rw [Int.toNat_natCast]
        by_cases h1 : k = i
        · rw [if_pos h1, if_pos (by omega), h1]
        · rw [if_neg h1]
          dsimp only
          by_cases h2 : k < i
          · rw [if_pos h2, if_pos (by omega)]
          · rw [if_neg h2, if_neg (by omega)]
      rw [e]
      exact ih⟩⟩)
  have k0 := key 0 (by omega)
  have e0 : setR mem r1 (fun k => if k < 0 then mem r0 k else mem r1 k) = mem := by
    rw [show (fun k => if k < 0 then mem r0 k else mem r1 k) = mem r1 by funext k; rw [if_neg (by omega)], setR_self]
  rw [e0] at k0
  exact k0
/-- a finding is counted: on the model's side -/
def fnds (mem : Zm) (f : Int) : Zm := mup (mup mem 39 0 (mem 39 0 + 1)) 39 (-1000000 - f).toNat (mem 39 (-1000000 - f).toNat + 1)
theorem ct_X4_finds (h : -1000007 ≤ x1 ∧ x1 ≤ -1000001 ∧ mem 39 0 < 2147483647 ∧ mem 39 (-1000000 - x1).toNat < 2147483647 ∧ -1 ≤ mem 39 0 ∧ -1 ≤ mem 39 (-1000000 - x1).toNat) : Ct1 S mX4_finds [Aq 34, Iq x1] mem (some (Iq x1)) (fnds mem x1) := by
  have e1 : ((-1000001) - x1 + 1).toNat = (-1000000 - x1).toNat := by omega
  have e2 : mup mem 39 0 (mem 39 0 + 1) 39 (-1000000 - x1).toNat = mem 39 (-1000000 - x1).toNat := mup_ne (by omega)
  refine ct1I rfl (by decide) (Nat.le_of_ble_eq_true rfl) (rg_X4_finds_0 ⟨by omega, by omega, by omega, by omega, ?_, by omega, rfl, ?_⟩)
  · rw [e1, e2]; omega
  · rw [e1, e2]; rfl
theorem ct_X4_draw : Ct1 S mX4_draw [Aq 34] mem (some (Iq (bUshr (wr (wr (mem 35 2 * 1103515245) + 12345)) 8))) (mup mem 35 2 (wr (wr (mem 35 2 * 1103515245) + 12345))) :=
  ct1I rfl (by decide) (Nat.le_of_ble_eq_true rfl) (rg_X4_draw_0 ⟨by rw [mup_at], rfl⟩)
theorem ct_X0_draw (hr0 : isRoom r0) : Ct1 S mX0_draw [Aq r0] mem (some (Iq (bUshr (wr (wr (mem r0 9 * 1103515245) + 12345)) 8))) (mup mem r0 9 (wr (wr (mem r0 9 * 1103515245) + 12345))) :=
  ct1I rfl (by decide) (Nat.le_of_ble_eq_true rfl) (rg_X0_draw_0 hr0 ⟨by rw [mup_at], rfl⟩)
theorem ct_X1_isMissing (hr0 : isSheet r0) : Ct1 S mX1_isMissing [Aq r0] mem (some (Iq (bI (mem r0 1 = 0)))) mem :=
  ct1Z rfl bIr (by decide) (Nat.le_of_ble_eq_true rfl) (rg_X1_isMissing_0 hr0 ⟨fun c => ⟨by rw [bIt c], rfl⟩, fun c => ⟨by rw [bIf c], rfl⟩⟩)
def putv (b v : Int) : Int := if b = 8 then toB v else if b = 16 then toSh v else v
theorem ct_X1_put (hr0 : isSheet r0) (h : 0 ≤ x1 ∧ x1 < 40) : Ct1 S mX1_put [Aq r0, Iq x1, Iq x2] mem none (mup mem (r0 + 1) x1.toNat (putv (mem r0 1) x2)) :=
  ct1V rfl (by decide) (Nat.le_of_ble_eq_true rfl) (rg_X1_put_0 hr0 ⟨fun c => ⟨h, rfl, by unfold putv; rw [if_pos c]⟩, fun c => ⟨h, rfl, by unfold putv; rw [if_neg (by omega), if_pos c]⟩, fun c => ⟨h, rfl, by unfold putv; rw [if_neg c.1, if_neg c.2]⟩⟩)
theorem ct_X1_hasPart (hr0 : isSheet r0) (h : 0 ≤ mem r0 2 ∧ mem r0 2 ≤ 40) : Ct1 S mX1_hasPart [Aq r0, Iq x1, Iq x2] mem (some (Iq (bI (0 ≤ x1 ∧ 0 ≤ x2 ∧ x1 ≤ mem r0 2 - x2)))) mem := by
  refine ct1Z rfl bIr (by decide) (Nat.le_of_ble_eq_true rfl) ?_
  refine pw_ok (fun hs hl hM => ?_)
  have hx2 : in32 x2 := hl.2.2.1
  exact rg_X1_hasPart_0 hr0 ⟨fun c => ⟨by rw [bIf (by omega)], rfl⟩, fun c => ⟨fun d => ⟨by rw [bIf (by omega)], rfl⟩, fun d => ⟨by omega, fun e => ⟨by rw [bIf (by omega)], rfl⟩, fun e => ⟨by rw [bIt (by omega)], rfl⟩⟩⟩⟩
theorem ct_X1_allows (hr0 : isSheet r0) (h : 0 ≤ x1 ∧ mem r0 2 ≤ 40) : Ct1 S mX1_allows [Aq r0, Iq x1, Iq x2] mem (some (Iq (bI (mem r0 2 ≤ x1 ∨ mem (r0 + 1) x1.toNat = -2 ∨ mem (r0 + 1) x1.toNat = x2)))) mem :=
  ct1Z rfl bIr (by decide) (Nat.le_of_ble_eq_true rfl) (rg_X1_allows_0 hr0 ⟨fun c => ⟨by rw [bIt (Or.inl c)], rfl⟩, fun c => ⟨by omega, fun d => ⟨by rw [bIt (Or.inr (Or.inl d))], rfl⟩, fun d => ⟨by omega, fun e => ⟨by rw [bIt (Or.inr (Or.inr e))], rfl⟩, fun e => ⟨by rw [bIf (by omega)], rfl⟩⟩⟩⟩)
end LG

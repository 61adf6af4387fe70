/-! ===== sets as numbers ===== -/
def sS (P : Nat → Bool) : Nat → Int
  | 0 => 0
  | n + 1 => if P n = true then sS P n + 2 ^ n else sS P n
def cnt (P : Nat → Bool) : Nat → Int
  | 0 => 0
  | n + 1 => if P n = true then cnt P n + 1 else cnt P n
theorem sS_lt (P : Nat → Bool) : ∀ n, 0 ≤ sS P n ∧ sS P n < 2 ^ n := by
  intro n
  induction n with
  | zero => exact ⟨Int.le_refl _, by show (0 : Int) < 1; decide⟩
  | succ n ih =>
    have e : (2 : Int) ^ (n + 1) = 2 ^ n + 2 ^ n := by rw [Int.pow_succ]; omega
    unfold sS
    rw [e]
    split <;> omega
theorem sS_256 (P : Nat → Bool) {n : Nat} (h : n ≤ 8) : 0 ≤ sS P n ∧ sS P n < 256 := by
  have h1 := sS_lt P n
  have h2 : ∀ n : Nat, n ≤ 8 → (2 : Int) ^ n ≤ 256 := by decide
  have := h2 n h
  omega
set_option maxRecDepth 100000 in
theorem bit_or : ∀ n : Nat, n < 8 → ∀ s : Nat, s < 2 ^ n → bOr (s : Int) (bShl 1 (n : Int)) = (s : Int) + 2 ^ n := by decide +kernel
set_option maxRecDepth 100000 in
theorem bit_z : ∀ s : Nat, s < 256 → bOr (s : Int) 0 = (s : Int) := by decide +kernel
set_option maxRecDepth 100000 in
theorem bit_shr : ∀ s : Nat, s < 256 → ∀ k : Nat, k < 8 → bAnd (bShr (s : Int) (k : Int)) 1 = (s : Int) / 2 ^ k % 2 := by decide +kernel
set_option maxRecDepth 100000 in
theorem bit_pcn : ∀ n : Nat, n < 8 → ∀ s : Nat, s < 2 ^ n → pcn ((s : Int) + 2 ^ n) = pcn (s : Int) + 1 := by decide +kernel
set_option maxRecDepth 100000 in
theorem bit_add : ∀ n : Nat, n < 8 → ∀ s : Nat, s < 2 ^ n → ∀ k : Nat, k ≤ n → (((s : Int) + 2 ^ n) / 2 ^ k % 2 = if k = n then 1 else (s : Int) / 2 ^ k % 2) ∧ (k = n → (s : Int) / 2 ^ k % 2 = 0) := by decide +kernel
theorem pow_nat {n : Nat} {s : Int} (h : 0 ≤ s ∧ s < 2 ^ n) : ∃ j : Nat, j < 2 ^ n ∧ s = (j : Int) := by
  refine ⟨s.toNat, ?_, by omega⟩
  have e : ((2 ^ n : Nat) : Int) = 2 ^ n := by simp
  omega
theorem sS_t {P : Nat → Bool} {n : Nat} (hn : n < 8) (h : P n = true) : bOr (sS P n) (bShl 1 (n : Int)) = sS P (n + 1) := by
  obtain ⟨j, hj, e⟩ := pow_nat (sS_lt P n)
  have e2 : sS P (n + 1) = sS P n + 2 ^ n := by
    show (if P n = true then sS P n + 2 ^ n else sS P n) = _
    rw [if_pos h]
  rw [e2, e]
  exact bit_or n hn j hj
theorem sS_f {P : Nat → Bool} {n : Nat} (h : P n = false) : sS P (n + 1) = sS P n := by
  show (if P n = true then sS P n + 2 ^ n else sS P n) = _
  rw [if_neg (by rw [h]; decide)]
theorem or_0 {s : Int} (h : 0 ≤ s ∧ s < 256) : bOr s 0 = s := by
  obtain ⟨j, hj, rfl⟩ := int_nat h
  exact bit_z j hj
theorem sS_f0 {P : Nat → Bool} {n : Nat} (hn : n < 8) (h : P n = false) : bOr (sS P n) 0 = sS P (n + 1) := by
  rw [sS_f h, or_0 (sS_256 P (by omega))]
theorem sS_congr {P P2 : Nat → Bool} : ∀ {n : Nat}, (∀ k, k < n → P k = P2 k) → sS P n = sS P2 n := by
  intro n
  induction n with
  | zero => intro _; rfl
  | succ n ih =>
    intro h
    show (if P n = true then sS P n + 2 ^ n else sS P n) = (if P2 n = true then sS P2 n + 2 ^ n else sS P2 n)
    rw [ih (fun k hk => h k (by omega)), h n (by omega)]
theorem cnt_congr {P P2 : Nat → Bool} : ∀ {n : Nat}, (∀ k, k < n → P k = P2 k) → cnt P n = cnt P2 n := by
  intro n
  induction n with
  | zero => intro _; rfl
  | succ n ih =>
    intro h
    show (if P n = true then cnt P n + 1 else cnt P n) = (if P2 n = true then cnt P2 n + 1 else cnt P2 n)
    rw [ih (fun k hk => h k (by omega)), h n (by omega)]
theorem cnt_le (P : Nat → Bool) : ∀ n : Nat, 0 ≤ cnt P n ∧ cnt P n ≤ n := by
  intro n
  induction n with
  | zero => exact ⟨Int.le_refl _, Int.le_refl _⟩
  | succ n ih =>
    show 0 ≤ (if P n = true then cnt P n + 1 else cnt P n) ∧ (if P n = true then cnt P n + 1 else cnt P n) ≤ ((n + 1 : Nat) : Int)
    split <;> omega
theorem sS_pcn (P : Nat → Bool) : ∀ n : Nat, n ≤ 8 → pcn (sS P n) = cnt P n := by
  intro n
  induction n with
  | zero => intro _; rfl
  | succ n ih =>
    intro h
    obtain ⟨j, hj, e⟩ := pow_nat (sS_lt P n)
    have h2 := ih (by omega)
    show pcn (if P n = true then sS P n + 2 ^ n else sS P n) = (if P n = true then cnt P n + 1 else cnt P n)
    split
    · rw [e, bit_pcn n (by omega) j hj, ← e, h2]
    · exact h2
theorem sS_bit (P : Nat → Bool) : ∀ n : Nat, n ≤ 8 → ∀ k : Nat, k < n → sS P n / 2 ^ k % 2 = if P k = true then 1 else 0 := by
  intro n
  induction n with
  | zero => intro _ k h; omega
  | succ n ih =>
    intro h k hk
    obtain ⟨j, hj, e⟩ := pow_nat (sS_lt P n)
    have hb := bit_add n (by omega) j hj k (by omega)
    show (if P n = true then sS P n + 2 ^ n else sS P n) / 2 ^ k % 2 = _
    by_cases hkn : k = n
    · subst hkn
      by_cases q : P k = true
      · rw [if_pos q, if_pos q, e, hb.1, if_pos rfl]
      · rw [if_neg q, if_neg q, e, hb.2 rfl]
    · have h2 := ih (by omega) k (by omega)
      split
      · rw [e, hb.1, if_neg hkn, ← e, h2]
      · exact h2
theorem shr_bit {s : Int} (h : 0 ≤ s ∧ s < 256) {k : Nat} (hk : k < 8) : bAnd (bShr s (k : Int)) 1 = s / 2 ^ k % 2 := by
  obtain ⟨j, hj, rfl⟩ := int_nat h
  exact bit_shr j hj k hk
theorem sS_shr {P : Nat → Bool} {k : Nat} (hk : k < 8) : (bAnd (bShr (sS P 8) (k : Int)) 1 = 1) ↔ P k = true := by
  rw [shr_bit (sS_256 P (Nat.le_refl _)) hk, sS_bit P 8 (Nat.le_refl _) k hk]
  split <;> simp_all
/-- what is in a set -/
def inS (s : Int) (k : Nat) : Bool := decide (s / 2 ^ k % 2 = 1)
set_option maxRecDepth 100000 in
theorem bit_inS : ∀ s : Nat, s < 256 → ∀ j : Nat, j < 8 → ∀ k : Nat, k < 8 → inS (bOr (s : Int) (bShl 1 (j : Int))) k = (inS (s : Int) k || decide (k = j)) := by decide +kernel
set_option maxRecDepth 100000 in
theorem bit_or256 : ∀ s : Nat, s < 256 → ∀ j : Nat, j < 8 → 0 ≤ bOr (s : Int) (bShl 1 (j : Int)) ∧ bOr (s : Int) (bShl 1 (j : Int)) < 256 := by decide +kernel
theorem or_in {s : Int} (h : 0 ≤ s ∧ s < 256) {j : Int} (hj : 0 ≤ j ∧ j < 8) : 0 ≤ bOr s (bShl 1 j) ∧ bOr s (bShl 1 j) < 256 := by
  obtain ⟨a, ha, rfl⟩ := int_nat h
  obtain ⟨b, hb, rfl⟩ := int_nat hj
  exact bit_or256 a ha b hb
theorem inS_or {s : Int} (h : 0 ≤ s ∧ s < 256) {j : Int} (hj : 0 ≤ j ∧ j < 8) {k : Nat} (hk : k < 8) : inS (bOr s (bShl 1 j)) k = (inS s k || decide ((k : Int) = j)) := by
  obtain ⟨a, ha, rfl⟩ := int_nat h
  obtain ⟨b, hb, rfl⟩ := int_nat hj
  rw [bit_inS a ha b hb k hk]
  have e : decide (k = b) = decide ((k : Int) = (b : Int)) := decide_eq_decide.mpr ⟨fun h => by omega, fun h => by omega⟩
  rw [e]
theorem inS_sS {P : Nat → Bool} {k : Nat} (hk : k < 8) : inS (sS P 8) k = P k := by
  unfold inS
  rw [sS_bit P 8 (Nat.le_refl _) k hk]
  cases P k <;> rfl
theorem inS_shr {s : Int} (h : 0 ≤ s ∧ s < 256) {k : Nat} (hk : k < 8) : (bAnd (bShr s (k : Int)) 1 = 1) ↔ inS s k = true := by
  rw [shr_bit h hk]
  unfold inS
  simp
theorem bAnd_nat {a b : Nat} (ha : a < 256) (hb : b < 256) : bAnd (a : Int) (b : Int) = ((a &&& b : Nat) : Int) := by
  have h1 : (a &&& b) ≤ a := Nat.and_le_left
  unfold bAnd
  have e : Int32.ofInt (a : Int) &&& Int32.ofInt (b : Int) = Int32.ofInt ((a &&& b : Nat) : Int) := by
    apply Int32.toBitVec_inj.mp
    rw [Int32.toBitVec_and, Int32.ofInt_eq_ofNat, Int32.ofInt_eq_ofNat, Int32.ofInt_eq_ofNat]
    apply BitVec.eq_of_toNat_eq
    simp only [BitVec.toNat_and, Int32.toBitVec_ofNat', BitVec.toNat_ofNat]
    rw [Nat.mod_eq_of_lt (by omega), Nat.mod_eq_of_lt (by omega), Nat.mod_eq_of_lt (by omega)]
  rw [e, ofI (by omega)]
theorem inS_nat (a k : Nat) : inS (a : Int) k = a.testBit k := by
  unfold inS
  rw [Nat.testBit_eq_decide_div_mod_eq]
  apply decide_eq_decide.mpr
  have e : ((2 : Int) ^ k) = ((2 ^ k : Nat) : Int) := by simp
  rw [e]
  omega
theorem and_in {s t : Int} (hs : 0 ≤ s ∧ s < 256) (ht : 0 ≤ t ∧ t < 256) : 0 ≤ bAnd s t ∧ bAnd s t < 256 := by
  obtain ⟨a, ha, rfl⟩ := int_nat hs
  obtain ⟨b, hb, rfl⟩ := int_nat ht
  rw [bAnd_nat ha hb]
  have h1 : (a &&& b) ≤ a := Nat.and_le_left
  omega
theorem inS_and {s t : Int} (hs : 0 ≤ s ∧ s < 256) (ht : 0 ≤ t ∧ t < 256) (k : Nat) : inS (bAnd s t) k = (inS s k && inS t k) := by
  obtain ⟨a, ha, rfl⟩ := int_nat hs
  obtain ⟨b, hb, rfl⟩ := int_nat ht
  rw [bAnd_nat ha hb, inS_nat, inS_nat, inS_nat, Nat.testBit_and]
theorem inS_set : ∀ s : Nat, s < 256 → sS (inS (s : Int)) 8 = (s : Int) := by decide +kernel
theorem set_ext {s t : Int} (hs : 0 ≤ s ∧ s < 256) (ht : 0 ≤ t ∧ t < 256) (h : ∀ k, k < 8 → inS s k = inS t k) : s = t := by
  obtain ⟨a, ha, rfl⟩ := int_nat hs
  obtain ⟨b, hb, rfl⟩ := int_nat ht
  rw [← inS_set a ha, ← inS_set b hb]
  exact sS_congr h

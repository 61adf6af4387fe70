/-! ===== pair: odds ===== -/
section P13
variable {S : Sx} {D : Int} {mem : Zm} {x1 x2 x3 x4 x5 : Int} {A B : Nat → Int}
def PRJ (S : Sx) (D : Int) (mem : Zm) (zx zm : MD) (av : List PV) : Prop := ∃ (v : Int) (m1 m2 : Zm), Ct1 S zx (Aq 0 :: av) mem (some (Jq v)) m1 ∧ Ct1 S zm (Aq 34 :: av) m1 (some (Jq v)) m2 ∧ IV (D + 60) m2
theorem wrL_id {x : Int} (h : in64 x) : wrL x = x := by
  unfold wrL
  exact Int64.toInt_ofInt_of_le (by omega) (by omega)
theorem p8 {b : Nat} (hb : b ≤ 8) {n : Nat} (hn : n ≤ 20) : 0 ≤ (b : Int) ^ n ∧ (b : Int) ^ n ≤ 1152921504606846976 := by
  have a : b ^ n ≤ 8 ^ n := Nat.pow_le_pow_left hb n
  have c : 8 ^ n ≤ 8 ^ 20 := Nat.pow_le_pow_right (by omega) hn
  have e : (8 : Nat) ^ 20 = 1152921504606846976 := by decide +kernel
  rw [← Int.natCast_pow]
  omega
theorem cmp0 {a : Int} : cmpL a 0 = 0 ↔ a = 0 := by
  unfold cmpL
  split
  · omega
  · split <;> omega
theorem ct_power {b n : Nat} (hb : b ≤ 8) (hn : n ≤ 20) : Ct1 S mX3_power [Iq (b : Int), Iq (n : Int)] mem (some (Jq ((b : Int) ^ n))) mem := by
  have lp : ∀ k : Nat, k ≤ n → ∀ Q, PW S mX3_power Q 5 [some (Iq (b : Int)), some (Iq (n : Int)), some (Jq ((b : Int) ^ k)), none, some (Iq (k : Int))] [] mem → PW S mX3_power Q 5 [some (Iq (b : Int)), some (Iq (n : Int)), some (Jq 1), none, some (Iq 0)] [] mem := by
    intro k
    induction k with
    | zero => intro _ Q hq; exact hq
    | succ k ih =>
      intro hk Q hq
      have p := p8 hb (n := k + 1) (by omega)
      refine ih (by omega) Q (rg_X3_power_5 ⟨fun z => by omega, fun _ => ⟨by omega, ?_⟩⟩)
      rw [Int.pow_succ] at hq p
      rw [wrL_id (by omega)]
      exact hq
  exact ct1J rfl (by decide) (Nat.le_of_ble_eq_true rfl) (rg_X3_power_0 (lp n (Nat.le_refl _) _ (rg_X3_power_5 ⟨fun _ => ⟨rfl, rfl⟩, fun z => by omega⟩)))
theorem odd_pow {o : Nat} (ho : o % 2 = 1) (n : Nat) : o ^ n % 2 = 1 := by
  induction n with
  | zero => rfl
  | succ n ih => rw [Nat.pow_succ, Nat.mul_mod, ih, ho]
theorem pr_odds (h : IV D mem) (hD : D ≤ 90000) : PRJ S D mem mX3_odds mX4_odds [Iq x1, Iq x2, Iq x3] := by
  have hD2 : D ≤ 90000 := hD
  have hD : D ≤ 1000000 := by omega
  have hd := h.d
  have hN := h.X.1.1
  have h0 := h.A.1
  by_cases c : (0 ≤ x1 ∧ x1 < mem 35 0) ∧ (0 ≤ x2 ∧ x2 ≤ 20) ∧ (0 ≤ x3 ∧ x3 ≤ 1)
  · obtain ⟨k, hk, rfl⟩ := int_nat (x := x1) (n := 8) ⟨c.1.1, by omega⟩
    obtain ⟨n, hn, rfl⟩ := int_nat (x := x2) (n := 21) ⟨by omega, by omega⟩
    have hkn := h.A.c1 c.1.2
    have hp := pcn_in (s := mem 35 (12 + 14 * k + 1)) (by omega)
    obtain ⟨b, hb, eb⟩ := int_nat (x := pcn (mem 35 (12 + 14 * k + 1))) (n := 9) ⟨by omega, by omega⟩
    have xk : mem (1 + 2) (6 * ((k : Int)).toNat + 1) = mem 35 (12 + 14 * k + 1) := by rw [Int.toNat_natCast]; exact h.X.f hk (by omega)
    -- numerator and denominator, shortened
    obtain ⟨o, e, he, e1, e2, ho⟩ : ∃ o e : Nat, e ≤ 3 ∧ b = 2 ^ e * o ∧ o ≤ 8 ∧ ((o % 2 = 1 ∧ ¬ b = 0) ∨ (o = 0 ∧ e = 3 ∧ b = 0)) := by
      have : b = 0 ∨ b = 1 ∨ b = 2 ∨ b = 3 ∨ b = 4 ∨ b = 5 ∨ b = 6 ∨ b = 7 ∨ b = 8 := by omega
      rcases this with q | q | q | q | q | q | q | q | q
      · exact ⟨0, 3, by omega, by rw [q], by omega, .inr ⟨rfl, rfl, q⟩⟩
      · exact ⟨1, 0, by omega, by rw [q], by omega, .inl ⟨rfl, by omega⟩⟩
      · exact ⟨1, 1, by omega, by rw [q], by omega, .inl ⟨rfl, by omega⟩⟩
      · exact ⟨3, 0, by omega, by rw [q], by omega, .inl ⟨rfl, by omega⟩⟩
      · exact ⟨1, 2, by omega, by rw [q], by omega, .inl ⟨rfl, by omega⟩⟩
      · exact ⟨5, 0, by omega, by rw [q], by omega, .inl ⟨rfl, by omega⟩⟩
      · exact ⟨3, 1, by omega, by rw [q], by omega, .inl ⟨rfl, by omega⟩⟩
      · exact ⟨7, 0, by omega, by rw [q], by omega, .inl ⟨rfl, by omega⟩⟩
      · exact ⟨1, 3, by omega, by rw [q], by omega, .inl ⟨rfl, by omega⟩⟩
    have q8 : 2 ^ (3 - e) ≤ 8 := by
      have : 2 ^ (3 - e) ≤ 2 ^ 3 := Nat.pow_le_pow_right (by omega) (by omega)
      omega
    have q1 : 1 ≤ 2 ^ (3 - e) := Nat.one_le_two_pow
    have e8 : 8 = 2 ^ e * 2 ^ (3 - e) := by
      rw [← Nat.pow_add, show e + (3 - e) = 3 by omega]
    obtain ⟨w, ew⟩ : ∃ w : Int, w = if x3 = 0 then ((o : Nat) : Int) ^ n else ((2 ^ (3 - e) : Nat) : Int) ^ n := ⟨_, rfl⟩
    -- the room's side
    have fx : PW S mX3_odds (fun r m => r = some (Jq w) ∧ m = mem) 56 [some (Aq 0), some (Iq (k : Int)), some (Iq (n : Int)), some (Iq x3), some (Iq (o : Int)), some (Iq ((2 ^ (3 - e) : Nat) : Int))] [] mem := by
      have l0 : x3 = 0 → ∃ (v6 : Int) (m7 : Zm), Ct1 S mX3_power [Iq (o : Int), Iq (n : Int)] mem (some (Jq v6)) m7 ∧ ((fun r m => r = some (Jq w) ∧ m = mem) (some (Jq v6)) m7) := fun z => ⟨_, _, ct_power e2 (by omega), by rw [ew, if_pos z], rfl⟩
      have l1 : ¬ x3 = 0 → ∃ (v6 : Int) (m7 : Zm), Ct1 S mX3_power [Iq ((2 ^ (3 - e) : Nat) : Int), Iq (n : Int)] mem (some (Jq v6)) m7 ∧ ((fun r m => r = some (Jq w) ∧ m = mem) (some (Jq v6)) m7) := fun z => ⟨_, _, ct_power q8 (by omega), by rw [ew, if_neg z], rfl⟩
      refine rg_X3_odds_56 ⟨fun _ => ⟨l0, l1⟩, fun z => ⟨by omega, fun z2 => ?_, fun _ => ⟨l0, l1⟩⟩⟩
      rcases ho with ⟨p, _⟩ | ⟨p, p2, _⟩
      · omega
      · rw [p2] at z; exact absurd (by decide) z
    have lx : ∀ i p q : Nat, 1 ≤ q → ∀ Q, PW S mX3_odds Q 56 [some (Aq 0), some (Iq (k : Int)), some (Iq (n : Int)), some (Iq x3), some (Iq (p : Int)), some (Iq (q : Int))] [] mem → PW S mX3_odds Q 56 [some (Aq 0), some (Iq (k : Int)), some (Iq (n : Int)), some (Iq x3), some (Iq ((2 ^ i * p : Nat) : Int)), some (Iq ((2 ^ i * q : Nat) : Int))] [] mem := by
      intro i
      induction i with
      | zero => intro p q _ Q hq; rw [Nat.pow_zero, Nat.one_mul, Nat.one_mul]; exact hq
      | succ i ih =>
        intro p q hq1 Q hq
        have a1 : 2 ^ (i + 1) * p = 2 * (2 ^ i * p) := by rw [Nat.pow_succ, Nat.mul_comm (2 ^ i) 2, Nat.mul_assoc]
        have a2 : 2 ^ (i + 1) * q = 2 * (2 ^ i * q) := by rw [Nat.pow_succ, Nat.mul_comm (2 ^ i) 2, Nat.mul_assoc]
        have a3 : 1 ≤ 2 ^ i * q := Nat.mul_pos (Nat.two_pow_pos i) hq1
        have := ih p q hq1 Q hq
        rw [a1, a2]
        refine rg_X3_odds_56 ⟨fun z => by omega, fun _ => ⟨by omega, fun _ => ⟨by omega, by omega, ?_⟩, fun z => by omega⟩⟩
        rw [show ((2 * (2 ^ i * p) : Nat) : Int) / 2 = ((2 ^ i * p : Nat) : Int) by omega, show ((2 * (2 ^ i * q) : Nat) : Int) / 2 = ((2 ^ i * q : Nat) : Int) by omega]
        exact this
    have sx := lx e o (2 ^ (3 - e)) q1 _ fx
    rw [← e1, ← e8] at sx
    -- the model's side
    have lm : ∀ j : Nat, j ≤ n → ∀ Q, PW S mX4_odds Q 58 [some (Aq 34), some (Iq (k : Int)), some (Iq (n : Int)), some (Iq x3), some (Jq ((b : Int) ^ j)), none, some (Jq ((8 : Int) ^ j)), none, some (Iq (b : Int)), some (Iq (j : Int))] [] mem → PW S mX4_odds Q 58 [some (Aq 34), some (Iq (k : Int)), some (Iq (n : Int)), some (Iq x3), some (Jq 1), none, some (Jq 1), none, some (Iq (b : Int)), some (Iq 0)] [] mem := by
      intro j
      induction j with
      | zero => intro _ Q hq; exact hq
      | succ j ih =>
        intro hj Q hq
        have p1 := p8 (b := b) (by omega) (n := j + 1) (by omega)
        have p2 := p8 (b := 8) (by omega) (n := j + 1) (by omega)
        rw [show ((8 : Nat) : Int) = 8 from rfl] at p2
        rw [Int.pow_succ] at p1 p2
        rw [Int.pow_succ, Int.pow_succ] at hq
        refine ih (by omega) Q (rg_X4_odds_58 ⟨fun z => by omega, fun _ => ⟨by omega, ?_⟩⟩)
        rw [wrL_id (by omega), wrL_id (by omega)]
        exact hq
    have ls : ∀ i p q : Nat, ∀ Q, PW S mX4_odds Q 101 [some (Aq 34), some (Iq (k : Int)), some (Iq (n : Int)), some (Iq x3), some (Jq (p : Int)), none, some (Jq (q : Int)), none, some (Iq (b : Int)), some (Iq (n : Int))] [] mem → PW S mX4_odds Q 101 [some (Aq 34), some (Iq (k : Int)), some (Iq (n : Int)), some (Iq x3), some (Jq ((2 ^ i * p : Nat) : Int)), none, some (Jq ((2 ^ i * q : Nat) : Int)), none, some (Iq (b : Int)), some (Iq (n : Int))] [] mem := by
      intro i
      induction i with
      | zero => intro p q Q hq; rw [Nat.pow_zero, Nat.one_mul, Nat.one_mul]; exact hq
      | succ i ih =>
        intro p q Q hq
        have a1 : 2 ^ (i + 1) * p = 2 * (2 ^ i * p) := by rw [Nat.pow_succ, Nat.mul_comm (2 ^ i) 2, Nat.mul_assoc]
        have a2 : 2 ^ (i + 1) * q = 2 * (2 ^ i * q) := by rw [Nat.pow_succ, Nat.mul_comm (2 ^ i) 2, Nat.mul_assoc]
        have := ih p q Q hq
        rw [a1, a2]
        refine rg_X4_odds_101 ⟨by omega, fun _ => ⟨by omega, fun _ => ⟨by omega, by omega, ?_⟩, fun z => absurd (cmp0.2 (by omega)) z⟩, fun z => absurd (cmp0.2 (by omega)) z⟩
        rw [show ((2 * (2 ^ i * p) : Nat) : Int) / 2 = ((2 ^ i * p : Nat) : Int) by omega, show ((2 * (2 ^ i * q) : Nat) : Int) / 2 = ((2 ^ i * q : Nat) : Int) by omega]
        exact this
    have fin : ∀ p q : Nat, (p % 2 = 1 ∨ q % 2 = 1) → w = (if x3 = 0 then (p : Int) else (q : Int)) → PW S mX4_odds (fun r m => r = some (Jq w) ∧ m = mem) 101 [some (Aq 34), some (Iq (k : Int)), some (Iq (n : Int)), some (Iq x3), some (Jq (p : Int)), none, some (Jq (q : Int)), none, some (Iq (b : Int)), some (Iq (n : Int))] [] mem := by
      intro p q hpq hw
      have lf : (x3 = 0 → (fun r m => r = some (Jq w) ∧ m = mem) (some (Jq (p : Int))) mem) ∧ (¬ x3 = 0 → (fun r m => r = some (Jq w) ∧ m = mem) (some (Jq (q : Int))) mem) := ⟨fun z => ⟨by rw [hw, if_pos z], rfl⟩, fun z => ⟨by rw [hw, if_neg z], rfl⟩⟩
      refine rg_X4_odds_101 ⟨by omega, fun z => ⟨by omega, fun z2 => ?_, fun _ => lf⟩, fun _ => lf⟩
      have := cmp0.1 z
      have := cmp0.1 z2
      omega
    have sm : PW S mX4_odds (fun r m => r = some (Jq w) ∧ m = mem) 58 [some (Aq 34), some (Iq (k : Int)), some (Iq (n : Int)), some (Iq x3), some (Jq ((b : Int) ^ n)), none, some (Jq ((8 : Int) ^ n)), none, some (Iq (b : Int)), some (Iq (n : Int))] [] mem := by
      refine rg_X4_odds_58 ⟨fun _ => ⟨fun z => ?_, fun z => ?_⟩, fun z => by omega⟩
      · have bz : (b : Int) ^ n = 0 := cmp0.1 z
        have nz : b ^ n = 0 := by rw [← Int.natCast_pow] at bz; omega
        have b0 : b = 0 := by
          rcases ho with ⟨p, p2⟩ | ⟨_, _, p⟩
          · exact absurd nz (Nat.ne_of_gt (Nat.pow_pos (by omega)))
          · exact p
        have n0 : ¬ n = 0 := fun q => by rw [q, Nat.pow_zero] at nz; omega
        rw [bz]
        refine fin 0 1 (.inr rfl) ?_
        rw [ew]
        rcases ho with ⟨p, p2⟩ | ⟨p1, p2, p3⟩
        · exact absurd b0 p2
        · rw [p1, p2, show ((2 ^ (3 - 3) : Nat) : Int) = 1 from rfl, Int.one_pow, show ((0 : Nat) : Int) ^ n = 0 from Int.zero_pow n0]
          rfl
      · have bz : ¬ (b : Int) ^ n = 0 := fun q => z (cmp0.2 q)
        rcases ho with ⟨p, p2⟩ | ⟨p1, p2, p3⟩
        · have a1 : (b : Int) ^ n = ((2 ^ (e * n) * o ^ n : Nat) : Int) := by rw [← Int.natCast_pow, e1, Nat.mul_pow, ← Nat.pow_mul]
          have a2 : (8 : Int) ^ n = ((2 ^ (e * n) * (2 ^ (3 - e)) ^ n : Nat) : Int) := by
            rw [show (8 : Int) = ((8 : Nat) : Int) from rfl, ← Int.natCast_pow]
            congr 1
            rw [e8, Nat.mul_pow, ← Nat.pow_mul]
          rw [a1, a2]
          exact ls _ _ _ _ (fin _ _ (.inl (odd_pow p n)) (by rw [ew, show ((o ^ n : Nat) : Int) = (o : Int) ^ n from Int.natCast_pow o n, show (((2 ^ (3 - e)) ^ n : Nat) : Int) = ((2 ^ (3 - e) : Nat) : Int) ^ n from Int.natCast_pow _ n]))
        · have n0 : n = 0 := by
            cases n with
            | zero => rfl
            | succ n => exact absurd (by rw [p3]; exact Int.zero_pow (by omega)) bz
          subst n0
          exact fin 1 1 (.inl rfl) (by rw [ew]; split <;> rfl)
    refine ⟨w, mem, mem, ct1J rfl (by decide) (Nat.le_of_ble_eq_true rfl) (rg_X3_odds_0 ?_), ct1J rfl (by decide) (Nat.le_of_ble_eq_true rfl) (rg_X4_odds_0 ?_), h.keep Vis.rf (by omega)⟩
    · rw [xk, eb]
      exact ⟨fun _ => ⟨fun _ => ⟨fun _ => ⟨by omega, by omega, sx⟩, fun z => absurd c.2.2 z⟩, fun z => absurd c.2.1 z⟩, fun z => by omega⟩
    · rw [Int.toNat_natCast, eb]
      exact ⟨fun _ => ⟨fun _ => ⟨fun _ => ⟨by omega, by omega, lm n (Nat.le_refl _) _ sm⟩, fun z => absurd c.2.2 z⟩, fun z => absurd c.2.1 z⟩, fun z => absurd c.1 z⟩
  · obtain ⟨f1, f2, f3⟩ := h.fnd hD (f := -1000001) (by omega) Vis.rf Vis.rf
    refine ⟨-1000001, fndx mem (-1000001), _, ct1J rfl (by decide) (Nat.le_of_ble_eq_true rfl) (rg_X3_odds_0 ?_), ct1J rfl (by decide) (Nat.le_of_ble_eq_true rfl) (rg_X4_odds_0 ?_), f3⟩
    · exact ⟨fun _ => ⟨fun _ => ⟨fun _ => by omega, fun _ => ⟨f1, rfl, rfl⟩⟩, fun _ => ⟨f1, rfl, rfl⟩⟩, fun _ => ⟨f1, rfl, rfl⟩⟩
    · rw [show fndx mem (-1000001) 35 = mem 35 from mup_other 35 (by omega)]
      exact ⟨fun _ => ⟨fun _ => ⟨fun _ => by omega, fun _ => ⟨f2, rfl, rfl⟩⟩, fun _ => ⟨f2, rfl, rfl⟩⟩, fun _ => ⟨f2, rfl, rfl⟩⟩
end P13

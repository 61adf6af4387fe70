/-! ===== the model's side: a day, days ===== -/
section MC
variable {S : Sx} {mem : Zm} {x0 x1 x2 x3 x4 : Int} {r0 r1 : Nat}
theorem ct_X4_marks (h : OKA (mem 35) ∧ 0 ≤ x1 ∧ x1 < mem 35 0) : Ct1 S mX4_marks [Aq 34, Iq x1] mem none (setR mem 35 (mkA (mem 35) x1.toNat)) := by
  have hh := h
  obtain ⟨hA, h⟩ := h
  have h0 := hA.1
  have hn := hA.n
  have hd := hA.day
  obtain ⟨c, hc, rfl⟩ := int_nat (x := x1) (n := 8) ⟨h.1, by omega⟩
  rw [Int.toNat_natCast]
  have h3 := hA.c3 (c := c) h.2
  have h5 := hA.c5 (c := c) h.2
  refine ct1V rfl (by decide) (Nat.le_of_ble_eq_true rfl) (rg_X4_marks_0 ⟨hh, fun q => ?_, fun q => ?_⟩)
  · have i5 : (12 + 14 * (c : Int) + 5).toNat = 12 + 14 * c + 5 := by omega
    have i1 : (12 + 14 * (c : Int) + 1).toNat = 12 + 14 * c + 1 := by omega
    rw [Int.toNat_natCast] at q
    rw [i5, i1, Int.toNat_natCast, mup_setR, mup_setR, setR_setR, setR_at, up_ne (show (1 : Nat) ≠ 12 + 14 * c + 5 by omega), up_ne (show 12 + 14 * c + 1 ≠ 12 + 14 * c + 5 by omega)]
    refine ⟨by omega, by omega, by omega, by omega, by omega, by omega, by omega, by omega, rfl, ?_⟩
    unfold mkA
    rw [if_pos q]
  · rw [Int.toNat_natCast] at q
    refine loopN (n := 8) (P := fun i => PW S mX4_marks (fun r m => r = none ∧ m = setR mem 35 (mkA (mem 35) c)) 61 [some (Aq 34), some (Iq (c : Int)), some (Iq (cnt (gdB (mem 35) c) i)), some (Iq (i : Int))] [] mem) ?_ ?_ 0 (by omega)
    · have g := cnt_le (gdB (mem 35) c) 8
      refine rg_X4_marks_61 ⟨fun _ => ⟨by omega, by omega, ?_, by omega, rfl, ?_⟩, fun z => absurd (by decide) z⟩
      · rw [Int.toNat_natCast]; omega
      · rw [Int.toNat_natCast, show (12 + 14 * (c : Int) + 3).toNat = 12 + 14 * c + 3 by omega, mup_setR]
        unfold mkA
        rw [if_neg q]
    · intro i hi ih
      have g := cnt_le (gdB (mem 35) c) i
      refine rg_X4_marks_61 ⟨fun z => by omega, fun z => ⟨by omega, by omega, by omega, by omega, fun d => ⟨by omega, by omega, ?_⟩, fun d => ⟨by omega, by omega, ?_⟩⟩⟩
      · have e : cnt (gdB (mem 35) c) (i + 1) = cnt (gdB (mem 35) c) i + 1 := if_pos (decide_eq_true d)
        rw [← e]
        exact ih
      · have e : cnt (gdB (mem 35) c) (i + 1) = cnt (gdB (mem 35) c) i := if_neg (fun y => d (of_decide_eq_true y))
        rw [Int.add_zero, ← e]
        exact ih
theorem ct_X4_day (h : OKA (mem 35) ∧ mem 35 1 < 2147483647) : Ct1 S mX4_day [Aq 34] mem none (setR mem 35 (dayA (mem 35))) := by
  obtain ⟨hA, hb⟩ := h
  have hn := hA.n
  generalize hA0 : mem 35 = A at hA hn hb ⊢
  have hW := wN_ok hA (nA A) (by omega)
  have hM := mkN_ok hW.1 (nA A) (by omega)
  refine ct1V rfl (by decide) (Nat.le_of_ble_eq_true rfl) (rg_X4_day_0 ?_)
  have k3 : PW S mX4_day (fun r m => r = none ∧ m = setR mem 35 (dayA A)) 48 [some (Aq 34), some (Iq 0)] [] (setR mem 35 (mkN (wN A (nA A)) (nA A))) := by
    refine loopN (n := 8) (P := fun i => PW S mX4_day (fun r m => r = none ∧ m = setR mem 35 (dayA A)) 48 [some (Aq 34), some (Iq (i : Int))] [] (setR mem 35 (rtN (mkN (wN A (nA A)) (nA A)) i))) ?_ ?_ 0 (by omega)
    · have hd1 : rtN (mkN (wN A (nA A)) (nA A)) 8 1 = A 1 := by
        have e1 : ∀ (B : Nat → Int) (n : Nat), rtN B n 1 = B 1 := fun B n => by
          induction n with
          | zero => rfl
          | succ n ih => show up _ _ _ 1 = _; rw [up_ne (by omega), ih]
        have e2 : ∀ (B : Nat → Int) (c : Nat), mkA B c 1 = B 1 := fun B c => by
          unfold mkA
          split
          · rw [up_ne (by omega), up_ne (by omega)]
          · rw [up_ne (by omega)]
        have e3 : ∀ (B : Nat → Int) (n : Nat), mkN B n 1 = B 1 := fun B n => by
          induction n with
          | zero => rfl
          | succ n ih => show mkA _ _ 1 = _; rw [e2, ih]
        have e4 : ∀ (B : Nat → Int) (c : Nat), wA B c 1 = B 1 := fun B c => by
          unfold wA pyA
          split
          · rw [up_ne (by omega), up_ne (by omega), w1_other (by omega)]
          · rw [w1_other (by omega)]
        have e5 : ∀ (B : Nat → Int) (n : Nat), wN B n 1 = B 1 := fun B n => by
          induction n with
          | zero => rfl
          | succ n ih => show wA _ _ 1 = _; rw [e4, ih]
        rw [e1, e3, e5]
      have hd := hA.day
      refine rg_X4_day_48 ⟨fun _ => ?_, fun z => absurd (by decide) z⟩
      rw [setR_at, mup_setR, setR_setR, setR_at, hd1]
      exact ⟨by omega, rfl, rfl⟩
    · intro i hi ih
      have hR := (rtN_ok hM.1 i (by omega)).1.rt (k := i) hi
      refine rg_X4_day_48 ⟨fun z => by omega, fun z => ?_⟩
      rw [show (4 + (i : Int)).toNat = 4 + i by omega, setR_at, mup_setR, setR_setR, setR_at]
      exact ⟨by omega, by omega, by omega, by omega, by omega, by omega, by omega, by omega, by omega, ih⟩
  have k2 : PW S mX4_day (fun r m => r = none ∧ m = setR mem 35 (dayA A)) 25 [some (Aq 34), some (Iq 0)] [] (setR mem 35 (wN A (nA A))) := by
    refine loopN (n := nA A) (P := fun i => PW S mX4_day (fun r m => r = none ∧ m = setR mem 35 (dayA A)) 25 [some (Aq 34), some (Iq (i : Int))] [] (setR mem 35 (mkN (wN A (nA A)) i))) ?_ ?_ 0 (by omega)
    · refine rg_X4_day_25 ⟨fun _ => k3, fun z => ?_⟩
      rw [setR_at, hM.2, hW.2] at z
      omega
    · intro i hi ih
      have hI := mkN_ok hW.1 i (by omega)
      refine rg_X4_day_25 ⟨fun z => ?_, fun z => ⟨_, ct_X4_marks (x1 := (i : Int)) ⟨by rw [setR_at]; exact hI.1, by omega, by rw [setR_at, hI.2, hW.2]; omega⟩, by omega, ?_⟩⟩
      · rw [setR_at, hI.2, hW.2] at z
        omega
      · rw [setR_at, setR_setR, Int.toNat_natCast]
        exact ih
  have k1 := loopN (n := nA A) (P := fun i => PW S mX4_day (fun r m => r = none ∧ m = setR mem 35 (dayA A)) 2 [some (Aq 34), some (Iq (i : Int))] [] (setR mem 35 (wN A i))) ?_ ?_ 0 (by omega)
  · have e : setR mem 35 (wN A 0) = mem := by show setR mem 35 A = mem; rw [← hA0, setR_self]
    rw [e] at k1
    exact k1
  · refine rg_X4_day_2 ⟨fun _ => k2, fun z => ?_⟩
    rw [setR_at, hW.2] at z
    omega
  · intro i hi ih
    have hI := wN_ok hA i (by omega)
    refine rg_X4_day_2 ⟨fun z => ?_, fun z => ⟨⟨by rw [setR_at]; exact hI.1, by omega, by rw [setR_at, hI.2]; omega⟩, by omega, ?_⟩⟩
    · rw [setR_at, hI.2] at z
      omega
    · rw [setR_at, setR_setR, Int.toNat_natCast]
      exact ih
theorem dN_s (n : Nat) (A : Nat → Int) : dN (n + 1) A = dayA (dN n A) := by
  induction n generalizing A with
  | zero => rfl
  | succ n ih => show dN (n + 1) (dayA A) = _; rw [ih]; rfl
theorem dN_ok {A : Nat → Int} (h : OKA A) : ∀ n : Nat, OKA (dN n A) ∧ dN n A 0 = A 0 ∧ dN n A 1 = A 1 + n := by
  intro n
  induction n with
  | zero => exact ⟨h, rfl, by show A 1 = A 1 + ((0 : Nat) : Int); omega⟩
  | succ n ih =>
    obtain ⟨h1, h2, h3⟩ := ih
    obtain ⟨g1, g2, g3⟩ := dayA_ok h1
    rw [dN_s]
    exact ⟨g1, by rw [g2, h2], by rw [g3, h3]; omega⟩
theorem ct_X4_goes (h : OKA (mem 35) ∧ mem 35 1 < 2000000000 ∧ 0 ≤ x1 ∧ x1 ≤ 60) : Ct1 S mX4_goes [Aq 34, Iq x1] mem none (setR mem 35 (dN x1.toNat (mem 35))) := by
  obtain ⟨hA, hb, h⟩ := h
  obtain ⟨n, hn, rfl⟩ := int_nat (x := x1) (n := 61) ⟨h.1, by omega⟩
  rw [Int.toNat_natCast]
  refine ct1V rfl (by decide) (Nat.le_of_ble_eq_true rfl) (rg_X4_goes_0 ?_)
  have k := loopN (n := n) (P := fun i => PW S mX4_goes (fun r m => r = none ∧ m = setR mem 35 (dN n (mem 35))) 2 [some (Aq 34), some (Iq (n : Int)), some (Iq (i : Int))] [] (setR mem 35 (dN i (mem 35)))) ?_ ?_ 0 (by omega)
  · have e : setR mem 35 (dN 0 (mem 35)) = mem := setR_self mem 35
    rw [e] at k
    exact k
  · exact rg_X4_goes_2 ⟨fun _ => ⟨rfl, rfl⟩, fun z => absurd (Int.le_refl _) z⟩
  · intro i hi ih
    have hI := dN_ok hA i
    refine rg_X4_goes_2 ⟨fun z => by omega, fun z => ⟨_, ct_X4_day ⟨by rw [setR_at]; exact hI.1, by rw [setR_at, hI.2.2]; omega⟩, by omega, ?_⟩⟩
    rw [setR_at, setR_setR, ← dN_s]
    exact ih
end MC

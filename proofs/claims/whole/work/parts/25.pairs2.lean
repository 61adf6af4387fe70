/-! ===== pairs: more of children; images; days ===== -/
section P2
variable {S : Sx} {D : Int} {mem : Zm} {x1 x2 x3 x4 x5 : Int}
/-- an answer with nothing changed that shows -/
theorem prQ {zx zm : MD} {av : List PV} {v : Int} {m1 m2 : Zm} (h : IV D mem) (hx : Ct1 S zx (Aq 0 :: av) mem (some (Iq v)) m1) (e1 : Vis mem m1) (hm : Ct1 S zm (Aq 34 :: av) m1 (some (Iq v)) m2) (e2 : Vis m1 m2) : PR S D mem zx zm av := ⟨v, m1, m2, hx, hm, h.keep (e1.tr e2) (by omega)⟩
theorem pr_answer (h : IV D mem) (hD : D ≤ 1000000) : PR S D mem mX3_answer mX4_answer [Iq x1, Iq x2] := by
  have hN := h.X.1.1
  have h0 := h.A.1
  by_cases c : (0 ≤ x1 ∧ x1 < mem 35 0) ∧ (0 ≤ x2 ∧ x2 < 8)
  · obtain ⟨k, hk, rfl⟩ := int_nat (x := x1) (n := 8) ⟨c.1.1, by omega⟩
    obtain ⟨w, hw, rfl⟩ := int_nat (x := x2) (n := 8) c.2
    have e : mem (1 + 3) (8 * k + w) = mem 35 (12 + 14 * k + (6 + w)) := h.X.a hk hw
    have i6 : (6 + (w : Int)).toNat = 6 + w := by omega
    refine prQ h (v := mem 35 (12 + 14 * k + (6 + w))) (ct1I rfl (by decide) (Nat.le_of_ble_eq_true rfl) (rg_X3_answer_0 ?_)) Vis.rf (ct1I rfl (by decide) (Nat.le_of_ble_eq_true rfl) (rg_X4_answer_0 ?_)) Vis.rf
    · rw [Int.toNat_natCast, Int.toNat_natCast, e]; (repeat' (first | intro _ | apply And.intro)) <;> (first | omega | rfl | trivial | (exfalso; omega))
    · rw [Int.toNat_natCast, i6]; (repeat' (first | intro _ | apply And.intro)) <;> (first | omega | rfl | trivial | (exfalso; omega))
  · exact prF h hD (f := (-1000001)) (by omega) (fun hfx => ct1I rfl (by decide) (Nat.le_of_ble_eq_true rfl) (rg_X3_answer_0 (by (repeat' (first | exact hfx | intro _ | apply And.intro)) <;> (first | omega | rfl | trivial | (exfalso; omega))))) (fun hfm => by
      have e35 : fndx mem ((-1000001)) 35 = mem 35 := mup_other 35 (by omega)
      have e34 : fndx mem ((-1000001)) 34 = mem 34 := mup_other 34 (by omega)
      have e41 : fndx mem ((-1000001)) 41 = mem 41 := mup_other 41 (by omega)
      have e42 : fndx mem ((-1000001)) 42 = mem 42 := mup_other 42 (by omega)
      refine ct1I rfl (by decide) (Nat.le_of_ble_eq_true rfl) (rg_X4_answer_0 ?_)
      simp only [e35, e34, e41, e42]
      (repeat' (first | exact hfm | intro _ | apply And.intro)) <;> (first | omega | rfl | trivial | (exfalso; omega)))
theorem pr_slips (h : IV D mem) (hD : D ≤ 1000000) : PR S D mem mX3_slips mX4_slips [Iq x1, Iq x2, Iq x3] := by
  have hN := h.X.1.1
  have h0 := h.A.1
  by_cases c : (0 ≤ x1 ∧ x1 < mem 35 0) ∧ (0 ≤ x2 ∧ x2 < 8) ∧ (-1 ≤ x3 ∧ x3 ≤ 99)
  · obtain ⟨k, hk, rfl⟩ := int_nat (x := x1) (n := 8) ⟨c.1.1, by omega⟩
    have hk0 := h.A.c0 c.1.2
    have hd0 := h.A.day
    have e : mem (1 + 2) (6 * k) = mem 35 (12 + 14 * k) := h.X.f0 hk
    have ed : mem 1 8 = mem 35 1 := h.X.1.2.1
    refine prQ h (v := slipV (mem 35 (12 + 14 * k)) (mem 35 1) x2 x3) (ct1I rfl (by decide) (Nat.le_of_ble_eq_true rfl) (rg_X3_slips_0 ?_)) Vis.rf (ct1I rfl (by decide) (Nat.le_of_ble_eq_true rfl) (rg_X4_slips_0 ?_)) Vis.rf
    · rw [Int.toNat_natCast, e, ed]; (repeat' (first | intro _ | apply And.intro)) <;> (first | omega | rfl | trivial | (exfalso; omega))
    · rw [Int.toNat_natCast]; (repeat' (first | intro _ | apply And.intro)) <;> (first | omega | rfl | trivial | (exfalso; omega))
  · exact prF h hD (f := (-1000001)) (by omega) (fun hfx => ct1I rfl (by decide) (Nat.le_of_ble_eq_true rfl) (rg_X3_slips_0 (by (repeat' (first | exact hfx | intro _ | apply And.intro)) <;> (first | omega | rfl | trivial | (exfalso; omega))))) (fun hfm => by
      have e35 : fndx mem ((-1000001)) 35 = mem 35 := mup_other 35 (by omega)
      have e34 : fndx mem ((-1000001)) 34 = mem 34 := mup_other 34 (by omega)
      have e41 : fndx mem ((-1000001)) 41 = mem 41 := mup_other 41 (by omega)
      have e42 : fndx mem ((-1000001)) 42 = mem 42 := mup_other 42 (by omega)
      refine ct1I rfl (by decide) (Nat.le_of_ble_eq_true rfl) (rg_X4_slips_0 ?_)
      simp only [e35, e34, e41, e42]
      (repeat' (first | exact hfm | intro _ | apply And.intro)) <;> (first | omega | rfl | trivial | (exfalso; omega)))
theorem pr_alike (h : IV D mem) (hD : D ≤ 1000000) : PR S D mem mX3_alike mX4_alike [Iq x1, Iq x2] := by
  have hN := h.X.1.1
  have h0 := h.A.1
  by_cases c : (0 ≤ x1 ∧ x1 < mem 35 0) ∧ (0 ≤ x2 ∧ x2 < mem 35 0) ∧ ¬ x1 = x2
  · obtain ⟨a, ha, rfl⟩ := int_nat (x := x1) (n := 8) ⟨c.1.1, by omega⟩
    obtain ⟨b, hb, rfl⟩ := int_nat (x := x2) (n := 8) ⟨c.2.1.1, by omega⟩
    refine prQ h (v := alk (mem 35) a b) (ct1I rfl (by decide) (Nat.le_of_ble_eq_true rfl) (rg_X3_alike_0 ?_)) Vis.rf (ct1I rfl (by decide) (Nat.le_of_ble_eq_true rfl) (rg_X4_alike_0 ?_)) Vis.rf
    · exact ⟨fun _ => ⟨fun _ => ⟨fun z => absurd z c.2.2, fun _ => ⟨_, _, xt_alikeSums isR1 h.X ha hb, rfl, rfl⟩⟩, fun z => by omega⟩, fun z => by omega⟩
    · rw [Int.toNat_natCast, Int.toNat_natCast]; (repeat' (first | intro _ | apply And.intro)) <;> (first | omega | rfl | trivial | (exfalso; omega))
  · exact prF h hD (f := (-1000001)) (by omega) (fun hfx => ct1I rfl (by decide) (Nat.le_of_ble_eq_true rfl) (rg_X3_alike_0 (by (repeat' (first | exact hfx | intro _ | apply And.intro)) <;> (first | omega | rfl | trivial | (exfalso; omega))))) (fun hfm => by
      have e35 : fndx mem ((-1000001)) 35 = mem 35 := mup_other 35 (by omega)
      have e34 : fndx mem ((-1000001)) 34 = mem 34 := mup_other 34 (by omega)
      have e41 : fndx mem ((-1000001)) 41 = mem 41 := mup_other 41 (by omega)
      have e42 : fndx mem ((-1000001)) 42 = mem 42 := mup_other 42 (by omega)
      refine ct1I rfl (by decide) (Nat.le_of_ble_eq_true rfl) (rg_X4_alike_0 ?_)
      simp only [e35, e34, e41, e42]
      (repeat' (first | exact hfm | intro _ | apply And.intro)) <;> (first | omega | rfl | trivial | (exfalso; omega)))
theorem pr_now (h : IV D mem) (hD : D ≤ 1000000) : PR S D mem mX3_now mX4_now [Iq x1] := by
  have hA := h.A
  by_cases c : x1 < 0 ∨ 6 < x1
  · exact prF h hD (f := (-1000001)) (by omega) (fun hfx => ct1I rfl (by decide) (Nat.le_of_ble_eq_true rfl) (rg_X3_now_0 (by (repeat' (first | exact hfx | intro _ | apply And.intro)) <;> (first | omega | rfl | trivial | (exfalso; omega))))) (fun hfm => by
      have e35 : fndx mem ((-1000001)) 35 = mem 35 := mup_other 35 (by omega)
      have e34 : fndx mem ((-1000001)) 34 = mem 34 := mup_other 34 (by omega)
      have e41 : fndx mem ((-1000001)) 41 = mem 41 := mup_other 41 (by omega)
      have e42 : fndx mem ((-1000001)) 42 = mem 42 := mup_other 42 (by omega)
      refine ct1I rfl (by decide) (Nat.le_of_ble_eq_true rfl) (rg_X4_now_0 ?_)
      simp only [e35, e34, e41, e42]
      (repeat' (first | exact hfm | intro _ | apply And.intro)) <;> (first | omega | rfl | trivial | (exfalso; omega)))
  · have hc : x1 = 0 ∨ x1 = 1 ∨ x1 = 2 ∨ x1 = 3 ∨ x1 = 4 ∨ x1 = 5 ∨ x1 = 6 := by omega
    rcases hc with rfl | rfl | rfl | rfl | rfl | rfl | rfl
    · refine prQ h (v := mem 35 1) (ct1I rfl (by decide) (Nat.le_of_ble_eq_true rfl) (rg_X3_now_0 ⟨fun _ => ⟨by rw [h.X.1.2.1], rfl⟩, fun z => absurd z (by decide), fun z => absurd z (by decide), fun z => absurd z (by decide), fun z => absurd z (by decide), fun z => absurd z (by decide), fun z => absurd z (by decide), fun z => absurd z (by decide)⟩)) Vis.rf (ct1I rfl (by decide) (Nat.le_of_ble_eq_true rfl) (rg_X4_now_0 ⟨fun _ => ⟨rfl, rfl⟩, fun z => absurd z (by decide), fun z => absurd z (by decide), fun z => absurd z (by decide), fun z => absurd z (by decide), fun z => absurd z (by decide), fun z => absurd z (by decide), fun z => absurd z (by decide)⟩)) Vis.rf
    · refine prQ h (v := sumA (mem 35) 3 (nA (mem 35))) (ct1I rfl (by decide) (Nat.le_of_ble_eq_true rfl) (rg_X3_now_0 ⟨fun z => absurd z (by decide), fun _ => ⟨_, _, xt_total isR1 h.X hA (w := 3) (by omega), rfl, rfl⟩, fun z => absurd z (by decide), fun z => absurd z (by decide), fun z => absurd z (by decide), fun z => absurd z (by decide), fun z => absurd z (by decide), fun z => absurd z (by decide)⟩)) Vis.rf (ct1I rfl (by decide) (Nat.le_of_ble_eq_true rfl) (rg_X4_now_0 ⟨fun z => absurd z (by decide), fun _ => ⟨hA, rfl, rfl⟩, fun z => absurd z (by decide), fun z => absurd z (by decide), fun z => absurd z (by decide), fun z => absurd z (by decide), fun z => absurd z (by decide), fun z => absurd z (by decide)⟩)) Vis.rf
    · refine prQ h (v := sumA (mem 35) 5 (nA (mem 35))) (ct1I rfl (by decide) (Nat.le_of_ble_eq_true rfl) (rg_X3_now_0 ⟨fun z => absurd z (by decide), fun z => absurd z (by decide), fun _ => ⟨_, _, xt_total isR1 h.X hA (w := 5) (by omega), rfl, rfl⟩, fun z => absurd z (by decide), fun z => absurd z (by decide), fun z => absurd z (by decide), fun z => absurd z (by decide), fun z => absurd z (by decide)⟩)) Vis.rf (ct1I rfl (by decide) (Nat.le_of_ble_eq_true rfl) (rg_X4_now_0 ⟨fun z => absurd z (by decide), fun z => absurd z (by decide), fun _ => ⟨hA, rfl, rfl⟩, fun z => absurd z (by decide), fun z => absurd z (by decide), fun z => absurd z (by decide), fun z => absurd z (by decide), fun z => absurd z (by decide)⟩)) Vis.rf
    · refine prQ h (v := sumA (mem 35) 4 (nA (mem 35))) (ct1I rfl (by decide) (Nat.le_of_ble_eq_true rfl) (rg_X3_now_0 ⟨fun z => absurd z (by decide), fun z => absurd z (by decide), fun z => absurd z (by decide), fun _ => ⟨_, _, xt_total isR1 h.X hA (w := 4) (by omega), rfl, rfl⟩, fun z => absurd z (by decide), fun z => absurd z (by decide), fun z => absurd z (by decide), fun z => absurd z (by decide)⟩)) Vis.rf (ct1I rfl (by decide) (Nat.le_of_ble_eq_true rfl) (rg_X4_now_0 ⟨fun z => absurd z (by decide), fun z => absurd z (by decide), fun z => absurd z (by decide), fun _ => ⟨hA, rfl, rfl⟩, fun z => absurd z (by decide), fun z => absurd z (by decide), fun z => absurd z (by decide), fun z => absurd z (by decide)⟩)) Vis.rf
    · refine prQ h (v := lndA (mem 35) (nA (mem 35))) (ct1I rfl (by decide) (Nat.le_of_ble_eq_true rfl) (rg_X3_now_0 ⟨fun z => absurd z (by decide), fun z => absurd z (by decide), fun z => absurd z (by decide), fun z => absurd z (by decide), fun _ => ⟨_, _, xt_copied isR1 h.X hA, rfl, rfl⟩, fun z => absurd z (by decide), fun z => absurd z (by decide), fun z => absurd z (by decide)⟩)) Vis.rf (ct1I rfl (by decide) (Nat.le_of_ble_eq_true rfl) (rg_X4_now_0 ⟨fun z => absurd z (by decide), fun z => absurd z (by decide), fun z => absurd z (by decide), fun z => absurd z (by decide), fun _ => ⟨hA, rfl, rfl⟩, fun z => absurd z (by decide), fun z => absurd z (by decide), fun z => absurd z (by decide)⟩)) Vis.rf
    · refine prQ h (v := (bstA (mem 35) (nA (mem 35))).1) (ct1I rfl (by decide) (Nat.le_of_ble_eq_true rfl) (rg_X3_now_0 ⟨fun z => absurd z (by decide), fun z => absurd z (by decide), fun z => absurd z (by decide), fun z => absurd z (by decide), fun z => absurd z (by decide), fun _ => ⟨_, _, xt_best isR1 h.X hA, rfl, rfl⟩, fun z => absurd z (by decide), fun z => absurd z (by decide)⟩)) Vis.rf (ct1I rfl (by decide) (Nat.le_of_ble_eq_true rfl) (rg_X4_now_0 ⟨fun z => absurd z (by decide), fun z => absurd z (by decide), fun z => absurd z (by decide), fun z => absurd z (by decide), fun z => absurd z (by decide), fun _ => ⟨hA, rfl, rfl⟩, fun z => absurd z (by decide), fun z => absurd z (by decide)⟩)) Vis.rf
    · refine prQ h (v := unkA (mem 35) (nA (mem 35))) (ct1I rfl (by decide) (Nat.le_of_ble_eq_true rfl) (rg_X3_now_0 ⟨fun z => absurd z (by decide), fun z => absurd z (by decide), fun z => absurd z (by decide), fun z => absurd z (by decide), fun z => absurd z (by decide), fun z => absurd z (by decide), fun _ => ⟨_, _, xt_unknown isR1 h.X hA, rfl, rfl⟩, fun z => absurd z (by decide)⟩)) Vis.rf (ct1I rfl (by decide) (Nat.le_of_ble_eq_true rfl) (rg_X4_now_0 ⟨fun z => absurd z (by decide), fun z => absurd z (by decide), fun z => absurd z (by decide), fun z => absurd z (by decide), fun z => absurd z (by decide), fun z => absurd z (by decide), fun _ => ⟨hA, rfl, rfl⟩, fun z => absurd z (by decide)⟩)) Vis.rf
theorem ct_mchain (hA : OKA (mem 35)) {c : Nat} (hc : (c : Int) < mem 35 0) : Ct1 S mX4_chain [Aq 34, Iq (c : Int)] mem (some (Iq ((chnA (mem 35) 8 c : Nat) : Int))) mem := by
  have h0 := hA.1
  generalize hAe : mem 35 = A at *
  have key : ∀ (n : Nat) (d : Nat), n ≤ 8 → (d : Int) < A 0 → (8 - n) + chnA A n d = chnA A 8 c → PW S mX4_chain (fun r2 m => r2 = some (Iq ((chnA A 8 c : Nat) : Int)) ∧ m = mem) 19 [some (Aq 34), some (Iq (c : Int)), some (Iq (8 - (n : Int))), some (Iq (d : Int))] [] mem := by
    intro n
    induction n with
    | zero =>
      intro d _ hd e
      have e2 : chnA A 0 d = 0 := rfl
      exact rg_X4_chain_19 ⟨fun _ => ⟨by rw [← e, e2]; rfl, rfl⟩, fun z => absurd (by decide) z⟩
    | succ n ih =>
      intro d hn hd e
      have h2 := hA.c2 hd
      refine rg_X4_chain_19 ⟨fun z => by omega, fun z => ?_⟩
      rw [Int.toNat_natCast, hAe]
      refine ⟨by omega, fun q => ⟨?_, rfl⟩, fun q => ⟨by omega, by omega, ?_⟩⟩
      · have e2 : chnA A (n + 1) d = 0 := if_pos (by omega)
        have e3 : ((chnA A 8 c : Nat) : Int) = 8 - ((n + 1 : Nat) : Int) := by omega
        rw [e3]
      · have e2 : chnA A (n + 1) d = chnA A n (A (12 + 14 * d + 2)).toNat + 1 := if_neg (by omega)
        have g := ih (A (12 + 14 * d + 2)).toNat (by omega) (by omega) (by omega)
        rw [show (8 - ((n + 1 : Nat) : Int)) + 1 = 8 - (n : Int) by omega]
        rw [show (((A (12 + 14 * d + 2)).toNat : Nat) : Int) = A (12 + 14 * d + 2) by omega] at g
        exact g
  exact ct1I rfl (by decide) (Nat.le_of_ble_eq_true rfl) (rg_X4_chain_0 ⟨fun _ => key 8 c (Nat.le_refl _) hc (by omega), fun z => absurd ⟨by omega, by rw [hAe]; exact hc⟩ z⟩)
theorem pr_chain (h : IV D mem) (hD : D ≤ 1000000) : PR S D mem mX3_chain mX4_chain [Iq x1] := by
  have hN := h.X.1.1
  have h0 := h.A.1
  by_cases c : (0 ≤ x1 ∧ x1 < mem 35 0)
  · obtain ⟨k, hk, rfl⟩ := int_nat (x := x1) (n := 8) ⟨c.1, by omega⟩
    exact prQ h (ct1I rfl (by decide) (Nat.le_of_ble_eq_true rfl) (rg_X3_chain_0 ⟨fun _ => ⟨_, _, xt_chain isR1 h.X h.A c.2, rfl, rfl⟩, fun z => by omega⟩)) Vis.rf (ct_mchain h.A c.2) Vis.rf
  · exact prF h hD (f := (-1000001)) (by omega) (fun hfx => ct1I rfl (by decide) (Nat.le_of_ble_eq_true rfl) (rg_X3_chain_0 (by (repeat' (first | exact hfx | intro _ | apply And.intro)) <;> (first | omega | rfl | trivial | (exfalso; omega))))) (fun hfm => by
      have e35 : fndx mem ((-1000001)) 35 = mem 35 := mup_other 35 (by omega)
      have e34 : fndx mem ((-1000001)) 34 = mem 34 := mup_other 34 (by omega)
      have e41 : fndx mem ((-1000001)) 41 = mem 41 := mup_other 41 (by omega)
      have e42 : fndx mem ((-1000001)) 42 = mem 42 := mup_other 42 (by omega)
      refine ct1I rfl (by decide) (Nat.le_of_ble_eq_true rfl) (rg_X4_chain_0 ?_)
      simp only [e35, e34, e41, e42]
      (repeat' (first | exact hfm | intro _ | apply And.intro)) <;> (first | omega | rfl | trivial | (exfalso; omega)))
theorem pr_seed (h : IV D mem) (hD : D ≤ 1000000) : PR S D mem mX3_seed mX4_seed [Iq x1] := by
  have e2 : mem 1 9 = mem 35 2 := h.X.1.2.2.1
  have e35 : mup mem 1 9 x1 35 = mem 35 := mup_other 35 (by omega)
  have hd := h.d
  have hx : XR (mup mem 1 9 x1) 1 (up (mem 35) 2 x1) := h.X.own (s := 9) (i := 2) (by omega) x1
  refine ⟨mem 35 2, mup mem 1 9 x1, mup (mup mem 1 9 x1) 35 2 x1, ct1I rfl (by decide) (Nat.le_of_ble_eq_true rfl) (rg_X3_seed_0 ⟨by rw [e2], rfl⟩), ct1I rfl (by decide) (Nat.le_of_ble_eq_true rfl) (rg_X4_seed_0 ⟨by rw [e35], rfl⟩), ?_⟩
  exact IV.put h (A := up (mem 35) 2 x1) (hx.other (fun o a b => mup_other o (by omega))) (by rw [mup_setR, setR_at, e35]) (fun o a b d => by rw [mup_other o d, mup_other o (by omega)]) (h.A.st (by omega) (fun _ => by unfold rng; omega)) (by rw [up_ne (by omega)]; omega) (by omega)
theorem pr_hold (h : IV D mem) (hD : D ≤ 1000000) : PR S D mem mX3_hold mX4_hold [Iq x1, Iq x2] := by
  have hN := h.X.1.1
  have h0 := h.A.1
  by_cases c : (0 ≤ x1 ∧ x1 ≤ 9) ∧ (x2 = -1 ∨ (0 ≤ x2 ∧ x2 < mem 35 0))
  · obtain ⟨k, hk, rfl⟩ := int_nat (x := x1) (n := 10) ⟨c.1.1, by omega⟩
    have i4 : (124 + (k : Int)).toNat = 124 + k := by omega
    have e35 : mup mem 5 k x2 35 = mem 35 := mup_other 35 (by omega)
    have hx : XR (mup mem 5 k x2) 1 (up (mem 35) (124 + k) x2) := h.X.spt hk x2
    have hd := h.d
    refine ⟨1, mup mem 5 k x2, mup (mup mem 5 k x2) 35 (124 + k) x2, ct1I rfl (by decide) (Nat.le_of_ble_eq_true rfl) (rg_X3_hold_0 ?_), ct1I rfl (by decide) (Nat.le_of_ble_eq_true rfl) (rg_X4_hold_0 ?_), ?_⟩
    · rw [Int.toNat_natCast, hN]
      exact ⟨fun _ => ⟨fun _ => ⟨by omega, rfl, rfl⟩, fun z => ⟨fun _ => ⟨by omega, rfl, rfl⟩, fun z2 => by omega⟩⟩, fun z => absurd c.1 z⟩
    · rw [i4, e35]
      exact ⟨fun _ => ⟨fun _ => ⟨by omega, by omega, rfl, rfl⟩, fun z => ⟨fun _ => ⟨by omega, by omega, rfl, rfl⟩, fun z2 => by omega⟩⟩, fun z => absurd c.1 z⟩
    · exact IV.put h (A := up (mem 35) (124 + k) x2) (hx.other (fun o a b => mup_other o (by omega))) (by rw [mup_setR, setR_at, e35]) (fun o a b d => by rw [mup_other o d, mup_other o (by omega)]) (h.A.st (by omega) (fun _ => by unfold rng; omega)) (by rw [up_ne (by omega)]; omega) (by omega)
  · exact prF h hD (f := (-1000001)) (by omega) (fun hfx => ct1I rfl (by decide) (Nat.le_of_ble_eq_true rfl) (rg_X3_hold_0 (by (repeat' (first | exact hfx | intro _ | apply And.intro)) <;> (first | omega | rfl | trivial | (exfalso; omega))))) (fun hfm => by
      have e35 : fndx mem ((-1000001)) 35 = mem 35 := mup_other 35 (by omega)
      have e34 : fndx mem ((-1000001)) 34 = mem 34 := mup_other 34 (by omega)
      have e41 : fndx mem ((-1000001)) 41 = mem 41 := mup_other 41 (by omega)
      have e42 : fndx mem ((-1000001)) 42 = mem 42 := mup_other 42 (by omega)
      refine ct1I rfl (by decide) (Nat.le_of_ble_eq_true rfl) (rg_X4_hold_0 ?_)
      simp only [e35, e34, e41, e42]
      (repeat' (first | exact hfm | intro _ | apply And.intro)) <;> (first | omega | rfl | trivial | (exfalso; omega)))
theorem pr_as (h : IV D mem) (hD : D ≤ 1000000) : PR S D mem mX3_as mX4_as [Iq x1, Iq x2] := by
  have hN := h.X.1.1
  have h0 := h.A.1
  by_cases c : (0 ≤ x1 ∧ x1 ≤ 9) ∧ (0 ≤ x2 ∧ x2 ≤ 6)
  · obtain ⟨k, hk, rfl⟩ := int_nat (x := x1) (n := 10) ⟨c.1.1, by omega⟩
    have i4 : (124 + (k : Int)).toNat = 124 + k := by omega
    have e5 : mem 5 k = mem 35 (124 + k) := h.X.s hk
    have hs := h.A.spot hk
    -- both trees, with the spot named
    by_cases q : 0 ≤ mem 35 (124 + k)
    · obtain ⟨s, hs8, es⟩ := int_nat (x := mem 35 (124 + k)) (n := 8) ⟨q, by omega⟩
      have e0 : mem (1 + 2) (6 * s) = mem 35 (12 + 14 * s) := h.X.f0 hs8
      have hk0 := h.A.c0 (c := s) (by omega)
      by_cases u : undI (mem 35 (12 + 14 * s)) x2 = 0
      · refine prF h hD (f := -1000003) (by omega) (fun hfx => ct1I rfl (by decide) (Nat.le_of_ble_eq_true rfl) (rg_X3_as_0 ?_)) (fun hfm => ct1I rfl (by decide) (Nat.le_of_ble_eq_true rfl) (rg_X4_as_0 ?_))
        · rw [Int.toNat_natCast, e5, es, Int.toNat_natCast, e0, hN]
          exact ⟨fun _ => ⟨fun _ => ⟨by omega, fun _ => ⟨by omega, by omega, fun _ => ⟨hfx, rfl, rfl⟩, fun z => absurd u z⟩, fun z => by omega⟩, fun z => absurd c.2 z⟩, fun z => absurd c.1 z⟩
        · have e35 : fndx mem (-1000003) 35 = mem 35 := mup_other 35 (by omega)
          rw [i4, e35, es, Int.toNat_natCast]
          exact ⟨fun _ => ⟨fun _ => ⟨by omega, by omega, fun _ => ⟨by omega, fun _ => ⟨hfm, rfl, rfl⟩, fun z => absurd u z⟩, fun z => by omega⟩, fun z => absurd c.2 z⟩, fun z => absurd c.1 z⟩
      · refine prQ h (v := (s : Int)) (ct1I rfl (by decide) (Nat.le_of_ble_eq_true rfl) (rg_X3_as_0 ?_)) Vis.rf (ct1I rfl (by decide) (Nat.le_of_ble_eq_true rfl) (rg_X4_as_0 ?_)) Vis.rf
        · rw [Int.toNat_natCast, e5, es, Int.toNat_natCast, e0, hN]
          exact ⟨fun _ => ⟨fun _ => ⟨by omega, fun _ => ⟨by omega, by omega, fun z => absurd z u, fun z => ⟨rfl, rfl⟩⟩, fun z => by omega⟩, fun z => absurd c.2 z⟩, fun z => absurd c.1 z⟩
        · rw [i4, es, Int.toNat_natCast]
          exact ⟨fun _ => ⟨fun _ => ⟨by omega, by omega, fun _ => ⟨by omega, fun z => absurd z u, fun z => ⟨rfl, rfl⟩⟩, fun z => by omega⟩, fun z => absurd c.2 z⟩, fun z => absurd c.1 z⟩
    · refine prF h hD (f := -1000006) (by omega) (fun hfx => ct1I rfl (by decide) (Nat.le_of_ble_eq_true rfl) (rg_X3_as_0 ?_)) (fun hfm => ct1I rfl (by decide) (Nat.le_of_ble_eq_true rfl) (rg_X4_as_0 ?_))
      · rw [Int.toNat_natCast, e5, hN]
        exact ⟨fun _ => ⟨fun _ => ⟨by omega, fun z => absurd z.1 q, fun z => ⟨hfx, rfl, rfl⟩⟩, fun z => absurd c.2 z⟩, fun z => absurd c.1 z⟩
      · have e35 : fndx mem (-1000006) 35 = mem 35 := mup_other 35 (by omega)
        rw [i4, e35]
        exact ⟨fun _ => ⟨fun _ => ⟨by omega, by omega, fun z => absurd z q, fun z => ⟨hfm, rfl, rfl⟩⟩, fun z => absurd c.2 z⟩, fun z => absurd c.1 z⟩
  · exact prF h hD (f := (-1000001)) (by omega) (fun hfx => ct1I rfl (by decide) (Nat.le_of_ble_eq_true rfl) (rg_X3_as_0 (by (repeat' (first | exact hfx | intro _ | apply And.intro)) <;> (first | omega | rfl | trivial | (exfalso; omega))))) (fun hfm => by
      have e35 : fndx mem ((-1000001)) 35 = mem 35 := mup_other 35 (by omega)
      have e34 : fndx mem ((-1000001)) 34 = mem 34 := mup_other 34 (by omega)
      have e41 : fndx mem ((-1000001)) 41 = mem 41 := mup_other 41 (by omega)
      have e42 : fndx mem ((-1000001)) 42 = mem 42 := mup_other 42 (by omega)
      refine ct1I rfl (by decide) (Nat.le_of_ble_eq_true rfl) (rg_X4_as_0 ?_)
      simp only [e35, e34, e41, e42]
      (repeat' (first | exact hfm | intro _ | apply And.intro)) <;> (first | omega | rfl | trivial | (exfalso; omega)))
end P2

/-! ===== pairs: counts, images, the tape, days ===== -/
section P3
variable {S : Sx} {D : Int} {mem : Zm} {x1 x2 x3 x4 x5 : Int}
theorem pr_count (h : IV D mem) (hD : D ≤ 90000) : PR S D mem mX3_count mX4_count [Iq x1] := by
  have hA := h.A
  have hD : D ≤ 1000000 := by omega
  by_cases c : x1 < 0 ∨ 7 < x1
  · exact prF h hD (f := (-1000001)) (by omega) (fun hfx => ct1I rfl (by decide) (Nat.le_of_ble_eq_true rfl) (rg_X3_count_0 (by (repeat' (first | exact hfx | intro _ | apply And.intro)) <;> (first | omega | rfl | trivial | (exfalso; omega))))) (fun hfm => by
      have e35 : fndx mem ((-1000001)) 35 = mem 35 := mup_other 35 (by omega)
      have e34 : fndx mem ((-1000001)) 34 = mem 34 := mup_other 34 (by omega)
      have e41 : fndx mem ((-1000001)) 41 = mem 41 := mup_other 41 (by omega)
      have e42 : fndx mem ((-1000001)) 42 = mem 42 := mup_other 42 (by omega)
      refine ct1I rfl (by decide) (Nat.le_of_ble_eq_true rfl) (rg_X4_count_0 ?_)
      simp only [e35, e34, e41, e42]
      (repeat' (first | exact hfm | intro _ | apply And.intro)) <;> (first | omega | rfl | trivial | (exfalso; omega)))
  · have hc : x1 = 0 ∨ x1 = 1 ∨ x1 = 2 ∨ x1 = 3 ∨ x1 = 4 ∨ x1 = 5 ∨ x1 = 6 ∨ x1 = 7 := by omega
    have t1 := h.2.2.1.1
    rcases hc with rfl | rfl | rfl | rfl | rfl | rfl | rfl | rfl
    · refine prQ h (v := mem 35 1) (ct1I rfl (by decide) (Nat.le_of_ble_eq_true rfl) (rg_X3_count_0 ⟨fun _ => ⟨by rw [h.X.1.2.1], rfl⟩, fun z => absurd z (by decide), fun z => absurd z (by decide), fun z => absurd z (by decide), fun z => absurd z (by decide), fun z => absurd z (by decide), fun z => absurd z (by decide), fun z => absurd z (by decide), fun z => absurd z (by decide)⟩)) Vis.rf (ct1I rfl (by decide) (Nat.le_of_ble_eq_true rfl) (rg_X4_count_0 ⟨fun _ => ⟨rfl, rfl⟩, fun z => absurd z (by decide), fun z => absurd z (by decide), fun z => absurd z (by decide), fun z => absurd z (by decide), fun z => absurd z (by decide), fun z => absurd z (by decide), fun z => absurd z (by decide), fun z => absurd z (by decide)⟩)) Vis.rf
    · refine prQ h (v := mem 35 0) (ct1I rfl (by decide) (Nat.le_of_ble_eq_true rfl) (rg_X3_count_0 ⟨fun z => absurd z (by decide), fun _ => ⟨by rw [h.X.1.1], rfl⟩, fun z => absurd z (by decide), fun z => absurd z (by decide), fun z => absurd z (by decide), fun z => absurd z (by decide), fun z => absurd z (by decide), fun z => absurd z (by decide), fun z => absurd z (by decide)⟩)) Vis.rf (ct1I rfl (by decide) (Nat.le_of_ble_eq_true rfl) (rg_X4_count_0 ⟨fun z => absurd z (by decide), fun _ => ⟨rfl, rfl⟩, fun z => absurd z (by decide), fun z => absurd z (by decide), fun z => absurd z (by decide), fun z => absurd z (by decide), fun z => absurd z (by decide), fun z => absurd z (by decide), fun z => absurd z (by decide)⟩)) Vis.rf
    · refine prQ h (v := sumA (mem 35) 3 (nA (mem 35))) (ct1I rfl (by decide) (Nat.le_of_ble_eq_true rfl) (rg_X3_count_0 ⟨fun z => absurd z (by decide), fun z => absurd z (by decide), fun _ => ⟨_, _, xt_total isR1 h.X hA (w := 3) (by omega), rfl, rfl⟩, fun z => absurd z (by decide), fun z => absurd z (by decide), fun z => absurd z (by decide), fun z => absurd z (by decide), fun z => absurd z (by decide), fun z => absurd z (by decide)⟩)) Vis.rf (ct1I rfl (by decide) (Nat.le_of_ble_eq_true rfl) (rg_X4_count_0 ⟨fun z => absurd z (by decide), fun z => absurd z (by decide), fun _ => ⟨hA, rfl, rfl⟩, fun z => absurd z (by decide), fun z => absurd z (by decide), fun z => absurd z (by decide), fun z => absurd z (by decide), fun z => absurd z (by decide), fun z => absurd z (by decide)⟩)) Vis.rf
    · refine prQ h (v := sumA (mem 35) 5 (nA (mem 35))) (ct1I rfl (by decide) (Nat.le_of_ble_eq_true rfl) (rg_X3_count_0 ⟨fun z => absurd z (by decide), fun z => absurd z (by decide), fun z => absurd z (by decide), fun _ => ⟨_, _, xt_total isR1 h.X hA (w := 5) (by omega), rfl, rfl⟩, fun z => absurd z (by decide), fun z => absurd z (by decide), fun z => absurd z (by decide), fun z => absurd z (by decide), fun z => absurd z (by decide)⟩)) Vis.rf (ct1I rfl (by decide) (Nat.le_of_ble_eq_true rfl) (rg_X4_count_0 ⟨fun z => absurd z (by decide), fun z => absurd z (by decide), fun z => absurd z (by decide), fun _ => ⟨hA, rfl, rfl⟩, fun z => absurd z (by decide), fun z => absurd z (by decide), fun z => absurd z (by decide), fun z => absurd z (by decide), fun z => absurd z (by decide)⟩)) Vis.rf
    · refine prQ h (v := sumA (mem 35) 4 (nA (mem 35))) (ct1I rfl (by decide) (Nat.le_of_ble_eq_true rfl) (rg_X3_count_0 ⟨fun z => absurd z (by decide), fun z => absurd z (by decide), fun z => absurd z (by decide), fun z => absurd z (by decide), fun _ => ⟨_, _, xt_total isR1 h.X hA (w := 4) (by omega), rfl, rfl⟩, fun z => absurd z (by decide), fun z => absurd z (by decide), fun z => absurd z (by decide), fun z => absurd z (by decide)⟩)) Vis.rf (ct1I rfl (by decide) (Nat.le_of_ble_eq_true rfl) (rg_X4_count_0 ⟨fun z => absurd z (by decide), fun z => absurd z (by decide), fun z => absurd z (by decide), fun z => absurd z (by decide), fun _ => ⟨hA, rfl, rfl⟩, fun z => absurd z (by decide), fun z => absurd z (by decide), fun z => absurd z (by decide), fun z => absurd z (by decide)⟩)) Vis.rf
    · refine prQ h (v := mem 34 7) (ct1I rfl (by decide) (Nat.le_of_ble_eq_true rfl) (rg_X3_count_0 ⟨fun z => absurd z (by decide), fun z => absurd z (by decide), fun z => absurd z (by decide), fun z => absurd z (by decide), fun z => absurd z (by decide), fun _ => ⟨by rw [t1], rfl⟩, fun z => absurd z (by decide), fun z => absurd z (by decide), fun z => absurd z (by decide)⟩)) Vis.rf (ct1I rfl (by decide) (Nat.le_of_ble_eq_true rfl) (rg_X4_count_0 ⟨fun z => absurd z (by decide), fun z => absurd z (by decide), fun z => absurd z (by decide), fun z => absurd z (by decide), fun z => absurd z (by decide), fun _ => ⟨rfl, rfl⟩, fun z => absurd z (by decide), fun z => absurd z (by decide), fun z => absurd z (by decide)⟩)) Vis.rf
    · refine prQ h (v := mem 35 2) (ct1I rfl (by decide) (Nat.le_of_ble_eq_true rfl) (rg_X3_count_0 ⟨fun z => absurd z (by decide), fun z => absurd z (by decide), fun z => absurd z (by decide), fun z => absurd z (by decide), fun z => absurd z (by decide), fun z => absurd z (by decide), fun _ => ⟨by rw [h.X.1.2.2.1], rfl⟩, fun z => absurd z (by decide), fun z => absurd z (by decide)⟩)) Vis.rf (ct1I rfl (by decide) (Nat.le_of_ble_eq_true rfl) (rg_X4_count_0 ⟨fun z => absurd z (by decide), fun z => absurd z (by decide), fun z => absurd z (by decide), fun z => absurd z (by decide), fun z => absurd z (by decide), fun z => absurd z (by decide), fun _ => ⟨rfl, rfl⟩, fun z => absurd z (by decide), fun z => absurd z (by decide)⟩)) Vis.rf
    · refine prQ h (v := cnt (spB (mem 35)) 10) (ct1I rfl (by decide) (Nat.le_of_ble_eq_true rfl) (rg_X3_count_0 ⟨fun z => absurd z (by decide), fun z => absurd z (by decide), fun z => absurd z (by decide), fun z => absurd z (by decide), fun z => absurd z (by decide), fun z => absurd z (by decide), fun z => absurd z (by decide), fun _ => ⟨_, _, xt_spots isR1 h.X, rfl, rfl⟩, fun z => absurd z (by decide)⟩)) Vis.rf (ct1I rfl (by decide) (Nat.le_of_ble_eq_true rfl) (rg_X4_count_0 ⟨fun z => absurd z (by decide), fun z => absurd z (by decide), fun z => absurd z (by decide), fun z => absurd z (by decide), fun z => absurd z (by decide), fun z => absurd z (by decide), fun z => absurd z (by decide), fun _ => ?_, fun z => absurd z (by decide)⟩)) Vis.rf
      refine loopN (n := 10) (P := fun i => PW S mX4_count (fun r2 m => r2 = some (Iq (cnt (spB (mem 35)) 10)) ∧ m = mem) 94 [some (Aq 34), some (Iq 7), some (Iq (cnt (spB (mem 35)) i)), some (Iq (i : Int))] [] mem) ?_ ?_ 0 (by omega)
      · exact rg_X4_count_94 ⟨fun _ => ⟨rfl, rfl⟩, fun z => absurd (by decide) z⟩
      · intro i hi ih
        have g := cnt_le (spB (mem 35)) i
        have hs := hA.spot hi
        refine rg_X4_count_94 ⟨fun z => by omega, fun z => ?_⟩
        rw [show (124 + (i : Int)).toNat = 124 + i by omega]
        refine ⟨by omega, by omega, fun d => ⟨by omega, by omega, ?_⟩, fun d => ⟨by omega, by omega, ?_⟩⟩
        · have e : cnt (spB (mem 35)) (i + 1) = cnt (spB (mem 35)) i + 1 := if_pos (decide_eq_true (by omega))
          rw [← e]; exact ih
        · have e : cnt (spB (mem 35)) (i + 1) = cnt (spB (mem 35)) i := if_neg (fun z => (of_decide_eq_true z) (by omega))
          rw [Int.add_zero, ← e]; exact ih
theorem pr_status (h : IV D mem) (hD : D ≤ 90000) : PR S D mem mX3_status mX4_status [Iq x1] := by
  have hD : D ≤ 1000000 := by omega
  by_cases c : -1 ≤ x1 ∧ x1 ≤ 6
  · have f0 := h.f (k := 0) (by omega)
    have f1 := h.f (k := 1) (by omega)
    have f2 := h.f (k := 2) (by omega)
    have f3 := h.f (k := 3) (by omega)
    have f4 := h.f (k := 4) (by omega)
    have f5 := h.f (k := 5) (by omega)
    have f6 := h.f (k := 6) (by omega)
    have f7 := h.f (k := 7) (by omega)
    have hsum := h.2.2.2.2.2.2.2.2.2.2.2
    have hF := h.2.2.2.2.1
    obtain ⟨k, hk, ek⟩ := int_nat (x := x1 + 1) (n := 8) ⟨by omega, by omega⟩
    refine prQ h (v := mem 39 k) (ct1I rfl (by decide) (Nat.le_of_ble_eq_true rfl) (rg_X3_status_0 ⟨fun _ => ⟨fun z => ?_, fun z => ⟨by omega, ?_, rfl⟩⟩, fun z => absurd c z⟩)) Vis.rf (ct1I rfl (by decide) (Nat.le_of_ble_eq_true rfl) (rg_X4_status_0 ⟨fun _ => ⟨by omega, by omega, by rw [ek, Int.toNat_natCast], rfl⟩, fun z => absurd c z⟩)) Vis.rf
    · have ek0 : k = 0 := by omega
      subst ek0
      have e1 : mem 33 0 = mem 39 1 := hF 0 (by omega)
      have e2 : mem 33 1 = mem 39 2 := hF 1 (by omega)
      have e3 : mem 33 2 = mem 39 3 := hF 2 (by omega)
      have e4 : mem 33 3 = mem 39 4 := hF 3 (by omega)
      have e5 : mem 33 4 = mem 39 5 := hF 4 (by omega)
      have e6 : mem 33 5 = mem 39 6 := hF 5 (by omega)
      have e7 : mem 33 6 = mem 39 7 := hF 6 (by omega)
      refine rg_X3_status_32 ⟨fun z => absurd z (by decide), fun _ => ⟨by omega, ?_, by decide, ?_⟩⟩
      · show in32 (0 + mem 33 0); omega
      show PW S mX3_status _ 32 [some (Aq 0), some (Iq x1), some (Iq (0 + mem 33 0)), some (Iq 1)] [] mem
      refine rg_X3_status_32 ⟨fun z => absurd z (by decide), fun _ => ⟨by omega, ?_, by decide, ?_⟩⟩
      · show in32 (0 + mem 33 0 + mem 33 1); omega
      show PW S mX3_status _ 32 [some (Aq 0), some (Iq x1), some (Iq (0 + mem 33 0 + mem 33 1)), some (Iq 2)] [] mem
      refine rg_X3_status_32 ⟨fun z => absurd z (by decide), fun _ => ⟨by omega, ?_, by decide, ?_⟩⟩
      · show in32 (0 + mem 33 0 + mem 33 1 + mem 33 2); omega
      show PW S mX3_status _ 32 [some (Aq 0), some (Iq x1), some (Iq (0 + mem 33 0 + mem 33 1 + mem 33 2)), some (Iq 3)] [] mem
      refine rg_X3_status_32 ⟨fun z => absurd z (by decide), fun _ => ⟨by omega, ?_, by decide, ?_⟩⟩
      · show in32 (0 + mem 33 0 + mem 33 1 + mem 33 2 + mem 33 3); omega
      show PW S mX3_status _ 32 [some (Aq 0), some (Iq x1), some (Iq (0 + mem 33 0 + mem 33 1 + mem 33 2 + mem 33 3)), some (Iq 4)] [] mem
      refine rg_X3_status_32 ⟨fun z => absurd z (by decide), fun _ => ⟨by omega, ?_, by decide, ?_⟩⟩
      · show in32 (0 + mem 33 0 + mem 33 1 + mem 33 2 + mem 33 3 + mem 33 4); omega
      show PW S mX3_status _ 32 [some (Aq 0), some (Iq x1), some (Iq (0 + mem 33 0 + mem 33 1 + mem 33 2 + mem 33 3 + mem 33 4)), some (Iq 5)] [] mem
      refine rg_X3_status_32 ⟨fun z => absurd z (by decide), fun _ => ⟨by omega, ?_, by decide, ?_⟩⟩
      · show in32 (0 + mem 33 0 + mem 33 1 + mem 33 2 + mem 33 3 + mem 33 4 + mem 33 5); omega
      show PW S mX3_status _ 32 [some (Aq 0), some (Iq x1), some (Iq (0 + mem 33 0 + mem 33 1 + mem 33 2 + mem 33 3 + mem 33 4 + mem 33 5)), some (Iq 6)] [] mem
      refine rg_X3_status_32 ⟨fun z => absurd z (by decide), fun _ => ⟨by omega, ?_, by decide, ?_⟩⟩
      · show in32 (0 + mem 33 0 + mem 33 1 + mem 33 2 + mem 33 3 + mem 33 4 + mem 33 5 + mem 33 6); omega
      show PW S mX3_status _ 32 [some (Aq 0), some (Iq x1), some (Iq (0 + mem 33 0 + mem 33 1 + mem 33 2 + mem 33 3 + mem 33 4 + mem 33 5 + mem 33 6)), some (Iq 7)] [] mem
      refine rg_X3_status_32 ⟨fun _ => ⟨?_, rfl⟩, fun z => absurd (by decide) z⟩
      rw [show 0 + mem 33 0 + mem 33 1 + mem 33 2 + mem 33 3 + mem 33 4 + mem 33 5 + mem 33 6 = mem 39 0 by omega]
    · obtain ⟨j, hj, ej⟩ := int_nat (x := x1) (n := 7) ⟨by omega, by omega⟩
      rw [ej, Int.toNat_natCast, hF j hj, show k = j + 1 by omega]
  · exact prF h hD (f := (-1000001)) (by omega) (fun hfx => ct1I rfl (by decide) (Nat.le_of_ble_eq_true rfl) (rg_X3_status_0 (by (repeat' (first | exact hfx | intro _ | apply And.intro)) <;> (first | omega | rfl | trivial | (exfalso; omega))))) (fun hfm => by
      have e35 : fndx mem ((-1000001)) 35 = mem 35 := mup_other 35 (by omega)
      have e34 : fndx mem ((-1000001)) 34 = mem 34 := mup_other 34 (by omega)
      have e41 : fndx mem ((-1000001)) 41 = mem 41 := mup_other 41 (by omega)
      have e42 : fndx mem ((-1000001)) 42 = mem 42 := mup_other 42 (by omega)
      refine ct1I rfl (by decide) (Nat.le_of_ble_eq_true rfl) (rg_X4_status_0 ?_)
      simp only [e35, e34, e41, e42]
      (repeat' (first | exact hfm | intro _ | apply And.intro)) <;> (first | omega | rfl | trivial | (exfalso; omega)))
theorem OKA.congr {A B : Nat → Int} (h : OKA A) (he : ∀ i, i < 134 → B i = A i) : OKA B := by
  refine ⟨by rw [he 0 (by omega)]; exact h.1, fun i hi => ?_⟩
  rw [he 0 (by omega), he i hi]
  exact h.2 i hi
theorem pr_image (h : IV D mem) (hD : D ≤ 90000) : PR S D mem mX3_image mX4_image [] := by
  obtain ⟨m2, k1, k2, k3⟩ := xt_become (S := S) (r := 15) (r1 := 1) isR15 isR1 (by decide) h.X
  have hd := h.d
  refine ⟨1, mup m2 0 3 1, mup (cprow (mup m2 0 3 1) 35 36) 34 4 1, ct1I rfl (by decide) (Nat.le_of_ble_eq_true rfl) (rg_X3_image_0 ⟨m2, k1, rfl, rfl⟩), ct1I rfl (by decide) (Nat.le_of_ble_eq_true rfl) (rg_X4_image_0 ⟨rfl, rfl⟩), ?_⟩
  have q : ∀ o, o ≠ 34 → o ≠ 36 → o ≠ 0 → (o < 15 ∨ 21 < o) → mup (cprow (mup m2 0 3 1) 35 36) 34 4 1 o = mem o := fun o a b c d => by
    rw [mup_other o a]
    unfold cprow
    rw [setR_ne _ _ b, mup_other o c, k3 o d]
  have q34 : ∀ k, mup (cprow (mup m2 0 3 1) 35 36) 34 4 1 34 k = if k = 4 then 1 else mem 34 k := fun k => by
    rw [mup_same]
    unfold cprow
    rw [setR_ne _ _ (by omega), mup_other 34 (by omega), k3 34 (by omega)]
  have q36 : ∀ k, k < 134 → mup (cprow (mup m2 0 3 1) 35 36) 34 4 1 36 k = mem 35 k := fun k hk => by
    rw [mup_other 36 (by omega)]
    unfold cprow
    rw [setR_at, if_pos hk, mup_other 35 (by omega), k3 35 (by omega)]
  have q0 : mup (cprow (mup m2 0 3 1) 35 36) 34 4 1 0 3 = 1 := by
    rw [mup_other 0 (by omega)]
    unfold cprow
    rw [setR_ne _ _ (by omega), mup_at]
  have q15 : ∀ o, 15 ≤ o → o ≤ 19 → mup (cprow (mup m2 0 3 1) 35 36) 34 4 1 o = m2 o := fun o a b => by
    rw [mup_other o (by omega)]
    unfold cprow
    rw [setR_ne _ _ (by omega), mup_other o (by omega)]
  obtain ⟨h1, h2, h3, h4, h5, g1, g2, g3, g4, g5, g6, g7⟩ := h
  have e7 : mup (cprow (mup m2 0 3 1) 35 36) 34 4 1 34 7 = mem 34 7 := by rw [q34, if_neg (by omega)]
  have e4 : mup (cprow (mup m2 0 3 1) 35 36) 34 4 1 34 4 = 1 := by rw [q34, if_pos rfl]
  refine ⟨?_, ?_, ?_, ?_, ?_, ?_⟩
  · rw [q 35 (by omega) (by omega) (by omega) (by omega)]; exact h1.other (fun o a b => q o (by omega) (by omega) (by omega) (by omega))
  · unfold XK; rw [q0, e4]
    exact ⟨rfl, fun _ => (k2.other (fun o a b => q15 o a b)).congr (fun i hi => (q36 i hi).symm)⟩
  · unfold XT; rw [q 22 (by omega) (by omega) (by omega) (by omega), q 23 (by omega) (by omega) (by omega) (by omega), e7, q 40 (by omega) (by omega) (by omega) (by omega)]; exact h3
  · intro t ht
    rw [q (25 + 2 * t) (by omega) (by omega) (by omega) (by omega), q (26 + 2 * t) (by omega) (by omega) (by omega) (by omega), q 41 (by omega) (by omega) (by omega) (by omega), q 42 (by omega) (by omega) (by omega) (by omega), q 43 (by omega) (by omega) (by omega) (by omega)]; exact h4 t ht
  · unfold XF; rw [q 33 (by omega) (by omega) (by omega) (by omega), q 39 (by omega) (by omega) (by omega) (by omega)]; exact h5
  · unfold OKG
    rw [e4, e7, q 35 (by omega) (by omega) (by omega) (by omega), q 39 (by omega) (by omega) (by omega) (by omega), q 40 (by omega) (by omega) (by omega) (by omega), q 41 (by omega) (by omega) (by omega) (by omega), q 42 (by omega) (by omega) (by omega) (by omega)]
    refine ⟨Or.inr rfl, ⟨g2.1, by omega⟩, fun _ => ⟨g2.1.congr q36, ?_⟩, g4, g5, fun k hk => ⟨(g6 k hk).1, by have := (g6 k hk).2; omega⟩, g7⟩
    rw [q36 1 (by omega)]; omega
theorem pr_undo (h : IV D mem) (hD : D ≤ 90000) : PR S D mem mX3_undo mX4_undo [] := by
  have hD : D ≤ 1000000 := by omega
  have hk0 := h.2.1.1
  by_cases c : mem 34 4 = 0
  · exact prF h hD (f := (-1000004)) (by omega) (fun hfx => ct1I rfl (by decide) (Nat.le_of_ble_eq_true rfl) (rg_X3_undo_0 (by (repeat' (first | exact hfx | intro _ | apply And.intro)) <;> (first | omega | rfl | trivial | (exfalso; omega))))) (fun hfm => by
      have e35 : fndx mem ((-1000004)) 35 = mem 35 := mup_other 35 (by omega)
      have e34 : fndx mem ((-1000004)) 34 = mem 34 := mup_other 34 (by omega)
      have e41 : fndx mem ((-1000004)) 41 = mem 41 := mup_other 41 (by omega)
      have e42 : fndx mem ((-1000004)) 42 = mem 42 := mup_other 42 (by omega)
      refine ct1I rfl (by decide) (Nat.le_of_ble_eq_true rfl) (rg_X4_undo_0 ?_)
      simp only [e35, e34, e41, e42]
      (repeat' (first | exact hfm | intro _ | apply And.intro)) <;> (first | omega | rfl | trivial | (exfalso; omega)))
  · have hk1 : mem 34 4 = 1 := by have := h.2.2.2.2.2.1; omega
    have hK := h.2.1.2 hk1
    have hOK := h.2.2.2.2.2.2.2.1 hk1
    obtain ⟨m2, k1, k2, k3⟩ := xt_become (S := S) (r := 1) (r1 := 15) isR1 isR15 (by decide) hK
    have e36 : m2 36 = mem 36 := k3 36 (by omega)
    have e34 : m2 34 = mem 34 := k3 34 (by omega)
    have e35 : ∀ i, i < 134 → cprow m2 36 35 35 i = mem 36 i := fun i hi => by unfold cprow; rw [setR_at, if_pos hi, e36]
    refine ⟨mem 36 1, m2, cprow m2 36 35, ct1I rfl (by decide) (Nat.le_of_ble_eq_true rfl) (rg_X3_undo_0 ⟨fun z => by omega, fun _ => ⟨m2, k1, by rw [k2.1.2.1], rfl⟩⟩), ct1I rfl (by decide) (Nat.le_of_ble_eq_true rfl) (rg_X4_undo_0 ?_), ?_⟩
    · rw [e34, e35 1 (by omega)]
      exact ⟨fun z => absurd z c, fun _ => ⟨rfl, rfl⟩⟩
    · refine IV.put h (A := cprow m2 36 35 35) ((k2.other (fun o a b => by unfold cprow; exact setR_ne _ _ (by omega))).congr (fun i hi => (e35 i hi).symm)) rfl (fun o a b d => by unfold cprow; rw [setR_ne _ _ d]; exact k3 o (by unfold vis at a; omega)) (hOK.1.congr e35) ?_ (by omega)
      rw [e35 1 (by omega)]
      have := hOK.2
      omega
theorem pr_tear (h : IV D mem) (hD : D ≤ 90000) : PR S D mem mX3_tear mX4_tear [] := by
  have hk0 := h.2.1.1
  have hk1 := h.2.2.2.2.2.1
  have e34 : mup mem 0 3 0 34 = mem 34 := mup_other 34 (by omega)
  refine ⟨mem 34 4, mup mem 0 3 0, mup (mup mem 0 3 0) 34 4 0, ct1I rfl (by decide) (Nat.le_of_ble_eq_true rfl) (rg_X3_tear_0 ⟨fun z => ⟨by rw [← hk0, z], rfl⟩, fun z => ⟨by rw [show mem 34 4 = 1 by omega], rfl⟩⟩), ct1I rfl (by decide) (Nat.le_of_ble_eq_true rfl) (rg_X4_tear_0 ?_), ?_⟩
  · rw [e34]
    exact ⟨fun z => ⟨by rw [z], rfl⟩, fun z => ⟨by rw [show mem 34 4 = 1 by omega], rfl⟩⟩
  · have q : ∀ o, o ≠ 34 → o ≠ 0 → mup (mup mem 0 3 0) 34 4 0 o = mem o := fun o a b => by rw [mup_other o a, mup_other o b]
    have e4 : mup (mup mem 0 3 0) 34 4 0 34 4 = 0 := mup_at _ _ _ _
    have e7 : mup (mup mem 0 3 0) 34 4 0 34 7 = mem 34 7 := by rw [mup_ne (by omega), mup_ne (by omega)]
    have q0 : mup (mup mem 0 3 0) 34 4 0 0 3 = 0 := by rw [mup_ne (by omega), mup_at]
    obtain ⟨h1, h2, h3, h4, h5, g1, g2, g3, g4, g5, g6, g7⟩ := h
    refine ⟨?_, ?_, ?_, ?_, ?_, ?_⟩
    · rw [q 35 (by omega) (by omega)]; exact h1.other (fun o a b => q o (by omega) (by omega))
    · unfold XK; rw [q0, e4]
      exact ⟨rfl, fun z => absurd z (by decide)⟩
    · unfold XT; rw [q 22 (by omega) (by omega), q 23 (by omega) (by omega), e7, q 40 (by omega) (by omega)]; exact h3
    · intro t ht
      rw [q (25 + 2 * t) (by omega) (by omega), q (26 + 2 * t) (by omega) (by omega), q 41 (by omega) (by omega), q 42 (by omega) (by omega), q 43 (by omega) (by omega)]; exact h4 t ht
    · unfold XF; rw [q 33 (by omega) (by omega), q 39 (by omega) (by omega)]; exact h5
    · unfold OKG
      rw [e4, e7, q 35 (by omega) (by omega), q 39 (by omega) (by omega), q 40 (by omega) (by omega), q 41 (by omega) (by omega), q 42 (by omega) (by omega)]
      exact ⟨Or.inl rfl, ⟨g2.1, by omega⟩, fun z => absurd z (by decide), g4, g5, fun k hk => ⟨(g6 k hk).1, by have := (g6 k hk).2; omega⟩, g7⟩
/-- the tape of both sides changes -/
theorem IV.tape {D D2 : Int} {mem m2 : Zm} (h : IV D mem) (hD : D ≤ D2) (e1 : m2 22 1 = m2 34 7) (e2 : ∀ k : Nat, (k : Int) < m2 34 7 → m2 23 k = toB (m2 40 k)) (r1 : 0 ≤ m2 34 7 ∧ m2 34 7 ≤ 120) (r2 : ∀ k : Nat, (k : Int) < m2 34 7 → 0 ≤ m2 40 k ∧ m2 40 k ≤ 255) (e4 : m2 34 4 = mem 34 4) (he : ∀ o, vis o → o ≠ 22 → o ≠ 23 → o ≠ 34 → o ≠ 40 → m2 o = mem o) : IV D2 m2 := by
  have q : ∀ o, (o ≤ 5 ∨ (15 ≤ o ∧ o ≤ 19) ∨ (24 ≤ o ∧ o ≤ 33) ∨ o = 35 ∨ o = 36 ∨ o = 39 ∨ (41 ≤ o ∧ o ≤ 43)) → m2 o = mem o := fun o ho => he o (by unfold vis; omega) (by omega) (by omega) (by omega) (by omega)
  obtain ⟨h1, h2, h3, h4, h5, g1, g2, g3, g4, g5, g6, g7⟩ := h
  refine ⟨?_, ?_, ⟨e1, e2⟩, ?_, ?_, ?_⟩
  · rw [q 35 (by omega)]; exact h1.other (fun o a b => q o (by omega))
  · unfold XK; rw [q 0 (by omega), e4, q 36 (by omega)]
    exact ⟨h2.1, fun z => (h2.2 z).other (fun o a b => q o (by omega))⟩
  · intro t ht
    rw [q (25 + 2 * t) (by omega), q (26 + 2 * t) (by omega), q 41 (by omega), q 42 (by omega), q 43 (by omega)]; exact h4 t ht
  · unfold XF; rw [q 33 (by omega), q 39 (by omega)]; exact h5
  · unfold OKG
    rw [e4, q 35 (by omega), q 36 (by omega), q 39 (by omega), q 41 (by omega), q 42 (by omega)]
    exact ⟨g1, ⟨g2.1, by omega⟩, fun z => ⟨(g3 z).1, by have := (g3 z).2; omega⟩, ⟨r1, r2⟩, g5, fun k hk => ⟨(g6 k hk).1, by have := (g6 k hk).2; omega⟩, g7⟩
theorem pr_wipe (h : IV D mem) (hD : D ≤ 90000) : PR S D mem mX3_wipe mX4_wipe [] := by
  have e1 := h.2.2.1.1
  have e34 : mup mem 22 1 0 34 = mem 34 := mup_other 34 (by omega)
  refine ⟨mem 34 7, mup mem 22 1 0, mup (mup mem 22 1 0) 34 7 0, ct1I rfl (by decide) (Nat.le_of_ble_eq_true rfl) (rg_X3_wipe_0 ⟨by rw [e1], rfl⟩), ct1I rfl (by decide) (Nat.le_of_ble_eq_true rfl) (rg_X4_wipe_0 ⟨by rw [e34], rfl⟩), ?_⟩
  have e7 : mup (mup mem 22 1 0) 34 7 0 34 7 = 0 := mup_at _ _ _ _
  refine h.tape (by omega) ?_ (fun k hk => by rw [e7] at hk; omega) (by rw [e7]; omega) (fun k hk => by rw [e7] at hk; omega) ?_ (fun o a b c d e => ?_)
  · rw [e7, mup_ne (by omega), mup_at]
  · rw [mup_ne (by omega), mup_ne (by omega)]
  · rw [mup_other o d, mup_other o b]
theorem toB_idem (x : Int) : toB (toB x) = toB x := by
  unfold toB
  rw [Int32.ofInt_toInt]
  congr 1
  apply Int32.toInt_inj.mp
  simp
end P3

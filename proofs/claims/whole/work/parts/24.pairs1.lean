/-! ===== pairs: sums, children ===== -/
section P1
variable {S : Sx} {D : Int} {mem : Zm} {x1 x2 x3 x4 x5 : Int}
theorem prF {zx zm : MD} {av : List PV} {f : Int} (h : IV D mem) (hD : D ≤ 1000000) (hf : -1000007 ≤ f ∧ f ≤ -1000001) (hx : fOX mem f → Ct1 S zx (Aq 0 :: av) mem (some (Iq f)) (fndx mem f)) (hm : fOK (fndx mem f) f → Ct1 S zm (Aq 34 :: av) (fndx mem f) (some (Iq f)) (fnds (fndx mem f) f)) : PR S D mem zx zm av := by
  obtain ⟨a, b, c⟩ := h.fnd hD hf Vis.rf Vis.rf
  exact ⟨f, _, _, hx a, hm b, c⟩
theorem IV.up {D D2 : Int} {m m2 : Zm} (h : IV D m) (hD : D ≤ D2) (he : m2 = m) : IV D2 m2 := he ▸ h.keep Vis.rf hD
theorem pr_right (h : IV D mem) (hD : D ≤ 1000000) : PR S D mem mX3_right mX4_right [Iq x1, Iq x2] := by
  by_cases c : (0 ≤ x1 ∧ x1 < 8) ∧ (0 ≤ x2 ∧ x2 ≤ 99)
  · obtain ⟨k, hk, rfl⟩ := int_nat (x := x1) (n := 8) c.1
    have e2 : mem 2 k = mem 35 (4 + k) := h.X.r hk
    have i4 : (4 + (k : Int)).toNat = 4 + k := by omega
    have e35 : mup mem 2 k x2 35 = mem 35 := mup_other 35 (by omega)
    have hd := h.d
    refine ⟨mem 35 (4 + k), mup mem 2 k x2, mup (mup mem 2 k x2) 35 (4 + k) x2, ct1I rfl (by decide) (Nat.le_of_ble_eq_true rfl) (rg_X3_right_0 ?_), ct1I rfl (by decide) (Nat.le_of_ble_eq_true rfl) (rg_X4_right_0 ?_), ?_⟩
    · rw [Int.toNat_natCast, e2]; (repeat' (first | intro _ | apply And.intro)) <;> (first | omega | rfl | trivial | (exfalso; omega))
    · rw [i4, e35]; (repeat' (first | intro _ | apply And.intro)) <;> (first | omega | rfl | trivial | (exfalso; omega))
    · have hx : XR (mup mem 2 k x2) 1 (up (mem 35) (4 + k) x2) := h.X.rgt hk x2
      refine IV.put h (A := up (mem 35) (4 + k) x2) (hx.other (fun o a b => mup_other o (by omega))) (by rw [mup_setR, setR_at, e35]) (fun o a b d => by rw [mup_other o d, mup_other o (by omega)]) (h.A.st (by omega) (fun _ => rngR hk c.2)) (by rw [up_ne (by omega)]; omega) (by omega)
  · exact prF h hD (f := (-1000001)) (by omega) (fun hfx => ct1I rfl (by decide) (Nat.le_of_ble_eq_true rfl) (rg_X3_right_0 (by (repeat' (first | exact hfx | intro _ | apply And.intro)) <;> (first | omega | rfl | trivial | (exfalso; omega))))) (fun hfm => by
      have e35 : fndx mem ((-1000001)) 35 = mem 35 := mup_other 35 (by omega)
      have e34 : fndx mem ((-1000001)) 34 = mem 34 := mup_other 34 (by omega)
      have e41 : fndx mem ((-1000001)) 41 = mem 41 := mup_other 41 (by omega)
      have e42 : fndx mem ((-1000001)) 42 = mem 42 := mup_other 42 (by omega)
      refine ct1I rfl (by decide) (Nat.le_of_ble_eq_true rfl) (rg_X4_right_0 ?_)
      simp only [e35, e34, e41, e42]
      (repeat' (first | exact hfm | intro _ | apply And.intro)) <;> (first | omega | rfl | trivial | (exfalso; omega)))
theorem pr_isRight (h : IV D mem) (hD : D ≤ 1000000) : PR S D mem mX3_isRight mX4_isRight [Iq x1] := by
  by_cases c : (0 ≤ x1 ∧ x1 < 8)
  · obtain ⟨k, hk, rfl⟩ := int_nat (x := x1) (n := 8) c
    have e2 : mem 2 k = mem 35 (4 + k) := h.X.r hk
    have i4 : (4 + (k : Int)).toNat = 4 + k := by omega
    refine ⟨mem 35 (4 + k), mem, mem, ct1I rfl (by decide) (Nat.le_of_ble_eq_true rfl) (rg_X3_isRight_0 ?_), ct1I rfl (by decide) (Nat.le_of_ble_eq_true rfl) (rg_X4_isRight_0 ?_), h.keep Vis.rf (by omega)⟩
    · rw [Int.toNat_natCast, e2]; (repeat' (first | intro _ | apply And.intro)) <;> (first | omega | rfl | trivial | (exfalso; omega))
    · rw [i4]; (repeat' (first | intro _ | apply And.intro)) <;> (first | omega | rfl | trivial | (exfalso; omega))
  · exact prF h hD (f := (-1000001)) (by omega) (fun hfx => ct1I rfl (by decide) (Nat.le_of_ble_eq_true rfl) (rg_X3_isRight_0 (by (repeat' (first | exact hfx | intro _ | apply And.intro)) <;> (first | omega | rfl | trivial | (exfalso; omega))))) (fun hfm => by
      have e35 : fndx mem ((-1000001)) 35 = mem 35 := mup_other 35 (by omega)
      have e34 : fndx mem ((-1000001)) 34 = mem 34 := mup_other 34 (by omega)
      have e41 : fndx mem ((-1000001)) 41 = mem 41 := mup_other 41 (by omega)
      have e42 : fndx mem ((-1000001)) 42 = mem 42 := mup_other 42 (by omega)
      refine ct1I rfl (by decide) (Nat.le_of_ble_eq_true rfl) (rg_X4_isRight_0 ?_)
      simp only [e35, e34, e41, e42]
      (repeat' (first | exact hfm | intro _ | apply And.intro)) <;> (first | omega | rfl | trivial | (exfalso; omega)))
theorem pr_limit (h : IV D mem) (hD : D ≤ 1000000) : PR S D mem mX3_limit mX4_limit [Iq x1] := by
  by_cases c : (1 ≤ x1 ∧ x1 ≤ 9)
  · have e2 : mem 1 6 = mem 35 3 := h.X.1.2.2.2
    have e35 : mup mem 1 6 x1 35 = mem 35 := mup_other 35 (by omega)
    have hd := h.d
    refine ⟨mem 35 3, mup mem 1 6 x1, mup (mup mem 1 6 x1) 35 3 x1, ct1I rfl (by decide) (Nat.le_of_ble_eq_true rfl) (rg_X3_limit_0 ?_), ct1I rfl (by decide) (Nat.le_of_ble_eq_true rfl) (rg_X4_limit_0 ?_), ?_⟩
    · rw [e2]; (repeat' (first | intro _ | apply And.intro)) <;> (first | omega | rfl | trivial | (exfalso; omega))
    · rw [e35]; (repeat' (first | intro _ | apply And.intro)) <;> (first | omega | rfl | trivial | (exfalso; omega))
    · have hx : XR (mup mem 1 6 x1) 1 (up (mem 35) 3 x1) := h.X.own (s := 6) (i := 3) (by omega) x1
      refine IV.put h (A := up (mem 35) 3 x1) (hx.other (fun o a b => mup_other o (by omega))) (by rw [mup_setR, setR_at, e35]) (fun o a b d => by rw [mup_other o d, mup_other o (by omega)]) (h.A.st (by omega) (fun _ => by unfold rng; omega)) (by rw [up_ne (by omega)]; omega) (by omega)
  · exact prF h hD (f := (-1000001)) (by omega) (fun hfx => ct1I rfl (by decide) (Nat.le_of_ble_eq_true rfl) (rg_X3_limit_0 (by (repeat' (first | exact hfx | intro _ | apply And.intro)) <;> (first | omega | rfl | trivial | (exfalso; omega))))) (fun hfm => by
      have e35 : fndx mem ((-1000001)) 35 = mem 35 := mup_other 35 (by omega)
      have e34 : fndx mem ((-1000001)) 34 = mem 34 := mup_other 34 (by omega)
      have e41 : fndx mem ((-1000001)) 41 = mem 41 := mup_other 41 (by omega)
      have e42 : fndx mem ((-1000001)) 42 = mem 42 := mup_other 42 (by omega)
      refine ct1I rfl (by decide) (Nat.le_of_ble_eq_true rfl) (rg_X4_limit_0 ?_)
      simp only [e35, e34, e41, e42]
      (repeat' (first | exact hfm | intro _ | apply And.intro)) <;> (first | omega | rfl | trivial | (exfalso; omega)))
theorem addA_ok {A : Nat → Int} (h : OKA A) (h8 : A 0 < 8) {kind knows : Int} (hk : 0 ≤ kind ∧ kind ≤ 6) (hw : 0 ≤ knows ∧ knows ≤ 255) : OKA (addA A kind knows) ∧ addA A kind knows 0 = A 0 + 1 ∧ addA A kind knows 1 = A 1 := by
  have hn := h.n
  have h0 := h.1
  have e0 : addA A kind knows 0 = A 0 + 1 := by unfold addA; rw [up_at]
  have e1 : ∀ i, 0 < i → (i < 12 + 14 * nA A ∨ 12 + 14 * nA A + 14 ≤ i) → addA A kind knows i = A i := fun i hi ho => by unfold addA; rw [up_ne (by omega), ad1_other (by omega), adF_other (by omega)]
  have eA : ∀ k, k < 8 → addA A kind knows (12 + 14 * nA A + (6 + k)) = -1 := fun k hk => by
    unfold addA
    rw [up_ne (by omega)]
    have : ∀ n, k < n → ad1 (adF A (nA A) kind knows) (nA A) n (12 + 14 * nA A + (6 + k)) = -1 := fun n => by
      induction n with
      | zero => intro z; omega
      | succ n ih =>
        intro z
        show up _ _ _ _ = _
        by_cases q : k = n
        · subst q; rw [up_at]
        · rw [up_ne (by omega), ih (by omega)]
    exact this 8 hk
  have eF : ∀ w, w < 6 → addA A kind knows (12 + 14 * nA A + w) = adF A (nA A) kind knows (12 + 14 * nA A + w) := fun w hw => by
    unfold addA
    rw [up_ne (by omega), ad1_other (by omega)]
  refine ⟨⟨by rw [e0]; omega, fun i hi => ?_⟩, e0, e1 1 (by omega) (by omega)⟩
  rw [e0]
  by_cases hz : i = 0
  · subst hz; unfold rng; omega
  · by_cases ho : i < 12 + 14 * nA A ∨ 12 + 14 * nA A + 14 ≤ i
    · rw [e1 i (by omega) ho]
      have := h.2 i hi
      unfold rng at this ⊢
      omega
    · have hsplit : (∃ k, k < 8 ∧ i = 12 + 14 * nA A + (6 + k)) ∨ i = 12 + 14 * nA A ∨ i = 12 + 14 * nA A + 1 ∨ i = 12 + 14 * nA A + 2 ∨ i = 12 + 14 * nA A + 3 ∨ i = 12 + 14 * nA A + 4 ∨ i = 12 + 14 * nA A + 5 := by
        by_cases q : 12 + 14 * nA A + 6 ≤ i
        · exact Or.inl ⟨i - (12 + 14 * nA A + 6), by omega, by omega⟩
        · omega
      rcases hsplit with ⟨k, hk8, rfl⟩ | rfl | rfl | rfl | rfl | rfl | rfl
      · rw [eA k hk8]; unfold rng; omega
      · have e9 := eF 0 (by omega)
        rw [Nat.add_zero] at e9
        rw [e9]; unfold adF; rw [up_ne (by omega), up_ne (by omega), up_ne (by omega), up_ne (by omega), up_ne (by omega), up_at]; unfold rng; omega
      · rw [eF 1 (by omega)]; unfold adF; rw [up_ne (by omega), up_ne (by omega), up_ne (by omega), up_ne (by omega), up_at]; unfold rng; omega
      · rw [eF 2 (by omega)]; unfold adF; rw [up_ne (by omega), up_ne (by omega), up_ne (by omega), up_at]; unfold rng; omega
      · rw [eF 3 (by omega)]; unfold adF; rw [up_ne (by omega), up_ne (by omega), up_at]; unfold rng; omega
      · rw [eF 4 (by omega)]; unfold adF; rw [up_ne (by omega), up_at]; unfold rng; omega
      · rw [eF 5 (by omega)]; unfold adF; rw [up_at]; unfold rng; omega
theorem pr_child (h : IV D mem) (hD : D ≤ 1000000) : PR S D mem mX3_child mX4_child [Iq x1, Iq x2] := by
  have hN := h.X.1.1
  have h0 := h.A.1
  by_cases c : (0 ≤ x1 ∧ x1 ≤ 6) ∧ (0 ≤ x2 ∧ x2 ≤ 255)
  · by_cases c8 : mem 35 0 < 8
    · obtain ⟨m1, k1, k2, k3⟩ := xt_add (S := S) isR1 h.X h.A c8 x1 x2
      obtain ⟨g1, g2, g3⟩ := addA_ok h.A c8 c.1 c.2
      have e35 : m1 35 = mem 35 := k3 35 (by omega)
      have hd := h.d
      refine ⟨mem 35 0, m1, setR m1 35 (addA (mem 35) x1 x2), ct1I rfl (by decide) (Nat.le_of_ble_eq_true rfl) (rg_X3_child_0 ⟨fun _ => ⟨fun _ => ⟨fun _ => ⟨_, _, k1, rfl, rfl⟩, fun z => by omega⟩, fun z => absurd c.2 z⟩, fun z => absurd c.1 z⟩), ct1I rfl (by decide) (Nat.le_of_ble_eq_true rfl) (rg_X4_child_0 ?_), ?_⟩
      · rw [e35, setR_at, g2]
        exact ⟨fun _ => ⟨fun _ => ⟨fun z => by omega, fun z => ⟨⟨h.A, c8⟩, by omega, by rw [show mem 35 0 + 1 - 1 = mem 35 0 by omega], rfl⟩⟩, fun z => absurd c.2 z⟩, fun z => absurd c.1 z⟩
      · refine IV.put h (A := addA (mem 35) x1 x2) (k2.other (fun o a b => setR_ne _ _ (by omega))) (setR_at _ _ _) (fun o a b d => by rw [setR_ne _ _ d]; exact k3 o (by unfold vis at a; omega)) g1 (by omega) (by omega)
    · exact prF h hD (f := (-1000002)) (by omega) (fun hfx => ct1I rfl (by decide) (Nat.le_of_ble_eq_true rfl) (rg_X3_child_0 (by (repeat' (first | exact hfx | intro _ | apply And.intro)) <;> (first | omega | rfl | trivial | (exfalso; omega))))) (fun hfm => by
      have e35 : fndx mem ((-1000002)) 35 = mem 35 := mup_other 35 (by omega)
      have e34 : fndx mem ((-1000002)) 34 = mem 34 := mup_other 34 (by omega)
      have e41 : fndx mem ((-1000002)) 41 = mem 41 := mup_other 41 (by omega)
      have e42 : fndx mem ((-1000002)) 42 = mem 42 := mup_other 42 (by omega)
      refine ct1I rfl (by decide) (Nat.le_of_ble_eq_true rfl) (rg_X4_child_0 ?_)
      simp only [e35, e34, e41, e42]
      (repeat' (first | exact hfm | intro _ | apply And.intro)) <;> (first | omega | rfl | trivial | (exfalso; omega)))
  · exact prF h hD (f := (-1000001)) (by omega) (fun hfx => ct1I rfl (by decide) (Nat.le_of_ble_eq_true rfl) (rg_X3_child_0 (by (repeat' (first | exact hfx | intro _ | apply And.intro)) <;> (first | omega | rfl | trivial | (exfalso; omega))))) (fun hfm => by
      have e35 : fndx mem ((-1000001)) 35 = mem 35 := mup_other 35 (by omega)
      have e34 : fndx mem ((-1000001)) 34 = mem 34 := mup_other 34 (by omega)
      have e41 : fndx mem ((-1000001)) 41 = mem 41 := mup_other 41 (by omega)
      have e42 : fndx mem ((-1000001)) 42 = mem 42 := mup_other 42 (by omega)
      refine ct1I rfl (by decide) (Nat.le_of_ble_eq_true rfl) (rg_X4_child_0 ?_)
      simp only [e35, e34, e41, e42]
      (repeat' (first | exact hfm | intro _ | apply And.intro)) <;> (first | omega | rfl | trivial | (exfalso; omega)))
theorem pr_of (h : IV D mem) (hD : D ≤ 1000000) : PR S D mem mX3_of mX4_of [Iq x1, Iq x2] := by
  have hN := h.X.1.1
  have h0 := h.A.1
  by_cases c : (0 ≤ x1 ∧ x1 < mem 35 0) ∧ (0 ≤ x2 ∧ x2 ≤ 8)
  · obtain ⟨k, hk, rfl⟩ := int_nat (x := x1) (n := 8) ⟨c.1.1, by omega⟩
    obtain ⟨w, hw, rfl⟩ := int_nat (x := x2) (n := 9) ⟨c.2.1, by omega⟩
    have hk0 := h.A.c0 c.1.2
    have hd0 := h.A.day
    have e0 : mem (1 + 2) (6 * k) = mem 35 (12 + 14 * k) := h.X.f0 hk
    have e4 : mem (1 + 2) (6 * k + 4) = mem 35 (12 + 14 * k + 4) := h.X.f hk (by omega)
    have ed : mem 1 8 = mem 35 1 := h.X.1.2.1
    have ew : w < 6 → mem (1 + 2) (6 * k + w) = mem 35 (12 + 14 * k + w) := fun q => h.X.f hk q
    have pc : ∀ v : Int, Ct1 S mX3_of [Aq 0, Iq (k : Int), Iq (w : Int)] mem (some (Iq v)) mem → Ct1 S mX4_of [Aq 34, Iq (k : Int), Iq (w : Int)] mem (some (Iq v)) mem → PR S D mem mX3_of mX4_of [Iq (k : Int), Iq (w : Int)] := fun v a b => ⟨v, mem, mem, a, b, h.keep Vis.rf (by omega)⟩
    by_cases w6 : w = 6
    · subst w6
      refine pc (payV (mem 35 (12 + 14 * k))) (ct1I rfl (by decide) (Nat.le_of_ble_eq_true rfl) (rg_X3_of_0 ?_)) (ct1I rfl (by decide) (Nat.le_of_ble_eq_true rfl) (rg_X4_of_0 ?_))
      · rw [Int.toNat_natCast, e0, e4, ed]
        exact ⟨fun _ => ⟨fun _ => ⟨fun _ => ⟨by omega, rfl, rfl⟩, fun z => absurd z (by decide), fun z => absurd z (by decide), fun z => absurd z (by decide)⟩, fun z => absurd c.2 z⟩, fun z => by omega⟩
      · rw [Int.toNat_natCast]
        exact ⟨fun _ => ⟨fun _ => ⟨fun _ => ⟨by omega, rfl, rfl⟩, fun z => absurd z (by decide), fun z => absurd z (by decide), fun z => absurd z (by decide)⟩, fun z => absurd c.2 z⟩, fun z => absurd c.1 z⟩
    · by_cases w7 : w = 7
      · subst w7
        refine pc (bI (lendP (mem 35 (12 + 14 * k)) (mem 35 1) (mem 35 (12 + 14 * k + 4)))) (ct1I rfl (by decide) (Nat.le_of_ble_eq_true rfl) (rg_X3_of_0 ?_)) (ct1I rfl (by decide) (Nat.le_of_ble_eq_true rfl) (rg_X4_of_0 ?_))
        · rw [Int.toNat_natCast, e0, e4, ed]
          exact ⟨fun _ => ⟨fun _ => ⟨fun z => absurd z (by decide), fun _ => ⟨by omega, fun z => ⟨by rw [bIt z], rfl⟩, fun z => ⟨by rw [bIf z], rfl⟩⟩, fun z => absurd z (by decide), fun z => absurd z (by decide)⟩, fun z => absurd c.2 z⟩, fun z => by omega⟩
        · rw [Int.toNat_natCast]
          exact ⟨fun _ => ⟨fun _ => ⟨fun z => absurd z (by decide), fun _ => ⟨by omega, fun z => ⟨by rw [bIt z], rfl⟩, fun z => ⟨by rw [bIf z], rfl⟩⟩, fun z => absurd z (by decide), fun z => absurd z (by decide)⟩, fun z => absurd c.2 z⟩, fun z => absurd c.1 z⟩
      · by_cases w8 : w = 8
        · subst w8
          refine pc (sS (adB (mem 35) k) 8) (ct1I rfl (by decide) (Nat.le_of_ble_eq_true rfl) (rg_X3_of_0 ?_)) (ct1I rfl (by decide) (Nat.le_of_ble_eq_true rfl) (rg_X4_of_0 ?_))
          · exact ⟨fun _ => ⟨fun _ => ⟨fun z => absurd z (by decide), fun z => absurd z (by decide), fun _ => ⟨_, _, xt_answered isR1 h.X hk, rfl, rfl⟩, fun z => absurd z (by decide)⟩, fun z => absurd c.2 z⟩, fun z => by omega⟩
          · rw [Int.toNat_natCast]
            exact ⟨fun _ => ⟨fun _ => ⟨fun z => absurd z (by decide), fun z => absurd z (by decide), fun _ => ⟨by omega, rfl, rfl⟩, fun z => absurd z (by decide)⟩, fun z => absurd c.2 z⟩, fun z => absurd c.1 z⟩
        · refine pc (mem 35 (12 + 14 * k + w)) (ct1I rfl (by decide) (Nat.le_of_ble_eq_true rfl) (rg_X3_of_0 ?_)) (ct1I rfl (by decide) (Nat.le_of_ble_eq_true rfl) (rg_X4_of_0 ?_))
          · rw [Int.toNat_natCast, Int.toNat_natCast, ew (by omega)]
            exact ⟨fun _ => ⟨fun _ => ⟨fun z => by omega, fun z => by omega, fun z => by omega, fun _ => ⟨by omega, rfl, rfl⟩⟩, fun z => absurd c.2 z⟩, fun z => by omega⟩
          · rw [Int.toNat_natCast, Int.toNat_natCast]
            exact ⟨fun _ => ⟨fun _ => ⟨fun z => by omega, fun z => by omega, fun z => by omega, fun _ => ⟨by omega, rfl, rfl⟩⟩, fun z => absurd c.2 z⟩, fun z => absurd c.1 z⟩
  · exact prF h hD (f := (-1000001)) (by omega) (fun hfx => ct1I rfl (by decide) (Nat.le_of_ble_eq_true rfl) (rg_X3_of_0 (by (repeat' (first | exact hfx | intro _ | apply And.intro)) <;> (first | omega | rfl | trivial | (exfalso; omega))))) (fun hfm => by
      have e35 : fndx mem ((-1000001)) 35 = mem 35 := mup_other 35 (by omega)
      have e34 : fndx mem ((-1000001)) 34 = mem 34 := mup_other 34 (by omega)
      have e41 : fndx mem ((-1000001)) 41 = mem 41 := mup_other 41 (by omega)
      have e42 : fndx mem ((-1000001)) 42 = mem 42 := mup_other 42 (by omega)
      refine ct1I rfl (by decide) (Nat.le_of_ble_eq_true rfl) (rg_X4_of_0 ?_)
      simp only [e35, e34, e41, e42]
      (repeat' (first | exact hfm | intro _ | apply And.intro)) <;> (first | omega | rfl | trivial | (exfalso; omega)))
theorem pr_change (h : IV D mem) (hD : D ≤ 1000000) : PR S D mem mX3_change mX4_change [Iq x1, Iq x2, Iq x3] := by
  have hN := h.X.1.1
  have h0 := h.A.1
  by_cases c : (0 ≤ x1 ∧ x1 < mem 35 0) ∧ mayP (mem 35 0) x1 x2 x3
  · obtain ⟨k, hk, rfl⟩ := int_nat (x := x1) (n := 8) ⟨c.1.1, by omega⟩
    obtain ⟨w, hw, rfl⟩ := int_nat (x := x2) (n := 6) ⟨by omega, by omega⟩
    have ew : mem (1 + 2) (6 * k + w) = mem 35 (12 + 14 * k + w) := h.X.f hk hw
    have iw : (12 + 14 * (k : Int) + (w : Int)).toNat = 12 + 14 * k + w := by omega
    have e35 : mup mem (1 + 2) (6 * k + w) x3 35 = mem 35 := mup_other 35 (by omega)
    have hd := h.d
    refine ⟨mem 35 (12 + 14 * k + w), mup mem (1 + 2) (6 * k + w) x3, mup (mup mem (1 + 2) (6 * k + w) x3) 35 (12 + 14 * k + w) x3, ct1I rfl (by decide) (Nat.le_of_ble_eq_true rfl) (rg_X3_change_0 ?_), ct1I rfl (by decide) (Nat.le_of_ble_eq_true rfl) (rg_X4_change_0 ?_), ?_⟩
    · rw [Int.toNat_natCast, Int.toNat_natCast, ew, hN]
      exact ⟨fun _ => ⟨fun _ => ⟨by omega, fun _ => ⟨by omega, by omega, rfl, rfl⟩, fun z => absurd c.2 z⟩, fun z => by omega⟩, fun z => absurd c.1 z⟩
    · rw [iw, e35]
      exact ⟨fun _ => ⟨fun _ => ⟨by omega, by omega, rfl, rfl⟩, fun z => absurd c.2 z⟩, fun z => absurd c.1 z⟩
    · have hx : XR (mup mem (1 + 2) (6 * k + w) x3) 1 (up (mem 35) (12 + 14 * k + w) x3) := h.X.fact hk hw x3
      refine IV.put h (A := up (mem 35) (12 + 14 * k + w) x3) (hx.other (fun o a b => mup_other o (by omega))) (by rw [mup_setR, setR_at, e35]) (fun o a b d => by rw [mup_other o d, mup_other o (by omega)]) (h.A.st (by omega) (fun _ => ?_)) (by rw [up_ne (by omega)]; omega) (by omega)
      have hc2 := c.2
      unfold rng
      omega
  · exact prF h hD (f := (-1000001)) (by omega) (fun hfx => ct1I rfl (by decide) (Nat.le_of_ble_eq_true rfl) (rg_X3_change_0 (by (repeat' (first | exact hfx | intro _ | apply And.intro)) <;> (first | omega | rfl | trivial | (exfalso; omega))))) (fun hfm => by
      have e35 : fndx mem ((-1000001)) 35 = mem 35 := mup_other 35 (by omega)
      have e34 : fndx mem ((-1000001)) 34 = mem 34 := mup_other 34 (by omega)
      have e41 : fndx mem ((-1000001)) 41 = mem 41 := mup_other 41 (by omega)
      have e42 : fndx mem ((-1000001)) 42 = mem 42 := mup_other 42 (by omega)
      refine ct1I rfl (by decide) (Nat.le_of_ble_eq_true rfl) (rg_X4_change_0 ?_)
      simp only [e35, e34, e41, e42]
      (repeat' (first | exact hfm | intro _ | apply And.intro)) <;> (first | omega | rfl | trivial | (exfalso; omega)))
end P1

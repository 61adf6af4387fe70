/-! ===== pairs: feed, days ===== -/
section P4
variable {S : Sx} {D : Int} {mem : Zm} {x1 x2 x3 x4 x5 : Int}
theorem toB_and (v : Int) : toB (bAnd v 255) = toB v := by
  unfold toB bAnd
  rw [Int32.ofInt_toInt]
  have e : (Int32.ofInt v &&& Int32.ofInt 255).toInt8 = (Int32.ofInt v).toInt8 := by
    rw [Int32.toInt8_and, show (Int32.ofInt 255).toInt8 = -1 by decide]
    exact Int8.and_neg_one
  rw [e]
theorem and255 (v : Int) : 0 ≤ bAnd v 255 ∧ bAnd v 255 ≤ 255 := by
  unfold bAnd
  rw [pk_and (Int32.ofInt v) (m := Int32.ofInt 255) 8 (by decide)]
  have h : (Int32.ofInt v).toBitVec.toNat % 2 ^ 8 < 256 := Nat.mod_lt _ (by decide)
  rw [nI_toInt (by omega)]
  omega
theorem ct_append (h : 0 ≤ mem 22 1 ∧ mem 22 1 < 120) : Ct1 S mX2_append [Aq 22, Iq x1] mem none (mup (mup mem 23 (mem 22 1).toNat (toB x1)) 22 1 (mem 22 1 + 1)) := by
  have e : mup mem 23 (mem 22 1).toNat (toB (toB x1)) 22 1 = mem 22 1 := mup_ne (by omega)
  refine ct1V rfl (by decide) (Nat.le_of_ble_eq_true rfl) (rg_X2_append_0 ?_)
  rw [e, toB_idem]
  exact ⟨h, by omega, rfl, rfl⟩
theorem pr_feed (h : IV D mem) (hD : D ≤ 90000) : PR S D mem mX3_feed mX4_feed [Iq x1, Iq x2] := by
  have hD : D ≤ 1000000 := by omega
  have t1 := h.2.2.1.1
  have t2 := h.2.2.1.2
  have r1 := h.2.2.2.2.2.2.2.2.1.1
  have r2 := h.2.2.2.2.2.2.2.2.1.2
  by_cases c : 1 ≤ x2 ∧ x2 ≤ 4
  · by_cases c2 : mem 34 7 + x2 ≤ 120
    · obtain ⟨n, hn, rfl⟩ := int_nat (x := x2) (n := 5) ⟨by omega, by omega⟩
      obtain ⟨L, hL, eL⟩ := int_nat (x := mem 34 7) (n := 121) ⟨r1.1, by omega⟩
      obtain ⟨m1, ⟨a1, a2, a3, a4⟩, ago⟩ := loopE (fun Q j (M : Zm) => PW S mX3_feed Q 41 [some (Aq 0), some (Iq x1), some (Iq (n : Int)), some (Iq ((n : Int) - 1 - (j : Int)))] [] M) (fun j M => M 22 1 = (L : Int) + j ∧ (∀ i, i < L → M 23 i = mem 23 i) ∧ (∀ i, i < j → M 23 (L + i) = toB (bShr x1 (8 * ((n : Int) - 1 - (i : Int))))) ∧ ∀ o, o ≠ 22 → o ≠ 23 → M o = mem o) (n := n) (s0 := mem) ⟨by rw [t1, eL]; omega, fun _ _ => rfl, fun i hi => absurd hi (by omega), fun _ _ _ => rfl⟩ (by
        intro j M hj ⟨b1, b2, b3, b4⟩
        have eN : (M 22 1).toNat = L + j := by omega
        refine ⟨mup (mup M 23 (L + j) (toB (bShr x1 (8 * ((n : Int) - 1 - (j : Int)))))) 22 1 (M 22 1 + 1), ⟨by rw [mup_at]; omega, fun i hi => by rw [mup_ne (by omega), mup_ne (by omega)]; exact b2 i hi, fun i hi => ?_, fun o p q => by rw [mup_other o p, mup_other o q]; exact b4 o p q⟩, fun Q hq => rg_X3_feed_41 ⟨fun z => by omega, fun z => ⟨by omega, _, ct_append (by omega), by omega, ?_⟩⟩⟩
        · by_cases q : i = j
          · rw [q, mup_ne (by omega), mup_at]
          · rw [mup_ne (by omega), mup_ne (by omega)]; exact b3 i (by omega)
        · rw [eN, show (n : Int) - 1 - (j : Int) + -1 = (n : Int) - 1 - ((j + 1 : Nat) : Int) by omega]
          exact hq)
      have e34 : m1 34 = mem 34 := a4 34 (by omega) (by omega)
      have e40 : m1 40 = mem 40 := a4 40 (by omega) (by omega)
      obtain ⟨m2, ⟨g1, g2, g3, g4, g5⟩, ggo⟩ := loopE (fun Q j (M : Zm) => PW S mX4_feed Q 41 [some (Aq 34), some (Iq x1), some (Iq (n : Int)), some (Iq ((n : Int) - 1 - (j : Int)))] [] M) (fun j M => M 34 7 = (L : Int) + j ∧ (∀ i, i < L → M 40 i = mem 40 i) ∧ (∀ i, i < j → M 40 (L + i) = bAnd (bShr x1 (8 * ((n : Int) - 1 - (i : Int)))) 255) ∧ (∀ o, o ≠ 34 → o ≠ 40 → M o = m1 o) ∧ M 34 4 = mem 34 4) (n := n) (s0 := m1) ⟨by rw [e34, eL]; omega, fun _ _ => by rw [e40], fun i hi => absurd hi (by omega), fun _ _ _ => rfl, by rw [e34]⟩ (by
        intro j M hj ⟨b1, b2, b3, b4, b5⟩
        have eN : (M 34 7).toNat = L + j := by omega
        have eM : ∀ v, mup M 40 (M 34 7).toNat v 34 7 = M 34 7 := fun v => mup_ne (by omega)
        refine ⟨mup (mup M 40 (L + j) (bAnd (bShr x1 (8 * ((n : Int) - 1 - (j : Int)))) 255)) 34 7 (M 34 7 + 1), ⟨by rw [mup_at]; omega, fun i hi => by rw [mup_ne (by omega), mup_ne (by omega)]; exact b2 i hi, fun i hi => ?_, fun o p q => by rw [mup_other o p, mup_other o q]; exact b4 o p q, by rw [mup_ne (by omega), mup_ne (by omega)]; exact b5⟩, fun Q hq => rg_X4_feed_41 ⟨fun z => by omega, fun z => ?_⟩⟩
        · by_cases q : i = j
          · rw [q, mup_ne (by omega), mup_at]
          · rw [mup_ne (by omega), mup_ne (by omega)]; exact b3 i (by omega)
        · rw [eM, eN, show (n : Int) - 1 - (j : Int) + -1 = (n : Int) - 1 - ((j + 1 : Nat) : Int) by omega]
          exact ⟨by omega, by omega, by omega, by omega, hq⟩)
      refine ⟨(L : Int) + n, m1, m2, ct1I rfl (by decide) (Nat.le_of_ble_eq_true rfl) (rg_X3_feed_0 ⟨fun _ => ⟨by omega, fun _ => ⟨by omega, ?_⟩, fun z => by omega⟩, fun z => absurd c z⟩), ct1I rfl (by decide) (Nat.le_of_ble_eq_true rfl) (rg_X4_feed_0 ⟨fun _ => ?_, fun z => absurd c z⟩), ?_⟩
      · have := ago (fun r m => r = some (Iq ((L : Int) + n)) ∧ m = m1) (rg_X3_feed_41 ⟨fun _ => ⟨by rw [a1], rfl⟩, fun z => by omega⟩)
        rw [show (n : Int) - 1 - ((0 : Nat) : Int) = (n : Int) - 1 by omega] at this
        exact this
      · rw [e34]
        refine ⟨by omega, fun _ => ⟨by omega, ?_⟩, fun z => by omega⟩
        have := ggo (fun r m => r = some (Iq ((L : Int) + n)) ∧ m = m2) (rg_X4_feed_41 ⟨fun _ => ⟨by rw [g1], rfl⟩, fun z => by omega⟩)
        rw [show (n : Int) - 1 - ((0 : Nat) : Int) = (n : Int) - 1 by omega] at this
        exact this
      · have e22 : m2 22 = m1 22 := g4 22 (by omega) (by omega)
        have e23 : m2 23 = m1 23 := g4 23 (by omega) (by omega)
        refine h.tape (by omega) (by rw [e22, a1, g1]) (fun k hk => ?_) (by rw [g1]; omega) (fun k hk => ?_) g5 (fun o p q1 q2 q3 q4 => by rw [g4 o q3 q4, a4 o q1 q2])
        · rw [e23]
          by_cases q : k < L
          · rw [a2 k q, g2 k q]; exact t2 k (by omega)
          · obtain ⟨i, rfl⟩ : ∃ i, k = L + i := ⟨k - L, by omega⟩
            rw [a3 i (by omega), g3 i (by omega), toB_and]
        · by_cases q : k < L
          · rw [g2 k q]; exact r2 k (by omega)
          · obtain ⟨i, rfl⟩ : ∃ i, k = L + i := ⟨k - L, by omega⟩
            rw [g3 i (by omega)]; exact and255 _
    · exact prF h hD (f := (-1000002)) (by omega) (fun hfx => ct1I rfl (by decide) (Nat.le_of_ble_eq_true rfl) (rg_X3_feed_0 (by (repeat' (first | exact hfx | intro _ | apply And.intro)) <;> (first | omega | rfl | trivial | (exfalso; omega))))) (fun hfm => by
      have e35 : fndx mem ((-1000002)) 35 = mem 35 := mup_other 35 (by omega)
      have e34 : fndx mem ((-1000002)) 34 = mem 34 := mup_other 34 (by omega)
      have e41 : fndx mem ((-1000002)) 41 = mem 41 := mup_other 41 (by omega)
      have e42 : fndx mem ((-1000002)) 42 = mem 42 := mup_other 42 (by omega)
      refine ct1I rfl (by decide) (Nat.le_of_ble_eq_true rfl) (rg_X4_feed_0 ?_)
      simp only [e35, e34, e41, e42]
      (repeat' (first | exact hfm | intro _ | apply And.intro)) <;> (first | omega | rfl | trivial | (exfalso; omega)))
  · exact prF h hD (f := (-1000001)) (by omega) (fun hfx => ct1I rfl (by decide) (Nat.le_of_ble_eq_true rfl) (rg_X3_feed_0 (by (repeat' (first | exact hfx | intro _ | apply And.intro)) <;> (first | omega | rfl | trivial | (exfalso; omega))))) (fun hfm => by
      have e35 : fndx mem ((-1000001)) 35 = mem 35 := mup_other 35 (by omega)
      have e34 : fndx mem ((-1000001)) 34 = mem 34 := mup_other 34 (by omega)
      have e41 : fndx mem ((-1000001)) 41 = mem 41 := mup_other 41 (by omega)
      have e42 : fndx mem ((-1000001)) 42 = mem 42 := mup_other 42 (by omega)
      refine ct1I rfl (by decide) (Nat.le_of_ble_eq_true rfl) (rg_X4_feed_0 ?_)
      simp only [e35, e34, e41, e42]
      (repeat' (first | exact hfm | intro _ | apply And.intro)) <;> (first | omega | rfl | trivial | (exfalso; omega)))
/-! days -/
theorem wA_hi {A : Nat → Int} (h : OKA A) {c : Nat} (hc : (c : Int) < A 0) {i : Nat} (hi : 134 ≤ i) : wA A c i = A i := by
  have h0 := h.1
  unfold wA pyA
  split
  · rename_i q
    have hf := frm_lt h hc (cpP_f q)
    rw [up_ne (by omega), up_ne (by omega), w1_other (by omega)]
  · rw [w1_other (by omega)]
theorem wN_hi {A : Nat → Int} (h : OKA A) {i : Nat} (hi : 134 ≤ i) : ∀ n : Nat, (n : Int) ≤ A 0 → wN A n i = A i := by
  intro n
  induction n with
  | zero => intro _; rfl
  | succ n ih =>
    intro hn
    have hI := wN_ok h n (by omega)
    show wA _ _ i = _
    rw [wA_hi hI.1 (by rw [hI.2]; omega) hi, ih (by omega)]
theorem rtN_hi {A : Nat → Int} {i : Nat} (hi : 12 ≤ i) : ∀ n : Nat, n ≤ 8 → rtN A n i = A i := by
  intro n
  induction n with
  | zero => intro _; rfl
  | succ n ih => intro hn; show up _ _ _ i = _; rw [up_ne (by omega), ih (by omega)]
theorem dayA_hi {A : Nat → Int} (h : OKA A) {i : Nat} (hi : 134 ≤ i) : dayA A i = A i := by
  have hn := h.n
  unfold dayA
  rw [up_ne (by omega), rtN_hi (by omega) 8 (by omega), mkN_low (by omega) _ (by omega), wN_hi h hi _ (by omega)]
theorem dN_hi {A : Nat → Int} (h : OKA A) {i : Nat} (hi : 134 ≤ i) : ∀ n, dN n A i = A i := by
  intro n
  induction n with
  | zero => rfl
  | succ n ih => rw [dN_s, dayA_hi (dN_ok h n).1 hi, ih]
/-- a row laid aside comes back -/
theorem cp_back {A : Nat → Int} {m2 : Zm} (h35 : ∀ i, 134 ≤ i → m2 35 i = A i) (h38 : ∀ i, i < 134 → m2 38 i = A i) : cprow m2 38 35 = setR m2 35 A := by
  unfold cprow
  congr 1
  funext k
  split
  · exact h38 k (by assumption)
  · exact h35 k (by omega)
theorem ct_X4_thenAt (hA : OKA (mem 35)) (hb : mem 35 1 < 2000000000) {p n : Nat} (hp : p < 134) (hn : n ≤ 60) : Ct1 S mX4_thenAt [Aq 34, Iq (p : Int), Iq (n : Int)] mem (some (Iq (dN n (mem 35) p))) (cprow mem 35 38) := by
  have e35 : cprow mem 35 38 35 = mem 35 := setR_ne _ _ (by omega)
  refine ct1I rfl (by decide) (Nat.le_of_ble_eq_true rfl) (rg_X4_thenAt_0 ⟨_, ct_X4_goes (x1 := (n : Int)) ⟨by rw [e35]; exact hA, by rw [e35]; exact hb, by omega, by omega⟩, by omega, ?_, ?_⟩)
  · rw [setR_at, e35, Int.toNat_natCast, Int.toNat_natCast]
  · rw [e35, Int.toNat_natCast, cp_back (A := mem 35) (fun i hi => by rw [setR_at]; exact dN_hi hA hi n) (fun i hi => by rw [setR_ne _ _ (by omega)]; unfold cprow; rw [setR_at, if_pos hi]), setR_setR, ← e35, setR_self]
theorem vis_cp : Vis mem (cprow mem 35 38) := fun o ho => setR_ne _ _ (by unfold vis at ho; omega)
/-- the trial room, some days on -/
theorem xt_trial {A : Nat → Int} (hX : XR mem 1 A) (hA : OKA A) {n : Nat} (hd : A 1 + n < 99999) (hn : n ≤ 60) : ∃ m1 m2, Ct1 S mX0_become [Aq 8, Aq 1] mem none m1 ∧ Ct1 S mX0_passDays [Aq 8, Iq (n : Int)] m1 none m2 ∧ XR m2 8 (dN n A) ∧ Fr 8 mem m2 := by
  obtain ⟨m1, k1, k2, k3⟩ := xt_become (S := S) (r := 8) (r1 := 1) isR8 isR1 (by decide) hX
  obtain ⟨m2, j1, j2, j3⟩ := xt_days (S := S) isR8 k2 hA hd hn
  exact ⟨m1, m2, k1, j1, j2, k3.trans j3⟩
theorem pr_go (h : IV D mem) (hD : D ≤ 90000) : PR S D mem mX3_go mX4_go [Iq x1] := by
  have hD2 : D ≤ 90000 := hD
  have hD : D ≤ 1000000 := by omega
  have hd := h.d
  have ed := h.X.1.2.1
  have h1 := h.A.day
  by_cases c : 1 ≤ x1 ∧ x1 ≤ 60
  · obtain ⟨n, hn, rfl⟩ := int_nat (x := x1) (n := 61) ⟨by omega, by omega⟩
    obtain ⟨m1, k1, k2, k3⟩ := xt_days (S := S) isR1 h.X h.A (n := n) (by omega) (by omega)
    obtain ⟨g1, g2, g3⟩ := dN_ok h.A n
    have e35 : m1 35 = mem 35 := k3 35 (by omega)
    refine ⟨sumA (dN n (mem 35)) 3 (nA (dN n (mem 35))), m1, setR m1 35 (dN n (mem 35)), ct1I rfl (by decide) (Nat.le_of_ble_eq_true rfl) (rg_X3_go_0 ⟨fun _ => ⟨by omega, fun _ => ⟨m1, k1, _, _, xt_total isR1 k2 g1 (w := 3) (by omega), rfl, rfl⟩, fun z => by omega⟩, fun z => absurd c z⟩), ct1I rfl (by decide) (Nat.le_of_ble_eq_true rfl) (rg_X4_go_0 ⟨fun _ => ⟨by rw [e35]; omega, fun _ => ⟨_, ct_X4_goes (x1 := (n : Int)) ⟨by rw [e35]; exact h.A, by rw [e35]; omega, by omega, by omega⟩, ?_⟩, fun z => by rw [e35] at z; omega⟩, fun z => absurd c z⟩), ?_⟩
    · rw [setR_at, e35, Int.toNat_natCast]
      exact ⟨g1, rfl, rfl⟩
    · exact IV.put h (A := dN n (mem 35)) (k2.other (fun o a b => setR_ne _ _ (by omega))) (setR_at _ _ _) (fun o a b d => by rw [setR_ne _ _ d]; exact k3 o (by unfold vis at a; omega)) g1 (by rw [g3]; omega) (by omega)
  · exact prF h hD (f := (-1000001)) (by omega) (fun hfx => ct1I rfl (by decide) (Nat.le_of_ble_eq_true rfl) (rg_X3_go_0 (by (repeat' (first | exact hfx | intro _ | apply And.intro)) <;> (first | omega | rfl | trivial | (exfalso; omega))))) (fun hfm => by
      have e35 : fndx mem ((-1000001)) 35 = mem 35 := mup_other 35 (by omega)
      have e34 : fndx mem ((-1000001)) 34 = mem 34 := mup_other 34 (by omega)
      have e41 : fndx mem ((-1000001)) 41 = mem 41 := mup_other 41 (by omega)
      have e42 : fndx mem ((-1000001)) 42 = mem 42 := mup_other 42 (by omega)
      refine ct1I rfl (by decide) (Nat.le_of_ble_eq_true rfl) (rg_X4_go_0 ?_)
      simp only [e35, e34, e41, e42]
      (repeat' (first | exact hfm | intro _ | apply And.intro)) <;> (first | omega | rfl | trivial | (exfalso; omega)))
theorem pr_ahead (h : IV D mem) (hD : D ≤ 90000) : PR S D mem mX3_ahead mX4_ahead [Iq x1, Iq x2, Iq x3] := by
  have hD2 : D ≤ 90000 := hD
  have hD : D ≤ 1000000 := by omega
  have hd := h.d
  have hN := h.X.1.1
  have h0 := h.A.1
  by_cases c : (0 ≤ x1 ∧ x1 < mem 35 0) ∧ (x2 = 1 ∨ x2 = 3 ∨ x2 = 4 ∨ x2 = 5) ∧ (0 ≤ x3 ∧ x3 ≤ 60)
  · obtain ⟨k, hk, rfl⟩ := int_nat (x := x1) (n := 8) ⟨c.1.1, by omega⟩
    obtain ⟨w, hw, rfl⟩ := int_nat (x := x2) (n := 6) ⟨by omega, by omega⟩
    obtain ⟨n, hn, rfl⟩ := int_nat (x := x3) (n := 61) ⟨by omega, by omega⟩
    obtain ⟨m1, m2, k1, k2, k3, k4⟩ := xt_trial (S := S) h.X h.A (n := n) (by omega) (by omega)
    have e35 : m2 35 = mem 35 := k4 35 (by omega)
    have ev : m2 (8 + 2) (6 * k + w) = dN n (mem 35) (12 + 14 * k + w) := k3.f hk hw
    have ip : 12 + 14 * (k : Int) + (w : Int) = ((12 + 14 * k + w : Nat) : Int) := by omega
    have hct : Ct1 S mX4_thenAt [Aq 34, Iq ((12 + 14 * k + w : Nat) : Int), Iq (n : Int)] m2 (some (Iq (dN n (mem 35) (12 + 14 * k + w)))) (cprow m2 35 38) := by
      have := ct_X4_thenAt (S := S) (mem := m2) (p := 12 + 14 * k + w) (n := n) (by rw [e35]; exact h.A) (by rw [e35]; omega) (by omega) (by omega)
      rw [e35] at this
      exact this
    refine prQ h (v := dN n (mem 35) (12 + 14 * k + w)) (ct1I rfl (by decide) (Nat.le_of_ble_eq_true rfl) (rg_X3_ahead_0 ?_)) k4.vis8 (ct1I rfl (by decide) (Nat.le_of_ble_eq_true rfl) (rg_X4_ahead_0 ?_)) vis_cp
    · have leaf : ∃ (m7 : Zm), Ct1 S mX0_become [Aq 8, Aq 1] mem none m7 ∧ (∃ (m10 : Zm), Ct1 S mX0_passDays [Aq 8, Iq (n : Int)] m7 none m10 ∧ ((0 ≤ (k : Int) ∧ (k : Int) < 8 ∧ 0 ≤ (w : Int) ∧ (w : Int) < 6) ∧ (fun r m => r = some (Iq (dN n (mem 35) (12 + 14 * k + w))) ∧ m = m2) (some (Iq (m10 (8 + 2) (6 * ((k : Int)).toNat + ((w : Int)).toNat)))) m10)) := ⟨m1, k1, m2, k2, by omega, by rw [Int.toNat_natCast, Int.toNat_natCast, ev], rfl⟩
      have g : ∀ (P : Prop), (fOX mem (-1000001) ∧ P) → True := fun _ _ => trivial
      exact ⟨fun _ => ⟨fun _ => ⟨fun _ => leaf, fun z => absurd c.2.2 z⟩, fun z => by omega⟩, fun z1 => ⟨fun _ => ⟨fun _ => ⟨fun _ => leaf, fun z => absurd c.2.2 z⟩, fun z => by omega⟩, fun z2 => ⟨fun _ => ⟨fun _ => ⟨fun _ => leaf, fun z => absurd c.2.2 z⟩, fun z => by omega⟩, fun z3 => ⟨fun _ => ⟨fun _ => ⟨fun _ => leaf, fun z => absurd c.2.2 z⟩, fun z => by omega⟩, fun z4 => by omega⟩⟩⟩⟩
    · rw [e35, ip]
      exact ⟨fun _ => ⟨fun _ => ⟨fun _ => ⟨by omega, _, _, hct, rfl, rfl⟩, fun z => absurd c.2.2 z⟩, fun z1 => ⟨fun _ => ⟨fun _ => ⟨by omega, _, _, hct, rfl, rfl⟩, fun z => absurd c.2.2 z⟩, fun z => by omega⟩⟩, fun z => absurd c.1 z⟩
  · exact prF h hD (f := (-1000001)) (by omega) (fun hfx => ct1I rfl (by decide) (Nat.le_of_ble_eq_true rfl) (rg_X3_ahead_0 (by (repeat' (first | exact hfx | intro _ | apply And.intro)) <;> (first | omega | rfl | trivial | (exfalso; omega))))) (fun hfm => by
      have e35 : fndx mem ((-1000001)) 35 = mem 35 := mup_other 35 (by omega)
      have e34 : fndx mem ((-1000001)) 34 = mem 34 := mup_other 34 (by omega)
      have e41 : fndx mem ((-1000001)) 41 = mem 41 := mup_other 41 (by omega)
      have e42 : fndx mem ((-1000001)) 42 = mem 42 := mup_other 42 (by omega)
      refine ct1I rfl (by decide) (Nat.le_of_ble_eq_true rfl) (rg_X4_ahead_0 ?_)
      simp only [e35, e34, e41, e42]
      (repeat' (first | exact hfm | intro _ | apply And.intro)) <;> (first | omega | rfl | trivial | (exfalso; omega)))
theorem pr_writes (h : IV D mem) (hD : D ≤ 90000) : PR S D mem mX3_writes mX4_writes [Iq x1, Iq x2, Iq x3] := by
  have hD2 : D ≤ 90000 := hD
  have hD : D ≤ 1000000 := by omega
  have hd := h.d
  have hN := h.X.1.1
  have h0 := h.A.1
  by_cases c : (0 ≤ x1 ∧ x1 < mem 35 0) ∧ (0 ≤ x2 ∧ x2 < 8) ∧ (0 ≤ x3 ∧ x3 ≤ 60)
  · obtain ⟨k, hk, rfl⟩ := int_nat (x := x1) (n := 8) ⟨c.1.1, by omega⟩
    obtain ⟨w, hw, rfl⟩ := int_nat (x := x2) (n := 8) ⟨by omega, by omega⟩
    obtain ⟨n, hn, rfl⟩ := int_nat (x := x3) (n := 61) ⟨by omega, by omega⟩
    obtain ⟨m1, m2, k1, k2, k3, k4⟩ := xt_trial (S := S) h.X h.A (n := n) (by omega) (by omega)
    have e35 : m2 35 = mem 35 := k4 35 (by omega)
    have ev : m2 (8 + 3) (8 * k + w) = dN n (mem 35) (12 + 14 * k + (6 + w)) := k3.a hk hw
    have ip : 12 + 14 * (k : Int) + (6 + (w : Int)) = ((12 + 14 * k + (6 + w) : Nat) : Int) := by omega
    have hct : Ct1 S mX4_thenAt [Aq 34, Iq ((12 + 14 * k + (6 + w) : Nat) : Int), Iq (n : Int)] m2 (some (Iq (dN n (mem 35) (12 + 14 * k + (6 + w))))) (cprow m2 35 38) := by
      have := ct_X4_thenAt (S := S) (mem := m2) (p := 12 + 14 * k + (6 + w)) (n := n) (by rw [e35]; exact h.A) (by rw [e35]; omega) (by omega) (by omega)
      rw [e35] at this
      exact this
    refine prQ h (v := dN n (mem 35) (12 + 14 * k + (6 + w))) (ct1I rfl (by decide) (Nat.le_of_ble_eq_true rfl) (rg_X3_writes_0 ?_)) k4.vis8 (ct1I rfl (by decide) (Nat.le_of_ble_eq_true rfl) (rg_X4_writes_0 ?_)) vis_cp
    · exact ⟨fun _ => ⟨fun _ => ⟨fun _ => ⟨m1, k1, m2, k2, by omega, by rw [Int.toNat_natCast, Int.toNat_natCast, ev], rfl⟩, fun z => absurd c.2.2 z⟩, fun z => by omega⟩, fun z => by omega⟩
    · rw [e35, ip]
      exact ⟨fun _ => ⟨fun _ => ⟨fun _ => ⟨by omega, by omega, _, _, hct, rfl, rfl⟩, fun z => absurd c.2.2 z⟩, fun z => absurd c.2.1 z⟩, fun z => absurd c.1 z⟩
  · exact prF h hD (f := (-1000001)) (by omega) (fun hfx => ct1I rfl (by decide) (Nat.le_of_ble_eq_true rfl) (rg_X3_writes_0 (by (repeat' (first | exact hfx | intro _ | apply And.intro)) <;> (first | omega | rfl | trivial | (exfalso; omega))))) (fun hfm => by
      have e35 : fndx mem ((-1000001)) 35 = mem 35 := mup_other 35 (by omega)
      have e34 : fndx mem ((-1000001)) 34 = mem 34 := mup_other 34 (by omega)
      have e41 : fndx mem ((-1000001)) 41 = mem 41 := mup_other 41 (by omega)
      have e42 : fndx mem ((-1000001)) 42 = mem 42 := mup_other 42 (by omega)
      refine ct1I rfl (by decide) (Nat.le_of_ble_eq_true rfl) (rg_X4_writes_0 ?_)
      simp only [e35, e34, e41, e42]
      (repeat' (first | exact hfm | intro _ | apply And.intro)) <;> (first | omega | rfl | trivial | (exfalso; omega)))
end P4

/-! ===== pairs: one thing of a child changed, and the marks then ===== -/
section P6
variable {S : Sx} {D : Int} {mem : Zm} {x1 x2 x3 x4 x5 : Int}
def mkW (A : Nat → Int) (k w : Nat) (v : Int) (n : Nat) : Int := dN n (up A (12 + 14 * k + w) v) (12 + 14 * k + 3)
theorem xt_marksWith {A : Nat → Int} (hX : XR mem 1 A) (hd : A 1 < 99900) {k w : Nat} (hk : k < 8) (hw : w < 6) {v : Int} (hA : OKA (up A (12 + 14 * k + w) v)) {n : Nat} (hn : n ≤ 60) : ∃ m2, Ct1 S mX3_marksWith [Aq 0, Iq (k : Int), Iq (w : Int), Iq v, Iq (n : Int)] mem (some (Iq (mkW A k w v n))) m2 ∧ Fr 8 mem m2 := by
  obtain ⟨m1, k1, k2, k3⟩ := xt_become (S := S) (r := 8) (r1 := 1) isR8 isR1 (by decide) hX
  have k4 := k2.fact hk hw v
  obtain ⟨m2, j1, j2, j3⟩ := xt_days (S := S) isR8 k4 hA (n := n) (by rw [up_ne (by omega)]; omega) hn
  refine ⟨m2, ct1I rfl (by decide) (Nat.le_of_ble_eq_true rfl) (rg_X3_marksWith_0 ⟨m1, k1, by omega, m2, ?_, by omega, ?_, rfl⟩), (k3.trans (Fr.mup (by omega))).trans j3⟩
  · rw [Int.toNat_natCast, Int.toNat_natCast]; exact j1
  · rw [Int.toNat_natCast, j2.f hk (by omega)]; rfl
/-- the model's row with one place changed -/
def SM (mem : Zm) (i : Nat) (M : Zm) : Prop := (∃ v, M 35 = up (mem 35) i v) ∧ ∀ o, o ≠ 35 → o ≠ 38 → M o = mem o
theorem up_up (A : Nat → Int) (i : Nat) (v w : Int) : up (up A i v) i w = up A i w := by
  funext j
  by_cases q : j = i
  · rw [q, up_at, up_at]
  · rw [up_ne q, up_ne q, up_ne q]
theorem up_self (A : Nat → Int) (i : Nat) : up A i (A i) = A := by
  funext j
  by_cases q : j = i
  · rw [q, up_at]
  · rw [up_ne q]
theorem mup_up (M : Zm) (o i : Nat) (v : Int) : mup M o i v o = up (M o) i v := by rw [mup_same]; rfl
theorem SM.rf (i : Nat) : SM mem i mem := ⟨⟨mem 35 i, (up_self _ _).symm⟩, fun _ _ _ => rfl⟩
theorem SM.stp {i : Nat} {M : Zm} (h : SM mem i M) {v : Int} (hA : OKA (up (mem 35) i v)) (hi : i ≠ 1) (hd : mem 35 1 < 99900) {k n : Nat} (hk : k < 8) (hn : n ≤ 60) : ∃ M2, Ct1 S mX4_thenAt [Aq 34, Iq (12 + 14 * (k : Int) + 3), Iq (n : Int)] (mup M 35 i v) (some (Iq (dN n (up (mem 35) i v) (12 + 14 * k + 3)))) M2 ∧ SM mem i M2 := by
  obtain ⟨⟨w, hw⟩, ho⟩ := h
  have e : mup M 35 i v 35 = up (mem 35) i v := by rw [mup_up, hw, up_up]
  have := ct_X4_thenAt (S := S) (mem := mup M 35 i v) (by rw [e]; exact hA) (by rw [e, up_ne (fun q => hi q.symm)]; omega) (p := 12 + 14 * k + 3) (n := n) (by omega) hn
  rw [e] at this
  refine ⟨_, (show 12 + 14 * (k : Int) + 3 = ((12 + 14 * k + 3 : Nat) : Int) by omega) ▸ this, ⟨v, ?_⟩, fun o a b => ?_⟩
  · unfold cprow; rw [setR_ne _ _ (by omega), e]
  · unfold cprow; rw [setR_ne _ _ b, mup_other o a]; exact ho o a b
theorem SM.back {i : Nat} {M : Zm} (h : SM mem i M) : Vis mem (mup M 35 i (mem 35 i)) := by
  obtain ⟨⟨w, hw⟩, ho⟩ := h
  intro o hv
  by_cases q : o = 35
  · subst q; rw [mup_up, hw, up_up, up_self]
  · rw [mup_other o q]; exact ho o q (by unfold vis at hv; omega)
/-- the best of some -/
def bW (f : Nat → Int) (b0 : Int) : Nat → Int × Int
  | 0 => (b0, -1)
  | n + 1 => if f n ≤ (bW f b0 n).2 then bW f b0 n else ((n : Int), f n)
theorem bW_le {f : Nat → Int} {b0 : Int} {n : Nat} (h : f n ≤ (bW f b0 n).2) : bW f b0 (n + 1) = bW f b0 n := if_pos h
theorem bW_gt {f : Nat → Int} {b0 : Int} {n : Nat} (h : ¬ f n ≤ (bW f b0 n).2) : bW f b0 (n + 1) = ((n : Int), f n) := if_neg h
theorem bW_ge (f : Nat → Int) (b0 : Int) : ∀ n, -1 ≤ (bW f b0 n).2 := by
  intro n
  induction n with
  | zero => exact Int.le_refl _
  | succ n ih =>
    by_cases h : f n ≤ (bW f b0 n).2
    · rw [bW_le h]; exact ih
    · rw [bW_gt h]; show -1 ≤ f n; omega
theorem max_le {a b : Int} (h : b ≤ a) : max a b = a := by omega
theorem max_gt {a b : Int} (h : ¬ b ≤ a) : max a b = b := by omega
theorem Fr.X1 {A : Nat → Int} {M : Zm} (h : Fr 8 mem M) (hX : XR mem 1 A) : XR M 1 A := hX.other (fun o a b => h o (by omega))
theorem pr_kindFor (h : IV D mem) (hD : D ≤ 90000) : PR S D mem mX3_kindFor mX4_kindFor [Iq x1, Iq x2] := by
  have hD2 : D ≤ 90000 := hD
  have hD : D ≤ 1000000 := by omega
  have hd := h.d
  have hN := h.X.1.1
  have h0 := h.A.1
  by_cases c : (0 ≤ x1 ∧ x1 < mem 35 0) ∧ (0 ≤ x2 ∧ x2 ≤ 20)
  · obtain ⟨k, hk, rfl⟩ := int_nat (x := x1) (n := 8) ⟨c.1.1, by omega⟩
    obtain ⟨n, hn, rfl⟩ := int_nat (x := x2) (n := 21) ⟨by omega, by omega⟩
    have ok : ∀ j : Nat, j < 7 → OKA (up (mem 35) (12 + 14 * k + 0) (j : Int)) := fun j hj => h.A.st (by omega) (fun _ => rng0 hk (by omega))
    obtain ⟨m1, a1, ago⟩ := loopE (fun Q j (M : Zm) => PW S mX3_kindFor Q 36 [some (Aq 0), some (Iq (k : Int)), some (Iq (n : Int)), some (Iq (bW (fun j => mkW (mem 35) k 0 (j : Int) n) 0 j).1), some (Iq (bW (fun j => mkW (mem 35) k 0 (j : Int) n) 0 j).2), some (Iq (j : Int)), none] [] M) (fun j M => Fr 8 mem M) (n := 7) (s0 := mem) Fr.rfl' (by
      intro j M hj b
      obtain ⟨m2, q1, q2⟩ := xt_marksWith (S := S) (b.X1 h.X) (by omega) hk (w := 0) (by omega) (ok j hj) (n := n) (by omega)
      refine ⟨m2, b.trans q2, fun Q hq => rg_X3_kindFor_36 ⟨fun z => by omega, fun _ => ⟨_, m2, q1, fun z => ⟨by omega, ?_⟩, fun z => ⟨by omega, ?_⟩⟩⟩⟩
      · rw [bW_le z] at hq; exact hq
      · rw [bW_gt z] at hq; exact hq)
    have e35 : m1 35 = mem 35 := a1 35 (by omega)
    have ei : (12 + 14 * (k : Int) + 0).toNat = 12 + 14 * k + 0 := by omega
    obtain ⟨m2, g1, ggo⟩ := loopE (fun Q j (M : Zm) => PW S mX4_kindFor Q 32 [some (Aq 34), some (Iq (k : Int)), some (Iq (n : Int)), some (Iq (mem 35 (12 + 14 * k))), some (Iq (bW (fun j => mkW (mem 35) k 0 (j : Int) n) 0 j).1), some (Iq (bW (fun j => mkW (mem 35) k 0 (j : Int) n) 0 j).2), some (Iq (j : Int)), none] [] M) (fun j M => SM m1 (12 + 14 * k + 0) M) (n := 7) (s0 := m1) (SM.rf _) (by
      intro j M hj b
      obtain ⟨m2, q1, q2⟩ := b.stp (S := S) (by rw [e35]; exact ok j hj) (by omega) (by rw [e35]; omega) hk (n := n) (by omega)
      rw [e35] at q1
      refine ⟨m2, q2, fun Q hq => rg_X4_kindFor_32 ⟨fun z => by omega, fun _ => ⟨by omega, by omega, by omega, _, m2, ei ▸ q1, fun z => ⟨by omega, ?_⟩, fun z => ⟨by omega, ?_⟩⟩⟩⟩
      · rw [bW_le z] at hq; rw [max_le z]; exact hq
      · rw [bW_gt z] at hq; rw [max_gt z]; exact hq)
    have bk := g1.back
    rw [e35] at bk
    refine prQ h (v := (bW (fun j => mkW (mem 35) k 0 (j : Int) n) 0 7).1) (ct1I rfl (by decide) (Nat.le_of_ble_eq_true rfl) (rg_X3_kindFor_0 ⟨fun _ => ⟨fun _ => ago _ (rg_X3_kindFor_36 ⟨fun _ => ⟨rfl, rfl⟩, fun z => by omega⟩), fun z => absurd c.2 z⟩, fun z => by omega⟩)) a1.vis8 (ct1I rfl (by decide) (Nat.le_of_ble_eq_true rfl) (rg_X4_kindFor_0 ?_)) bk
    rw [e35]
    refine ⟨fun _ => ⟨by omega, ?_⟩, fun z => absurd c z⟩
    rw [Int.toNat_natCast]
    exact ggo _ (rg_X4_kindFor_32 ⟨fun _ => ⟨by omega, by omega, rfl, by rw [ei]; rfl⟩, fun z => by omega⟩)
  · exact prF h hD (f := (-1000001)) (by omega) (fun hfx => ct1I rfl (by decide) (Nat.le_of_ble_eq_true rfl) (rg_X3_kindFor_0 (by (repeat' (first | exact hfx | intro _ | apply And.intro)) <;> (first | omega | rfl | trivial | (exfalso; omega))))) (fun hfm => by
      have e35 : fndx mem ((-1000001)) 35 = mem 35 := mup_other 35 (by omega)
      have e34 : fndx mem ((-1000001)) 34 = mem 34 := mup_other 34 (by omega)
      have e41 : fndx mem ((-1000001)) 41 = mem 41 := mup_other 41 (by omega)
      have e42 : fndx mem ((-1000001)) 42 = mem 42 := mup_other 42 (by omega)
      refine ct1I rfl (by decide) (Nat.le_of_ble_eq_true rfl) (rg_X4_kindFor_0 ?_)
      simp only [e35, e34, e41, e42]
      (repeat' (first | exact hfm | intro _ | apply And.intro)) <;> (first | omega | rfl | trivial | (exfalso; omega)))
theorem pr_learn (h : IV D mem) (hD : D ≤ 90000) : PR S D mem mX3_learn mX4_learn [Iq x1, Iq x2] := by
  have hD2 : D ≤ 90000 := hD
  have hD : D ≤ 1000000 := by omega
  have hd := h.d
  have hN := h.X.1.1
  have h0 := h.A.1
  by_cases c : (0 ≤ x1 ∧ x1 < mem 35 0) ∧ (0 ≤ x2 ∧ x2 ≤ 20)
  · obtain ⟨k, hk, rfl⟩ := int_nat (x := x1) (n := 8) ⟨c.1.1, by omega⟩
    obtain ⟨n, hn, rfl⟩ := int_nat (x := x2) (n := 21) ⟨by omega, by omega⟩
    have h1 := h.A.c1 c.1.2
    have ok : ∀ j : Nat, j < 8 → OKA (up (mem 35) (12 + 14 * k + 1) (bOr (mem 35 (12 + 14 * k + 1)) (bShl 1 (j : Int)))) := fun j hj => h.A.st (by omega) (fun _ => rng1 hk (by have := or_in (s := mem 35 (12 + 14 * k + 1)) (j := (j : Int)) (by omega) (by omega); omega))
    obtain ⟨m1, a1, ago⟩ := loopE (fun Q j (M : Zm) => PW S mX3_learn Q 47 [some (Aq 0), some (Iq (k : Int)), some (Iq (n : Int)), some (Iq (mem 35 (12 + 14 * k + 1))), some (Iq (bW (fun j => mkW (mem 35) k 1 (bOr (mem 35 (12 + 14 * k + 1)) (bShl 1 (j : Int))) n) 0 j).1), some (Iq (bW (fun j => mkW (mem 35) k 1 (bOr (mem 35 (12 + 14 * k + 1)) (bShl 1 (j : Int))) n) 0 j).2), some (Iq (j : Int)), none] [] M) (fun j M => Fr 8 mem M) (n := 8) (s0 := mem) Fr.rfl' (by
      intro j M hj b
      obtain ⟨m2, q1, q2⟩ := xt_marksWith (S := S) (b.X1 h.X) (by omega) hk (w := 1) (by omega) (ok j hj) (n := n) (by omega)
      refine ⟨m2, b.trans q2, fun Q hq => rg_X3_learn_47 ⟨fun z => by omega, fun _ => ⟨_, m2, q1, fun z => ⟨by omega, ?_⟩, fun z => ⟨by omega, ?_⟩⟩⟩⟩
      · rw [bW_le z] at hq; exact hq
      · rw [bW_gt z] at hq; exact hq)
    have e35 : m1 35 = mem 35 := a1 35 (by omega)
    have ei : (12 + 14 * (k : Int) + 1).toNat = 12 + 14 * k + 1 := by omega
    obtain ⟨m2, g1, ggo⟩ := loopE (fun Q j (M : Zm) => PW S mX4_learn Q 32 [some (Aq 34), some (Iq (k : Int)), some (Iq (n : Int)), some (Iq (mem 35 (12 + 14 * k + 1))), some (Iq (bW (fun j => mkW (mem 35) k 1 (bOr (mem 35 (12 + 14 * k + 1)) (bShl 1 (j : Int))) n) 0 j).1), some (Iq (bW (fun j => mkW (mem 35) k 1 (bOr (mem 35 (12 + 14 * k + 1)) (bShl 1 (j : Int))) n) 0 j).2), some (Iq (j : Int)), none] [] M) (fun j M => SM m1 (12 + 14 * k + 1) M) (n := 8) (s0 := m1) (SM.rf _) (by
      intro j M hj b
      obtain ⟨m2, q1, q2⟩ := b.stp (S := S) (by rw [e35]; exact ok j hj) (by omega) (by rw [e35]; omega) hk (n := n) (by omega)
      rw [e35] at q1
      refine ⟨m2, q2, fun Q hq => rg_X4_learn_32 ⟨fun z => by omega, fun _ => ⟨by omega, by omega, by omega, _, m2, ei ▸ q1, fun z => ⟨by omega, ?_⟩, fun z => ⟨by omega, ?_⟩⟩⟩⟩
      · rw [bW_le z] at hq; rw [max_le z]; exact hq
      · rw [bW_gt z] at hq; rw [max_gt z]; exact hq)
    have bk := g1.back
    rw [e35] at bk
    have eb : mem (1 + 2) (6 * ((k : Int)).toNat + 1) = mem 35 (12 + 14 * k + 1) := by rw [Int.toNat_natCast]; exact h.X.f hk (by omega)
    refine prQ h (v := (bW (fun j => mkW (mem 35) k 1 (bOr (mem 35 (12 + 14 * k + 1)) (bShl 1 (j : Int))) n) 0 8).1) (ct1I rfl (by decide) (Nat.le_of_ble_eq_true rfl) (rg_X3_learn_0 ⟨fun _ => ⟨fun _ => ⟨by omega, ?_⟩, fun z => absurd c.2 z⟩, fun z => by omega⟩)) a1.vis8 (ct1I rfl (by decide) (Nat.le_of_ble_eq_true rfl) (rg_X4_learn_0 ?_)) bk
    · rw [eb]
      exact ago _ (rg_X3_learn_47 ⟨fun _ => ⟨rfl, rfl⟩, fun z => by omega⟩)
    · rw [e35]
      refine ⟨fun _ => ⟨by omega, ?_⟩, fun z => absurd c z⟩
      rw [Int.toNat_natCast]
      exact ggo _ (rg_X4_learn_32 ⟨fun _ => ⟨by omega, by omega, rfl, by rw [ei]⟩, fun z => by omega⟩)
  · exact prF h hD (f := (-1000001)) (by omega) (fun hfx => ct1I rfl (by decide) (Nat.le_of_ble_eq_true rfl) (rg_X3_learn_0 (by (repeat' (first | exact hfx | intro _ | apply And.intro)) <;> (first | omega | rfl | trivial | (exfalso; omega))))) (fun hfm => by
      have e35 : fndx mem ((-1000001)) 35 = mem 35 := mup_other 35 (by omega)
      have e34 : fndx mem ((-1000001)) 34 = mem 34 := mup_other 34 (by omega)
      have e41 : fndx mem ((-1000001)) 41 = mem 41 := mup_other 41 (by omega)
      have e42 : fndx mem ((-1000001)) 42 = mem 42 := mup_other 42 (by omega)
      refine ct1I rfl (by decide) (Nat.le_of_ble_eq_true rfl) (rg_X4_learn_0 ?_)
      simp only [e35, e34, e41, e42]
      (repeat' (first | exact hfm | intro _ | apply And.intro)) <;> (first | omega | rfl | trivial | (exfalso; omega)))
theorem pr_biscuitsFor (h : IV D mem) (hD : D ≤ 90000) : PR S D mem mX3_biscuitsFor mX4_biscuitsFor [Iq x1, Iq x2] := by
  have hD2 : D ≤ 90000 := hD
  have hD : D ≤ 1000000 := by omega
  have hd := h.d
  have hN := h.X.1.1
  have h0 := h.A.1
  by_cases c : (0 ≤ x1 ∧ x1 < mem 35 0) ∧ (0 ≤ x2 ∧ x2 ≤ 20)
  · obtain ⟨k, hk, rfl⟩ := int_nat (x := x1) (n := 8) ⟨c.1.1, by omega⟩
    obtain ⟨n, hn, rfl⟩ := int_nat (x := x2) (n := 21) ⟨by omega, by omega⟩
    have ok : ∀ j : Nat, j < 100 → OKA (up (mem 35) (12 + 14 * k + 4) (j : Int)) := fun j hj => h.A.st (by omega) (fun _ => rng4 hk (by omega))
    obtain ⟨b, p1, p2, p3⟩ : ∃ b : Nat, b < 100 ∧ mkW (mem 35) k 4 (b : Int) n = mkW (mem 35) k 4 99 n ∧ ∀ j : Nat, j < b → ¬ mkW (mem 35) k 4 (j : Int) n = mkW (mem 35) k 4 99 n := by
      rcases leastD (fun j => mkW (mem 35) k 4 (j : Int) n = mkW (mem 35) k 4 99 n) 100 with ⟨b, q⟩ | q
      · exact ⟨b, q⟩
      · exact absurd rfl (q 99 (by omega))
    obtain ⟨m0, c1, c2⟩ := xt_marksWith (S := S) h.X (by omega) hk (w := 4) (by omega) (ok 99 (by omega)) (n := n) (by omega)
    obtain ⟨m1, a1, ago⟩ := loopE (fun Q j (M : Zm) => PW S mX3_biscuitsFor Q 41 [some (Aq 0), some (Iq (k : Int)), some (Iq (n : Int)), some (Iq (mkW (mem 35) k 4 99 n)), some (Iq (j : Int))] [] M) (fun j M => Fr 8 mem M) (n := b) (s0 := m0) c2 (by
      intro j M hj b
      obtain ⟨m2, q1, q2⟩ := xt_marksWith (S := S) (b.X1 h.X) (by omega) hk (w := 4) (by omega) (ok j (by omega)) (n := n) (by omega)
      refine ⟨m2, b.trans q2, fun Q hq => rg_X3_biscuitsFor_41 ⟨fun z => by omega, fun _ => ⟨_, m2, q1, fun z => absurd z (p3 j hj), fun z => ⟨by omega, ?_⟩⟩⟩⟩
      exact hq)
    obtain ⟨m3, t1, tgo⟩ : ∃ m3, Fr 8 mem m3 ∧ PW S mX3_biscuitsFor (fun r m => r = some (Iq (b : Int)) ∧ m = m3) 41 [some (Aq 0), some (Iq (k : Int)), some (Iq (n : Int)), some (Iq (mkW (mem 35) k 4 99 n)), some (Iq (b : Int))] [] m1 := by
      by_cases q : b = 99
      · exact ⟨m1, a1, rg_X3_biscuitsFor_41 ⟨fun _ => ⟨by rw [q]; rfl, rfl⟩, fun z => by omega⟩⟩
      · obtain ⟨m2, q1, q2⟩ := xt_marksWith (S := S) (a1.X1 h.X) (by omega) hk (w := 4) (by omega) (ok b (by omega)) (n := n) (by omega)
        exact ⟨m2, a1.trans q2, rg_X3_biscuitsFor_41 ⟨fun z => by omega, fun _ => ⟨_, m2, q1, fun z => ⟨rfl, rfl⟩, fun z => absurd p2 z⟩⟩⟩
    have e35 : m3 35 = mem 35 := t1 35 (by omega)
    have ei : (12 + 14 * (k : Int) + 4).toNat = 12 + 14 * k + 4 := by omega
    obtain ⟨m4, u1, u2⟩ := (SM.rf (mem := m3) (12 + 14 * k + 4)).stp (S := S) (by rw [e35]; exact ok 99 (by omega)) (by omega) (by rw [e35]; omega) hk (n := n) (by omega)
    obtain ⟨m2, g1, ggo⟩ := loopE (fun Q j (M : Zm) => PW S mX4_biscuitsFor Q 46 [some (Aq 34), some (Iq (k : Int)), some (Iq (n : Int)), some (Iq (mem 35 (12 + 14 * k + 4))), some (Iq (mkW (mem 35) k 4 99 n)), some (Iq (-1)), some (Iq (j : Int))] [] M) (fun j M => SM m3 (12 + 14 * k + 4) M) (n := b) (s0 := m4) u2 (by
      intro j M hj b
      obtain ⟨m2, q1, q2⟩ := b.stp (S := S) (by rw [e35]; exact ok j (by omega)) (by omega) (by rw [e35]; omega) hk (n := n) (by omega)
      rw [e35] at q1
      exact ⟨m2, q2, fun Q hq => rg_X4_biscuitsFor_46 ⟨fun z => by omega, fun _ => ⟨fun z => by omega, fun _ => ⟨by omega, by omega, by omega, _, m2, ei ▸ q1, fun z => absurd z (p3 j hj), fun z => ⟨by omega, hq⟩⟩⟩⟩⟩)
    obtain ⟨m5, q1, q2⟩ := g1.stp (S := S) (by rw [e35]; exact ok b (by omega)) (by omega) (by rw [e35]; omega) hk (n := n) (by omega)
    rw [e35] at q1 u1
    have bk := q2.back
    rw [e35] at bk
    refine prQ h (v := (b : Int)) (ct1I rfl (by decide) (Nat.le_of_ble_eq_true rfl) (rg_X3_biscuitsFor_0 ⟨fun _ => ⟨fun _ => ⟨_, m0, c1, ago _ tgo⟩, fun z => absurd c.2 z⟩, fun z => by omega⟩)) t1.vis8 (ct1I rfl (by decide) (Nat.le_of_ble_eq_true rfl) (rg_X4_biscuitsFor_0 ?_)) bk
    rw [e35, ei]
    refine ⟨fun _ => ⟨by omega, by omega, by omega, _, m4, u1, ggo _ (rg_X4_biscuitsFor_46 ⟨fun z => by omega, fun _ => ⟨fun z => by omega, fun _ => ⟨by omega, by omega, by omega, _, m5, ei ▸ q1, fun _ => ⟨by omega, ?_⟩, fun z => absurd p2 z⟩⟩⟩)⟩, fun z => absurd c z⟩
    exact rg_X4_biscuitsFor_46 ⟨fun _ => ⟨by omega, by omega, rfl, by rw [ei]⟩, fun _ => ⟨fun _ => ⟨by omega, by omega, rfl, by rw [ei]⟩, fun z => by omega⟩⟩
  · exact prF h hD (f := (-1000001)) (by omega) (fun hfx => ct1I rfl (by decide) (Nat.le_of_ble_eq_true rfl) (rg_X3_biscuitsFor_0 (by (repeat' (first | exact hfx | intro _ | apply And.intro)) <;> (first | omega | rfl | trivial | (exfalso; omega))))) (fun hfm => by
      have e35 : fndx mem ((-1000001)) 35 = mem 35 := mup_other 35 (by omega)
      have e34 : fndx mem ((-1000001)) 34 = mem 34 := mup_other 34 (by omega)
      have e41 : fndx mem ((-1000001)) 41 = mem 41 := mup_other 41 (by omega)
      have e42 : fndx mem ((-1000001)) 42 = mem 42 := mup_other 42 (by omega)
      refine ct1I rfl (by decide) (Nat.le_of_ble_eq_true rfl) (rg_X4_biscuitsFor_0 ?_)
      simp only [e35, e34, e41, e42]
      (repeat' (first | exact hfm | intro _ | apply And.intro)) <;> (first | omega | rfl | trivial | (exfalso; omega)))
theorem pr_copyFrom (h : IV D mem) (hD : D ≤ 90000) : PR S D mem mX3_copyFrom mX4_copyFrom [Iq x1, Iq x2] := by
  have hD2 : D ≤ 90000 := hD
  have hD : D ≤ 1000000 := by omega
  have hd := h.d
  have hN := h.X.1.1
  have h0 := h.A.1
  by_cases c : (0 ≤ x1 ∧ x1 < mem 35 0) ∧ (0 ≤ x2 ∧ x2 ≤ 20)
  · obtain ⟨k, hk, rfl⟩ := int_nat (x := x1) (n := 8) ⟨c.1.1, by omega⟩
    obtain ⟨n, hn, rfl⟩ := int_nat (x := x2) (n := 21) ⟨by omega, by omega⟩
    have hnA := h.A.n
    have ok : ∀ v : Int, -1 ≤ v → v < mem 35 0 → OKA (up (mem 35) (12 + 14 * k + 2) v) := fun v a b => h.A.st (by omega) (fun _ => rng2 hk (by omega))
    obtain ⟨f, ef⟩ : ∃ f : Nat → Int, f = fun j => if j = k then -1 else mkW (mem 35) k 2 (j : Int) n := ⟨_, rfl⟩
    have fk : f k = -1 := by rw [ef]; exact if_pos rfl
    have fj : ∀ j, j ≠ k → f j = mkW (mem 35) k 2 (j : Int) n := fun j q => by rw [ef]; exact if_neg q
    have ge := bW_ge f (-1)
    obtain ⟨m1, a1, ago⟩ := loopE (fun Q j (M : Zm) => PW S mX3_copyFrom Q 36 [some (Aq 0), some (Iq (k : Int)), some (Iq (n : Int)), some (Iq (bW f (-1) j).1), some (Iq (bW f (-1) j).2), some (Iq (j : Int)), none] [] M) (fun j M => Fr 8 mem M) (n := nA (mem 35)) (s0 := mem) Fr.rfl' (by
      intro j M hj b
      have e7 : M 1 7 = mem 1 7 := by rw [b 1 (by omega)]
      by_cases q : j = k
      · refine ⟨M, b, fun Q hq => rg_X3_copyFrom_36 ⟨fun z => by omega, fun _ => ⟨fun _ => ⟨fun _ => ⟨by omega, ?_⟩, fun z => absurd (ge j) z⟩, fun z => by omega⟩⟩⟩
        rw [bW_le (by rw [q, fk]; exact ge k)] at hq
        exact hq
      · obtain ⟨m2, q1, q2⟩ := xt_marksWith (S := S) (b.X1 h.X) (by omega) hk (w := 2) (by omega) (ok (j : Int) (by omega) (by omega)) (n := n) (by omega)
        rw [← fj j q] at q1
        refine ⟨m2, b.trans q2, fun Q hq => rg_X3_copyFrom_36 ⟨fun z => by omega, fun _ => ⟨fun z => by omega, fun _ => ⟨_, m2, q1, fun z => ⟨by omega, ?_⟩, fun z => ⟨by omega, ?_⟩⟩⟩⟩⟩
        · rw [bW_le z] at hq; exact hq
        · rw [bW_gt z] at hq; exact hq)
    obtain ⟨m3, q1, q2⟩ := xt_marksWith (S := S) (a1.X1 h.X) (by omega) hk (w := 2) (by omega) (ok (-1) (by omega) (by omega)) (n := n) (by omega)
    have q2 := a1.trans q2
    have e7 : m1 1 7 = mem 1 7 := by rw [a1 1 (by omega)]
    have e35 : m3 35 = mem 35 := q2 35 (by omega)
    have ei : (12 + 14 * (k : Int) + 2).toNat = 12 + 14 * k + 2 := by omega
    obtain ⟨m2, ⟨g1, g2⟩, ggo⟩ := loopE (fun Q j (M : Zm) => PW S mX4_copyFrom Q 32 [some (Aq 34), some (Iq (k : Int)), some (Iq (n : Int)), some (Iq (mem 35 (12 + 14 * k + 2))), some (Iq (bW f (-1) j).1), some (Iq (bW f (-1) j).2), some (Iq (j : Int)), none, none] [] M) (fun j M => SM m3 (12 + 14 * k + 2) M ∧ M 35 0 = mem 35 0) (n := nA (mem 35)) (s0 := m3) ⟨SM.rf _, by rw [e35]⟩ (by
      intro j M hj ⟨b, b0⟩
      by_cases q : j = k
      · refine ⟨M, ⟨b, b0⟩, fun Q hq => rg_X4_copyFrom_32 ⟨fun z => by omega, fun _ => ⟨fun z => by omega, fun _ => ⟨fun _ => ⟨by omega, ?_⟩, fun z => by omega⟩⟩⟩⟩
        rw [bW_le (by rw [q, fk]; exact ge k)] at hq
        exact hq
      · obtain ⟨m2, q1, q2⟩ := b.stp (S := S) (by rw [e35]; exact ok (j : Int) (by omega) (by omega)) (by omega) (by rw [e35]; omega) hk (n := n) (by omega)
        rw [e35, show dN n (up (mem 35) (12 + 14 * k + 2) (j : Int)) (12 + 14 * k + 3) = f j from (fj j q).symm] at q1
        refine ⟨m2, ⟨q2, ?_⟩, fun Q hq => rg_X4_copyFrom_32 ⟨fun z => by omega, fun _ => ⟨fun z => by omega, fun _ => ⟨fun z => by omega, fun _ => ⟨by omega, by omega, by omega, _, m2, ei ▸ q1, fun z => ⟨by omega, ?_⟩, fun z => ⟨by omega, ?_⟩⟩⟩⟩⟩⟩
        · obtain ⟨⟨w, hw⟩, _⟩ := q2
          rw [hw, up_ne (by omega), e35]
        · rw [bW_le z] at hq; rw [max_le z]; exact hq
        · rw [bW_gt z] at hq; rw [max_gt z]; exact hq)
    obtain ⟨m4, u1, u2⟩ := g1.stp (S := S) (v := -1) (by rw [e35]; exact ok (-1) (by omega) (by omega)) (by omega) (by rw [e35]; omega) hk (n := n) (by omega)
    rw [e35] at u1
    have e40 : m4 35 0 = mem 35 0 := by
      obtain ⟨⟨w, hw⟩, _⟩ := u2
      rw [hw, up_ne (by omega), e35]
    have bk := u2.back
    rw [e35] at bk
    refine prQ h (v := if mkW (mem 35) k 2 (-1) n ≤ (bW f (-1) (nA (mem 35))).2 then (bW f (-1) (nA (mem 35))).1 else -1) (ct1I rfl (by decide) (Nat.le_of_ble_eq_true rfl) (rg_X3_copyFrom_0 ⟨fun _ => ⟨fun _ => ago _ (rg_X3_copyFrom_36 ⟨fun _ => ⟨_, m3, q1, fun z => ⟨by rw [if_pos z], rfl⟩, fun z => ⟨by rw [if_neg z], rfl⟩⟩, fun z => by omega⟩), fun z => absurd c.2 z⟩, fun z => by omega⟩)) q2.vis8 (ct1I rfl (by decide) (Nat.le_of_ble_eq_true rfl) (rg_X4_copyFrom_0 ?_)) bk
    rw [e35]
    refine ⟨fun _ => ⟨by omega, ?_⟩, fun z => absurd c z⟩
    rw [Int.toNat_natCast]
    refine ggo _ (rg_X4_copyFrom_32 ⟨fun z => by omega, fun _ => ⟨fun _ => ⟨fun z => by omega, fun _ => ⟨by omega, by omega, by omega, _, m4, ei ▸ u1, fun z => ⟨by omega, ?_⟩, fun z => ⟨by omega, ?_⟩⟩⟩, fun z => by omega⟩⟩)
    · exact rg_X4_copyFrom_32 ⟨fun _ => ⟨by omega, by omega, by rw [if_pos (show mkW (mem 35) k 2 (-1) n ≤ _ from by rw [ei] at z; exact z)], by rw [ei]⟩, fun z => by omega⟩
    · exact rg_X4_copyFrom_32 ⟨fun _ => ⟨by omega, by omega, by rw [if_neg (show ¬ mkW (mem 35) k 2 (-1) n ≤ _ from by rw [ei] at z; exact z)], by rw [ei]⟩, fun z => by omega⟩
  · exact prF h hD (f := (-1000001)) (by omega) (fun hfx => ct1I rfl (by decide) (Nat.le_of_ble_eq_true rfl) (rg_X3_copyFrom_0 (by (repeat' (first | exact hfx | intro _ | apply And.intro)) <;> (first | omega | rfl | trivial | (exfalso; omega))))) (fun hfm => by
      have e35 : fndx mem ((-1000001)) 35 = mem 35 := mup_other 35 (by omega)
      have e34 : fndx mem ((-1000001)) 34 = mem 34 := mup_other 34 (by omega)
      have e41 : fndx mem ((-1000001)) 41 = mem 41 := mup_other 41 (by omega)
      have e42 : fndx mem ((-1000001)) 42 = mem 42 := mup_other 42 (by omega)
      refine ct1I rfl (by decide) (Nat.le_of_ble_eq_true rfl) (rg_X4_copyFrom_0 ?_)
      simp only [e35, e34, e41, e42]
      (repeat' (first | exact hfm | intro _ | apply And.intro)) <;> (first | omega | rfl | trivial | (exfalso; omega)))
end P6

/-! ===== pairs: the first day ===== -/
section P5
variable {S : Sx} {D : Int} {mem : Zm} {x1 x2 x3 x4 x5 : Int}
theorem leastD (P : Nat → Prop) : ∀ N : Nat, (∃ n, n < N ∧ P n ∧ ∀ j, j < n → ¬ P j) ∨ (∀ j, j < N → ¬ P j) := by
  intro N
  induction N with
  | zero => exact .inr (fun j hj => absurd hj (by omega))
  | succ N ih =>
    rcases ih with ⟨n, h1, h2⟩ | h
    · exact .inl ⟨n, by omega, h2⟩
    · by_cases p : P N
      · exact .inl ⟨N, by omega, p, h⟩
      · refine .inr (fun j hj => ?_)
        by_cases q : j = N
        · rw [q]; exact p
        · exact h j (by omega)
theorem wA_c5 {A : Nat → Int} {c j : Nat} : wA A c (12 + 14 * j + 5) = A (12 + 14 * j + 5) := by
  unfold wA pyA
  split
  · rw [up_ne (by omega), up_ne (by omega), w1_other (by omega)]
  · rw [w1_other (by omega)]
theorem wN_c5 {A : Nat → Int} {j : Nat} : ∀ n : Nat, wN A n (12 + 14 * j + 5) = A (12 + 14 * j + 5) := by
  intro n
  induction n with
  | zero => rfl
  | succ n ih => show wA _ _ _ = _; rw [wA_c5, ih]
theorem mkA_c5 {A : Nat → Int} (h : OKA A) {c j : Nat} (hc : (c : Int) < A 0) : A (12 + 14 * j + 5) ≤ mkA A c (12 + 14 * j + 5) := by
  have h5 := h.c5 hc
  unfold mkA
  split
  · rw [up_ne (by omega)]
    by_cases q : j = c
    · rw [q, up_at]; omega
    · rw [up_ne (by omega)]; omega
  · rw [up_ne (by omega)]; omega
theorem mkN_c5 {A : Nat → Int} (h : OKA A) {j : Nat} : ∀ n : Nat, (n : Int) ≤ A 0 → A (12 + 14 * j + 5) ≤ mkN A n (12 + 14 * j + 5) := by
  intro n
  induction n with
  | zero => intro _; exact Int.le_refl _
  | succ n ih =>
    intro hn
    obtain ⟨h1, h2⟩ := mkN_ok h n (by omega)
    exact Int.le_trans (ih (by omega)) (mkA_c5 h1 (by rw [h2]; omega))
theorem dayA_c5 {A : Nat → Int} (h : OKA A) (j : Nat) : A (12 + 14 * j + 5) ≤ dayA A (12 + 14 * j + 5) := by
  have hn := h.n
  obtain ⟨h1, h2⟩ := wN_ok h (nA A) (by omega)
  have := mkN_c5 h1 (j := j) (nA A) (by omega)
  unfold dayA
  rw [up_ne (by omega), rtN_hi (by omega) 8 (by omega)]
  rw [wN_c5] at this
  exact this
theorem dN_c5 {A : Nat → Int} (h : OKA A) (j : Nat) : ∀ n, A (12 + 14 * j + 5) ≤ dN n A (12 + 14 * j + 5) := by
  intro n
  induction n with
  | zero => exact Int.le_refl _
  | succ n ih => rw [dN_s]; exact Int.le_trans ih (dayA_c5 (dN_ok h n).1 j)
/-- the trial room goes day by day -/
theorem xt_until {A : Nat → Int} (hX : XR mem 1 A) (hA : OKA A) (hd : A 1 < 99900) {k w : Nat} (hk : k < 8) (hw : w < 6) {v : Int} (hv : (∃ n : Nat, n < 61 ∧ v = (n : Int) ∧ x3 ≤ dN n A (12 + 14 * k + w) ∧ ∀ j, j < n → ¬ x3 ≤ dN j A (12 + 14 * k + w)) ∨ ((∀ j, j < 61 → ¬ x3 ≤ dN j A (12 + 14 * k + w)) ∧ v = -1000004)) : ∃ m2, Ct1 S mX3_daysUntil [Aq 0, Iq (k : Int), Iq (w : Int), Iq x3] mem (some (Iq v)) m2 ∧ Fr 8 mem m2 := by
  obtain ⟨m1, k1, k2, k3⟩ := xt_become (S := S) (r := 8) (r1 := 1) isR8 isR1 (by decide) hX
  have lp : ∀ n : Nat, n ≤ 61 → (∀ j, j < n → ¬ x3 ≤ dN j A (12 + 14 * k + w)) → ∃ m2, (XR m2 8 (dN n A) ∧ Fr 8 mem m2) ∧ ∀ Q, PW S mX3_daysUntil Q 14 [some (Aq 0), some (Iq (k : Int)), some (Iq (w : Int)), some (Iq x3), some (Iq (n : Int))] [] m2 → PW S mX3_daysUntil Q 14 [some (Aq 0), some (Iq (k : Int)), some (Iq (w : Int)), some (Iq x3), some (Iq ((0 : Nat) : Int))] [] m1 := by
    intro n hn hj
    refine loopE (fun Q j (M : Zm) => PW S mX3_daysUntil Q 14 [some (Aq 0), some (Iq (k : Int)), some (Iq (w : Int)), some (Iq x3), some (Iq (j : Int))] [] M) (fun j M => XR M 8 (dN j A) ∧ Fr 8 mem M) (n := n) (s0 := m1) ⟨k2, k3⟩ ?_
    intro i M hi ⟨b1, b2⟩
    obtain ⟨g1, g2, g3⟩ := dN_ok hA i
    obtain ⟨m2, j1, j2, j3⟩ := xt_days (S := S) isR8 b1 g1 (n := 1) (by omega) (by omega)
    refine ⟨m2, ⟨by rw [dN_s]; exact j2, b2.trans j3⟩, fun Q hq => rg_X3_daysUntil_14 ⟨fun z => by omega, fun _ => ⟨by omega, fun _ => ⟨m2, j1, by omega, ?_⟩, fun z => ?_⟩⟩⟩
    · rw [show (i : Int) + 1 = ((i + 1 : Nat) : Int) by omega]; exact hq
    · rw [Int.toNat_natCast, Int.toNat_natCast, b1.f hk hw] at z
      exact absurd (by omega) (hj i hi)
  rcases hv with ⟨n, hn, rfl, p1, p2⟩ | ⟨p, rfl⟩
  · obtain ⟨m2, ⟨b1, b2⟩, go⟩ := lp n (by omega) p2
    refine ⟨m2, ct1I rfl (by decide) (Nat.le_of_ble_eq_true rfl) (rg_X3_daysUntil_0 ⟨m1, k1, go _ (rg_X3_daysUntil_14 ⟨fun z => by omega, fun _ => ⟨by omega, fun z => ?_, fun _ => ⟨rfl, rfl⟩⟩⟩)⟩), b2⟩
    rw [Int.toNat_natCast, Int.toNat_natCast, b1.f hk hw] at z
    omega
  · obtain ⟨m2, ⟨b1, b2⟩, go⟩ := lp 61 (by omega) p
    exact ⟨m2, ct1I rfl (by decide) (Nat.le_of_ble_eq_true rfl) (rg_X3_daysUntil_0 ⟨m1, k1, go _ (rg_X3_daysUntil_14 ⟨fun z => ⟨rfl, rfl⟩, fun z => by omega⟩)⟩), b2⟩
/-- the model's row, some days on, with the row of now laid aside -/
def asR (mem : Zm) (n : Nat) : Zm := setR (cprow mem 35 38) 35 (dN n (mem 35))
theorem asR_35 (n : Nat) : asR mem n 35 = dN n (mem 35) := setR_at _ _ _
theorem asR_day (hA : OKA (mem 35)) (hd : mem 35 1 < 99900) {n : Nat} (hn : n ≤ 61) : Ct1 S mX4_day [Aq 34] (asR mem n) none (asR mem (n + 1)) := by
  have g := dN_ok hA n
  have := ct_X4_day (S := S) (mem := asR mem n) (by rw [asR_35]; exact ⟨g.1, by omega⟩)
  rw [asR_35] at this
  unfold asR at this ⊢
  rw [setR_setR] at this
  rw [dN_s]
  exact this
theorem asR_0 : cprow mem 35 38 = asR mem 0 := by
  unfold asR
  have e35 : cprow mem 35 38 35 = mem 35 := setR_ne _ _ (by omega)
  rw [show dN 0 (mem 35) = mem 35 from rfl, ← e35, setR_self]
theorem asR_back (hA : OKA (mem 35)) (n : Nat) : cprow (asR mem n) 38 35 = cprow mem 35 38 := by
  have e35 : cprow mem 35 38 35 = mem 35 := setR_ne _ _ (by omega)
  rw [cp_back (A := mem 35) (fun i hi => by rw [asR_35]; exact dN_hi hA hi n) (fun i hi => by unfold asR; rw [setR_ne _ _ (by omega)]; unfold cprow; rw [setR_at, if_pos hi])]
  unfold asR
  rw [setR_setR, ← e35, setR_self]
theorem IV.fnd2 (h : IV D mem) (hD : D ≤ 1000000) {m1 : Zm} (e : Vis mem m1) {f : Int} (hf : -1000007 ≤ f ∧ f ≤ -1000001) : fOX m1 f ∧ fOK (cprow (fndx m1 f) 35 38) f ∧ IV (D + 60) (fnds (cprow (fndx m1 f) 35 38) f) := h.fnd hD hf e vis_cp
theorem pr_when (h : IV D mem) (hD : D ≤ 90000) : PR S D mem mX3_when mX4_when [Iq x1, Iq x2] := by
  have hD2 : D ≤ 90000 := hD
  have hD : D ≤ 1000000 := by omega
  have hd := h.d
  have hN := h.X.1.1
  have h0 := h.A.1
  by_cases c : (0 ≤ x1 ∧ x1 < mem 35 0) ∧ (0 ≤ x2 ∧ x2 ≤ 9999)
  · obtain ⟨k, hk, rfl⟩ := int_nat (x := x1) (n := 8) ⟨c.1.1, by omega⟩
    have lm : ∀ (m : Zm), m 35 = mem 35 → ∀ n : Nat, n ≤ 61 → (∀ j, j < n → ¬ x2 ≤ dN j (mem 35) (12 + 14 * k + 3)) → ∀ Q, PW S mX4_when Q 40 [some (Aq 34), some (Iq (k : Int)), some (Iq x2), some (Iq (n : Int))] [] (asR m n) → PW S mX4_when Q 40 [some (Aq 34), some (Iq (k : Int)), some (Iq x2), some (Iq 0)] [] (asR m 0) := by
      intro m e35 n
      induction n with
      | zero => intro _ _ Q hq; exact hq
      | succ n ih =>
        intro hn hj Q hq
        refine ih (by omega) (fun j q => hj j (by omega)) Q (rg_X4_when_40 ⟨fun z => by omega, fun _ => ⟨by omega, fun z => ?_, fun _ => ⟨_, asR_day (by rw [e35]; exact h.A) (by rw [e35]; omega) (by omega), by omega, ?_⟩⟩⟩)
        · rw [asR_35, e35, Int.toNat_natCast] at z
          exact absurd z (hj n (by omega))
        · rw [show (n : Int) + 1 = ((n + 1 : Nat) : Int) by omega]; exact hq
    rcases leastD (fun n => x2 ≤ dN n (mem 35) (12 + 14 * k + 3)) 61 with ⟨n, p1, p2, p3⟩ | p
    · obtain ⟨m1, k1, k2⟩ := xt_until (S := S) (x3 := x2) h.X h.A (by omega) hk (w := 3) (by omega) (v := (n : Int)) (.inl ⟨n, p1, rfl, p2, p3⟩)
      have e35 : m1 35 = mem 35 := k2 35 (by omega)
      refine prQ h (v := (n : Int)) (ct1I rfl (by decide) (Nat.le_of_ble_eq_true rfl) (rg_X3_when_0 ⟨fun _ => ⟨fun _ => ⟨_, m1, k1, fun z => by omega, fun _ => ⟨rfl, rfl⟩⟩, fun z => absurd c.2 z⟩, fun z => by omega⟩)) k2.vis8 (ct1I rfl (by decide) (Nat.le_of_ble_eq_true rfl) (rg_X4_when_0 ⟨fun _ => ⟨fun _ => ?_, fun z => absurd c.2 z⟩, fun z => by rw [e35] at z; omega⟩)) vis_cp
      rw [asR_0]
      refine lm m1 e35 n (by omega) p3 _ (rg_X4_when_40 ⟨fun z => by omega, fun _ => ⟨by omega, fun _ => ⟨fun z => by omega, fun _ => ⟨rfl, ?_⟩⟩, fun z => ?_⟩⟩)
      · rw [asR_back (by rw [e35]; exact h.A), asR_0]
      · rw [asR_35, e35, Int.toNat_natCast] at z
        exact absurd p2 z
    · obtain ⟨m1, k1, k2⟩ := xt_until (S := S) (x3 := x2) h.X h.A (by omega) hk (w := 3) (by omega) (v := -1000004) (.inr ⟨p, rfl⟩)
      obtain ⟨f1, f2, f3⟩ := h.fnd2 hD k2.vis8 (f := -1000004) (by omega)
      have e35 : fndx m1 (-1000004) 35 = mem 35 := by rw [show fndx m1 (-1000004) 35 = m1 35 from mup_other 35 (by omega)]; exact k2 35 (by omega)
      refine ⟨-1000004, fndx m1 (-1000004), _, ct1I rfl (by decide) (Nat.le_of_ble_eq_true rfl) (rg_X3_when_0 ⟨fun _ => ⟨fun _ => ⟨_, m1, k1, fun z => ⟨f1, rfl, rfl⟩, fun z => absurd rfl z⟩, fun z => absurd c.2 z⟩, fun z => by omega⟩), ct1I rfl (by decide) (Nat.le_of_ble_eq_true rfl) (rg_X4_when_0 ⟨fun _ => ⟨fun _ => ?_, fun z => absurd c.2 z⟩, fun z => by rw [e35] at z; omega⟩), f3⟩
      rw [asR_0]
      have eb := asR_back (mem := fndx m1 (-1000004)) (by rw [e35]; exact h.A) 61
      rw [asR_0] at eb f2
      refine lm _ e35 61 (by omega) p _ (rg_X4_when_40 ⟨fun _ => ⟨fun _ => ⟨by rw [eb]; exact f2, rfl, by rw [eb]⟩, fun z => by omega⟩, fun z => by omega⟩)
  · exact prF h hD (f := (-1000001)) (by omega) (fun hfx => ct1I rfl (by decide) (Nat.le_of_ble_eq_true rfl) (rg_X3_when_0 (by (repeat' (first | exact hfx | intro _ | apply And.intro)) <;> (first | omega | rfl | trivial | (exfalso; omega))))) (fun hfm => by
      have e35 : fndx mem ((-1000001)) 35 = mem 35 := mup_other 35 (by omega)
      have e34 : fndx mem ((-1000001)) 34 = mem 34 := mup_other 34 (by omega)
      have e41 : fndx mem ((-1000001)) 41 = mem 41 := mup_other 41 (by omega)
      have e42 : fndx mem ((-1000001)) 42 = mem 42 := mup_other 42 (by omega)
      refine ct1I rfl (by decide) (Nat.le_of_ble_eq_true rfl) (rg_X4_when_0 ?_)
      simp only [e35, e34, e41, e42]
      (repeat' (first | exact hfm | intro _ | apply And.intro)) <;> (first | omega | rfl | trivial | (exfalso; omega)))
theorem pr_caught (h : IV D mem) (hD : D ≤ 90000) : PR S D mem mX3_caught mX4_caught [Iq x1] := by
  have hD2 : D ≤ 90000 := hD
  have hD : D ≤ 1000000 := by omega
  have hd := h.d
  have hN := h.X.1.1
  have h0 := h.A.1
  by_cases c : 0 ≤ x1 ∧ x1 < mem 35 0
  · obtain ⟨k, hk, rfl⟩ := int_nat (x := x1) (n := 8) ⟨c.1, by omega⟩
    have hb := h.A.c5 c.2
    have eb : mem (1 + 2) (6 * ((k : Int)).toNat + 5) = mem 35 (12 + 14 * k + 5) := by rw [Int.toNat_natCast]; exact h.X.f hk (by omega)
    have mono := fun n => dN_c5 h.A k n
    have lm : ∀ (m : Zm), m 35 = mem 35 → ∀ n : Nat, n ≤ 61 → (∀ j, j < n → ¬ mem 35 (12 + 14 * k + 5) + 1 ≤ dN j (mem 35) (12 + 14 * k + 5)) → ∀ Q, PW S mX4_caught Q 35 [some (Aq 34), some (Iq (k : Int)), some (Iq (mem 35 (12 + 14 * k + 5))), some (Iq (n : Int))] [] (asR m n) → PW S mX4_caught Q 35 [some (Aq 34), some (Iq (k : Int)), some (Iq (mem 35 (12 + 14 * k + 5))), some (Iq 0)] [] (asR m 0) := by
      intro m e35 n
      induction n with
      | zero => intro _ _ Q hq; exact hq
      | succ n ih =>
        intro hn hj Q hq
        have hjn := hj n (by omega)
        have hm := mono n
        refine ih (by omega) (fun j q => hj j (by omega)) Q (rg_X4_caught_35 ⟨fun z => by omega, fun _ => ⟨by omega, fun _ => ⟨_, asR_day (by rw [e35]; exact h.A) (by rw [e35]; omega) (by omega), by omega, ?_⟩, fun z => ?_⟩⟩)
        · rw [show (n : Int) + 1 = ((n + 1 : Nat) : Int) by omega]; exact hq
        · rw [asR_35, e35, Int.toNat_natCast] at z
          exact absurd z (by omega)
    have st : ∀ m : Zm, m 35 = mem 35 → ∀ Q, PW S mX4_caught Q 35 [some (Aq 34), some (Iq (k : Int)), some (Iq (mem 35 (12 + 14 * k + 5))), some (Iq 0)] [] (asR m 0) → PW S mX4_caught Q 0 [some (Aq 34), some (Iq (k : Int)), none, none] [] m := by
      intro m e35 Q hq
      refine rg_X4_caught_0 ⟨fun _ => ⟨by omega, ?_⟩, fun z => by rw [e35] at z; exact absurd c z⟩
      rw [asR_0, asR_35, e35, Int.toNat_natCast]
      exact hq
    rcases leastD (fun n => mem 35 (12 + 14 * k + 5) + 1 ≤ dN n (mem 35) (12 + 14 * k + 5)) 61 with ⟨n, p1, p2, p3⟩ | p
    · obtain ⟨m1, k1, k2⟩ := xt_until (S := S) (x3 := mem 35 (12 + 14 * k + 5) + 1) h.X h.A (by omega) hk (w := 5) (by omega) (v := (n : Int)) (.inl ⟨n, p1, rfl, p2, p3⟩)
      have e35 : m1 35 = mem 35 := k2 35 (by omega)
      refine prQ h (v := (n : Int)) (ct1I rfl (by decide) (Nat.le_of_ble_eq_true rfl) (rg_X3_caught_0 ?_)) k2.vis8 (ct1I rfl (by decide) (Nat.le_of_ble_eq_true rfl) (st m1 e35 _ ?_)) vis_cp
      · rw [eb]
        exact ⟨fun _ => ⟨by omega, by omega, _, m1, k1, fun z => by omega, fun _ => ⟨rfl, rfl⟩⟩, fun z => by omega⟩
      · refine lm m1 e35 n (by omega) p3 _ (rg_X4_caught_35 ⟨fun z => by omega, fun _ => ⟨by omega, fun z => ?_, fun _ => ⟨fun z => by omega, fun _ => ⟨rfl, ?_⟩⟩⟩⟩)
        · rw [asR_35, e35, Int.toNat_natCast] at z
          omega
        · rw [asR_back (by rw [e35]; exact h.A), asR_0]
    · obtain ⟨m1, k1, k2⟩ := xt_until (S := S) (x3 := mem 35 (12 + 14 * k + 5) + 1) h.X h.A (by omega) hk (w := 5) (by omega) (v := -1000004) (.inr ⟨p, rfl⟩)
      obtain ⟨f1, f2, f3⟩ := h.fnd2 hD k2.vis8 (f := -1000004) (by omega)
      have e35 : fndx m1 (-1000004) 35 = mem 35 := by rw [show fndx m1 (-1000004) 35 = m1 35 from mup_other 35 (by omega)]; exact k2 35 (by omega)
      refine ⟨-1000004, fndx m1 (-1000004), _, ct1I rfl (by decide) (Nat.le_of_ble_eq_true rfl) (rg_X3_caught_0 ?_), ct1I rfl (by decide) (Nat.le_of_ble_eq_true rfl) (st _ e35 _ ?_), f3⟩
      · rw [eb]
        exact ⟨fun _ => ⟨by omega, by omega, _, m1, k1, fun z => ⟨f1, rfl, rfl⟩, fun z => absurd rfl z⟩, fun z => by omega⟩
      · have eb := asR_back (mem := fndx m1 (-1000004)) (by rw [e35]; exact h.A) 61
        rw [asR_0] at eb f2 ⊢
        refine lm _ e35 61 (by omega) p _ (rg_X4_caught_35 ⟨fun _ => ⟨fun _ => ⟨by rw [eb]; exact f2, rfl, by rw [eb]⟩, fun z => by omega⟩, fun z => by omega⟩)
  · exact prF h hD (f := (-1000001)) (by omega) (fun hfx => ct1I rfl (by decide) (Nat.le_of_ble_eq_true rfl) (rg_X3_caught_0 (by (repeat' (first | exact hfx | intro _ | apply And.intro)) <;> (first | omega | rfl | trivial | (exfalso; omega))))) (fun hfm => by
      have e35 : fndx mem ((-1000001)) 35 = mem 35 := mup_other 35 (by omega)
      have e34 : fndx mem ((-1000001)) 34 = mem 34 := mup_other 34 (by omega)
      have e41 : fndx mem ((-1000001)) 41 = mem 41 := mup_other 41 (by omega)
      have e42 : fndx mem ((-1000001)) 42 = mem 42 := mup_other 42 (by omega)
      refine ct1I rfl (by decide) (Nat.le_of_ble_eq_true rfl) (rg_X4_caught_0 ?_)
      simp only [e35, e34, e41, e42]
      (repeat' (first | exact hfm | intro _ | apply And.intro)) <;> (first | omega | rfl | trivial | (exfalso; omega)))
end P5

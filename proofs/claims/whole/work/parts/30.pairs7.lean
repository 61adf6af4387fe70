/-! ===== pairs: nobody caught ===== -/
section P7
variable {S : Sx} {D : Int} {mem : Zm} {x1 x2 x3 x4 x5 : Int}
def cT (B : Nat → Int) (n : Nat) : Int := sumA (dN n B) 5 (nA B)
theorem nA_dN {B : Nat → Int} (h : OKA B) (n : Nat) : nA (dN n B) = nA B := by unfold nA; rw [(dN_ok h n).2.1]
theorem sumA_le {A B : Nat → Int} {w : Nat} (h : ∀ j, A (12 + 14 * j + w) ≤ B (12 + 14 * j + w)) : ∀ n, sumA A w n ≤ sumA B w n := by
  intro n
  induction n with
  | zero => exact Int.le_refl _
  | succ n ih => show _ + _ ≤ _ + _; have := h n; omega
theorem sumA_eq {A B : Nat → Int} {w : Nat} : ∀ n, (∀ j, j < n → A (12 + 14 * j + w) = B (12 + 14 * j + w)) → sumA A w n = sumA B w n := by
  intro n
  induction n with
  | zero => intro _; rfl
  | succ n ih => intro h; show _ + _ = _ + _; rw [ih (fun j q => h j (by omega)), h n (by omega)]
theorem cT_s {B : Nat → Int} (h : OKA B) (n : Nat) : cT B n ≤ cT B (n + 1) := by
  unfold cT
  rw [dN_s]
  exact sumA_le (fun j => dayA_c5 (dN_ok h n).1 j) _
theorem cT_le {B : Nat → Int} (h : OKA B) {n : Nat} : ∀ k, cT B n ≤ cT B (n + k) := by
  intro k
  induction k with
  | zero => exact Int.le_refl _
  | succ k ih => exact Int.le_trans ih (cT_s h (n + k))
theorem xt_nobody {A B : Nat → Int} (hX1 : XR mem 1 A) (hA : OKA A) (hX : XR mem 8 B) (hB : OKA B) (hd : B 1 < 99900) (hT : sumA A 5 (nA A) = cT B 0) {n : Nat} (hn : n ≤ 60) : ∃ m2, Ct1 S mX3_nobodyIsCaughtInTrial [Aq 0, Iq (n : Int)] mem (some (Iq (bI (cT B n = cT B 0)))) m2 ∧ Fr 8 mem m2 := by
  have hb : bI (cT B n = cT B 0) = 0 ∨ bI (cT B n = cT B 0) = 1 := by unfold bI; split <;> omega
  have tot : ∀ {M : Zm} {j : Nat}, XR M 8 (dN j B) → Ct1 S mX0_total [Aq 8, Iq 5] M (some (Iq (cT B j))) M := fun {M} {j} q => by
    have := xt_total (S := S) isR8 q (dN_ok hB j).1 (w := 5) (by omega)
    rw [nA_dN hB j] at this
    exact this
  have t0 : Ct1 S mX0_total [Aq 1, Iq 5] mem (some (Iq (cT B 0))) mem := by
    have := xt_total (S := S) isR1 hX1 hA (w := 5) (by omega)
    rw [hT] at this
    exact this
  have st : ∀ {M : Zm} {j : Nat}, j < n → XR M 8 (dN j B) → ∃ m2, Ct1 S mX0_passDays [Aq 8, Iq 1] M none m2 ∧ XR m2 8 (dN (j + 1) B) ∧ Fr 8 M m2 := fun {M} {j} hj q => by
    obtain ⟨g1, g2, g3⟩ := dN_ok hB j
    obtain ⟨m2, j1, j2, j3⟩ := xt_days (S := S) isR8 q g1 (n := 1) (by omega) (by omega)
    exact ⟨m2, j1, by rw [dN_s]; exact j2, j3⟩
  have lp : ∀ k : Nat, k ≤ n → (∀ j, j < k → ¬ ¬ cT B (j + 1) = cT B 0) → ∃ m2, (XR m2 8 (dN k B) ∧ Fr 8 mem m2) ∧ ∀ Q, PW S mX3_nobodyIsCaughtInTrial Q 11 [some (Aq 0), some (Iq (n : Int)), some (Iq (cT B 0)), some (Iq (k : Int))] [] m2 → PW S mX3_nobodyIsCaughtInTrial Q 11 [some (Aq 0), some (Iq (n : Int)), some (Iq (cT B 0)), some (Iq ((0 : Nat) : Int))] [] mem := by
    intro k hk hj
    refine loopE (fun Q j (M : Zm) => PW S mX3_nobodyIsCaughtInTrial Q 11 [some (Aq 0), some (Iq (n : Int)), some (Iq (cT B 0)), some (Iq (j : Int))] [] M) (fun j M => XR M 8 (dN j B) ∧ Fr 8 mem M) (n := k) (s0 := mem) ⟨hX, Fr.rfl'⟩ ?_
    intro i M hi ⟨b1, b2⟩
    obtain ⟨m2, j1, j2, j3⟩ := st (by omega) b1
    exact ⟨m2, ⟨j2, b2.trans j3⟩, fun Q hq => rg_X3_nobodyIsCaughtInTrial_11 ⟨fun z => by omega, fun _ => ⟨m2, j1, _, _, tot j2, fun _ => ⟨by omega, hq⟩, fun z => absurd z (hj i hi)⟩⟩⟩
  rcases leastD (fun j => ¬ cT B (j + 1) = cT B 0) n with ⟨k, p1, p2, p3⟩ | p
  · obtain ⟨m2, ⟨b1, b2⟩, go⟩ := lp k (by omega) p3
    obtain ⟨m3, j1, j2, j3⟩ := st p1 b1
    have e : bI (cT B n = cT B 0) = 0 := by
      have q1 := cT_le hB (n := 0) (k + 1)
      have q2 := cT_le hB (n := k + 1) (n - (k + 1))
      rw [show k + 1 + (n - (k + 1)) = n by omega] at q2
      rw [show 0 + (k + 1) = k + 1 by omega] at q1
      exact if_neg (by omega)
    refine ⟨m3, ct1Z rfl hb (by decide) (Nat.le_of_ble_eq_true rfl) (rg_X3_nobodyIsCaughtInTrial_0 ⟨_, _, t0, go _ (rg_X3_nobodyIsCaughtInTrial_11 ⟨fun z => by omega, fun _ => ⟨m3, j1, _, _, tot j2, fun z => absurd z p2, fun _ => ⟨by rw [e], rfl⟩⟩⟩)⟩), b2.trans j3⟩
  · obtain ⟨m2, ⟨b1, b2⟩, go⟩ := lp n (by omega) p
    have e : bI (cT B n = cT B 0) = 1 := by
      refine if_pos ?_
      by_cases q : n = 0
      · rw [q]
      · have := p (n - 1) (by omega)
        rw [show n - 1 + 1 = n by omega] at this
        exact Decidable.of_not_not this
    exact ⟨m2, ct1Z rfl hb (by decide) (Nat.le_of_ble_eq_true rfl) (rg_X3_nobodyIsCaughtInTrial_0 ⟨_, _, t0, go _ (rg_X3_nobodyIsCaughtInTrial_11 ⟨fun _ => ⟨by rw [e], rfl⟩, fun z => by omega⟩)⟩), b2⟩
theorem ct_X4_caughtThen (hA : OKA (mem 35)) (hb : mem 35 1 < 99900) {n : Nat} (hn : n ≤ 60) : Ct1 S mX4_caughtThen [Aq 34, Iq (n : Int)] mem (some (Iq (cT (mem 35) n))) (setR mem 35 (dN n (mem 35))) := by
  have g := ct_X4_goes (S := S) (mem := mem) (x1 := (n : Int)) ⟨hA, by omega, by omega, by omega⟩
  rw [Int.toNat_natCast] at g
  refine ct1I rfl (by decide) (Nat.le_of_ble_eq_true rfl) (rg_X4_caughtThen_0 ⟨_, g, ?_⟩)
  rw [setR_at]
  refine ⟨(dN_ok hA n).1, ?_, rfl⟩
  rw [nA_dN hA]; rfl
/-- the row laid aside -/
def LA (mem M : Zm) : Prop := M 35 = mem 35 ∧ (∀ i, i < 134 → M 38 i = mem 35 i) ∧ ∀ o, o ≠ 35 → o ≠ 38 → M o = mem o
theorem LA.cp : LA mem (cprow mem 35 38) := ⟨setR_ne _ _ (by omega), fun i hi => by unfold cprow; rw [setR_at, if_pos hi], fun o a b => setR_ne _ _ b⟩
theorem LA.bk {M : Zm} (h1 : ∀ i, 134 ≤ i → M 35 i = mem 35 i) (h2 : ∀ i, i < 134 → M 38 i = mem 35 i) (h3 : ∀ o, o ≠ 35 → o ≠ 38 → M o = mem o) : LA mem (cprow M 38 35) := by
  rw [cp_back h1 h2]
  exact ⟨setR_at _ _ _, fun i hi => by rw [setR_ne _ _ (by omega)]; exact h2 i hi, fun o a b => by rw [setR_ne _ _ a]; exact h3 o a b⟩
theorem LA.toVis {M : Zm} (h : LA mem M) : Vis mem M := fun o ho => by
  by_cases q : o = 35
  · rw [q]; exact h.1
  · exact h.2.2 o q (by unfold vis at ho; omega)
theorem pr_limitFor (h : IV D mem) (hD : D ≤ 90000) : PR S D mem mX3_limitFor mX4_limitFor [Iq x1] := by
  have hD2 : D ≤ 90000 := hD
  have hD : D ≤ 1000000 := by omega
  have hd := h.d
  have hN := h.X.1.1
  have h0 := h.A.1
  by_cases c : 0 ≤ x1 ∧ x1 ≤ 20
  · obtain ⟨n, hn, rfl⟩ := int_nat (x := x1) (n := 21) ⟨by omega, by omega⟩
    have ok : ∀ j : Nat, j < 9 → OKA (up (mem 35) 3 ((j : Int) + 1)) := fun j hj => h.A.st (by omega) (fun _ => by unfold rng; omega)
    have e0 : ∀ v : Int, cT (up (mem 35) 3 v) 0 = sumA (mem 35) 5 (nA (mem 35)) := fun v => by
      show sumA (up (mem 35) 3 v) 5 (nA (up (mem 35) 3 v)) = _
      rw [show nA (up (mem 35) 3 v) = nA (mem 35) by unfold nA; rw [up_ne (by omega)]]
      exact sumA_eq _ (fun j _ => up_ne (by omega))
    have sx : ∀ {M : Zm} {j : Nat}, j < 9 → Fr 8 mem M → ∃ m1 m2, Ct1 S mX0_become [Aq 8, Aq 1] M none m1 ∧ Ct1 S mX3_nobodyIsCaughtInTrial [Aq 0, Iq (n : Int)] (mup m1 8 6 ((j : Int) + 1)) (some (Iq (bI (cT (up (mem 35) 3 ((j : Int) + 1)) n = cT (up (mem 35) 3 ((j : Int) + 1)) 0)))) m2 ∧ Fr 8 mem m2 := fun {M} {j} hj b => by
      obtain ⟨m1, k1, k2, k3⟩ := xt_become (S := S) (r := 8) (r1 := 1) isR8 isR1 (by decide) (b.X1 h.X)
      have k4 := k2.own (s := 6) (i := 3) (by omega) ((j : Int) + 1)
      have fr : Fr 8 mem (mup m1 8 6 ((j : Int) + 1)) := (b.trans k3).trans (Fr.mup (by omega))
      obtain ⟨m2, q1, q2⟩ := xt_nobody (S := S) (fr.X1 h.X) h.A k4 (ok j hj) (by rw [up_ne (by omega)]; omega) (e0 _).symm (n := n) (by omega)
      exact ⟨m1, m2, k1, q1, fr.trans q2⟩
    have sm : ∀ {m M : Zm} {j : Nat}, j < 9 → m 35 = mem 35 → LA m M → ∃ m2, Ct1 S mX4_caughtThen [Aq 34, Iq (n : Int)] (mup M 35 3 ((j : Int) + 1)) (some (Iq (cT (up (mem 35) 3 ((j : Int) + 1)) n))) m2 ∧ LA m (cprow m2 38 35) := fun {m} {M} {j} hj e35 b => by
      have e : mup M 35 3 ((j : Int) + 1) 35 = up (mem 35) 3 ((j : Int) + 1) := by rw [mup_up, b.1, e35]
      have q := ct_X4_caughtThen (S := S) (mem := mup M 35 3 ((j : Int) + 1)) (by rw [e]; exact ok j hj) (by rw [e, up_ne (by omega)]; omega) (n := n) (by omega)
      rw [e] at q
      refine ⟨_, q, LA.bk (fun i hi => ?_) (fun i hi => ?_) (fun o a b2 => ?_)⟩
      · rw [setR_at, dN_hi (ok j hj) hi, up_ne (by omega), e35]
      · rw [setR_ne _ _ (by omega), mup_other 38 (by omega)]; exact b.2.1 i hi
      · rw [setR_ne _ _ a, mup_other o a]; exact b.2.2 o a b2
    have lx : ∀ k : Nat, k ≤ 9 → (∀ j, j < k → ¬ cT (up (mem 35) 3 ((j : Int) + 1)) n = cT (up (mem 35) 3 ((j : Int) + 1)) 0) → ∃ m2, Fr 8 mem m2 ∧ ∀ Q, PW S mX3_limitFor Q 19 [some (Aq 0), some (Iq (n : Int)), some (Iq ((k : Int) + 1))] [] m2 → PW S mX3_limitFor Q 19 [some (Aq 0), some (Iq (n : Int)), some (Iq (((0 : Nat) : Int) + 1))] [] mem := by
      intro k hk hj
      refine loopE (fun Q j (M : Zm) => PW S mX3_limitFor Q 19 [some (Aq 0), some (Iq (n : Int)), some (Iq ((j : Int) + 1))] [] M) (fun j M => Fr 8 mem M) (n := k) (s0 := mem) Fr.rfl' ?_
      intro i M hi b
      obtain ⟨m1, m2, q1, q2, q3⟩ := sx (j := i) (by omega) b
      exact ⟨m2, q3, fun Q hq => rg_X3_limitFor_19 ⟨fun z => by omega, fun _ => ⟨m1, q1, _, m2, q2, fun z => ⟨by omega, hq⟩, fun z => absurd (if_neg (hj i hi)) z⟩⟩⟩
    have lm : ∀ (m : Zm), m 35 = mem 35 → ∀ k : Nat, k ≤ 9 → (∀ j, j < k → ¬ cT (up (mem 35) 3 ((j : Int) + 1)) n = cT (up (mem 35) 3 ((j : Int) + 1)) 0) → ∃ m2, LA m m2 ∧ ∀ Q, PW S mX4_limitFor Q 41 [some (Aq 34), some (Iq (n : Int)), some (Iq (sumA (mem 35) 5 (nA (mem 35)))), some (Iq (-1)), some (Iq ((k : Int) + 1))] [] m2 → PW S mX4_limitFor Q 0 [some (Aq 34), some (Iq (n : Int)), none, none, none] [] m := by
      intro m e35 k hk hj
      obtain ⟨m2, a, go⟩ := loopE (fun Q j (M : Zm) => PW S mX4_limitFor Q 41 [some (Aq 34), some (Iq (n : Int)), some (Iq (sumA (mem 35) 5 (nA (mem 35)))), some (Iq (-1)), some (Iq ((j : Int) + 1))] [] M) (fun j M => LA m M) (n := k) (s0 := cprow m 35 38) LA.cp (by
        intro i M hi b
        obtain ⟨m2, q1, q2⟩ := sm (j := i) (by omega) e35 b
        refine ⟨_, q2, fun Q hq => rg_X4_limitFor_41 ⟨fun z => by omega, fun _ => ⟨fun z => by omega, fun _ => ⟨_, m2, q1, fun z => ?_, fun _ => ⟨by omega, hq⟩⟩⟩⟩⟩
        rw [← e0 ((i : Int) + 1)] at z
        exact absurd z (hj i hi))
      refine ⟨m2, a, fun Q hq => rg_X4_limitFor_0 ⟨fun _ => ?_, fun z => absurd c z⟩⟩
      rw [e35]
      exact ⟨h.A, go Q hq⟩
    rcases leastD (fun j => cT (up (mem 35) 3 ((j : Int) + 1)) n = cT (up (mem 35) 3 ((j : Int) + 1)) 0) 9 with ⟨k, p1, p2, p3⟩ | p
    · obtain ⟨m1, a1, ago⟩ := lx k (by omega) p3
      obtain ⟨m2, m3, q1, q2, q3⟩ := sx p1 a1
      have e35 : m3 35 = mem 35 := q3 35 (by omega)
      obtain ⟨m4, b1, bgo⟩ := lm m3 e35 k (by omega) p3
      obtain ⟨m5, u1, u2⟩ := sm p1 e35 b1
      refine prQ h (v := (k : Int) + 1) (ct1I rfl (by decide) (Nat.le_of_ble_eq_true rfl) (rg_X3_limitFor_0 ⟨fun _ => ago _ (rg_X3_limitFor_19 ⟨fun z => by omega, fun _ => ⟨m2, q1, _, m3, q2, fun z => absurd (z.symm.trans (if_pos p2)) (by decide), fun _ => ⟨rfl, rfl⟩⟩⟩), fun z => absurd c z⟩)) q3.vis8 (ct1I rfl (by decide) (Nat.le_of_ble_eq_true rfl) (bgo _ (rg_X4_limitFor_41 ⟨fun z => by omega, fun _ => ⟨fun z => by omega, fun _ => ⟨_, m5, u1, fun _ => ⟨by omega, ?_⟩, fun z => ?_⟩⟩⟩))) u2.toVis
      · have on : Ct1 S mX4_orNone [Aq 34, Iq ((k : Int) + 1)] (cprow m5 38 35) (some (Iq ((k : Int) + 1))) (cprow m5 38 35) := ct1I rfl (by decide) (Nat.le_of_ble_eq_true rfl) (rg_X4_orNone_0 ⟨fun _ => ⟨rfl, rfl⟩, fun z => by omega⟩)
        exact rg_X4_limitFor_41 ⟨fun _ => ⟨_, _, on, rfl, rfl⟩, fun _ => ⟨fun _ => ⟨_, _, on, rfl, rfl⟩, fun z => by omega⟩⟩
      · rw [← e0 ((k : Int) + 1)] at z
        exact absurd p2 z
    · obtain ⟨m1, a1, ago⟩ := lx 9 (by omega) p
      have e35 : fndx m1 (-1000004) 35 = mem 35 := by rw [show fndx m1 (-1000004) 35 = m1 35 from mup_other 35 (by omega)]; exact a1 35 (by omega)
      obtain ⟨m4, b1, bgo⟩ := lm _ e35 9 (by omega) p
      obtain ⟨f1, f2, f3⟩ := h.fnd hD (f := -1000004) (by omega) a1.vis8 b1.toVis
      have on : Ct1 S mX4_orNone [Aq 34, Iq (-1)] m4 (some (Iq (-1000004))) (fnds m4 (-1000004)) := ct1I rfl (by decide) (Nat.le_of_ble_eq_true rfl) (rg_X4_orNone_0 ⟨fun z => by omega, fun _ => ⟨f2, rfl, rfl⟩⟩)
      exact ⟨-1000004, fndx m1 (-1000004), _, ct1I rfl (by decide) (Nat.le_of_ble_eq_true rfl) (rg_X3_limitFor_0 ⟨fun _ => ago _ (rg_X3_limitFor_19 ⟨fun _ => ⟨f1, rfl, rfl⟩, fun z => by omega⟩), fun z => absurd c z⟩), ct1I rfl (by decide) (Nat.le_of_ble_eq_true rfl) (bgo _ (rg_X4_limitFor_41 ⟨fun _ => ⟨_, _, on, rfl, rfl⟩, fun z => by omega⟩)), f3⟩
  · exact prF h hD (f := (-1000001)) (by omega) (fun hfx => ct1I rfl (by decide) (Nat.le_of_ble_eq_true rfl) (rg_X3_limitFor_0 (by (repeat' (first | exact hfx | intro _ | apply And.intro)) <;> (first | omega | rfl | trivial | (exfalso; omega))))) (fun hfm => by
      have e35 : fndx mem ((-1000001)) 35 = mem 35 := mup_other 35 (by omega)
      have e34 : fndx mem ((-1000001)) 34 = mem 34 := mup_other 34 (by omega)
      have e41 : fndx mem ((-1000001)) 41 = mem 41 := mup_other 41 (by omega)
      have e42 : fndx mem ((-1000001)) 42 = mem 42 := mup_other 42 (by omega)
      refine ct1I rfl (by decide) (Nat.le_of_ble_eq_true rfl) (rg_X4_limitFor_0 ?_)
      simp only [e35, e34, e41, e42]
      (repeat' (first | exact hfm | intro _ | apply And.intro)) <;> (first | omega | rfl | trivial | (exfalso; omega)))
end P7

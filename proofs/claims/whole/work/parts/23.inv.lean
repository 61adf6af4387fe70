/-! ===== both sides together ===== -/
def XK (mem : Zm) : Prop := mem 0 3 = mem 34 4 ∧ (mem 34 4 = 1 → XR mem 15 (mem 36))
def XT (mem : Zm) : Prop := mem 22 1 = mem 34 7 ∧ ∀ k : Nat, (k : Int) < mem 34 7 → mem 23 k = toB (mem 40 k)
def XS (mem : Zm) : Prop := ∀ t, t < 4 → mem (25 + 2 * t) 1 = (if mem 41 t = -1 then 0 else mem 41 t) ∧ mem (25 + 2 * t) 2 = mem 42 t ∧ ∀ k, k < 40 → mem (26 + 2 * t) k = mem 43 (40 * t + k)
def XF (mem : Zm) : Prop := ∀ k, k < 7 → mem 33 k = mem 39 (k + 1)
def OKG (D : Int) (mem : Zm) : Prop := (mem 34 4 = 0 ∨ mem 34 4 = 1) ∧ (OKA (mem 35) ∧ mem 35 1 ≤ D) ∧ (mem 34 4 = 1 → OKA (mem 36) ∧ mem 36 1 ≤ D) ∧ ((0 ≤ mem 34 7 ∧ mem 34 7 ≤ 120) ∧ ∀ k : Nat, (k : Int) < mem 34 7 → 0 ≤ mem 40 k ∧ mem 40 k ≤ 255) ∧ (∀ t, t < 4 → (mem 41 t = -1 ∨ mem 41 t = 8 ∨ mem 41 t = 16 ∨ mem 41 t = 32) ∧ 0 ≤ mem 42 t ∧ mem 42 t ≤ 40) ∧ ((∀ k, k < 8 → 0 ≤ mem 39 k ∧ mem 39 k ≤ D) ∧ mem 39 0 = mem 39 1 + mem 39 2 + mem 39 3 + mem 39 4 + mem 39 5 + mem 39 6 + mem 39 7)
def IV (D : Int) (mem : Zm) : Prop := XR mem 1 (mem 35) ∧ XK mem ∧ XT mem ∧ XS mem ∧ XF mem ∧ OKG D mem
/-- objects that show -/
def vis (o : Nat) : Prop := o ≤ 5 ∨ (15 ≤ o ∧ o ≤ 19) ∨ (22 ≤ o ∧ o ≤ 36) ∨ (39 ≤ o ∧ o ≤ 43)
def Vis (a b : Zm) : Prop := ∀ o, vis o → b o = a o
theorem Vis.rf {a : Zm} : Vis a a := fun _ _ => rfl
theorem Vis.tr {a b c : Zm} (h : Vis a b) (g : Vis b c) : Vis a c := fun o ho => (g o ho).trans (h o ho)
theorem Fr.vis8 {a b : Zm} (h : Fr 8 a b) : Vis a b := fun o ho => h o (by unfold vis at ho; omega)
theorem IV.keep {D D2 : Int} {mem m2 : Zm} (h : IV D mem) (he : Vis mem m2) (hD : D ≤ D2) : IV D2 m2 := by
  have e : ∀ o, vis o → m2 o = mem o := he
  have e0 := e 0 (by unfold vis; omega)
  have e22 := e 22 (by unfold vis; omega)
  have e23 := e 23 (by unfold vis; omega)
  have e33 := e 33 (by unfold vis; omega)
  have e34 := e 34 (by unfold vis; omega)
  have e35 := e 35 (by unfold vis; omega)
  have e36 := e 36 (by unfold vis; omega)
  have e39 := e 39 (by unfold vis; omega)
  have e40 := e 40 (by unfold vis; omega)
  have e41 := e 41 (by unfold vis; omega)
  have e42 := e 42 (by unfold vis; omega)
  have e43 := e 43 (by unfold vis; omega)
  obtain ⟨h1, h2, h3, h4, h5, g1, g2, g3, g4, g5, g6, g7⟩ := h
  refine ⟨?_, ?_, ?_, ?_, ?_, ?_⟩
  · rw [e35]; exact h1.other (fun o a b => e o (by unfold vis; omega))
  · unfold XK; rw [e0, e34, e36]
    exact ⟨h2.1, fun q => (h2.2 q).other (fun o a b => e o (by unfold vis; omega))⟩
  · unfold XT; rw [e22, e23, e34, e40]; exact h3
  · intro t ht
    rw [e (25 + 2 * t) (by unfold vis; omega), e (26 + 2 * t) (by unfold vis; omega), e41, e42, e43]; exact h4 t ht
  · unfold XF; rw [e33, e39]; exact h5
  · unfold OKG; rw [e34, e35, e36, e39, e40, e41, e42]
    exact ⟨g1, ⟨g2.1, Int.le_trans g2.2 hD⟩, fun q => ⟨(g3 q).1, Int.le_trans (g3 q).2 hD⟩, g4, g5, fun k hk => ⟨(g6 k hk).1, Int.le_trans (g6 k hk).2 hD⟩, g7⟩
theorem IV.X {D : Int} {mem : Zm} (h : IV D mem) : XR mem 1 (mem 35) := h.1
theorem IV.A {D : Int} {mem : Zm} (h : IV D mem) : OKA (mem 35) := h.2.2.2.2.2.2.1.1
theorem IV.d {D : Int} {mem : Zm} (h : IV D mem) : mem 35 1 ≤ D := h.2.2.2.2.2.2.1.2
theorem IV.f {D : Int} {mem : Zm} (h : IV D mem) {k : Nat} (hk : k < 8) : 0 ≤ mem 39 k ∧ mem 39 k ≤ D := h.2.2.2.2.2.2.2.2.2.2.1 k hk
/-- a finding, on both sides -/
theorem IV.fnd {D : Int} {mem ma mb : Zm} (h : IV D mem) (hD : D ≤ 1000000) {f : Int} (hf : -1000007 ≤ f ∧ f ≤ -1000001) (ea : Vis mem ma) (eb : Vis (fndx ma f) mb) : fOX ma f ∧ fOK mb f ∧ IV (D + 60) (fnds mb f) := by
  obtain ⟨j, hj, ej⟩ : ∃ j : Nat, j < 7 ∧ (-1000001 - f).toNat = j := ⟨_, by omega, rfl⟩
  have ej1 : (-1000000 - f).toNat = j + 1 := by omega
  have f33 : ma 33 j = mem 39 (j + 1) := by rw [ea 33 (by unfold vis; omega)]; exact h.2.2.2.2.1 j hj
  have i1 := h.f (k := j + 1) (by omega)
  have i0 := h.f (k := 0) (by omega)
  have m39 : mb 39 = mem 39 := by
    rw [eb 39 (by unfold vis; omega)]
    unfold fndx
    rw [mup_other 39 (by omega), ea 39 (by unfold vis; omega)]
  refine ⟨?_, ?_, ?_⟩
  · unfold fOX
    rw [ej, f33]
    omega
  · unfold fOK
    rw [ej1, m39]
    omega
  · -- the same as a finding with nothing else
    have key : IV (D + 60) (fnds (fndx mem f) f) := by
      unfold fnds fndx
      rw [ej, ej1]
      have e0 : mup mem 33 j (mem 33 j + 1) 39 = mem 39 := mup_other 39 (by omega)
      rw [e0]
      obtain ⟨h1, h2, h3, h4, h5, g1, g2, g3, g4, g5, g6, g7⟩ := h
      have q : ∀ o, o ≠ 39 → o ≠ 33 → mup (mup (mup mem 33 j (mem 33 j + 1)) 39 0 (mem 39 0 + 1)) 39 (j + 1) (mem 39 (j + 1) + 1) o = mem o := fun o h1 h2 => by rw [mup_other o h1, mup_other o h1, mup_other o h2]
      have q33 : mup (mup (mup mem 33 j (mem 33 j + 1)) 39 0 (mem 39 0 + 1)) 39 (j + 1) (mem 39 (j + 1) + 1) 33 = mup mem 33 j (mem 33 j + 1) 33 := by rw [mup_other 33 (by omega), mup_other 33 (by omega)]
      have q39 : ∀ k, mup (mup (mup mem 33 j (mem 33 j + 1)) 39 0 (mem 39 0 + 1)) 39 (j + 1) (mem 39 (j + 1) + 1) 39 k = if k = j + 1 then mem 39 (j + 1) + 1 else if k = 0 then mem 39 0 + 1 else mem 39 k := fun k => by
        by_cases a : k = j + 1
        · rw [if_pos a, a, mup_at]
        · rw [if_neg a, mup_ne (by omega)]
          by_cases b : k = 0
          · rw [if_pos b, b, mup_at]
          · rw [if_neg b, mup_ne (by omega), mup_ne (by omega)]
      refine ⟨?_, ?_, ?_, ?_, ?_, ?_⟩
      · rw [q 35 (by omega) (by omega)]; exact h1.other (fun o a b => q o (by omega) (by omega))
      · unfold XK; rw [q 0 (by omega) (by omega), q 34 (by omega) (by omega), q 36 (by omega) (by omega)]
        exact ⟨h2.1, fun z => (h2.2 z).other (fun o a b => q o (by omega) (by omega))⟩
      · unfold XT; rw [q 22 (by omega) (by omega), q 23 (by omega) (by omega), q 34 (by omega) (by omega), q 40 (by omega) (by omega)]; exact h3
      · intro t ht
        rw [q (25 + 2 * t) (by omega) (by omega), q (26 + 2 * t) (by omega) (by omega), q 41 (by omega) (by omega), q 42 (by omega) (by omega), q 43 (by omega) (by omega)]; exact h4 t ht
      · intro k hk
        rw [q39, q33]
        by_cases a : k = j
        · rw [if_pos (by omega), a, mup_at, h5 j hj]
        · rw [if_neg (by omega), if_neg (by omega), mup_ne (by omega), h5 k hk]
      · unfold OKG
        rw [q 34 (by omega) (by omega), q 35 (by omega) (by omega), q 36 (by omega) (by omega), q 40 (by omega) (by omega), q 41 (by omega) (by omega), q 42 (by omega) (by omega)]
        refine ⟨g1, ⟨g2.1, by omega⟩, fun z => ⟨(g3 z).1, by have := (g3 z).2; omega⟩, g4, g5, fun k hk => ?_, ?_⟩
        · rw [q39]
          have := g6 k hk
          have := g6 0 (by omega)
          have := g6 (j + 1) (by omega)
          split
          · omega
          · split <;> omega
        · rw [q39, q39, q39, q39, q39, q39, q39, q39]
          have hj2 : j = 0 ∨ j = 1 ∨ j = 2 ∨ j = 3 ∨ j = 4 ∨ j = 5 ∨ j = 6 := by omega
          rcases hj2 with rfl | rfl | rfl | rfl | rfl | rfl | rfl <;> simp <;> omega
    refine key.keep (fun o ho => ?_) (Int.le_refl _)
    unfold fnds
    rw [ej1, m39]
    have e33 : fndx ma f 33 = fndx mem f 33 := by
      unfold fndx
      rw [mup_same, mup_same, ea 33 (by unfold vis; omega)]
    have x39 : fndx mem f 39 = mem 39 := by unfold fndx; exact mup_other 39 (by omega)
    rw [x39]
    by_cases a : o = 39
    · subst a
      rw [mup_same, mup_same, mup_same, mup_same, m39, x39]
    · rw [mup_other o a, mup_other o a, mup_other o a, mup_other o a, eb o ho]
      by_cases b : o = 33
      · subst b; exact e33
      · unfold fndx
        rw [mup_other o b, mup_other o b, ea o ho]
/-- two calls with one answer -/
def PR (S : Sx) (D : Int) (mem : Zm) (zx zm : MD) (av : List PV) : Prop := ∃ (v : Int) (m1 m2 : Zm), Ct1 S zx (Aq 0 :: av) mem (some (Iq v)) m1 ∧ Ct1 S zm (Aq 34 :: av) m1 (some (Iq v)) m2 ∧ IV (D + 60) m2
/-- the row of the model and the room change together -/
theorem IV.put {D D2 : Int} {mem m2 : Zm} {A : Nat → Int} (h : IV D mem) (hX : XR m2 1 A) (e35 : m2 35 = A) (he : ∀ o, vis o → ¬ (1 ≤ o ∧ o ≤ 5) → o ≠ 35 → m2 o = mem o) (hA : OKA A) (hd : A 1 ≤ D2) (hD : D ≤ D2) : IV D2 m2 := by
  have q : ∀ o, (o = 0 ∨ (15 ≤ o ∧ o ≤ 19) ∨ (22 ≤ o ∧ o ≤ 34) ∨ o = 36 ∨ (39 ≤ o ∧ o ≤ 43)) → m2 o = mem o := fun o ho => he o (by unfold vis; omega) (by omega) (by omega)
  obtain ⟨h1, h2, h3, h4, h5, g1, g2, g3, g4, g5, g6, g7⟩ := h
  refine ⟨?_, ?_, ?_, ?_, ?_, ?_⟩
  · rw [e35]; exact hX
  · unfold XK; rw [q 0 (by omega), q 34 (by omega), q 36 (by omega)]
    exact ⟨h2.1, fun z => (h2.2 z).other (fun o a b => q o (by omega))⟩
  · unfold XT; rw [q 22 (by omega), q 23 (by omega), q 34 (by omega), q 40 (by omega)]; exact h3
  · intro t ht
    rw [q (25 + 2 * t) (by omega), q (26 + 2 * t) (by omega), q 41 (by omega), q 42 (by omega), q 43 (by omega)]; exact h4 t ht
  · unfold XF; rw [q 33 (by omega), q 39 (by omega)]; exact h5
  · unfold OKG
    rw [q 34 (by omega), e35, q 36 (by omega), q 39 (by omega), q 40 (by omega), q 41 (by omega), q 42 (by omega)]
    exact ⟨g1, ⟨hA, hd⟩, fun z => ⟨(g3 z).1, Int.le_trans (g3 z).2 hD⟩, g4, g5, fun k hk => ⟨(g6 k hk).1, Int.le_trans (g6 k hk).2 hD⟩, g7⟩

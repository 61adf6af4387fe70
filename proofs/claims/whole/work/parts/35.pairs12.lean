/-! ===== pairs: write, load, judge, copy, odds ===== -/
section P12
variable {S : Sx} {D : Int} {mem : Zm} {x1 x2 x3 x4 x5 : Int} {A B : Nat → Int}
theorem wnt_0 {t : Int} (h : wntV mem t = 0) : (0 ≤ t ∧ t < 4) ∧ 0 ≤ mem 41 t.toNat := by
  unfold wntV at h
  by_cases a : 0 ≤ t ∧ t < 4
  · rw [if_pos a] at h
    by_cases b : 0 ≤ mem 41 t.toNat
    · exact ⟨a, b⟩
    · rw [if_neg b] at h; exact absurd h (by decide)
  · rw [if_neg a] at h; exact absurd h (by decide)
theorem wnt_in (mem : Zm) (t : Int) : wntV mem t = 0 ∨ wntV mem t = -1000001 ∨ wntV mem t = -1000006 := by
  unfold wntV
  split
  · split <;> omega
  · omega
theorem wnt_f (f t : Int) : wntV (fndx mem f) t = wntV mem t := by
  unfold wntV
  rw [show fndx mem f 41 = mem 41 from mup_other 41 (by omega)]
theorem wnt_c {m2 : Zm} {t : Int} (e : m2 41 = mem 41) : wntV m2 t = wntV mem t := by unfold wntV; rw [e]
theorem pr_write (h : IV D mem) (hD : D ≤ 90000) : PR S D mem mX3_write mX4_write [Iq x1, Iq x2, Iq x3] := by
  have hD2 : D ≤ 90000 := hD
  have hD : D ≤ 1000000 := by omega
  have es := h.shc x1
  by_cases a : 0 ≤ x1 ∧ x1 < 4
  · obtain ⟨t, ht, rfl⟩ := int_nat (x := x1) (n := 4) ⟨by omega, by omega⟩
    have hb := h.bits ht
    have hl := h.len ht
    have e2 := (h.2.2.2.1 t ht).2.1
    by_cases b : 0 ≤ mem 41 t
    · have ew : shcV mem (t : Int) = 0 := by rw [es]; unfold wntV; rw [if_pos a, Int.toNat_natCast, if_pos b]
      by_cases c : 0 ≤ x2 ∧ x2 ≤ mem 42 t - 1
      · obtain ⟨j, hj, rfl⟩ := int_nat (x := x2) (n := 40) ⟨by omega, by omega⟩
        have ev : mem (25 + 2 * t) 1 = mem 41 t := by omega
        have ei : (40 * (t : Int) + (j : Int)).toNat = 40 * t + j := by omega
        have g : ∀ o, o ≠ 25 + 2 * t + 1 → mup mem (25 + 2 * t + 1) j (putv (mem 41 t) x3) o = mem o := fun o ho => mup_other o ho
        refine ⟨1, mup mem (25 + 2 * t + 1) j (putv (mem 41 t) x3), mup (mup mem (25 + 2 * t + 1) j (putv (mem 41 t) x3)) 43 (40 * t + j) (putv (mem 41 t) x3), ct1I rfl (by decide) (Nat.le_of_ble_eq_true rfl) (rg_X3_write_0 ?_), ct1I rfl (by decide) (Nat.le_of_ble_eq_true rfl) (rg_X4_write_0 ?_), ?_⟩
        · rw [ew, Int.toNat_natCast, Int.toNat_natCast, e2, ev]
          exact ⟨fun _ => ⟨by omega, by omega, fun _ => ⟨by omega, by omega, rfl, rfl⟩, fun z => absurd c z⟩, fun z => absurd rfl z⟩
        · rw [Int.toNat_natCast, ei, g 41 (by omega), g 42 (by omega)]
          refine ⟨fun _ => ⟨by omega, fun _ => ⟨by omega, by omega, fun _ => ⟨by omega, by omega, by omega, fun z => ⟨by omega, rfl, ?_⟩, fun z => ⟨by omega, fun z2 => ⟨by omega, rfl, ?_⟩, fun z2 => ⟨by omega, rfl, ?_⟩⟩⟩, fun z => absurd c z⟩, fun z => absurd b z⟩, fun z => by omega⟩
          · congr 1; unfold putv; rw [if_pos z]
          · congr 1; unfold putv; rw [if_neg z, if_pos z2]
          · congr 1; unfold putv; rw [if_neg z, if_neg z2]
        · have r : ∀ o, o ≠ 43 → o ≠ 25 + 2 * t + 1 → mup (mup mem (25 + 2 * t + 1) j (putv (mem 41 t) x3)) 43 (40 * t + j) (putv (mem 41 t) x3) o = mem o := fun o p q => by rw [mup_other o p, g o q]
          refine h.sht (fun u hu => ?_) (fun u hu => by rw [r 41 (by omega) (by omega), r 42 (by omega) (by omega)]; exact h.2.2.2.2.2.2.2.2.2.1 u hu) (fun o p q s => r o (by omega) (by omega)) (by omega)
          obtain ⟨w1, w2, w3⟩ := h.2.2.2.1 u hu
          rw [r 41 (by omega) (by omega), r 42 (by omega) (by omega), r (25 + 2 * u) (by omega) (by omega)]
          refine ⟨w1, w2, fun k hk => ?_⟩
          by_cases q : u = t ∧ k = j
          · rw [q.1, q.2, mup_at, mup_ne (by omega), show 26 + 2 * t = 25 + 2 * t + 1 by omega, mup_at]
          · rw [mup_ne (by omega), mup_ne (by omega), mup_ne (by omega), mup_ne (by omega)]; exact w3 k hk
      · exact prF h hD (f := -1000001) (by omega) (fun hfx => ct1I rfl (by decide) (Nat.le_of_ble_eq_true rfl) (rg_X3_write_0 (by
          rw [ew, Int.toNat_natCast, e2]
          exact ⟨fun _ => ⟨by omega, by omega, fun z => absurd z c, fun _ => ⟨hfx, rfl, rfl⟩⟩, fun z => absurd rfl z⟩))) (fun hfm => ct1I rfl (by decide) (Nat.le_of_ble_eq_true rfl) (rg_X4_write_0 (by
          rw [show fndx mem (-1000001) 41 = mem 41 from mup_other 41 (by omega), show fndx mem (-1000001) 42 = mem 42 from mup_other 42 (by omega), Int.toNat_natCast]
          exact ⟨fun _ => ⟨by omega, fun _ => ⟨by omega, by omega, fun z => absurd z c, fun _ => ⟨hfm, rfl, rfl⟩⟩, fun z => absurd b z⟩, fun z => absurd a z⟩)))
    · have ew : shcV mem (t : Int) = -1000006 := by rw [es]; unfold wntV; rw [if_pos a, Int.toNat_natCast, if_neg b]
      exact prF h hD (f := -1000006) (by omega) (fun hfx => ct1I rfl (by decide) (Nat.le_of_ble_eq_true rfl) (rg_X3_write_0 (by
          rw [ew]
          exact ⟨fun z => absurd z (by decide), fun _ => ⟨hfx, rfl, rfl⟩⟩))) (fun hfm => ct1I rfl (by decide) (Nat.le_of_ble_eq_true rfl) (rg_X4_write_0 (by
          rw [show fndx mem (-1000006) 41 = mem 41 from mup_other 41 (by omega), Int.toNat_natCast]
          exact ⟨fun _ => ⟨by omega, fun z => absurd z b, fun _ => ⟨hfm, rfl, rfl⟩⟩, fun z => absurd a z⟩)))
  · have ew : shcV mem x1 = -1000001 := by rw [es]; unfold wntV; rw [if_neg a]
    exact prF h hD (f := -1000001) (by omega) (fun hfx => ct1I rfl (by decide) (Nat.le_of_ble_eq_true rfl) (rg_X3_write_0 (by
          rw [ew]
          exact ⟨fun z => absurd z (by decide), fun _ => ⟨hfx, rfl, rfl⟩⟩))) (fun hfm => ct1I rfl (by decide) (Nat.le_of_ble_eq_true rfl) (rg_X4_write_0 (by
          exact ⟨fun z => absurd z a, fun _ => ⟨hfm, rfl, rfl⟩⟩)))
def ldN (A : Nat → Int) (num : Nat → Int) : Nat → (Nat → Int)
  | 0 => A
  | n + 1 => up (ldN A num n) (4 + n) (num n)
theorem ldN_ok {num : Nat → Int} (h : OKA A) : ∀ n : Nat, n ≤ 8 → (∀ j, j < n → 0 ≤ num j ∧ num j ≤ 99) → OKA (ldN A num n) ∧ ldN A num n 1 = A 1 := by
  intro n
  induction n with
  | zero => intro _ _; exact ⟨h, rfl⟩
  | succ n ih =>
    intro hn hj
    obtain ⟨a, b⟩ := ih (by omega) (fun j q => hj j (by omega))
    exact ⟨a.st (by omega) (fun _ => rngR (by omega) (hj n (by omega))), by show up _ _ _ 1 = _; rw [up_ne (by omega), b]⟩
theorem pr_load (h : IV D mem) (hD : D ≤ 90000) : PR S D mem mX3_load mX4_load [Iq x1] := by
  have hD2 : D ≤ 90000 := hD
  have hD : D ≤ 1000000 := by omega
  have hd := h.d
  have hw := wnt_in mem x1
  by_cases c : wntV mem x1 = 0
  · have c0 := wnt_0 c
    obtain ⟨t, ht, rfl⟩ := int_nat (x := x1) (n := 4) ⟨by omega, by omega⟩
    have hl := h.len ht
    obtain ⟨w1, w2, w3⟩ := h.2.2.2.1 t ht
    obtain ⟨e, he, hstop, hgo⟩ : ∃ e : Nat, e ≤ 8 ∧ (e = 8 ∨ mem 42 t ≤ (e : Int) ∨ ¬ (0 ≤ nmS mem t e ∧ nmS mem t e ≤ 99)) ∧ ∀ j, j < e → ¬ (mem 42 t ≤ (j : Int) ∨ ¬ (0 ≤ nmS mem t j ∧ nmS mem t j ≤ 99)) := by
      rcases leastD (fun j => mem 42 t ≤ (j : Int) ∨ ¬ (0 ≤ nmS mem t j ∧ nmS mem t j ≤ 99)) 8 with ⟨e, p1, p2, p3⟩ | p
      · exact ⟨e, by omega, .inr p2, p3⟩
      · exact ⟨8, by omega, .inl rfl, p⟩
    have hin : ∀ j, j < e → ((j : Int) < mem 42 t) ∧ 0 ≤ nmS mem t j ∧ nmS mem t j ≤ 99 := fun j hj => by have := hgo j hj; omega
    have xn : ∀ {M : Zm}, (∀ o, o ≠ 2 → M o = mem o) → ∀ j, j < 40 → M (25 + 2 * t + 1) j = nmS mem t j := fun {M} q j hj => by rw [q _ (by omega), show 25 + 2 * t + 1 = 26 + 2 * t by omega]; exact w3 j hj
    have xl : ∀ {M : Zm}, (∀ o, o ≠ 2 → M o = mem o) → M (25 + 2 * t) 2 = mem 42 t := fun {M} q => by rw [q _ (by omega)]; exact w2
    obtain ⟨m1, ⟨a1, a2⟩, ago⟩ := loopE (fun Q j (M : Zm) => PW S mX3_load Q 18 [some (Aq 0), some (Iq (t : Int)), some (Iq 0), some (Iq (j : Int))] [] M) (fun j M => XR M 1 (ldN (mem 35) (nmS mem t) j) ∧ ∀ o, o ≠ 2 → M o = mem o) (n := e) (s0 := mem) ⟨h.X, fun _ _ => rfl⟩ (by
      intro j M hj ⟨b1, b2⟩
      have hi := hin j hj
      refine ⟨mup M 2 j (nmS mem t j), ⟨b1.rgt (by omega) _, fun o ho => by rw [mup_other o ho]; exact b2 o ho⟩, fun Q hq => rg_X3_load_18 ?_⟩
      rw [Int.toNat_natCast, Int.toNat_natCast, xl b2, xn b2 j (by omega)]
      exact ⟨fun z => by omega, fun _ => ⟨by omega, fun z => by omega, fun _ => ⟨by omega, by omega, fun _ => ⟨by omega, by omega, by omega, by omega, hq⟩, fun z => absurd hi.2 z⟩⟩⟩)
    have g : ∀ o, o ≠ 2 → m1 o = mem o := a2
    obtain ⟨m2, ⟨c1, c2⟩, cgo⟩ := loopE (fun Q j (M : Zm) => PW S mX4_load Q 20 [some (Aq 34), some (Iq (t : Int)), some (Iq (j : Int))] [] M) (fun j M => M 35 = ldN (mem 35) (nmS mem t) j ∧ ∀ o, o ≠ 35 → M o = m1 o) (n := e) (s0 := m1) ⟨g 35 (by omega), fun _ _ => rfl⟩ (by
      intro j M hj ⟨b1, b2⟩
      have hi := hin j hj
      have ei : (40 * (t : Int) + (j : Int)).toNat = 40 * t + j := by omega
      have ej : (4 + (j : Int)).toNat = 4 + j := by omega
      have en : M 43 (40 * t + j) = nmS mem t j := by rw [b2 43 (by omega), g 43 (by omega)]; rfl
      refine ⟨mup M 35 (4 + j) (nmS mem t j), ⟨by rw [mup_up, b1]; rfl, fun o ho => by rw [mup_other o ho]; exact b2 o ho⟩, fun Q hq => rg_X4_load_20 ?_⟩
      rw [Int.toNat_natCast, ei, ej, en, b2 42 (by omega), g 42 (by omega)]
      exact ⟨by omega, fun z => by omega, fun _ => ⟨fun z => by omega, fun _ => ⟨by omega, by omega, by omega, fun _ => ⟨by omega, by omega, by omega, by omega, by omega, by omega, hq⟩, fun z => absurd hi.2 z⟩⟩⟩)
    obtain ⟨k1, k2⟩ := ldN_ok h.A (num := nmS mem t) e he (fun j hj => (hin j hj).2)
    refine ⟨(e : Int), m1, m2, ct1I rfl (by decide) (Nat.le_of_ble_eq_true rfl) (rg_X3_load_0 ?_), ct1I rfl (by decide) (Nat.le_of_ble_eq_true rfl) (rg_X4_load_0 ?_), ?_⟩
    · rw [h.shc, c]
      refine ⟨fun _ => ago _ (rg_X3_load_18 ⟨fun _ => ⟨rfl, rfl⟩, fun _ => ⟨by omega, fun _ => ⟨rfl, rfl⟩, fun z => ⟨by omega, by omega, fun z2 => ?_, fun _ => ⟨rfl, rfl⟩⟩⟩⟩), fun z => absurd rfl z⟩
      rw [Int.toNat_natCast] at z
      rw [Int.toNat_natCast, Int.toNat_natCast, xn a2 e (by omega)] at z2
      rw [xl a2] at z
      rcases hstop with s | s | s
      · omega
      · exact absurd s z
      · exact absurd z2 s
    · rw [wnt_c (g 41 (by omega)), c]
      refine ⟨fun _ => cgo _ (rg_X4_load_20 ⟨by omega, fun _ => ⟨rfl, rfl⟩, fun z => ⟨fun _ => ⟨rfl, rfl⟩, fun z3 => ⟨by omega, by omega, by omega, fun z2 => ?_, fun _ => ⟨rfl, rfl⟩⟩⟩⟩), fun z => absurd rfl z⟩
      have ei : (40 * (t : Int) + (e : Int)).toNat = 40 * t + e := by omega
      rw [Int.toNat_natCast, c2 42 (by omega), g 42 (by omega)] at z
      rw [ei, c2 43 (by omega), g 43 (by omega)] at z2
      rcases hstop with s | s | s
      · omega
      · exact absurd s z
      · exact absurd z2 s
    · exact IV.put h (A := ldN (mem 35) (nmS mem t) e) (a1.other (fun o a b => c2 o (by omega))) c1 (fun o a b d => by rw [c2 o d]; exact g o (by omega)) k1 (by rw [k2]; omega) (by omega)
  · exact prF h hD (f := wntV mem x1) (by omega) (fun hfx => ct1I rfl (by decide) (Nat.le_of_ble_eq_true rfl) (rg_X3_load_0 (by rw [h.shc]; exact ⟨fun z => absurd z c, fun _ => ⟨hfx, rfl, rfl⟩⟩))) (fun hfm => ct1I rfl (by decide) (Nat.le_of_ble_eq_true rfl) (rg_X4_load_0 (by rw [wnt_f]; exact ⟨fun z => absurd z c, fun _ => ⟨hfm, rfl, rfl⟩⟩)))
theorem pr_judge (h : IV D mem) (hD : D ≤ 90000) : PR S D mem mX3_judge mX4_judge [Iq x1] := by
  have hD2 : D ≤ 90000 := hD
  have hD : D ≤ 1000000 := by omega
  have hd := h.d
  have h0 := h.A.1
  have hN := h.X.1.1
  have hw := wnt_in mem x1
  by_cases c : wntV mem x1 = 0
  · have c0 := wnt_0 c
    obtain ⟨t, ht, rfl⟩ := int_nat (x := x1) (n := 4) ⟨by omega, by omega⟩
    have hl := h.len ht
    obtain ⟨w1, w2, w3⟩ := h.2.2.2.1 t ht
    obtain ⟨e, he, hstop, hgo⟩ : ∃ e : Nat, e < 41 ∧ (mem 42 t ≤ (e : Int) ∨ ¬ ((e : Int) < mem 35 0) ∨ ¬ nmS mem t e = mem 35 (12 + 14 * e + 3)) ∧ ∀ j : Nat, j < e → ¬ (mem 42 t ≤ (j : Int) ∨ ¬ ((j : Int) < mem 35 0) ∨ ¬ nmS mem t j = mem 35 (12 + 14 * j + 3)) := by
      rcases leastD (fun j => mem 42 t ≤ (j : Int) ∨ ¬ ((j : Int) < mem 35 0) ∨ ¬ nmS mem t j = mem 35 (12 + 14 * j + 3)) 41 with ⟨e, p⟩ | p
      · exact ⟨e, p⟩
      · exact absurd (.inl (by omega)) (p 40 (by omega))
    have hin : ∀ j : Nat, j < e → ((j : Int) < mem 42 t) ∧ (j : Int) < mem 35 0 ∧ nmS mem t j = mem 35 (12 + 14 * j + 3) := fun j hj => by have := hgo j hj; omega
    have xn : ∀ j, j < 40 → mem (25 + 2 * t + 1) j = nmS mem t j := fun j hj => by rw [show 25 + 2 * t + 1 = 26 + 2 * t by omega]; exact w3 j hj
    have xm : ∀ j, j < 8 → mem (1 + 2) (6 * j + 3) = mem 35 (12 + 14 * j + 3) := fun j hj => h.X.f hj (by omega)
    have lx : ∀ n : Nat, n ≤ e → ∀ Q, PW S mX3_judge Q 18 [some (Aq 0), some (Iq (t : Int)), some (Iq 0), some (Iq (n : Int))] [] mem → PW S mX3_judge Q 18 [some (Aq 0), some (Iq (t : Int)), some (Iq 0), some (Iq 0)] [] mem := by
      intro n
      induction n with
      | zero => intro _ Q hq; exact hq
      | succ n ih =>
        intro hn Q hq
        have hi := hin n (by omega)
        refine ih (by omega) Q (rg_X3_judge_18 ?_)
        rw [Int.toNat_natCast, Int.toNat_natCast, w2, xn n (by omega), xm n (by omega), hN]
        exact ⟨by omega, fun z => by omega, fun _ => ⟨fun _ => ⟨by omega, by omega, by omega, fun _ => ⟨by omega, hq⟩, fun z => absurd hi.2.2.symm z⟩, fun z => by omega⟩⟩
    have ei : ∀ j : Nat, (40 * (t : Int) + (j : Int)).toNat = 40 * t + j := fun j => by omega
    have lm : ∀ n : Nat, n ≤ e → ∀ Q, PW S mX4_judge Q 20 [some (Aq 34), some (Iq (t : Int)), some (Iq (n : Int))] [] mem → PW S mX4_judge Q 20 [some (Aq 34), some (Iq (t : Int)), some (Iq 0)] [] mem := by
      intro n
      induction n with
      | zero => intro _ Q hq; exact hq
      | succ n ih =>
        intro hn Q hq
        have hi := hin n (by omega)
        refine ih (by omega) Q (rg_X4_judge_20 ?_)
        rw [Int.toNat_natCast, Int.toNat_natCast, ei]
        exact ⟨by omega, fun z => by omega, fun _ => ⟨fun _ => ⟨by omega, by omega, by omega, by omega, fun _ => ⟨by omega, hq⟩, fun z => absurd hi.2.2 z⟩, fun z => by omega⟩⟩
    obtain ⟨v, ev⟩ : ∃ v : Int, v = if mem 42 t ≤ (e : Int) then 0 else 1 + (e : Int) := ⟨_, rfl⟩
    refine prQ h (v := v) (ct1I rfl (by decide) (Nat.le_of_ble_eq_true rfl) (rg_X3_judge_0 ?_)) Vis.rf (ct1I rfl (by decide) (Nat.le_of_ble_eq_true rfl) (rg_X4_judge_0 ?_)) Vis.rf
    · rw [h.shc, c]
      refine ⟨fun _ => lx e (Nat.le_refl _) _ (rg_X3_judge_18 ?_), fun z => absurd rfl z⟩
      rw [Int.toNat_natCast, Int.toNat_natCast, w2, hN]
      refine ⟨by omega, fun z => ⟨by rw [ev, if_pos z], rfl⟩, fun z => ⟨fun z2 => ⟨by omega, by omega, by omega, fun z3 => ?_, fun z3 => ⟨by omega, by rw [ev, if_neg z], rfl⟩⟩, fun z2 => ⟨by omega, by rw [ev, if_neg z], rfl⟩⟩⟩
      rw [xn e (by omega), xm e (by omega)] at z3
      rcases hstop with s | s | s
      · exact absurd s z
      · exact absurd z2.2 s
      · exact absurd z3.symm s
    · rw [c]
      refine ⟨fun _ => lm e (Nat.le_refl _) _ (rg_X4_judge_20 ?_), fun z => absurd rfl z⟩
      rw [Int.toNat_natCast, Int.toNat_natCast, ei]
      refine ⟨by omega, fun z => ⟨by omega, fun _ => ⟨by rw [ev, if_pos z], rfl⟩, fun z2 => absurd z z2⟩, fun z => ⟨fun z2 => ⟨by omega, by omega, by omega, by omega, fun z3 => ?_, fun z3 => ⟨by omega, fun z4 => absurd z4 z, fun _ => ⟨by omega, by rw [ev, if_neg z], rfl⟩⟩⟩, fun z2 => ⟨by omega, fun z4 => absurd z4 z, fun _ => ⟨by omega, by rw [ev, if_neg z], rfl⟩⟩⟩⟩
      rcases hstop with s | s | s
      · exact absurd s z
      · exact absurd z2.2 s
      · exact absurd z3 s
  · exact prF h hD (f := wntV mem x1) (by omega) (fun hfx => ct1I rfl (by decide) (Nat.le_of_ble_eq_true rfl) (rg_X3_judge_0 (by rw [h.shc]; exact ⟨fun z => absurd z c, fun _ => ⟨hfx, rfl, rfl⟩⟩))) (fun hfm => ct1I rfl (by decide) (Nat.le_of_ble_eq_true rfl) (rg_X4_judge_0 (by rw [wnt_f]; exact ⟨fun z => absurd z c, fun _ => ⟨hfm, rfl, rfl⟩⟩)))
theorem pr_copy (h : IV D mem) (hD : D ≤ 90000) (hx2 : in32 x2) (hx4 : in32 x4) : PR S D mem mX3_copy mX4_copy [Iq x1, Iq x2, Iq x3, Iq x4, Iq x5] := by
  have hD2 : D ≤ 90000 := hD
  have hD : D ≤ 1000000 := by omega
  by_cases a : (0 ≤ x1 ∧ x1 < 4) ∧ (0 ≤ x3 ∧ x3 < 4)
  · have b1 := h.bits (t := x1.toNat) (by omega)
    have b3 := h.bits (t := x3.toNat) (by omega)
    have l1 := h.len (t := x1.toNat) (by omega)
    have l3 := h.len (t := x3.toNat) (by omega)
    have n1 := (h.2.2.2.1 x1.toNat (by omega)).2.1
    have n3 := (h.2.2.2.1 x3.toNat (by omega)).2.1
    by_cases b : 0 ≤ mem 41 x1.toNat ∧ 0 ≤ mem 41 x3.toNat
    · by_cases c : mem 41 x1.toNat = mem 41 x3.toNat
      · by_cases d : 0 ≤ x2 ∧ 0 ≤ x4 ∧ 0 ≤ x5 ∧ x5 ≤ mem 42 x1.toNat - x2 ∧ x5 ≤ mem 42 x3.toNat - x4
        · obtain ⟨t, ht, rfl⟩ := int_nat (x := x1) (n := 4) ⟨by omega, by omega⟩
          obtain ⟨u, hu, rfl⟩ := int_nat (x := x3) (n := 4) ⟨by omega, by omega⟩
          obtain ⟨i, hi, rfl⟩ := int_nat (x := x2) (n := 41) ⟨by omega, by omega⟩
          obtain ⟨j, hj, rfl⟩ := int_nat (x := x4) (n := 41) ⟨by omega, by omega⟩
          obtain ⟨n, hn, rfl⟩ := int_nat (x := x5) (n := 41) ⟨by omega, by omega⟩
          rw [Int.toNat_natCast] at b1 l1 n1 b c d
          rw [Int.toNat_natCast] at b3 l3 n3 b c d
          obtain ⟨m1, e1⟩ : ∃ m1, m1 = mcp mem (25 + 2 * t + 1) (25 + 2 * u + 1) i j n := ⟨_, rfl⟩
          have g : ∀ o, o ≠ 25 + 2 * u + 1 → m1 o = mem o := fun o ho => by rw [e1]; funext k; unfold mcp; rw [if_neg ho]
          obtain ⟨s, es⟩ : ∃ s, s = 40 * t + i := ⟨_, rfl⟩
          obtain ⟨dd, ed⟩ : ∃ dd, dd = 40 * u + j := ⟨_, rfl⟩
          have is : 40 * (t : Int) + (i : Int) = (s : Int) := by omega
          have id' : 40 * (u : Int) + (j : Int) = (dd : Int) := by omega
          have mv : ∃ m2, (∀ p, m2 43 p = if dd ≤ p ∧ p < dd + n then mem 43 (s + (p - dd)) else mem 43 p) ∧ (∀ o, o ≠ 43 → m2 o = m1 o) ∧ ∀ Q, PW S mX4_copy Q 138 [some (Aq 34), some (Iq (t : Int)), some (Iq (i : Int)), some (Iq (u : Int)), some (Iq (j : Int)), some (Iq (n : Int)), some (Iq (s : Int)), some (Iq (dd : Int)), some (Iq (n : Int)), none] [] m2 → PW S mX4_copy Q 138 [some (Aq 34), some (Iq (t : Int)), some (Iq (i : Int)), some (Iq (u : Int)), some (Iq (j : Int)), some (Iq (n : Int)), some (Iq (s : Int)), some (Iq (dd : Int)), some (Iq ((0 : Nat) : Int)), none] [] m1 := by
            by_cases q : dd ≤ s
            · obtain ⟨m2, ⟨k1, k2⟩, kgo⟩ := loopE (fun Q k (M : Zm) => PW S mX4_copy Q 138 [some (Aq 34), some (Iq (t : Int)), some (Iq (i : Int)), some (Iq (u : Int)), some (Iq (j : Int)), some (Iq (n : Int)), some (Iq (s : Int)), some (Iq (dd : Int)), some (Iq (k : Int)), none] [] M) (fun k M => (∀ p, M 43 p = if dd ≤ p ∧ p < dd + k then mem 43 (s + (p - dd)) else mem 43 p) ∧ ∀ o, o ≠ 43 → M o = m1 o) (n := n) (s0 := m1) ⟨fun p => by rw [if_neg (by omega), g 43 (by omega)], fun _ _ => rfl⟩ (by
                intro k M hk ⟨w1, w2⟩
                have i1 : ((s : Int) + (k : Int)).toNat = s + k := by omega
                have i2 : ((dd : Int) + (k : Int)).toNat = dd + k := by omega
                refine ⟨mup M 43 (dd + k) (M 43 (s + k)), ⟨fun p => ?_, fun o ho => by rw [mup_other o ho]; exact w2 o ho⟩, fun Q hq => rg_X4_copy_138 ?_⟩
                · by_cases y : p = dd + k
                  · rw [y, mup_at, w1, if_neg (by omega), if_pos (by omega)]; congr 1; omega
                  · rw [mup_ne (by omega), w1]
                    by_cases z : dd ≤ p ∧ p < dd + k
                    · rw [if_pos z, if_pos (by omega)]
                    · rw [if_neg z, if_neg (by omega)]
                · rw [i1, i2]
                  exact ⟨fun z => by omega, fun _ => ⟨fun _ => ⟨by omega, by omega, by omega, by omega, by omega, hq⟩, fun z => by omega⟩⟩)
              exact ⟨m2, k1, k2, kgo⟩
            · obtain ⟨m2, ⟨k1, k2⟩, kgo⟩ := loopE (fun Q k (M : Zm) => PW S mX4_copy Q 138 [some (Aq 34), some (Iq (t : Int)), some (Iq (i : Int)), some (Iq (u : Int)), some (Iq (j : Int)), some (Iq (n : Int)), some (Iq (s : Int)), some (Iq (dd : Int)), some (Iq (k : Int)), none] [] M) (fun k M => (∀ p, M 43 p = if dd + n ≤ p + k ∧ p < dd + n then mem 43 (s + (p - dd)) else mem 43 p) ∧ ∀ o, o ≠ 43 → M o = m1 o) (n := n) (s0 := m1) ⟨fun p => by rw [if_neg (by omega), g 43 (by omega)], fun _ _ => rfl⟩ (by
                intro k M hk ⟨w1, w2⟩
                have i1 : ((s : Int) + (((n : Int) - 1) - (k : Int))).toNat = s + (n - 1 - k) := by omega
                have i2 : ((dd : Int) + (((n : Int) - 1) - (k : Int))).toNat = dd + (n - 1 - k) := by omega
                refine ⟨mup M 43 (dd + (n - 1 - k)) (M 43 (s + (n - 1 - k))), ⟨fun p => ?_, fun o ho => by rw [mup_other o ho]; exact w2 o ho⟩, fun Q hq => rg_X4_copy_138 ?_⟩
                · by_cases y : p = dd + (n - 1 - k)
                  · rw [y, mup_at, w1, if_neg (by omega), if_pos (by omega)]; congr 1; omega
                  · rw [mup_ne (by omega), w1]
                    by_cases z : dd + n ≤ p + k ∧ p < dd + n
                    · rw [if_pos z, if_pos (by omega)]
                    · rw [if_neg z, if_neg (by omega)]
                · rw [i1, i2]
                  exact ⟨fun z => by omega, fun _ => ⟨fun z => by omega, fun _ => ⟨by omega, by omega, by omega, by omega, by omega, by omega, by omega, hq⟩⟩⟩)
              refine ⟨m2, fun p => ?_, k2, kgo⟩
              rw [k1]
              by_cases z : dd ≤ p ∧ p < dd + n
              · rw [if_pos z, if_pos (by omega)]
              · rw [if_neg z, if_neg (by omega)]
          obtain ⟨m2, k1, k2, kgo⟩ := mv
          refine ⟨(n : Int), m1, m2, ct1I rfl (by decide) (Nat.le_of_ble_eq_true rfl) (rg_X3_copy_0 ?_), ct1I rfl (by decide) (Nat.le_of_ble_eq_true rfl) (rg_X4_copy_0 ?_), ?_⟩
          · rw [Int.toNat_natCast, Int.toNat_natCast, Int.toNat_natCast, Int.toNat_natCast, Int.toNat_natCast, n1, n3]
            have lf : (fun r m => r = some (Iq (n : Int)) ∧ m = m1) (some (Iq (n : Int))) (mcp mem ((25 + 2 * t) + 1) ((25 + 2 * u) + 1) i j n) := ⟨rfl, e1.symm⟩
            (repeat' (first | exact lf | intro _ | apply And.intro)) <;> (first | omega | (exfalso; omega))
          · rw [Int.toNat_natCast, Int.toNat_natCast, g 41 (by omega), g 42 (by omega), is, id']
            have lf := kgo (fun r m => r = some (Iq (n : Int)) ∧ m = m2) (rg_X4_copy_138 ⟨fun _ => ⟨rfl, rfl⟩, fun z => by omega⟩)
            (repeat' (first | exact lf | intro _ | apply And.intro)) <;> (first | omega | (exfalso; omega))
          · have r : ∀ o, o ≠ 43 → o ≠ 25 + 2 * u + 1 → m2 o = mem o := fun o p q => by rw [k2 o p, g o q]
            refine h.sht (fun v hv => ?_) (fun v hv => by rw [r 41 (by omega) (by omega), r 42 (by omega) (by omega)]; exact h.2.2.2.2.2.2.2.2.2.1 v hv) (fun o p q s => r o (by omega) (by omega)) (by omega)
            obtain ⟨w1, w2, w3⟩ := h.2.2.2.1 v hv
            rw [r 41 (by omega) (by omega), r 42 (by omega) (by omega), r (25 + 2 * v) (by omega) (by omega)]
            refine ⟨w1, w2, fun k hk => ?_⟩
            rw [k1]
            by_cases q : v = u
            · rw [q, k2 _ (by omega), e1, show 26 + 2 * u = 25 + 2 * u + 1 by omega]
              unfold mcp
              rw [if_pos rfl]
              by_cases z : j ≤ k ∧ k < j + n
              · rw [if_pos z, if_pos (by omega), show 25 + 2 * t + 1 = 26 + 2 * t by omega, (h.2.2.2.1 t ht).2.2 _ (by omega)]
                congr 1; omega
              · rw [if_neg z, if_neg (by omega), show 25 + 2 * u + 1 = 26 + 2 * u by omega, (h.2.2.2.1 u hu).2.2 _ hk]
            · rw [k2 _ (by omega), g _ (by omega), if_neg (by omega)]; exact w3 k hk
        · exact prF h hD (f := (-1000001)) (by omega) (fun hfx => ct1I rfl (by decide) (Nat.le_of_ble_eq_true rfl) (rg_X3_copy_0 (by (repeat' (first | exact hfx | intro _ | apply And.intro)) <;> (first | omega | rfl | trivial | (exfalso; omega))))) (fun hfm => by
      have e35 : fndx mem ((-1000001)) 35 = mem 35 := mup_other 35 (by omega)
      have e34 : fndx mem ((-1000001)) 34 = mem 34 := mup_other 34 (by omega)
      have e41 : fndx mem ((-1000001)) 41 = mem 41 := mup_other 41 (by omega)
      have e42 : fndx mem ((-1000001)) 42 = mem 42 := mup_other 42 (by omega)
      refine ct1I rfl (by decide) (Nat.le_of_ble_eq_true rfl) (rg_X4_copy_0 ?_)
      simp only [e35, e34, e41, e42]
      (repeat' (first | exact hfm | intro _ | apply And.intro)) <;> (first | omega | rfl | trivial | (exfalso; omega)))
      · exact prF h hD (f := (-1000003)) (by omega) (fun hfx => ct1I rfl (by decide) (Nat.le_of_ble_eq_true rfl) (rg_X3_copy_0 (by (repeat' (first | exact hfx | intro _ | apply And.intro)) <;> (first | omega | rfl | trivial | (exfalso; omega))))) (fun hfm => by
      have e35 : fndx mem ((-1000003)) 35 = mem 35 := mup_other 35 (by omega)
      have e34 : fndx mem ((-1000003)) 34 = mem 34 := mup_other 34 (by omega)
      have e41 : fndx mem ((-1000003)) 41 = mem 41 := mup_other 41 (by omega)
      have e42 : fndx mem ((-1000003)) 42 = mem 42 := mup_other 42 (by omega)
      refine ct1I rfl (by decide) (Nat.le_of_ble_eq_true rfl) (rg_X4_copy_0 ?_)
      simp only [e35, e34, e41, e42]
      (repeat' (first | exact hfm | intro _ | apply And.intro)) <;> (first | omega | rfl | trivial | (exfalso; omega)))
    · exact prF h hD (f := (-1000006)) (by omega) (fun hfx => ct1I rfl (by decide) (Nat.le_of_ble_eq_true rfl) (rg_X3_copy_0 (by (repeat' (first | exact hfx | intro _ | apply And.intro)) <;> (first | omega | rfl | trivial | (exfalso; omega))))) (fun hfm => by
      have e35 : fndx mem ((-1000006)) 35 = mem 35 := mup_other 35 (by omega)
      have e34 : fndx mem ((-1000006)) 34 = mem 34 := mup_other 34 (by omega)
      have e41 : fndx mem ((-1000006)) 41 = mem 41 := mup_other 41 (by omega)
      have e42 : fndx mem ((-1000006)) 42 = mem 42 := mup_other 42 (by omega)
      refine ct1I rfl (by decide) (Nat.le_of_ble_eq_true rfl) (rg_X4_copy_0 ?_)
      simp only [e35, e34, e41, e42]
      (repeat' (first | exact hfm | intro _ | apply And.intro)) <;> (first | omega | rfl | trivial | (exfalso; omega)))
  · exact prF h hD (f := (-1000001)) (by omega) (fun hfx => ct1I rfl (by decide) (Nat.le_of_ble_eq_true rfl) (rg_X3_copy_0 (by (repeat' (first | exact hfx | intro _ | apply And.intro)) <;> (first | omega | rfl | trivial | (exfalso; omega))))) (fun hfm => by
      have e35 : fndx mem ((-1000001)) 35 = mem 35 := mup_other 35 (by omega)
      have e34 : fndx mem ((-1000001)) 34 = mem 34 := mup_other 34 (by omega)
      have e41 : fndx mem ((-1000001)) 41 = mem 41 := mup_other 41 (by omega)
      have e42 : fndx mem ((-1000001)) 42 = mem 42 := mup_other 42 (by omega)
      refine ct1I rfl (by decide) (Nat.le_of_ble_eq_true rfl) (rg_X4_copy_0 ?_)
      simp only [e35, e34, e41, e42]
      (repeat' (first | exact hfm | intro _ | apply And.intro)) <;> (first | omega | rfl | trivial | (exfalso; omega)))
end P12

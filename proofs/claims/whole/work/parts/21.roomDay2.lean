/-! ===== the class's side: who is alike, marks, the day turns ===== -/
theorem cnt_mono {P P2 : Nat → Bool} : ∀ {n : Nat}, (∀ k, k < n → P k = true → P2 k = true) → cnt P n ≤ cnt P2 n := by
  intro n
  induction n with
  | zero => intro _; exact Int.le_refl _
  | succ n ih =>
    intro h
    have h1 := ih (fun k hk => h k (by omega))
    have h2 := h n (by omega)
    show (if P n = true then cnt P n + 1 else cnt P n) ≤ (if P2 n = true then cnt P2 n + 1 else cnt P2 n)
    by_cases q : P n = true
    · rw [if_pos q, if_pos (h2 q)]; omega
    · rw [if_neg q]
      split <;> omega
theorem pcn_inS {s : Int} (h : 0 ≤ s ∧ s < 256) : pcn s = cnt (inS s) 8 := by
  obtain ⟨a, ha, rfl⟩ := int_nat h
  have := sS_pcn (inS (a : Int)) 8 (Nat.le_refl _)
  rw [inS_set a ha] at this
  exact this
theorem alkB_sym (A : Nat → Int) (a b k : Nat) : alkB A a b k = alkB A b a k := by
  unfold alkB
  apply decide_eq_decide.mpr
  constructor
  · rintro ⟨h1, h2, h3⟩
    exact ⟨h1.symm, by rw [← h1]; exact h2, by rw [← h1]; exact h3⟩
  · rintro ⟨h1, h2, h3⟩
    exact ⟨h1.symm, by rw [← h1]; exact h2, by rw [← h1]; exact h3⟩
theorem alk_sym (A : Nat → Int) (a b : Nat) : alk A a b = alk A b a := sS_congr (fun k _ => alkB_sym A a b k)
theorem fndN_iff (A : Nat → Int) (c : Nat) : ∀ n, fndN A c n = true ↔ ∃ o, o < n ∧ o ≠ c ∧ A 3 ≤ pcn (alk A c o) := by
  intro n
  induction n with
  | zero => exact ⟨fun h => (by cases h), fun ⟨o, h, _⟩ => (by omega)⟩
  | succ n ih =>
    show (fndN A c n || (decide (¬ n = c) && decide (A 3 ≤ pcn (alk A c n)))) = true ↔ _
    rw [Bool.or_eq_true, ih, Bool.and_eq_true, decide_eq_true_iff, decide_eq_true_iff]
    constructor
    · rintro (⟨o, h1, h2⟩ | ⟨h1, h2⟩)
      · exact ⟨o, by omega, h2⟩
      · exact ⟨n, by omega, h1, h2⟩
    · rintro ⟨o, h1, h2, h3⟩
      by_cases q : o = n
      · subst q; exact Or.inr ⟨h2, h3⟩
      · exact Or.inl ⟨o, by omega, h2, h3⟩
/-- who is found, as a set of the first n -/
def fdB (A : Nat → Int) (n c : Nat) : Bool := decide (c < n) && fndN A c n
section RE
variable {S : Sx} {mem : Zm} {r : Nat} {A : Nat → Int}
theorem ct_same (hr : isRoom r) {s : Int} (hs : 0 ≤ s ∧ s < 256) {a b : Nat} (ha : a < 8) (hb : b < 8) : Ct1 S mX0_sameAmong [Aq r, Iq s, Iq (a : Int), Iq (b : Int)] mem (some (Iq (sS (fun k => inS s k && decide (mem (r + 3) (8 * a + k) = mem (r + 3) (8 * b + k))) 8))) mem := by
  refine ct1I rfl (by decide) (Nat.le_of_ble_eq_true rfl) (rg_X0_sameAmong_0 hr ?_)
  refine loopN (n := 8) (P := fun i => PW S mX0_sameAmong (fun r2 m => r2 = some (Iq (sS (fun k => inS s k && decide (mem (r + 3) (8 * a + k) = mem (r + 3) (8 * b + k))) 8)) ∧ m = mem) 6 [some (Aq r), some (Iq s), some (Iq (a : Int)), some (Iq (b : Int)), some (Iq (sS (fun k => inS s k && decide (mem (r + 3) (8 * a + k) = mem (r + 3) (8 * b + k))) i)), some (Iq (i : Int))] [] mem) ?_ ?_ 0 (by omega)
  · exact rg_X0_sameAmong_6 hr ⟨fun _ => ⟨rfl, rfl⟩, fun z => absurd (by decide) z⟩
  · intro i hi ih
    have hbit := inS_shr (s := s) (k := i) hs hi
    refine rg_X0_sameAmong_6 hr ⟨fun z => by omega, fun z => ⟨fun q => ⟨by omega, by omega, fun d => ⟨by omega, ?_⟩, fun d => ⟨by omega, ?_⟩⟩, fun q => ⟨by omega, ?_⟩⟩⟩
    · rw [sS_t (P := fun k => inS s k && decide (mem (r + 3) (8 * a + k) = mem (r + 3) (8 * b + k))) hi (by show (inS s i && decide _) = true; rw [hbit.mp q, decide_eq_true (show mem (r + 3) (8 * a + i) = mem (r + 3) (8 * b + i) from d)]; rfl)]
      exact ih
    · rw [← sS_f (P := fun k => inS s k && decide (mem (r + 3) (8 * a + k) = mem (r + 3) (8 * b + k))) (n := i) (by show (inS s i && decide _) = false; rw [decide_eq_false (show ¬ mem (r + 3) (8 * a + i) = mem (r + 3) (8 * b + i) from d), Bool.and_false])]
      exact ih
    · have q2 : inS s i = false := by
        cases e : inS s i with
        | true => exact absurd (hbit.mpr e) q
        | false => rfl
      rw [← sS_f (P := fun k => inS s k && decide (mem (r + 3) (8 * a + k) = mem (r + 3) (8 * b + k))) (n := i) (by show (inS s i && decide _) = false; rw [q2, Bool.false_and])]
      exact ih
theorem or2 {s : Int} (h : 0 ≤ s ∧ s < 256) {a b : Nat} (ha : a < 8) (hb : b < 8) : bOr s (bOr (bShl 1 (a : Int)) (bShl 1 (b : Int))) = bOr (bOr s (bShl 1 (a : Int))) (bShl 1 (b : Int)) := by
  unfold bOr
  rw [Int32.ofInt_toInt, Int32.ofInt_toInt, Int32.or_assoc]
theorem xt_alike (hr : isRoom r) (hX : XR mem r A) (hA : OKA A) (hw : WG mem r A (nA A)) : Ct1 S mX0_childrenAlike [Aq r] mem (some (Iq (sS (fdB A (nA A)) 8))) mem := by
  have hn := hA.n
  have hl := hA.lim
  -- what the pairs behind give
  let D : Nat → Nat → Nat → Prop := fun a b k => ∃ i j, i < j ∧ j < nA A ∧ (i < a ∨ (i = a ∧ j < b)) ∧ A 3 ≤ pcn (alk A i j) ∧ (k = i ∨ k = j)
  let I : Nat → Nat → Int → Prop := fun a b s => (0 ≤ s ∧ s < 256) ∧ ∀ k, k < 8 → (inS s k = true ↔ D a b k)
  have fin : ∀ s, I (nA A) 0 s → s = sS (fdB A (nA A)) 8 := by
    intro s hs
    refine set_ext hs.1 (sS_256 _ (Nat.le_refl _)) (fun k hk => ?_)
    rw [inS_sS hk, Bool.eq_iff_iff, hs.2 k hk]
    unfold fdB
    rw [Bool.and_eq_true, decide_eq_true_iff, fndN_iff]
    constructor
    · rintro ⟨i, j, h1, h2, h3, h4, h5 | h5⟩
      · subst h5; exact ⟨by omega, j, h2, by omega, h4⟩
      · subst h5; exact ⟨h2, i, by omega, by omega, by rw [alk_sym]; exact h4⟩
    · rintro ⟨h1, o, h2, h3, h4⟩
      rcases Nat.lt_or_gt_of_ne h3 with q | q
      · exact ⟨o, k, q, h1, Or.inl h2, by rw [alk_sym]; exact h4, Or.inr rfl⟩
      · exact ⟨k, o, q, h2, Or.inl h1, h4, Or.inl rfl⟩
  let Q : Option PV → Zm → Prop := fun r2 m => r2 = some (Iq (sS (fdB A (nA A)) 8)) ∧ m = mem
  -- the inner loop, for an end of the outer one
  have inner : ∀ a, a < nA A → (∀ s, I (a + 1) 0 s → PW S mX0_childrenAlike Q 4 [some (Aq r), some (Iq s), some (Iq ((a + 1 : Nat) : Int)), none, none] [] mem) → ∀ b, b ≤ nA A → a < b → ∀ s, I a b s → PW S mX0_childrenAlike Q 16 [some (Aq r), some (Iq s), some (Iq (a : Int)), some (Iq (b : Int)), none] [] mem := by
    intro a ha hout b hb
    refine loopN (n := nA A) (P := fun b => a < b → ∀ s, I a b s → PW S mX0_childrenAlike Q 16 [some (Aq r), some (Iq s), some (Iq (a : Int)), some (Iq (b : Int)), none] [] mem) ?_ ?_ b hb
    · intro hab s hs
      refine rg_X0_childrenAlike_16 hr ⟨fun _ => ⟨by omega, hout s ⟨hs.1, fun k hk => (hs.2 k hk).trans ?_⟩⟩, fun z => ?_⟩
      · constructor
        · rintro ⟨i, j, h1, h2, h3, h4⟩; exact ⟨i, j, h1, h2, by omega, h4⟩
        · rintro ⟨i, j, h1, h2, h3, h4⟩; exact ⟨i, j, h1, h2, by omega, h4⟩
      · rw [hX.1.1] at z; omega
    · intro b hb ih hab s hs
      have wa := hw a ha
      have wb := hw b hb
      have sa := sS_256 (wrB A a) (Nat.le_refl 8)
      have sb := sS_256 (wrB A b) (Nat.le_refl 8)
      have hand := and_in sa sb
      have ebits : ∀ k, k < 8 → inS (bAnd (sS (wrB A a) 8) (sS (wrB A b) 8)) k = (wrB A a k && wrB A b k) := fun k hk => by rw [inS_and sa sb, inS_sS hk, inS_sS hk]
      have esame : sS (fun k => inS (bAnd (sS (wrB A a) 8) (sS (wrB A b) 8)) k && decide (mem (r + 3) (8 * a + k) = mem (r + 3) (8 * b + k))) 8 = alk A a b := by
        refine sS_congr (fun k hk => ?_)
        rw [ebits k hk, hX.a (by omega) hk, hX.a (by omega) hk]
        unfold wrB alkB
        rw [← Bool.decide_and, ← Bool.decide_and]
        apply decide_eq_decide.mpr
        constructor
        · rintro ⟨⟨⟨h1, h2⟩, h3, h4⟩, h5⟩; exact ⟨h5, h2, h1⟩
        · rintro ⟨h5, h2, h1⟩; exact ⟨⟨⟨h1, h2⟩, by rw [← h5]; exact h1, by rw [← h5]; exact h2⟩, h5⟩
      have skip : ¬ A 3 ≤ pcn (alk A a b) → PW S mX0_childrenAlike Q 16 [some (Aq r), some (Iq s), some (Iq (a : Int)), some (Iq ((b : Int) + 1)), none] [] mem := fun q =>
        ih (by omega) s ⟨hs.1, fun k hk => (hs.2 k hk).trans (by
          constructor
          · rintro ⟨i, j, h1, h2, h3, h4⟩; exact ⟨i, j, h1, h2, by omega, h4⟩
          · rintro ⟨i, j, h1, h2, h3, h4, h5⟩
            by_cases hij : i = a ∧ j = b
            · rw [hij.1, hij.2] at h4; exact absurd h4 q
            · exact ⟨i, j, h1, h2, by omega, h4, h5⟩)⟩
      refine rg_X0_childrenAlike_16 hr ⟨fun z => by rw [hX.1.1] at z; omega, fun z => ?_⟩
      rw [Int.toNat_natCast, Int.toNat_natCast, wa.1, wb.1, hX.1.2.2.2]
      refine ⟨by omega, by omega, hand, fun q => ⟨by omega, skip (fun z2 => ?_)⟩, fun q => ⟨_, _, ct_same hr hand (by omega) (by omega), ?_⟩⟩
      · have hle : pcn (alk A a b) ≤ pcn (bAnd (sS (wrB A a) 8) (sS (wrB A b) 8)) := by
          rw [pcn_inS hand, show alk A a b = sS (alkB A a b) 8 from rfl, sS_pcn _ 8 (Nat.le_refl _)]
          refine cnt_mono (fun k hk hq => ?_)
          rw [ebits k hk]
          have h1 := of_decide_eq_true hq
          have h2 : wrB A a k = true := decide_eq_true ⟨h1.2.2, h1.2.1⟩
          have h3 : wrB A b k = true := decide_eq_true ⟨by rw [← h1.1]; exact h1.2.2, by rw [← h1.1]; exact h1.2.1⟩
          rw [h2, h3]; rfl
        omega
      · rw [esame]
        refine ⟨alk_in A a b, fun z2 => ⟨by omega, skip (fun z3 => by rw [hX.1.2.2.2] at z2; omega)⟩, fun z2 => ⟨by omega, ?_⟩⟩
        rw [hX.1.2.2.2] at z2
        rw [or2 hs.1 (by omega) (by omega)]
        have s1 := or_in hs.1 (j := (a : Int)) (by omega)
        refine ih (by omega) _ ⟨or_in s1 (by omega), fun k hk => ?_⟩
        rw [inS_or s1 (by omega) hk, inS_or hs.1 (by omega) hk, Bool.or_eq_true, Bool.or_eq_true, hs.2 k hk, decide_eq_true_iff, decide_eq_true_iff]
        constructor
        · rintro ((⟨i, j, h1, h2, h3, h4⟩ | h) | h)
          · exact ⟨i, j, h1, h2, by omega, h4⟩
          · exact ⟨a, b, hab, hb, Or.inr ⟨rfl, by omega⟩, by omega, Or.inl (by omega)⟩
          · exact ⟨a, b, hab, hb, Or.inr ⟨rfl, by omega⟩, by omega, Or.inr (by omega)⟩
        · rintro ⟨i, j, h1, h2, h3, h4, h5⟩
          by_cases hij : i = a ∧ j = b
          · rcases h5 with h5 | h5
            · exact Or.inl (Or.inr (by omega))
            · exact Or.inr (by omega)
          · exact Or.inl (Or.inl ⟨i, j, h1, h2, by omega, h4, h5⟩)
  refine ct1I rfl (by decide) (Nat.le_of_ble_eq_true rfl) (rg_X0_childrenAlike_0 hr ?_)
  have outer := loopN (n := nA A) (P := fun a => ∀ s, I a 0 s → PW S mX0_childrenAlike Q 4 [some (Aq r), some (Iq s), some (Iq (a : Int)), none, none] [] mem) ?_ ?_ 0 (by omega) 0 ⟨⟨by decide, by decide⟩, fun k hk => ?_⟩
  · exact outer
  · intro s hs
    refine rg_X0_childrenAlike_4 hr ⟨fun _ => ⟨by rw [fin s hs], rfl⟩, fun z => ?_⟩
    rw [hX.1.1] at z; omega
  · intro a ha ih s hs
    refine rg_X0_childrenAlike_4 hr ⟨fun z => ?_, fun z => ⟨by omega, ?_⟩⟩
    · rw [hX.1.1] at z; omega
    · refine inner a ha ih (a + 1) (by omega) (by omega) s ⟨hs.1, fun k hk => (hs.2 k hk).trans ?_⟩
      constructor
      · rintro ⟨i, j, h1, h2, h3, h4⟩; exact ⟨i, j, h1, h2, by omega, h4⟩
      · rintro ⟨i, j, h1, h2, h3, h4⟩; exact ⟨i, j, h1, h2, by omega, h4⟩
  · constructor
    · intro h
      have : ∀ k : Nat, k < 8 → inS 0 k = false := by decide
      rw [this k hk] at h
      cases h
    · rintro ⟨i, j, h1, h2, h3, h4⟩; omega
/-- what marks leave of the others -/
theorem mkA_low {A : Nat → Int} {c i : Nat} (h : i < 12 ∨ 124 ≤ i) (hc : c < 8) : mkA A c i = A i := by
  unfold mkA
  split
  · rw [up_ne (by omega), up_ne (by omega)]
  · rw [up_ne (by omega)]
theorem mkA_ans {A : Nat → Int} {c j k : Nat} (hk : k < 8) : mkA A c (12 + 14 * j + (6 + k)) = A (12 + 14 * j + (6 + k)) := by
  unfold mkA
  split
  · rw [up_ne (by omega), up_ne (by omega)]
  · rw [up_ne (by omega)]
theorem mkN_low {A : Nat → Int} {i : Nat} (h : i < 12 ∨ 124 ≤ i) : ∀ n, n ≤ 8 → mkN A n i = A i := by
  intro n
  induction n with
  | zero => intro _; rfl
  | succ n ih => intro hn; show mkA _ _ i = _; rw [mkA_low h (by omega), ih (by omega)]
theorem mkN_ans {A : Nat → Int} {j k : Nat} (hk : k < 8) : ∀ n, mkN A n (12 + 14 * j + (6 + k)) = A (12 + 14 * j + (6 + k)) := by
  intro n
  induction n with
  | zero => rfl
  | succ n ih => show mkA _ _ _ = _; rw [mkA_ans hk, ih]
theorem alk_congr {A B : Nat → Int} {a b : Nat} (h1 : ∀ k, k < 8 → A (12 + 14 * a + (6 + k)) = B (12 + 14 * a + (6 + k))) (h2 : ∀ k, k < 8 → A (12 + 14 * b + (6 + k)) = B (12 + 14 * b + (6 + k))) (h3 : ∀ k, k < 8 → A (4 + k) = B (4 + k)) : alk A a b = alk B a b :=
  sS_congr (fun k hk => by unfold alkB; rw [h1 k hk, h2 k hk, h3 k hk])
theorem fndN_congr {A B : Nat → Int} (h1 : ∀ j k, k < 8 → A (12 + 14 * j + (6 + k)) = B (12 + 14 * j + (6 + k))) (h3 : ∀ k, k < 8 → A (4 + k) = B (4 + k)) (hl : A 3 = B 3) (c : Nat) : ∀ n, fndN A c n = fndN B c n := by
  intro n
  induction n with
  | zero => rfl
  | succ n ih =>
    show (fndN A c n || (decide (¬ n = c) && decide (A 3 ≤ pcn (alk A c n)))) = (fndN B c n || (decide (¬ n = c) && decide (B 3 ≤ pcn (alk B c n))))
    rw [ih, alk_congr (fun k hk => h1 c k hk) (fun k hk => h1 n k hk) h3, hl]
theorem xt_marks (hr : isRoom r) (hX : XR mem r A) (hA : OKA A) (hw : WG mem r A (nA A)) : ∃ m2, Ct1 S mX0_markAnswers [Aq r] mem none m2 ∧ XR m2 r (mkN A (nA A)) ∧ Fr r mem m2 := by
  have hn := hA.n
  obtain ⟨M, ⟨hM1, hM2, hM3⟩, hgo⟩ := loopE (fun Q i (M : Zm) => PW S mX0_markAnswers Q 7 [some (Aq r), some (Iq (sS (fdB A (nA A)) 8)), some (Iq (i : Int))] [] M) (fun i M => XR M r (mkN A i) ∧ Fr r mem M ∧ M (r + 6) = mem (r + 6)) (n := nA A) (s0 := mem) ⟨hX, Fr.rfl', rfl⟩ (by
    intro i M hi ⟨h1, h2, h3⟩
    have hB := mkN_ok hA i (by omega)
    have hi8 : i < 8 := by omega
    have hci : (i : Int) < mkN A i 0 := by rw [hB.2]; omega
    have b1 := hB.1.c1 hci
    have b3 := hB.1.c3 hci
    have b5 := hB.1.c5 hci
    have bd := hB.1.day
    have nB : nA (mkN A i) = nA A := by unfold nA; rw [hB.2]
    have efnd : fndN (mkN A i) i (nA (mkN A i)) = fndN A i (nA A) := by
      rw [nB]
      exact fndN_congr (fun j k hk => mkN_ans hk i) (fun k hk => mkN_low (by omega) i (by omega)) (mkN_low (by omega) i (by omega)) i _
    have egd : cnt (gdB (mkN A i) i) 8 = cnt (gdB A i) 8 := cnt_congr (fun k hk => by unfold gdB; rw [mkN_ans hk, mkN_low (by omega) i (by omega)])
    have hg := (hw i hi).2
    have hcl := cnt_le (gdB A i) 8
    have hbit : (bAnd (bShr (sS (fdB A (nA A)) 8) (i : Int)) 1 = 1) ↔ fndN A i (nA A) = true := by
      rw [sS_shr hi8]
      unfold fdB
      rw [Bool.and_eq_true, decide_eq_true_iff]
      exact ⟨fun h => h.2, fun h => ⟨hi, h⟩⟩
    have es : mkN A (i + 1) = mkA (mkN A i) i := rfl
    by_cases q : fndN A i (nA A) = true
    · refine ⟨mup (mup M (r + 2) (6 * i + 5) (min 9999 (mkN A i (12 + 14 * i + 5) + 1))) (r + 2) (6 * i + 1) (bOr (mkN A i (12 + 14 * i + 1)) (bShl 1 (mkN A i 1 % 8))), ⟨?_, ?_, ?_⟩, fun Q hq => ?_⟩
      · rw [es]
        unfold mkA
        rw [efnd, if_pos q]
        exact (h1.fact hi8 (by omega) _).fact hi8 (by omega) _
      · exact h2.trans (Fr.trans (Fr.mup (by omega)) (Fr.mup (by omega)))
      · rw [mup_other _ (by omega), mup_other _ (by omega)]; exact h3
      · refine rg_X0_markAnswers_7 hr ⟨fun z => by rw [h1.1.1, hB.2] at z; omega, fun z => ⟨fun _ => ?_, fun z2 => absurd (hbit.mpr q) z2⟩⟩
        rw [Int.toNat_natCast, h1.f hi8 (by omega), mup_ne (by omega), mup_ne (by omega), h1.f hi8 (by omega), h1.1.2.1]
        exact ⟨by omega, by omega, by omega, by omega, by omega, by omega, by omega, hq⟩
    · refine ⟨mup M (r + 2) (6 * i + 3) (min 9999 (mkN A i (12 + 14 * i + 3) + cnt (gdB A i) 8)), ⟨?_, ?_, ?_⟩, fun Q hq => ?_⟩
      · rw [es]
        unfold mkA
        rw [efnd, if_neg q, egd]
        exact h1.fact hi8 (by omega) _
      · exact h2.trans (Fr.mup (by omega))
      · rw [mup_other _ (by omega)]; exact h3
      · refine rg_X0_markAnswers_7 hr ⟨fun z => by rw [h1.1.1, hB.2] at z; omega, fun z => ⟨fun z2 => absurd (hbit.mp z2) q, fun _ => ?_⟩⟩
        rw [Int.toNat_natCast, h1.f hi8 (by omega), h3, hg]
        exact ⟨by omega, by omega, by omega, by omega, by omega, hq⟩)
  refine ⟨M, ct1V rfl (by decide) (Nat.le_of_ble_eq_true rfl) (rg_X0_markAnswers_0 hr ⟨_, _, xt_alike hr hX hA hw, hgo _ (rg_X0_markAnswers_7 hr ⟨fun _ => ⟨rfl, rfl⟩, fun z => ?_⟩)⟩), hM1, hM2⟩
  rw [hM1.1.1, (mkN_ok hA (nA A) (by omega)).2] at z
  omega
theorem xt_turn (hr : isRoom r) (hX : XR mem r A) (hA : OKA A) (hd : A 1 < 99999) : ∃ m2, Ct1 S mX0_turnDay [Aq r] mem none m2 ∧ XR m2 r (up (rtN A 8) 1 (A 1 + 1)) ∧ Fr r mem m2 := by
  have hd0 := hA.day
  obtain ⟨M, ⟨hM1, hM2⟩, hgo⟩ := loopE (fun Q i (M : Zm) => PW S mX0_turnDay Q 2 [some (Aq r), some (Iq (i : Int))] [] M) (fun i M => XR M r (rtN A i) ∧ Fr r mem M) (n := 8) (s0 := mem) ⟨hX, Fr.rfl'⟩ (by
    intro i M hi ⟨h1, h2⟩
    have hB := (rtN_ok hA i (by omega)).1.rt hi
    refine ⟨mup M (r + 1) i ((3 * rtN A i (4 + i) + (i : Int) + 1) % 100), ⟨h1.rgt hi _, h2.trans (Fr.mup (by omega))⟩, fun Q hq => ?_⟩
    refine rg_X0_turnDay_2 hr ⟨fun z => by omega, fun z => ?_⟩
    rw [Int.toNat_natCast, h1.r hi]
    exact ⟨by omega, by omega, by omega, by omega, by omega, by omega, by omega, hq⟩)
  have e1 : ∀ n, rtN A n 1 = A 1 := fun n => by
    induction n with
    | zero => rfl
    | succ n ih => show up _ _ _ 1 = _; rw [up_ne (by omega), ih]
  have em : M r 8 = A 1 := by rw [hM1.1.2.1, e1]
  refine ⟨mup M r 8 (A 1 + 1), ct1V rfl (by decide) (Nat.le_of_ble_eq_true rfl) (rg_X0_turnDay_0 hr (hgo _ (rg_X0_turnDay_2 hr ⟨fun _ => ?_, fun z => absurd (by decide) z⟩))), hM1.own (Or.inr (Or.inl ⟨rfl, rfl⟩)) _, hM2.trans (Fr.mup (by omega))⟩
  rw [em, show min 99999 (A 1 + 1) = A 1 + 1 by omega]
  exact ⟨by omega, rfl, rfl⟩
theorem xt_days (hr : isRoom r) (hX : XR mem r A) (hA : OKA A) {n : Nat} (hd : A 1 + n < 99999) (hn60 : n ≤ 60) : ∃ m2, Ct1 S mX0_passDays [Aq r, Iq (n : Int)] mem none m2 ∧ XR m2 r (dN n A) ∧ Fr r mem m2 := by
  obtain ⟨M, ⟨hM1, hM2⟩, hgo⟩ := loopE (fun Q i (M : Zm) => PW S mX0_passDays Q 2 [some (Aq r), some (Iq (n : Int)), some (Iq (i : Int)), none] [] M) (fun i M => XR M r (dN i A) ∧ Fr r mem M) (n := n) (s0 := mem) ⟨hX, Fr.rfl'⟩ (by
    intro i M hi ⟨h1, h2⟩
    obtain ⟨hB, hB0, hB1⟩ := dN_ok hA i
    have hnB := hB.n
    generalize hBe : dN i A = B at *
    obtain ⟨M1, ⟨g1, g2, g3⟩, ggo⟩ := loopE (fun Q j (M : Zm) => PW S mX0_passDays Q 9 [some (Aq r), some (Iq (n : Int)), some (Iq (i : Int)), some (Iq (j : Int))] [] M) (fun j M2 => XR M2 r (wN B j) ∧ Fr r M M2 ∧ WG M2 r (wN B j) j) (n := nA B) (s0 := M) ⟨h1, Fr.rfl', fun j hj => absurd hj (by omega)⟩ (by
      intro j M2 hj ⟨w1_, w2_, w3_⟩
      have hC := wN_ok hB j (by omega)
      obtain ⟨m3, c1, c2, c3, c4⟩ := xt_write (S := S) hr w1_ hC.1 (c := j) (by rw [hC.2]; omega) w3_
      refine ⟨m3, ⟨c2, w2_.trans c4, c3⟩, fun Q hq => rg_X0_passDays_9 hr ⟨fun z => ?_, fun z => ⟨m3, c1, by omega, hq⟩⟩⟩
      rw [w1_.1.1, hC.2] at z
      omega)
    have hW := wN_ok hB (nA B) (by omega)
    have enW : nA (wN B (nA B)) = nA B := by show (wN B (nA B) 0).toNat = _; rw [hW.2]; rfl
    obtain ⟨M2, k1, k2, k3⟩ := xt_marks (S := S) hr g1 hW.1 (by rw [enW]; exact g3)
    rw [enW] at k2
    have hK := mkN_ok hW.1 (nA B) (by rw [hW.2]; omega)
    have e5 : ∀ (B : Nat → Int) (m : Nat), wN B m 1 = B 1 := fun B m => by
      induction m with
      | zero => rfl
      | succ m ih =>
        show wA _ _ 1 = _
        unfold wA pyA
        split
        · rw [up_ne (by omega), up_ne (by omega), w1_other (by omega), ih]
        · rw [w1_other (by omega), ih]
    have ed : mkN (wN B (nA B)) (nA B) 1 = B 1 := by rw [mkN_low (by omega) _ (by omega), e5]
    obtain ⟨M3, t1, t2, t3⟩ := xt_turn (S := S) hr k2 hK.1 (by rw [ed]; omega)
    rw [ed] at t2
    refine ⟨M3, ⟨?_, h2.trans (g2.trans (k3.trans t3))⟩, fun Q hq => rg_X0_passDays_2 hr ⟨fun z => by omega, fun z => ggo Q (rg_X0_passDays_9 hr ⟨fun _ => ⟨M2, k1, M3, t1, by omega, hq⟩, fun z2 => ?_⟩)⟩⟩
    · rw [dN_s, hBe]; exact t2
    · rw [g1.1.1, hW.2] at z2
      omega)
  exact ⟨M, ct1V rfl (by decide) (Nat.le_of_ble_eq_true rfl) (rg_X0_passDays_0 hr (hgo _ (rg_X0_passDays_2 hr ⟨fun _ => ⟨rfl, rfl⟩, fun z => absurd (Int.le_refl _) z⟩))), hM1, hM2⟩
end RE

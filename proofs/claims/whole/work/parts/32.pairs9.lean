/-! ===== pairs: what a sheet tells ===== -/
section P9
variable {S : Sx} {D : Int} {mem : Zm} {x1 x2 x3 x4 x5 : Int} {A B : Nat → Int}
theorem IV.keepS {D D2 : Int} {mem m2 : Zm} (h : IV D mem) (he : ∀ o, vis o → o ≠ 22 → o ≠ 34 → m2 o = mem o) (e22 : m2 22 1 = mem 22 1) (e4 : m2 34 4 = mem 34 4) (e7 : m2 34 7 = mem 34 7) (hD : D ≤ D2) : IV D2 m2 := by
  have e23 : m2 23 = mem 23 := he 23 (by unfold vis; omega) (by omega) (by omega)
  have e40 : m2 40 = mem 40 := he 40 (by unfold vis; omega) (by omega) (by omega)
  refine h.tape hD (by rw [e22, e7]; exact h.2.2.1.1) (fun k hk => ?_) (by rw [e7]; exact h.2.2.2.2.2.2.2.2.1.1) (fun k hk => ?_) e4 (fun o a b c d e => he o a b d)
  · rw [e23, e40]; rw [e7] at hk; exact h.2.2.1.2 k hk
  · rw [e40]; rw [e7] at hk; exact h.2.2.2.2.2.2.2.2.1.2 k hk
/-- a finding, where what no one looks at has changed too -/
theorem IV.fndS {ma mb : Zm} (h : IV D mem) (hD : D ≤ 1000000) {f : Int} (hf : -1000007 ≤ f ∧ f ≤ -1000001) (ea : ∀ o, vis o → o ≠ 22 → o ≠ 34 → ma o = mem o) (eb : ∀ o, vis o → o ≠ 22 → o ≠ 34 → mb o = fndx ma f o) (e22 : mb 22 1 = mem 22 1) (e4 : mb 34 4 = mem 34 4) (e7 : mb 34 7 = mem 34 7) : fOX ma f ∧ fOK mb f ∧ IV (D + 60) (fnds mb f) := by
  have h2 : IV D (setR (setR mem 22 (mb 22)) 34 (mb 34)) := h.keepS (fun o a b c => by rw [setR_ne _ _ c, setR_ne _ _ b]) (by rw [setR_ne _ _ (by omega), setR_at]; exact e22) (by rw [setR_at]; exact e4) (by rw [setR_at]; exact e7) (Int.le_refl _)
  have key := h2.fnd (ma := setR (setR ma 22 (mb 22)) 34 (mb 34)) (mb := mb) hD hf (fun o ho => ?_) (fun o ho => ?_)
  · refine ⟨?_, key.2.1, key.2.2⟩
    have k1 := key.1
    unfold fOX at k1 ⊢
    rw [setR_ne _ _ (by omega), setR_ne _ _ (by omega)] at k1
    exact k1
  · by_cases a : o = 34
    · subst a; rw [setR_at, setR_at]
    · rw [setR_ne _ _ a, setR_ne _ _ a]
      by_cases b : o = 22
      · subst b; rw [setR_at, setR_at]
      · rw [setR_ne _ _ b, setR_ne _ _ b]; exact ea o ho b a
  · by_cases a : o = 34
    · subst a; unfold fndx; rw [mup_other 34 (by omega), setR_at]
    · by_cases b : o = 22
      · subst b; unfold fndx; rw [mup_other 22 (by omega), setR_ne _ _ (by omega), setR_at]
      · rw [eb o ho b a]
        unfold fndx
        rw [setR_ne _ _ (by omega), setR_ne _ _ (by omega)]
        by_cases c : o = 33
        · subst c; rw [mup_same, mup_same, setR_ne _ _ (by omega), setR_ne _ _ (by omega)]
        · rw [mup_other o c, mup_other o c, setR_ne _ _ a, setR_ne _ _ b]
/-! which sheet, which child -/
def ckV (mem : Zm) (t k : Int) : Int := if wntV mem t = 0 then (if 0 ≤ k ∧ k < mem 35 0 then 0 else -1000001) else wntV mem t
theorem IV.shc (h : IV D mem) (t : Int) : shcV mem t = wntV mem t := by
  unfold shcV wntV
  by_cases c : 0 ≤ t ∧ t < 4
  · rw [if_pos c, if_pos c]
    have a := (h.2.2.2.1 t.toNat (by omega)).1
    have b := h.2.2.2.2.2.2.2.2.2.1 t.toNat (by omega)
    rw [a]
    by_cases q : mem 41 t.toNat = -1
    · rw [if_pos q, if_pos rfl, if_neg (by omega)]
    · rw [if_neg q, if_neg (by omega), if_pos (by omega)]
  · rw [if_neg c, if_neg c]
theorem ckV_in (mem : Zm) (t k : Int) : ckV mem t k = 0 ∨ ckV mem t k = -1000001 ∨ ckV mem t k = -1000006 := by
  unfold ckV wntV
  split
  · split <;> omega
  · split
    · split <;> omega
    · omega
theorem ckV_0 {t k : Int} (h : ckV mem t k = 0) : (0 ≤ t ∧ t < 4) ∧ 0 ≤ mem 41 t.toNat ∧ 0 ≤ k ∧ k < mem 35 0 := by
  unfold ckV wntV at h
  by_cases a : 0 ≤ t ∧ t < 4
  · rw [if_pos a] at h
    by_cases b : 0 ≤ mem 41 t.toNat
    · rw [if_pos b] at h
      by_cases c : 0 ≤ k ∧ k < mem 35 0
      · exact ⟨a, b, c⟩
      · rw [if_neg c] at h; exact absurd h (by decide)
    · rw [if_neg b, if_neg (by decide)] at h; exact absurd h (by decide)
  · rw [if_neg a, if_neg (by decide)] at h; exact absurd h (by decide)
theorem ckV_c {m2 : Zm} {t k : Int} (e : m2 41 = mem 41) (e2 : m2 35 0 = mem 35 0) : ckV m2 t k = ckV mem t k := by unfold ckV wntV; rw [e, e2]
theorem xt_ck (h : IV D mem) : Ct1 S mX3_sheetAndChildCheck [Aq 0, Iq x1, Iq x2] mem (some (Iq (ckV mem x1 x2))) mem := by
  have hN := h.X.1.1
  refine ct1I rfl (by decide) (Nat.le_of_ble_eq_true rfl) (rg_X3_sheetAndChildCheck_0 ?_)
  rw [h.shc, hN]
  unfold ckV
  exact ⟨fun a => ⟨fun b => ⟨by rw [if_pos a, if_pos b], rfl⟩, fun b => ⟨by rw [if_pos a, if_neg b], rfl⟩⟩, fun a => ⟨by rw [if_neg a], rfl⟩⟩
theorem ct_X4_wantsFor : Ct1 S mX4_wantsFor [Aq 34, Iq x1, Iq x2] mem (some (Iq (ckV mem x1 x2))) mem := by
  refine ct1I rfl (by decide) (Nat.le_of_ble_eq_true rfl) (rg_X4_wantsFor_0 ?_)
  unfold ckV
  exact ⟨fun a => ⟨fun b => ⟨by rw [if_pos a, if_pos b], rfl⟩, fun b => ⟨by rw [if_pos a, if_neg b], rfl⟩⟩, fun a => ⟨by rw [if_neg a], rfl⟩⟩
/-! told -/
def tdW (len : Int) (num : Nat → Int) (a : Int) (j : Nat) : Bool := decide (len ≤ (j : Int) ∨ num j = -2 ∨ num j = a)
def tdP (len : Int) (num : Nat → Int) (B : Nat → Int) (k : Nat) : Nat → Bool
  | 0 => true
  | n + 1 => tdP len num B k n && tdW len num (B (12 + 14 * k + (6 + n))) n
theorem tdP_iff {len : Int} {num : Nat → Int} {k : Nat} : ∀ n, tdP len num B k n = true ↔ ∀ j, j < n → tdW len num (B (12 + 14 * k + (6 + j))) j = true := by
  intro n
  induction n with
  | zero => exact ⟨fun _ j hj => absurd hj (by omega), fun _ => rfl⟩
  | succ n ih =>
    show (_ && _) = true ↔ _
    rw [Bool.and_eq_true, ih]
    refine ⟨fun h j hj => ?_, fun h => ⟨fun j hj => h j (by omega), h n (by omega)⟩⟩
    by_cases q : j = n
    · rw [q]; exact h.2
    · exact h.1 j (by omega)
def nmS (mem : Zm) (t : Nat) : Nat → Int := fun j => mem 43 (40 * t + j)
abbrev tdB (mem : Zm) (t : Nat) (B : Nat → Int) (k : Nat) : Bool := tdP (mem 42 t) (nmS mem t) B k 8
theorem tdW_d {len : Int} {num : Nat → Int} {a : Int} {j : Nat} : tdW len num a j = true ↔ (len ≤ (j : Int) ∨ num j = -2 ∨ num j = a) := decide_eq_true_iff
theorem sheet_is {t : Nat} (h : t < 4) : isSheet (25 + 2 * t) := by unfold isSheet; omega
theorem Fr.sh {M : Zm} (h : Fr 8 mem M) {t : Nat} (ht : t < 4) : M (25 + 2 * t) = mem (25 + 2 * t) ∧ M (26 + 2 * t) = mem (26 + 2 * t) := ⟨h _ (by omega), h _ (by omega)⟩
theorem IV.len (h : IV D mem) {t : Nat} (ht : t < 4) : 0 ≤ mem 42 t ∧ mem 42 t ≤ 40 := (h.2.2.2.2.2.2.2.2.2.1 t ht).2
/-- the condition of one number, as the room's side reads it -/
theorem x_td (h : IV D mem) {M : Zm} (hf : Fr 8 mem M) {t j : Nat} (ht : t < 4) (hj : j < 8) {a : Int} : (M (25 + 2 * t) 2 ≤ (j : Int) ∨ M (25 + 2 * t + 1) ((j : Int)).toNat = -2 ∨ M (25 + 2 * t + 1) ((j : Int)).toNat = a) ↔ tdW (mem 42 t) (nmS mem t) a j = true := by
  have s := hf.sh ht
  have q := h.2.2.2.1 t ht
  rw [tdW_d, Int.toNat_natCast, show 25 + 2 * t + 1 = 26 + 2 * t by omega, s.1, s.2, q.2.1, q.2.2 j (by omega)]
  exact Iff.rfl
theorem xt_asked (h : IV D mem) (hD : D ≤ 90000) {M : Zm} (hf : Fr 8 mem M) {t k w : Nat} (ht : t < 4) (hk : k < 8) (hw : w < 6) {v : Int} (hA : OKA (up (mem 35) (12 + 14 * k + w) v)) : ∃ m2, Ct1 S mX3_writesAsAsked [Aq 0, Aq (25 + 2 * t), Iq (k : Int), Iq (w : Int), Iq v] M (some (Iq (bI (tdB mem t (dN 1 (up (mem 35) (12 + 14 * k + w) v)) k = true)))) m2 ∧ Fr 8 mem m2 := by
  have hd := h.d
  have hl := h.len ht
  obtain ⟨m1, k1, k2, k3⟩ := xt_become (S := S) (r := 8) (r1 := 1) isR8 isR1 (by decide) (hf.X1 h.X)
  have k4 := k2.fact hk hw v
  obtain ⟨m2, j1, j2, j3⟩ := xt_days (S := S) isR8 k4 hA (n := 1) (by rw [up_ne (by omega)]; omega) (by omega)
  have fr : Fr 8 mem m2 := ((hf.trans k3).trans (Fr.mup (by omega))).trans j3
  have e2 : m2 (25 + 2 * t) 2 = mem 42 t := by rw [(fr.sh ht).1]; exact (h.2.2.2.1 t ht).2.1
  have ea : ∀ j : Nat, j < 8 → m2 (8 + 3) (8 * ((k : Int)).toNat + ((j : Int)).toNat) = dN 1 (up (mem 35) (12 + 14 * k + w) v) (12 + 14 * k + (6 + j)) := fun j hj => by rw [Int.toNat_natCast, Int.toNat_natCast]; exact j2.a hk hj
  have lp : ∀ e : Nat, e ≤ 8 → (∀ j, j < e → ¬ ¬ tdW (mem 42 t) (nmS mem t) (dN 1 (up (mem 35) (12 + 14 * k + w) v) (12 + 14 * k + (6 + j))) j = true) → ∀ Q, PW S mX3_writesAsAsked Q 33 [some (Aq 0), some (Aq (25 + 2 * t)), some (Iq (k : Int)), some (Iq (w : Int)), some (Iq v), some (Iq (e : Int))] [] m2 → PW S mX3_writesAsAsked Q 33 [some (Aq 0), some (Aq (25 + 2 * t)), some (Iq (k : Int)), some (Iq (w : Int)), some (Iq v), some (Iq 0)] [] m2 := by
    intro e
    induction e with
    | zero => intro _ _ Q hq; exact hq
    | succ e ih =>
      intro he hj Q hq
      refine ih (by omega) (fun j q => hj j (by omega)) Q (rg_X3_writesAsAsked_33 (sheet_is ht) ⟨fun z => by omega, fun _ => ⟨by omega, by omega, fun _ => ⟨by omega, hq⟩, fun z => ?_⟩⟩)
      rw [ea e (by omega)] at z
      exact absurd (fun w => z ((x_td h fr ht (by omega)).2 w)) (hj e (by omega))
  have st : ∀ Q, PW S mX3_writesAsAsked Q 33 [some (Aq 0), some (Aq (25 + 2 * t)), some (Iq (k : Int)), some (Iq (w : Int)), some (Iq v), some (Iq 0)] [] m2 → PW S mX3_writesAsAsked Q 0 [some (Aq 0), some (Aq (25 + 2 * t)), some (Iq (k : Int)), some (Iq (w : Int)), some (Iq v), none] [] M := fun Q hq => rg_X3_writesAsAsked_0 (sheet_is ht) ⟨m1, k1, by omega, m2, by rw [Int.toNat_natCast, Int.toNat_natCast]; exact j1, hq⟩
  have hb : bI (tdB mem t (dN 1 (up (mem 35) (12 + 14 * k + w) v)) k = true) = 0 ∨ bI (tdB mem t (dN 1 (up (mem 35) (12 + 14 * k + w) v)) k = true) = 1 := by unfold bI; split <;> omega
  refine ⟨m2, ct1Z rfl hb (by decide) (Nat.le_of_ble_eq_true rfl) (st _ ?_), fr⟩
  rcases leastD (fun j => ¬ tdW (mem 42 t) (nmS mem t) (dN 1 (up (mem 35) (12 + 14 * k + w) v) (12 + 14 * k + (6 + j))) j = true) 8 with ⟨e, p1, p2, p3⟩ | p
  · refine lp e (by omega) p3 _ (rg_X3_writesAsAsked_33 (sheet_is ht) ⟨fun z => by omega, fun _ => ⟨by omega, by omega, fun z => ?_, fun _ => ⟨?_, rfl⟩⟩⟩)
    · rw [ea e (by omega)] at z
      exact absurd ((x_td h fr ht (by omega)).1 z) p2
    · rw [bIf (fun q => p2 ((tdP_iff 8).1 q e p1))]
  · refine lp 8 (by omega) p _ (rg_X3_writesAsAsked_33 (sheet_is ht) ⟨fun _ => ⟨?_, rfl⟩, fun z => by omega⟩)
    rw [bIt ((tdP_iff 8).2 (fun j hj => Decidable.of_not_not (p j hj)))]
theorem tdP_end {len : Int} {num : Nat → Int} {k e : Nat} (he : e ≤ 8) (hl : len ≤ (e : Int) ∨ e = 8) : tdP len num B k 8 = tdP len num B k e := by
  have q : (tdP len num B k 8 = true) ↔ (tdP len num B k e = true) := by
    rw [tdP_iff, tdP_iff]
    refine ⟨fun h j hj => h j (by omega), fun h j hj => ?_⟩
    by_cases c : j < e
    · exact h j c
    · exact tdW_d.2 (.inl (by omega))
  cases a : tdP len num B k 8 <;> cases b : tdP len num B k e <;> simp_all
theorem and_1 (b : Bool) : bAnd (bI (b = true)) 1 = bI (b = true) := by cases b <;> decide
theorem and_0 (b : Bool) : bAnd (bI (b = true)) 0 = 0 := by cases b <;> decide
theorem ct_X4_isTold {M : Zm} (hA : OKA (M 35)) (hd : M 35 1 < 99900) {t k : Nat} (ht : t < 4) (hk : k < 8) (hl : 0 ≤ M 42 t ∧ M 42 t ≤ 40) : Ct1 S mX4_isTold [Aq 34, Iq (t : Int), Iq (k : Int)] M (some (Iq (bI (tdB M t (dN 1 (M 35)) k = true)))) (cprow M 35 38) := by
  have hb : bI (tdB M t (dN 1 (M 35)) k = true) = 0 ∨ bI (tdB M t (dN 1 (M 35)) k = true) = 1 := by unfold bI; split <;> omega
  have hday := asR_day (S := S) (mem := M) hA hd (n := 0) (by omega)
  rw [← asR_0] at hday
  have e42 : asR M 1 42 = M 42 := by unfold asR; rw [setR_ne _ _ (by omega)]; exact setR_ne _ _ (by omega)
  have e43 : asR M 1 43 = M 43 := by unfold asR; rw [setR_ne _ _ (by omega)]; exact setR_ne _ _ (by omega)
  have e35 : asR M 1 35 = dN 1 (M 35) := asR_35 1
  have e2 : (40 * (t : Int)) = ((40 * t : Nat) : Int) := by omega
  have lp : ∀ e : Nat, (e : Int) ≤ M 42 t → e ≤ 8 → ∀ Q, PW S mX4_isTold Q 20 [some (Aq 34), some (Iq (t : Int)), some (Iq (k : Int)), some (Iq (bI (tdP (M 42 t) (nmS M t) (dN 1 (M 35)) k e = true))), some (Iq (e : Int)), none] [] (asR M 1) → PW S mX4_isTold Q 20 [some (Aq 34), some (Iq (t : Int)), some (Iq (k : Int)), some (Iq 1), some (Iq 0), none] [] (asR M 1) := by
    intro e
    induction e with
    | zero => intro _ _ Q hq; exact hq
    | succ e ih =>
      intro hl2 he Q hq
      refine ih (by omega) (by omega) Q (rg_X4_isTold_20 ?_)
      have i1 : (40 * (t : Int) + (e : Int)).toNat = 40 * t + e := by omega
      have i2 : (6 + (e : Int)).toNat = 6 + e := by omega
      rw [e42, e43, e35, Int.toNat_natCast, Int.toNat_natCast, i1, i2]
      refine ⟨by omega, fun z => by omega, fun _ => ⟨fun z => by omega, fun _ => ⟨by omega, by omega, by omega, fun z => ⟨by omega, ?_⟩, fun z => ⟨by omega, by omega, fun z2 => ⟨by omega, ?_⟩, fun z2 => ⟨by omega, ?_⟩⟩⟩⟩⟩
      · rw [and_1]
        rw [show tdP (M 42 t) (nmS M t) (dN 1 (M 35)) k (e + 1) = tdP (M 42 t) (nmS M t) (dN 1 (M 35)) k e from (by show (_ && _) = _; rw [show tdW (M 42 t) (nmS M t) (dN 1 (M 35) (12 + 14 * k + (6 + e))) e = true from tdW_d.2 (.inr (.inl z)), Bool.and_true])] at hq
        exact hq
      · rw [and_1]
        rw [show tdP (M 42 t) (nmS M t) (dN 1 (M 35)) k (e + 1) = tdP (M 42 t) (nmS M t) (dN 1 (M 35)) k e from (by show (_ && _) = _; rw [show tdW (M 42 t) (nmS M t) (dN 1 (M 35) (12 + 14 * k + (6 + e))) e = true from tdW_d.2 (.inr (.inr z2)), Bool.and_true])] at hq
        exact hq
      · rw [and_0]
        rw [show tdP (M 42 t) (nmS M t) (dN 1 (M 35)) k (e + 1) = false from (by
          show (_ && _) = _
          rw [show tdW (M 42 t) (nmS M t) (dN 1 (M 35) (12 + 14 * k + (6 + e))) e = false from decide_eq_false (fun w => by rcases w with w | w | w; omega; exact z w; exact z2 w), Bool.and_false])] at hq
        exact hq
  refine ct1Z rfl hb (by decide) (Nat.le_of_ble_eq_true rfl) (rg_X4_isTold_0 ⟨_, hday, ?_⟩)
  have fin : ∀ e : Nat, e ≤ 8 → (M 42 t ≤ (e : Int) ∨ e = 8) → PW S mX4_isTold (fun r m => r = some (Iq (bI (tdB M t (dN 1 (M 35)) k = true))) ∧ m = cprow M 35 38) 20 [some (Aq 34), some (Iq (t : Int)), some (Iq (k : Int)), some (Iq (bI (tdP (M 42 t) (nmS M t) (dN 1 (M 35)) k e = true))), some (Iq (e : Int)), none] [] (asR M 1) := fun e he hl2 => by
    have eq := tdP_end (B := dN 1 (M 35)) (num := nmS M t) (k := k) he hl2
    refine rg_X4_isTold_20 ⟨by omega, fun _ => ⟨by unfold tdB; rw [eq], asR_back hA 1⟩, fun z => ⟨fun _ => ⟨by unfold tdB; rw [eq], asR_back hA 1⟩, fun z2 => ?_⟩⟩
    rw [e42, Int.toNat_natCast] at z
    omega
  by_cases c : M 42 t ≤ 8
  · obtain ⟨e, he, ee⟩ := int_nat (x := M 42 t) (n := 9) ⟨hl.1, by omega⟩
    exact lp e (by omega) (by omega) _ (fin e (by omega) (.inl (by omega)))
  · exact lp 8 (by omega) (by omega) _ (fin 8 (by omega) (.inr rfl))
theorem SM.told {i : Nat} {M : Zm} (h : SM mem i M) {v : Int} (hA : OKA (up (mem 35) i v)) (hi : i ≠ 1) (hd : mem 35 1 < 99900) {t k : Nat} (ht : t < 4) (hk : k < 8) (hl : 0 ≤ mem 42 t ∧ mem 42 t ≤ 40) : ∃ M2, Ct1 S mX4_isTold [Aq 34, Iq (t : Int), Iq (k : Int)] (mup M 35 i v) (some (Iq (bI (tdB mem t (dN 1 (up (mem 35) i v)) k = true)))) M2 ∧ SM mem i M2 := by
  obtain ⟨⟨w, hw⟩, ho⟩ := h
  have e : mup M 35 i v 35 = up (mem 35) i v := by rw [mup_up, hw, up_up]
  have e42 : mup M 35 i v 42 = mem 42 := by rw [mup_other 42 (by omega)]; exact ho 42 (by omega) (by omega)
  have e43 : mup M 35 i v 43 = mem 43 := by rw [mup_other 43 (by omega)]; exact ho 43 (by omega) (by omega)
  have := ct_X4_isTold (S := S) (M := mup M 35 i v) (by rw [e]; exact hA) (by rw [e, up_ne (fun q => hi q.symm)]; omega) ht hk (by rw [e42]; exact hl)
  unfold tdB nmS at this
  rw [e, e42, e43] at this
  refine ⟨_, this, ⟨v, ?_⟩, fun o a b => ?_⟩
  · unfold cprow; rw [setR_ne _ _ (by omega), e]
  · unfold cprow; rw [setR_ne _ _ b, mup_other o a]; exact ho o a b
theorem tdB_c {m1 : Zm} {t k : Nat} (e42 : m1 42 = mem 42) (e43 : m1 43 = mem 43) : tdB m1 t B k = tdB mem t B k := by unfold tdB nmS; rw [e42, e43]
theorem pr_ckF {zx zm : MD} {f : Int} (h : IV D mem) (hD : D ≤ 1000000) (hf : f = ckV mem x1 x2) (hn : ¬ f = 0) (hx : fOX mem f → Ct1 S zx (Aq 0 :: [Iq x1, Iq x2]) mem (some (Iq f)) (fndx mem f)) (hm : ckV (fndx mem f) x1 x2 = f → fOK (fndx mem f) f → Ct1 S zm (Aq 34 :: [Iq x1, Iq x2]) (fndx mem f) (some (Iq f)) (fnds (fndx mem f) f)) : PR S D mem zx zm [Iq x1, Iq x2] := by
  have := ckV_in mem x1 x2
  refine prF h hD (f := f) (by omega) hx (hm ?_)
  rw [hf]
  exact ckV_c (mup_other 41 (by omega)) (by rw [show fndx mem (ckV mem x1 x2) 35 = mem 35 from mup_other 35 (by omega)])
theorem pr_sources (h : IV D mem) (hD : D ≤ 90000) : PR S D mem mX3_sources mX4_sources [Iq x1, Iq x2] := by
  have hD2 : D ≤ 90000 := hD
  have hD : D ≤ 1000000 := by omega
  have hd := h.d
  have hN := h.X.1.1
  have h0 := h.A.1
  have hnA := h.A.n
  by_cases c : ckV mem x1 x2 = 0
  · obtain ⟨c1, c2, c3, c4⟩ := ckV_0 c
    obtain ⟨t, ht, rfl⟩ := int_nat (x := x1) (n := 4) ⟨by omega, by omega⟩
    obtain ⟨k, hk, rfl⟩ := int_nat (x := x2) (n := 8) ⟨by omega, by omega⟩
    have ok : ∀ j : Nat, (j : Int) < mem 35 0 → OKA (up (mem 35) (12 + 14 * k + 2) (j : Int)) := fun j hj => h.A.st (by omega) (fun _ => rng2 hk (by omega))
    obtain ⟨P, eP⟩ : ∃ P : Nat → Bool, P = fun (j : Nat) => decide (¬ j = k) && tdB mem t (dN 1 (up (mem 35) (12 + 14 * k + 2) (j : Int))) k := ⟨_, rfl⟩
    have pk : P k = false := by rw [eP]; simp
    have pj : ∀ j, ¬ j = k → P j = tdB mem t (dN 1 (up (mem 35) (12 + 14 * k + 2) (j : Int))) k := fun j q => by rw [eP]; simp [q]
    obtain ⟨m1, a1, ago⟩ := loopE (fun Q j (M : Zm) => PW S mX3_sources Q 23 [some (Aq 0), some (Iq (t : Int)), some (Iq (k : Int)), some (Iq 0), some (Iq (sS P j)), some (Iq (j : Int))] [] M) (fun j M => Fr 8 mem M) (n := nA (mem 35)) (s0 := mem) Fr.rfl' (by
      intro j M hj b
      have e7 : M 1 7 = mem 1 7 := by rw [b 1 (by omega)]
      by_cases q : j = k
      · refine ⟨M, b, fun Q hq => rg_X3_sources_23 ⟨fun z => by omega, fun _ => ⟨fun _ => ⟨by omega, ?_⟩, fun z => by omega⟩⟩⟩
        rw [sS_f (by rw [q]; exact pk)] at hq
        exact hq
      · obtain ⟨m2, q1, q2⟩ := xt_asked (S := S) h hD2 b ht hk (w := 2) (by omega) (ok j (by omega))
        rw [← pj j q] at q1
        refine ⟨m2, q2, fun Q hq => rg_X3_sources_23 ⟨fun z => by omega, fun _ => ⟨fun z => by omega, fun _ => ⟨by omega, _, m2, q1, fun z => ⟨by omega, ?_⟩, fun z => ⟨by omega, ?_⟩⟩⟩⟩⟩
        · rw [sS_f (by cases w : P j; rfl; rw [bIt w] at z; exact absurd z (by decide))] at hq
          exact hq
        · rw [sS_t (by omega) (by cases w : P j; (rw [w] at z; exact absurd rfl z); rfl)]
          exact hq)
    have e35 : m1 35 = mem 35 := a1 35 (by omega)
    have e41 : m1 41 = mem 41 := a1 41 (by omega)
    have e42 : m1 42 = mem 42 := a1 42 (by omega)
    have e43 : m1 43 = mem 43 := a1 43 (by omega)
    have ei : (12 + 14 * (k : Int) + 2).toNat = 12 + 14 * k + 2 := by omega
    obtain ⟨m2, ⟨g1, g2⟩, ggo⟩ := loopE (fun Q j (M : Zm) => PW S mX4_sources Q 31 [some (Aq 34), some (Iq (t : Int)), some (Iq (k : Int)), some (Iq 0), some (Iq (mem 35 (12 + 14 * k + 2))), some (Iq (sS P j)), some (Iq (j : Int))] [] M) (fun j M => SM m1 (12 + 14 * k + 2) M ∧ M 35 0 = mem 35 0) (n := nA (mem 35)) (s0 := m1) ⟨SM.rf _, by rw [e35]⟩ (by
      intro j M hj ⟨b, b0⟩
      by_cases q : j = k
      · refine ⟨M, ⟨b, b0⟩, fun Q hq => rg_X4_sources_31 ⟨fun z => by omega, fun _ => ⟨fun _ => ⟨by omega, ?_⟩, fun z => by omega⟩⟩⟩
        rw [sS_f (by rw [q]; exact pk)] at hq
        exact hq
      · obtain ⟨m2, q1, q2⟩ := b.told (S := S) (by rw [e35]; exact ok j (by omega)) (by omega) (by rw [e35]; omega) ht hk (by rw [e42]; exact h.len ht)
        rw [e35, tdB_c e42 e43, ← pj j q] at q1
        refine ⟨m2, ⟨q2, ?_⟩, fun Q hq => rg_X4_sources_31 ⟨fun z => by omega, fun _ => ⟨fun z => by omega, fun _ => ⟨by omega, by omega, _, m2, ei ▸ q1, fun z => ⟨by omega, ?_⟩, fun z => ⟨by omega, ?_⟩⟩⟩⟩⟩
        · obtain ⟨⟨w, hw⟩, _⟩ := q2
          rw [hw, up_ne (by omega), e35]
        · rw [sS_f0 (by omega) (by cases w : P j; rfl; rw [bIt w] at z; exact absurd z (by decide))]
          exact hq
        · rw [sS_t (by omega) (by cases w : P j; (rw [w] at z; exact absurd rfl z); rfl)]
          exact hq)
    have bk := g1.back
    rw [e35] at bk
    have ck2 : Ct1 S mX4_wantsFor [Aq 34, Iq (t : Int), Iq (k : Int)] m1 (some (Iq 0)) m1 := by
      have := ct_X4_wantsFor (S := S) (mem := m1) (x1 := (t : Int)) (x2 := (k : Int))
      rw [ckV_c e41 (by rw [e35]), c] at this
      exact this
    have e7 : m1 1 7 = mem 1 7 := by rw [a1 1 (by omega)]
    refine prQ h (v := sS P (nA (mem 35))) (ct1I rfl (by decide) (Nat.le_of_ble_eq_true rfl) (rg_X3_sources_0 ⟨_, _, c ▸ xt_ck h, fun _ => ago _ (rg_X3_sources_23 ⟨fun _ => ⟨rfl, rfl⟩, fun z => by omega⟩), fun z => absurd rfl z⟩)) a1.vis8 (ct1I rfl (by decide) (Nat.le_of_ble_eq_true rfl) (rg_X4_sources_0 ⟨_, _, ck2, fun _ => ⟨by omega, ?_⟩, fun z => absurd rfl z⟩)) bk
    rw [e35, Int.toNat_natCast]
    exact ggo _ (rg_X4_sources_31 ⟨fun _ => ⟨by omega, by omega, rfl, by rw [ei]⟩, fun z => by omega⟩)
  · exact pr_ckF h hD rfl c (fun hfx => ct1I rfl (by decide) (Nat.le_of_ble_eq_true rfl) (rg_X3_sources_0 ⟨_, _, xt_ck h, fun z => absurd z c, fun _ => ⟨hfx, rfl, rfl⟩⟩)) (fun e hfm => ct1I rfl (by decide) (Nat.le_of_ble_eq_true rfl) (rg_X4_sources_0 ⟨_, _, e ▸ ct_X4_wantsFor, fun z => absurd z c, fun _ => ⟨hfm, rfl, rfl⟩⟩))
theorem pr_kinds (h : IV D mem) (hD : D ≤ 90000) : PR S D mem mX3_kinds mX4_kinds [Iq x1, Iq x2] := by
  have hD2 : D ≤ 90000 := hD
  have hD : D ≤ 1000000 := by omega
  have hd := h.d
  have hN := h.X.1.1
  have h0 := h.A.1
  have hnA := h.A.n
  by_cases c : ckV mem x1 x2 = 0
  · obtain ⟨c1, c2, c3, c4⟩ := ckV_0 c
    obtain ⟨t, ht, rfl⟩ := int_nat (x := x1) (n := 4) ⟨by omega, by omega⟩
    obtain ⟨k, hk, rfl⟩ := int_nat (x := x2) (n := 8) ⟨by omega, by omega⟩
    have ok : ∀ j : Nat, j < 7 → OKA (up (mem 35) (12 + 14 * k + 0) (j : Int)) := fun j hj => h.A.st (by omega) (fun _ => rng0 hk (by omega))
    obtain ⟨P, eP⟩ : ∃ P : Nat → Bool, P = fun (j : Nat) => tdB mem t (dN 1 (up (mem 35) (12 + 14 * k + 0) (j : Int))) k := ⟨_, rfl⟩
    have pj : ∀ j, P j = tdB mem t (dN 1 (up (mem 35) (12 + 14 * k + 0) (j : Int))) k := fun j => by rw [eP]
    obtain ⟨m1, a1, ago⟩ := loopE (fun Q j (M : Zm) => PW S mX3_kinds Q 23 [some (Aq 0), some (Iq (t : Int)), some (Iq (k : Int)), some (Iq 0), some (Iq (sS P j)), some (Iq (j : Int))] [] M) (fun j M => Fr 8 mem M) (n := 7) (s0 := mem) Fr.rfl' (by
      intro j M hj b
      obtain ⟨m2, q1, q2⟩ := xt_asked (S := S) h hD2 b ht hk (w := 0) (by omega) (ok j (by omega))
      rw [← pj j] at q1
      refine ⟨m2, q2, fun Q hq => rg_X3_kinds_23 ⟨fun z => by omega, fun _ => ⟨by omega, _, m2, q1, fun z => ⟨by omega, ?_⟩, fun z => ⟨by omega, ?_⟩⟩⟩⟩
      · rw [sS_f (by cases w : P j; rfl; rw [bIt w] at z; exact absurd z (by decide))] at hq
        exact hq
      · rw [sS_t (by omega) (by cases w : P j; (rw [w] at z; exact absurd rfl z); rfl)]
        exact hq)
    have e35 : m1 35 = mem 35 := a1 35 (by omega)
    have e41 : m1 41 = mem 41 := a1 41 (by omega)
    have e42 : m1 42 = mem 42 := a1 42 (by omega)
    have e43 : m1 43 = mem 43 := a1 43 (by omega)
    have ei : (12 + 14 * (k : Int) + 0).toNat = 12 + 14 * k + 0 := by omega
    obtain ⟨m2, g1, ggo⟩ := loopE (fun Q j (M : Zm) => PW S mX4_kinds Q 31 [some (Aq 34), some (Iq (t : Int)), some (Iq (k : Int)), some (Iq 0), some (Iq (mem 35 (12 + 14 * k))), some (Iq (sS P j)), some (Iq (j : Int))] [] M) (fun j M => SM m1 (12 + 14 * k + 0) M) (n := 7) (s0 := m1) (SM.rf _) (by
      intro j M hj b
      obtain ⟨m2, q1, q2⟩ := b.told (S := S) (by rw [e35]; exact ok j (by omega)) (by omega) (by rw [e35]; omega) ht hk (by rw [e42]; exact h.len ht)
      rw [e35, tdB_c e42 e43, ← pj j] at q1
      refine ⟨m2, q2, fun Q hq => rg_X4_kinds_31 ⟨fun z => by omega, fun _ => ⟨by omega, by omega, _, m2, ei ▸ q1, fun z => ⟨by omega, ?_⟩, fun z => ⟨by omega, ?_⟩⟩⟩⟩
      · rw [sS_f0 (by omega) (by cases w : P j; rfl; rw [bIt w] at z; exact absurd z (by decide))]
        exact hq
      · rw [sS_t (by omega) (by cases w : P j; (rw [w] at z; exact absurd rfl z); rfl)]
        exact hq)
    have bk := g1.back
    rw [e35] at bk
    have ck2 : Ct1 S mX4_wantsFor [Aq 34, Iq (t : Int), Iq (k : Int)] m1 (some (Iq 0)) m1 := by
      have := ct_X4_wantsFor (S := S) (mem := m1) (x1 := (t : Int)) (x2 := (k : Int))
      rw [ckV_c e41 (by rw [e35]), c] at this
      exact this
    refine prQ h (v := sS P 7) (ct1I rfl (by decide) (Nat.le_of_ble_eq_true rfl) (rg_X3_kinds_0 ⟨_, _, c ▸ xt_ck h, fun _ => ago _ (rg_X3_kinds_23 ⟨fun _ => ⟨rfl, rfl⟩, fun z => by omega⟩), fun z => absurd rfl z⟩)) a1.vis8 (ct1I rfl (by decide) (Nat.le_of_ble_eq_true rfl) (rg_X4_kinds_0 ⟨_, _, ck2, fun _ => ⟨by omega, ?_⟩, fun z => absurd rfl z⟩)) bk
    rw [e35, Int.toNat_natCast]
    exact ggo _ (rg_X4_kinds_31 ⟨fun _ => ⟨by omega, by omega, rfl, by rw [ei]; rfl⟩, fun z => by omega⟩)
  · exact pr_ckF h hD rfl c (fun hfx => ct1I rfl (by decide) (Nat.le_of_ble_eq_true rfl) (rg_X3_kinds_0 ⟨_, _, xt_ck h, fun z => absurd z c, fun _ => ⟨hfx, rfl, rfl⟩⟩)) (fun e hfm => ct1I rfl (by decide) (Nat.le_of_ble_eq_true rfl) (rg_X4_kinds_0 ⟨_, _, e ▸ ct_X4_wantsFor, fun z => absurd z c, fun _ => ⟨hfm, rfl, rfl⟩⟩))
end P9

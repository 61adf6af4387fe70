/-! ===== the class's side: a day ===== -/
def wrB (A : Nat → Int) (c k : Nat) : Bool := decide (¬ A (12 + 14 * c + (6 + k)) = A (4 + k) ∧ ¬ A (12 + 14 * c + (6 + k)) = -1)
def wrV (A : Nat → Int) (c k : Nat) : Bool := decide (¬ anV A c k = A (4 + k) ∧ ¬ anV A c k = -1)
def gdV (A : Nat → Int) (c k : Nat) : Bool := decide (anV A c k = A (4 + k))
/-- what is noted of the first n children -/
def WG (mem : Zm) (r : Nat) (A : Nat → Int) (n : Nat) : Prop := ∀ j, j < n → mem (r + 5) j = sS (wrB A j) 8 ∧ mem (r + 6) j = cnt (gdB A j) 8
/-- the room's memory while a child writes -/
def wm (mem : Zm) (r : Nat) (A : Nat → Int) (c : Nat) : Nat → Zm
  | 0 => mem
  | n + 1 => mup (wm mem r A c n) (r + 3) (8 * c + n) (anV A c n)
theorem wm_X {mem : Zm} {r : Nat} {A : Nat → Int} (h : XR mem r A) {c : Nat} (hc : c < 8) : ∀ n, n ≤ 8 → XR (wm mem r A c n) r (w1 A c n) := by
  intro n
  induction n with
  | zero => intro _; exact h
  | succ n ih => intro hn; exact (ih (by omega)).ans hc (by omega) _
theorem wm_o {mem : Zm} {r : Nat} {A : Nat → Int} {c : Nat} : ∀ n o, o ≠ r + 3 → wm mem r A c n o = mem o := by
  intro n
  induction n with
  | zero => intro o _; rfl
  | succ n ih => intro o ho; show mup _ _ _ _ o = _; rw [mup_other o ho, ih o ho]
section RD
variable {S : Sx} {mem : Zm} {r : Nat} {A : Nat → Int}
theorem wA_right {A : Nat → Int} {c k : Nat} (hk : k < 8) : wA A c (4 + k) = A (4 + k) := by
  unfold wA pyA
  split
  · rw [up_ne (by omega), up_ne (by omega), w1_other (by omega)]
  · rw [w1_other (by omega)]
theorem wA_ans {A : Nat → Int} {c j k : Nat} (hk : k < 8) : wA A c (12 + 14 * j + (6 + k)) = if j = c then anV A c k else A (12 + 14 * j + (6 + k)) := by
  have e : w1 A c 8 (12 + 14 * j + (6 + k)) = if j = c then anV A c k else A (12 + 14 * j + (6 + k)) := by
    by_cases h : j = c
    · rw [if_pos h, h, w1_at hk]
    · rw [if_neg h, w1_other (by omega)]
  unfold wA pyA
  split
  · rw [up_ne (by omega), up_ne (by omega), e]
  · exact e
theorem xt_write (hr : isRoom r) (hX : XR mem r A) (hA : OKA A) {c : Nat} (hc : (c : Int) < A 0) (hw : WG mem r A c) : ∃ m2, Ct1 S mX0_writeAnswers [Aq r, Iq (c : Int)] mem none m2 ∧ XR m2 r (wA A c) ∧ WG m2 r (wA A c) (c + 1) ∧ Fr r mem m2 := by
  have h0 := hA.1
  have hc8 : c < 8 := by omega
  have hk0 := hA.c0 hc
  have hk1 := hA.c1 hc
  have h2 := hA.c2 hc
  have h4 := hA.c4 hc
  have hd := hA.day
  have hOK1 := w1_ok hA hc 8 (by omega)
  -- the loop, for every end
  have loop : ∀ Q, PW S mX0_writeAnswers Q 22 [some (Aq r), some (Iq (c : Int)), some (Iq (if cpP A c = true then A (12 + 14 * c + 2) else -1)), some (Iq (A (12 + 14 * c + 1))), some (Iq (sS (wrV A c) 8)), some (Iq (cnt (gdV A c) 8)), some (Iq 8), none] [] (wm mem r A c 8) → PW S mX0_writeAnswers Q 22 [some (Aq r), some (Iq (c : Int)), some (Iq (if cpP A c = true then A (12 + 14 * c + 2) else -1)), some (Iq (A (12 + 14 * c + 1))), some (Iq 0), some (Iq 0), some (Iq 0), none] [] mem := by
    intro Q hend
    refine loopN (n := 8) (P := fun i => PW S mX0_writeAnswers Q 22 [some (Aq r), some (Iq (c : Int)), some (Iq (if cpP A c = true then A (12 + 14 * c + 2) else -1)), some (Iq (A (12 + 14 * c + 1))), some (Iq (sS (wrV A c) i)), some (Iq (cnt (gdV A c) i)), some (Iq (i : Int)), none] [] (wm mem r A c i)) hend ?_ 0 (by omega)
    intro i hi ih
    have hXi := wm_X hX hc8 i (by omega)
    have er : wm mem r A c i (r + 1) i = A (4 + i) := by rw [hXi.r hi, w1_other (by omega)]
    have ed : wm mem r A c i r 8 = A 1 := by rw [hXi.1.2.1, w1_other (by omega)]
    have ek : wm mem r A c i (r + 2) (6 * c) = A (12 + 14 * c) := by rw [hXi.f0 hc8, w1_other (by omega)]
    have hrt := hA.rt hi
    have hcn := cnt_le (gdV A c) i
    have hbit := inS_shr (s := A (12 + 14 * c + 1)) (k := i) (by omega) hi
    have ix : ((c : Int) * 8 + (i : Int)).toNat = 8 * c + i := by omega
    have emr : ∀ v : Int, mup (wm mem r A c i) (r + 3) (8 * c + i) v (r + 1) i = A (4 + i) := fun v => by rw [mup_ne (by omega)]; exact er
    -- what the next turn asks, by the answer
    have nxt : ∀ a : Int, a = anV A c i → (a = A (4 + i) → PW S mX0_writeAnswers Q 22 [some (Aq r), some (Iq (c : Int)), some (Iq (if cpP A c = true then A (12 + 14 * c + 2) else -1)), some (Iq (A (12 + 14 * c + 1))), some (Iq (sS (wrV A c) i)), some (Iq (cnt (gdV A c) i + 1)), some (Iq ((i : Int) + 1)), none] [] (mup (wm mem r A c i) (r + 3) (8 * c + i) a)) ∧ (¬ a = A (4 + i) → a = -1 → PW S mX0_writeAnswers Q 22 [some (Aq r), some (Iq (c : Int)), some (Iq (if cpP A c = true then A (12 + 14 * c + 2) else -1)), some (Iq (A (12 + 14 * c + 1))), some (Iq (sS (wrV A c) i)), some (Iq (cnt (gdV A c) i)), some (Iq ((i : Int) + 1)), none] [] (mup (wm mem r A c i) (r + 3) (8 * c + i) a)) ∧ (¬ a = A (4 + i) → ¬ a = -1 → PW S mX0_writeAnswers Q 22 [some (Aq r), some (Iq (c : Int)), some (Iq (if cpP A c = true then A (12 + 14 * c + 2) else -1)), some (Iq (A (12 + 14 * c + 1))), some (Iq (bOr (sS (wrV A c) i) (bShl 1 (i : Int)))), some (Iq (cnt (gdV A c) i)), some (Iq ((i : Int) + 1)), none] [] (mup (wm mem r A c i) (r + 3) (8 * c + i) a)) := by
      rintro a rfl
      refine ⟨fun q => ?_, fun q q2 => ?_, fun q q2 => ?_⟩
      · have e1 : cnt (gdV A c) (i + 1) = cnt (gdV A c) i + 1 := if_pos (decide_eq_true q)
        have e2 : sS (wrV A c) (i + 1) = sS (wrV A c) i := sS_f (decide_eq_false (fun z => z.1 q))
        rw [← e1, ← e2]
        exact ih
      · have e1 : cnt (gdV A c) (i + 1) = cnt (gdV A c) i := if_neg (fun z => q (of_decide_eq_true z))
        have e2 : sS (wrV A c) (i + 1) = sS (wrV A c) i := sS_f (decide_eq_false (fun z => z.2 q2))
        rw [← e1, ← e2]
        exact ih
      · have e1 : cnt (gdV A c) (i + 1) = cnt (gdV A c) i := if_neg (fun z => q (of_decide_eq_true z))
        rw [sS_t hi (show wrV A c i = true from decide_eq_true ⟨q, q2⟩), ← e1]
        exact ih
    refine rg_X0_writeAnswers_22 hr ⟨fun q => by omega, fun q => ?_⟩
    rw [Int.toNat_natCast, Int.toNat_natCast, ix, er, ed, ek, emr, emr, emr]
    refine ⟨fun b => ?_, fun b => ⟨fun s => ?_, fun s => ?_⟩⟩
    · have ea : A (4 + i) = anV A c i := (if_pos (hbit.mp b)).symm
      obtain ⟨n1, n2, n3⟩ := nxt _ ea
      exact ⟨by omega, by omega, by omega, by omega, by omega, fun z => ⟨by omega, by omega, n1 z⟩, fun z => absurd rfl z⟩
    · have hcp : ¬ cpP A c = true := fun z => by
        rw [if_pos z] at s
        have := cpP_f z
        omega
      have ea : -1 = anV A c i := ((if_neg (fun z => b (hbit.mpr z))).trans (if_neg hcp)).symm
      obtain ⟨n1, n2, n3⟩ := nxt _ ea
      exact ⟨by omega, by omega, by omega, by omega, fun z => by omega, fun z => ⟨by omega, n2 z rfl⟩⟩
    · have hcp : cpP A c = true := by
        cases hq : cpP A c with
        | true => rfl
        | false => rw [hq] at s; exact absurd rfl s
      have hf := frm_lt hA hc (cpP_f hcp)
      have e3 : A (12 + 14 * c + 2) = ((frm A c : Nat) : Int) := by unfold frm; have := cpP_f hcp; omega
      have es : (if cpP A c = true then A (12 + 14 * c + 2) else -1) = ((frm A c : Nat) : Int) := by rw [if_pos hcp]; exact e3
      have ef : wm mem r A c i (r + 3) (8 * frm A c + i) = A (12 + 14 * frm A c + (6 + i)) := by rw [hXi.a hf.2 hi, w1_other (by omega)]
      have han := hA.an hf.1 hi
      have ea : slipV (A (12 + 14 * c)) (A 1) (i : Int) (A (12 + 14 * frm A c + (6 + i))) = anV A c i := ((if_neg (fun z => b (hbit.mpr z))).trans (if_pos hcp)).symm
      obtain ⟨n1, n2, n3⟩ := nxt _ ea
      rw [es] at n1 n2 n3 ⊢
      rw [Int.toNat_natCast, ef]
      exact ⟨by omega, by omega, by omega, by omega, by omega, by omega, fun z => ⟨by omega, by omega, n1 z⟩, fun z => ⟨fun z2 => ⟨by omega, n2 z z2⟩, fun z2 => ⟨by omega, n3 z z2⟩⟩⟩
  -- what is noted
  have hX8 := wm_X hX hc8 8 (by omega)
  have note : ∀ m2 : Zm, (∀ j, m2 (r + 5) j = mup (mup (wm mem r A c 8) (r + 5) c (sS (wrV A c) 8)) (r + 6) c (cnt (gdV A c) 8) (r + 5) j) → (∀ j, m2 (r + 6) j = mup (mup (wm mem r A c 8) (r + 5) c (sS (wrV A c) 8)) (r + 6) c (cnt (gdV A c) 8) (r + 6) j) → WG m2 r (wA A c) (c + 1) := by
    intro m2 g5 g6 j hj
    by_cases hjc : j = c
    · subst hjc
      refine ⟨?_, ?_⟩
      · rw [g5, mup_ne (by omega), mup_at]
        exact sS_congr (fun k hk => by unfold wrV wrB; rw [wA_ans hk, if_pos rfl, wA_right hk])
      · rw [g6, mup_at]
        exact cnt_congr (fun k hk => by unfold gdV gdB; rw [wA_ans hk, if_pos rfl, wA_right hk])
    · obtain ⟨o5, o6⟩ := hw j (by omega)
      refine ⟨?_, ?_⟩
      · rw [g5, mup_ne (by omega), mup_ne (by omega), wm_o _ _ (by omega), o5]
        exact sS_congr (fun k hk => by unfold wrB; rw [wA_ans hk, if_neg hjc, wA_right hk])
      · rw [g6, mup_ne (by omega), mup_ne (by omega), wm_o _ _ (by omega), o6]
        exact cnt_congr (fun k hk => by unfold gdB; rw [wA_ans hk, if_neg hjc, wA_right hk])
  have hX9 : XR (mup (mup (wm mem r A c 8) (r + 5) c (sS (wrV A c) 8)) (r + 6) c (cnt (gdV A c) 8)) r (w1 A c 8) := hX8.other (fun o h1 h2 => by rw [mup_other o (by omega), mup_other o (by omega)])
  have hF9 : Fr r mem (mup (mup (wm mem r A c 8) (r + 5) c (sS (wrV A c) 8)) (r + 6) c (cnt (gdV A c) 8)) := fun o ho => by rw [mup_other o (by omega), mup_other o (by omega), wm_o _ _ (by omega)]
  have ekn : mem (r + 2) (6 * c + 1) = A (12 + 14 * c + 1) := hX.f hc8 (by omega)
  by_cases hcp : cpP A c = true
  · have hf := frm_lt hA hc (cpP_f hcp)
    have e3 : A (12 + 14 * c + 2) = ((frm A c : Nat) : Int) := by unfold frm; have := cpP_f hcp; omega
    have e0 : w1 A c 8 (12 + 14 * c) = A (12 + 14 * c) := w1_other (by omega)
    have e4 : w1 A c 8 (12 + 14 * c + 4) = A (12 + 14 * c + 4) := w1_other (by omega)
    obtain ⟨m2, k1, k2, k3⟩ := xt_pay (S := S) hr hX9 hOK1.1 (c := c) (f := frm A c) (by rw [hOK1.2]; exact hc) (by rw [hOK1.2]; exact hf.1) (by rw [e0, e4]; exact (of_decide_eq_true hcp).2.2)
    refine ⟨m2, ct1V rfl (by decide) (Nat.le_of_ble_eq_true rfl) (rg_X0_writeAnswers_0 hr ⟨_, _, xt_source hr hX hA hc, by omega, ?_⟩), ?_, note m2 (fun j => by rw [k3 _ (by omega)]) (fun j => by rw [k3 _ (by omega)]), fun o ho => by rw [k3 o (by omega)]; exact hF9 o ho⟩
    · rw [Int.toNat_natCast, ekn]
      refine loop _ (rg_X0_writeAnswers_22 hr ⟨fun _ => ⟨by omega, by omega, fun s => ?_, fun s => ⟨m2, ?_, rfl, rfl⟩⟩, fun z => absurd (by decide) z⟩)
      · rw [if_pos hcp] at s
        have := cpP_f hcp
        omega
      · rw [if_pos hcp, e3, Int.toNat_natCast]
        exact k1
    · have ew : wA A c = pyA (w1 A c 8) c (frm A c) (payV (A (12 + 14 * c))) := if_pos hcp
      rw [ew]
      rw [e0] at k2
      exact k2
  · refine ⟨_, ct1V rfl (by decide) (Nat.le_of_ble_eq_true rfl) (rg_X0_writeAnswers_0 hr ⟨_, _, xt_source hr hX hA hc, by omega, ?_⟩), ?_, note _ (fun j => rfl) (fun j => rfl), hF9⟩
    · rw [Int.toNat_natCast, ekn]
      exact loop _ (rg_X0_writeAnswers_22 hr ⟨fun _ => ⟨by omega, by omega, fun s => ⟨rfl, rfl⟩, fun s => absurd (if_neg hcp) s⟩, fun z => absurd (by decide) z⟩)
    · have ew : wA A c = w1 A c 8 := if_neg hcp
      rw [ew]
      exact hX9
end RD

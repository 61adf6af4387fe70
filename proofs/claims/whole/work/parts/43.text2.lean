/-! ===== pair: text ===== -/
section T7
variable {S : Sx} {D : Int} {mem M : Zm} {L : Nat} {T : Nat → Int} {A A0 : Nat → Int}
theorem cp_37 {X : Zm} (h1 : ∀ i, i < 134 → X 37 i = A0 i) (h2 : ∀ i, 134 ≤ i → X 35 i = A0 i) : cprow X 37 35 35 = A0 := by
  unfold cprow
  rw [setR_at]
  funext k
  split
  · exact h1 k (by assumption)
  · exact h2 k (by omega)
theorem ms_text (hT : okT L T) : ∀ (f : Nat) (A : Nat → Int) (p : Nat) (n : Int) (M : Zm), p ≤ L → L < p + f → KA A0 A → 1 ≤ n → n + f ≤ 1000 → Ms L T M A p → (∀ i, i < 134 → M 37 i = A0 i) → ∃ v m1 m2, Ct1 S mX4_itemHere [Aq 34] M (some (Iq v)) m1 ∧ PW S mX4_text (fun r m => r = some (Iq (txS L T f A p n).1) ∧ m = m2) 27 [some (Aq 34), some (Iq n), some (Iq v)] [] m1 ∧ m2 35 = (if 0 ≤ (txS L T f A p n).1 then (txS L T f A p n).2 else A0) ∧ m2 34 7 = 0 ∧ m2 34 4 = M 34 4 ∧ ∀ o, o ≠ 34 → o ≠ 35 → m2 o = M o := by
  have hl := hT.1
  intro f
  induction f with
  | zero => intro A p n M hp h; omega
  | succ f ih =>
    intro A p n M hp hf hA hn hnf hX h37
    obtain ⟨k1, k2, k3⟩ := it_ok hT hp hA
    obtain ⟨m1, a1, a2, a3, a5⟩ := ms_item (S := S) hT hp hA hX
    have e : txS L T (f + 1) A p n = if (itS L T A p).1 = false then (-1 - ((itS L T A p).2.2 : Int), A) else if tkS L T (itS L T A p).2.2 = 0 then (n, (itS L T A p).2.1) else if tkS L T (itS L T A p).2.2 = 3 then txS L T f (itS L T A p).2.1 (nx L T (itS L T A p).2.2) (n + 1) else (-1 - ((itS L T A p).2.2 : Int), A) := rfl
    obtain ⟨r, er⟩ : ∃ r, r = itS L T A p := ⟨_, rfl⟩
    rw [← er] at e k1 k2 k3 a1 a2 a5
    have e13 : m1 34 13 = tkS L T r.2.2 := a2.1.2.1
    have e14 : m1 34 14 = (r.2.2 : Int) := a2.1.2.2.1
    have m37 : m1 37 = M 37 := a3.1 37 (by omega) (by omega)
    have m4 : m1 34 4 = M 34 4 := a3.2 4 (by omega)
    rw [e]
    cases q : r.1
    · rw [if_pos rfl]
      rw [q] at a1
      have e17 := a5 q
      have b17 : cprow (mup m1 34 7 0) 37 35 34 17 = (r.2.2 : Int) := by unfold cprow; rw [setR_ne _ _ (by omega), mup_ne (by omega)]; exact e17
      refine ⟨_, m1, cprow (mup m1 34 7 0) 37 35, a1, rg_X4_text_27 ?_, ?_, ?_, ?_, fun o x y => ?_⟩
      · rw [b17, e13, bIf (by decide)]
        exact ⟨fun _ => ⟨fun _ => ⟨by omega, rfl, rfl⟩, fun z => absurd rfl z⟩, fun z => absurd rfl z⟩
      · rw [if_neg (show ¬ (0 : Int) ≤ -1 - (r.2.2 : Int) by omega)]
        exact cp_37 (fun i hi => by rw [mup_other 37 (by omega), m37]; exact h37 i hi) (fun i hi => by rw [mup_other 35 (by omega), a2.2]; exact k1.2.2 i hi)
      · unfold cprow; rw [setR_ne _ _ (by omega), mup_at]
      · unfold cprow; rw [setR_ne _ _ (by omega), mup_ne (by omega)]; exact m4
      · unfold cprow; rw [setR_ne _ _ y, mup_other o x]; exact a3.1 o x y
    · rw [if_neg (by decide)]
      rw [q] at a1
      by_cases c0 : tkS L T r.2.2 = 0
      · rw [if_pos c0]
        refine ⟨_, m1, mup m1 34 7 0, a1, rg_X4_text_27 ?_, ?_, mup_at _ _ _ _, by rw [mup_ne (by omega)]; exact m4, fun o x y => by rw [mup_other o x]; exact a3.1 o x y⟩
        · rw [e13, c0, bIt rfl]
          exact ⟨fun z => absurd z (by decide), fun _ => ⟨fun z => absurd z (by decide), fun _ => ⟨fun z => absurd z (by decide), fun _ => ⟨fun _ => ⟨rfl, rfl⟩, fun z => absurd rfl z⟩⟩⟩⟩
        · rw [if_pos (show (0 : Int) ≤ n by omega), mup_other 35 (by omega)]; exact a2.2
      · rw [if_neg c0]
        by_cases c3 : tkS L T r.2.2 = 3
        · rw [if_pos c3]
          obtain ⟨m2, b1, b2, b3⟩ := ms_next (S := S) hT k3 a2
          have g := nx_3 hT k3 c3
          obtain ⟨v, m5, m6, d1, d2, d3, d4, d5, d6⟩ := ih r.2.1 (nx L T r.2.2) (n + 1) m2 (nx_in hT k3).2 (by omega) k1 (by omega) (by omega) b2 (fun i hi => by rw [b3.1 37 (by omega) (by omega), m37]; exact h37 i hi)
          refine ⟨_, m1, m6, a1, rg_X4_text_27 ?_, d3, d4, by rw [d5, b3.2 4 (by omega)]; exact m4, fun o x y => by rw [d6 o x y, b3.1 o x y]; exact a3.1 o x y⟩
          rw [e13, c3, bIt rfl]
          exact ⟨fun z => absurd z (by decide), fun _ => ⟨fun _ => ⟨m2, b1, v, m5, d1, by omega, d2⟩, fun z => absurd rfl z⟩⟩
        · rw [if_neg c3]
          have b17 : cprow (mup (mup m1 34 17 (m1 34 14)) 34 7 0) 37 35 34 17 = (r.2.2 : Int) := by unfold cprow; rw [setR_ne _ _ (by omega), mup_ne (by omega), mup_at]; exact e14
          refine ⟨_, m1, cprow (mup (mup m1 34 17 (m1 34 14)) 34 7 0) 37 35, a1, rg_X4_text_27 ?_, ?_, ?_, ?_, fun o x y => ?_⟩
          · rw [b17, e13, bIt rfl]
            exact ⟨fun z => absurd z (by decide), fun _ => ⟨fun z => absurd z c3, fun _ => ⟨fun z => absurd z (by decide), fun _ => ⟨fun z => absurd z c0, fun _ => ⟨by omega, rfl, rfl⟩⟩⟩⟩⟩
          · rw [if_neg (show ¬ (0 : Int) ≤ -1 - (r.2.2 : Int) by omega)]
            exact cp_37 (fun i hi => by rw [mup_other 37 (by omega), mup_other 37 (by omega), m37]; exact h37 i hi) (fun i hi => by rw [mup_other 35 (by omega), mup_other 35 (by omega), a2.2]; exact k1.2.2 i hi)
          · unfold cprow; rw [setR_ne _ _ (by omega), mup_at]
          · unfold cprow; rw [setR_ne _ _ (by omega), mup_ne (by omega), mup_ne (by omega)]; exact m4
          · unfold cprow; rw [setR_ne _ _ y, mup_other o x, mup_other o x]; exact a3.1 o x y
theorem pr_text (h : IV D mem) (hD : D ≤ 90000) : PR S D mem mX3_text mX4_text [] := by
  have hD2 : D ≤ 90000 := hD
  have hd := h.d
  obtain ⟨t1, t2⟩ := h.2.2.1
  obtain ⟨r1, r2⟩ := h.2.2.2.2.2.2.2.2.1
  obtain ⟨L, hL, eL⟩ := int_nat (x := mem 34 7) (n := 121) ⟨r1.1, by omega⟩
  have hT : okT L (mem 40) := ⟨by omega, fun i hi => r2 i (by omega)⟩
  have hA : KA (mem 35) (mem 35) := ⟨h.A, rfl, fun _ _ => rfl⟩
  obtain ⟨p1, p2, _⟩ := tkP_spec hT (b := 0) (by omega)
  -- the reader
  obtain ⟨m1, k1, k2, k3⟩ := xt_become (S := S) (r := 8) (r1 := 1) isR8 isR1 (by decide) h.X
  have tx : TX L (mem 40) (mup m1 22 3 0) := by
    refine ⟨by rw [mup_ne (by omega), k3 22 (by omega), t1]; exact eL, fun i hi => ?_⟩
    rw [mup_other 23 (by omega), k3 23 (by omega)]
    exact t2 i (by omega)
  obtain ⟨m2, a1, a2, a3⟩ := xt_next (S := S) hT tx (b := 0) (by omega) (mup_at _ _ _ _)
  have xs : Xs L (mem 40) m2 (mem 35) (tkP L (mem 40) 0) := ⟨a2, k2.other (fun o x y => by rw [a3 o (by omega), mup_other o (by omega)])⟩
  obtain ⟨m3, b1, b2, b3⟩ := xs_text (S := S) (A0 := mem 35) hT 121 (mem 35) (tkP L (mem 40) 0) 1 m2 p2 (by omega) hA (by omega) (by omega) xs
  have cr : Ct1 S mX2_readInto [Aq 22, Aq 8] m1 (some (Iq (txS L (mem 40) 121 (mem 35) (tkP L (mem 40) 0) ((1 : Nat) : Int)).1)) m3 := ct1I rfl (by decide) (Nat.le_of_ble_eq_true rfl) (rg_X2_readInto_0 isR8 ⟨m2, a1, b1⟩)
  have fr : ∀ o, o ≠ 22 → ¬ (8 ≤ o ∧ o ≤ 14) → m3 o = mem o := fun o x y => by rw [b2 o x y, a3 o x, mup_other o x]; exact k3 o (by omega)
  have ok := tx_ok (A0 := mem 35) hT 121 (mem 35) (tkP L (mem 40) 0) ((1 : Nat) : Int) p2 (by omega) hA (by omega)
  obtain ⟨res, eres⟩ : ∃ res, res = txS L (mem 40) 121 (mem 35) (tkP L (mem 40) 0) ((1 : Nat) : Int) := ⟨_, rfl⟩
  rw [← eres] at cr ok b3
  -- the model, from a memory that shows the same
  have mo : ∀ m : Zm, (∀ o, (o = 34 ∨ o = 35 ∨ o = 40) → m o = mem o) → ∃ m9, Ct1 S mX4_text [Aq 34] m (some (Iq res.1)) m9 ∧ m9 35 = (if 0 ≤ res.1 then res.2 else mem 35) ∧ m9 34 7 = 0 ∧ m9 34 4 = mem 34 4 ∧ ∀ o, o ≠ 34 → o ≠ 35 → o ≠ 37 → m9 o = m o := by
    intro m hm
    have e35 : m 35 = mem 35 := hm 35 (by omega)
    have tm : TM L (mem 40) (mup (cprow m 35 37) 34 15 0) := by
      refine ⟨?_, fun i hi => ?_⟩
      · rw [mup_ne (by omega)]; unfold cprow; rw [setR_ne _ _ (by omega), hm 34 (by omega)]; exact eL
      · rw [mup_other 40 (by omega)]; unfold cprow; rw [setR_ne _ _ (by omega), hm 40 (by omega)]
    obtain ⟨m4, c1, c2, c3, c4⟩ := ct_X4_next (S := S) hT tm (b := 0) (by omega) (mup_at _ _ _ _)
    have ms : Ms L (mem 40) m4 (mem 35) (tkP L (mem 40) 0) := ⟨c2, by rw [c3 35 (by omega), mup_other 35 (by omega)]; unfold cprow; rw [setR_ne _ _ (by omega)]; exact e35⟩
    obtain ⟨v, m5, m6, d1, d2, d3, d4, d5, d6⟩ := ms_text (S := S) (A0 := mem 35) hT 121 (mem 35) (tkP L (mem 40) 0) ((1 : Nat) : Int) m4 p2 (by omega) hA (by omega) (by omega) ms (fun i hi => by rw [c3 37 (by omega), mup_other 37 (by omega)]; unfold cprow; rw [setR_at, if_pos hi, e35])
    rw [← eres] at d2 d3
    refine ⟨m6, ct1I rfl (by decide) (Nat.le_of_ble_eq_true rfl) (rg_X4_text_0 ⟨m4, c1, v, m5, d1, d2⟩), d3, d4, ?_, fun o x y z => ?_⟩
    · rw [d5, c4 4 (by omega), mup_ne (by omega)]; unfold cprow; rw [setR_ne _ _ (by omega), hm 34 (by omega)]
    · rw [d6 o x y, c3 o x, mup_other o x]; unfold cprow; rw [setR_ne _ _ z]
  rcases ok with ⟨o1, o2⟩ | ⟨o1, o2⟩
  · obtain ⟨m9, e1, e2, e3, e4, e5⟩ := mo (mup m3 22 1 0) (fun o ho => by rw [mup_other o (by omega)]; exact fr o (by omega) (by omega))
    rw [if_neg (by omega)] at e2
    refine ⟨res.1, mup m3 22 1 0, m9, ct1I rfl (by decide) (Nat.le_of_ble_eq_true rfl) (rg_X3_text_0 ⟨m1, k1, _, m3, cr, fun _ => ⟨rfl, rfl⟩, fun z => by omega⟩), e1, ?_⟩
    have vis2 : ∀ o, vis o → o ≠ 22 → o ≠ 34 → m9 o = mem o := fun o hv x y => by
      by_cases q : o = 35
      · rw [q]; exact e2
      · rw [e5 o y q (by unfold vis at hv; omega), mup_other o x]; exact fr o x (by unfold vis at hv; omega)
    refine h.tape (by omega) ?_ (fun k hk => ?_) (by rw [e3]; omega) (fun k hk => ?_) e4 (fun o a b c d e => vis2 o a b d)
    · rw [e3, e5 22 (by omega) (by omega) (by omega), mup_at]
    · rw [e3] at hk; omega
    · rw [e3] at hk; omega
  · obtain ⟨m7, f1, f2, f3⟩ := xt_become (S := S) (r := 1) (r1 := 8) isR1 isR8 (by decide) (b3 o1)
    obtain ⟨m9, e1, e2, e3, e4, e5⟩ := mo (mup m7 22 1 0) (fun o ho => by rw [mup_other o (by omega), f3 o (by omega)]; exact fr o (by omega) (by omega))
    rw [if_pos o1] at e2
    refine ⟨res.1, mup m7 22 1 0, m9, ct1I rfl (by decide) (Nat.le_of_ble_eq_true rfl) (rg_X3_text_0 ⟨m1, k1, _, m3, cr, fun z => by omega, fun _ => ⟨m7, f1, rfl, rfl⟩⟩), e1, ?_⟩
    have hp : IV (D + 60) (setR (setR m9 22 (mem 22)) 34 (mem 34)) := by
      refine IV.put h (A := res.2) (f2.other (fun o x y => ?_)) ?_ (fun o hv x y => ?_) o2.1 (by rw [o2.2.1]; omega) (by omega)
      · rw [setR_ne _ _ (by omega), setR_ne _ _ (by omega), e5 o (by omega) (by omega) (by omega), mup_other o (by omega)]
      · rw [setR_ne _ _ (by omega), setR_ne _ _ (by omega)]; exact e2
      · by_cases q : o = 34
        · rw [q, setR_at]
        · rw [setR_ne _ _ q]
          by_cases q2 : o = 22
          · rw [q2, setR_at]
          · rw [setR_ne _ _ q2, e5 o q y (by unfold vis at hv; omega), mup_other o q2, f3 o (by unfold vis at hv; omega)]; exact fr o q2 (by unfold vis at hv; omega)
    refine hp.tape (by omega) ?_ (fun k hk => ?_) (by rw [e3]; omega) (fun k hk => ?_) (by rw [setR_at]; exact e4) (fun o a b c d e => by rw [setR_ne _ _ d, setR_ne _ _ b])
    · rw [e3, e5 22 (by omega) (by omega) (by omega), mup_at]
    · rw [e3] at hk; omega
    · rw [e3] at hk; omega
end T7

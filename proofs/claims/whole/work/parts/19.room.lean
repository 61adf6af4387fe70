/-! ===== a room holds a state ===== -/
def XR (mem : Zm) (r : Nat) (A : Nat → Int) : Prop :=
  (mem r 7 = A 0 ∧ mem r 8 = A 1 ∧ mem r 9 = A 2 ∧ mem r 6 = A 3) ∧ (∀ k, k < 8 → mem (r + 1) k = A (4 + k)) ∧ (∀ c, c < 8 → ∀ w, w < 6 → mem (r + 2) (6 * c + w) = A (12 + 14 * c + w)) ∧ (∀ c, c < 8 → ∀ k, k < 8 → mem (r + 3) (8 * c + k) = A (12 + 14 * c + (6 + k))) ∧ (∀ k, k < 10 → mem (r + 4) k = A (124 + k))
def Fr (r : Nat) (mem m2 : Zm) : Prop := ∀ o, (o < r ∨ r + 6 < o) → m2 o = mem o
theorem Fr.rfl' {r : Nat} {mem : Zm} : Fr r mem mem := fun _ _ => rfl
theorem Fr.trans {r : Nat} {a b c : Zm} (h1 : Fr r a b) (h2 : Fr r b c) : Fr r a c := fun o ho => (h2 o ho).trans (h1 o ho)
theorem Fr.mup {r o k : Nat} {mem : Zm} {v : Int} (h : r ≤ o ∧ o ≤ r + 6) : Fr r mem (mup mem o k v) := fun o2 ho => mup_other o2 (by omega)
theorem XR.other {mem m2 : Zm} {r : Nat} {A : Nat → Int} (h : XR mem r A) (he : ∀ o, r ≤ o → o ≤ r + 4 → m2 o = mem o) : XR m2 r A := by
  obtain ⟨⟨a1, a2, a3, a4⟩, h2, h3, h4, h5⟩ := h
  refine ⟨⟨?_, ?_, ?_, ?_⟩, fun k hk => ?_, fun c hc w hw => ?_, fun c hc k hk => ?_, fun k hk => ?_⟩
  · rw [he r (by omega) (by omega)]; exact a1
  · rw [he r (by omega) (by omega)]; exact a2
  · rw [he r (by omega) (by omega)]; exact a3
  · rw [he r (by omega) (by omega)]; exact a4
  · rw [he (r + 1) (by omega) (by omega)]; exact h2 k hk
  · rw [he (r + 2) (by omega) (by omega)]; exact h3 c hc w hw
  · rw [he (r + 3) (by omega) (by omega)]; exact h4 c hc k hk
  · rw [he (r + 4) (by omega) (by omega)]; exact h5 k hk
theorem XR.congr {mem : Zm} {r : Nat} {A B : Nat → Int} (h : XR mem r A) (he : ∀ i, i < 134 → A i = B i) : XR mem r B := by
  obtain ⟨⟨a1, a2, a3, a4⟩, h2, h3, h4, h5⟩ := h
  refine ⟨⟨?_, ?_, ?_, ?_⟩, fun k hk => ?_, fun c hc w hw => ?_, fun c hc k hk => ?_, fun k hk => ?_⟩
  · rw [← he 0 (by omega)]; exact a1
  · rw [← he 1 (by omega)]; exact a2
  · rw [← he 2 (by omega)]; exact a3
  · rw [← he 3 (by omega)]; exact a4
  · rw [← he _ (by omega)]; exact h2 k hk
  · rw [← he _ (by omega)]; exact h3 c hc w hw
  · rw [← he _ (by omega)]; exact h4 c hc k hk
  · rw [← he _ (by omega)]; exact h5 k hk
theorem XR.fact {mem : Zm} {r : Nat} {A : Nat → Int} (h : XR mem r A) {c w : Nat} (hc : c < 8) (hw : w < 6) (v : Int) : XR (mup mem (r + 2) (6 * c + w) v) r (up A (12 + 14 * c + w) v) := by
  obtain ⟨⟨a1, a2, a3, a4⟩, h2, h3, h4, h5⟩ := h
  refine ⟨⟨?_, ?_, ?_, ?_⟩, fun k hk => ?_, fun c2 hc2 w2 hw2 => ?_, fun c2 hc2 k hk => ?_, fun k hk => ?_⟩
  · rw [mup_ne (by omega), up_ne (by omega)]; exact a1
  · rw [mup_ne (by omega), up_ne (by omega)]; exact a2
  · rw [mup_ne (by omega), up_ne (by omega)]; exact a3
  · rw [mup_ne (by omega), up_ne (by omega)]; exact a4
  · rw [mup_ne (by omega), up_ne (by omega)]; exact h2 k hk
  · by_cases q : c2 = c ∧ w2 = w
    · rw [q.1, q.2, mup_at, up_at]
    · rw [mup_ne (by omega), up_ne (by omega)]; exact h3 c2 hc2 w2 hw2
  · rw [mup_ne (by omega), up_ne (by omega)]; exact h4 c2 hc2 k hk
  · rw [mup_ne (by omega), up_ne (by omega)]; exact h5 k hk
theorem XR.ans {mem : Zm} {r : Nat} {A : Nat → Int} (h : XR mem r A) {c k : Nat} (hc : c < 8) (hk : k < 8) (v : Int) : XR (mup mem (r + 3) (8 * c + k) v) r (up A (12 + 14 * c + (6 + k)) v) := by
  obtain ⟨⟨a1, a2, a3, a4⟩, h2, h3, h4, h5⟩ := h
  refine ⟨⟨?_, ?_, ?_, ?_⟩, fun k hk => ?_, fun c2 hc2 w2 hw2 => ?_, fun c2 hc2 k2 hk2 => ?_, fun k hk => ?_⟩
  · rw [mup_ne (by omega), up_ne (by omega)]; exact a1
  · rw [mup_ne (by omega), up_ne (by omega)]; exact a2
  · rw [mup_ne (by omega), up_ne (by omega)]; exact a3
  · rw [mup_ne (by omega), up_ne (by omega)]; exact a4
  · rw [mup_ne (by omega), up_ne (by omega)]; exact h2 k hk
  · rw [mup_ne (by omega), up_ne (by omega)]; exact h3 c2 hc2 w2 hw2
  · by_cases q : c2 = c ∧ k2 = k
    · rw [q.1, q.2, mup_at, up_at]
    · rw [mup_ne (by omega), up_ne (by omega)]; exact h4 c2 hc2 k2 hk2
  · rw [mup_ne (by omega), up_ne (by omega)]; exact h5 k hk
theorem XR.rgt {mem : Zm} {r : Nat} {A : Nat → Int} (h : XR mem r A) {k : Nat} (hk : k < 8) (v : Int) : XR (mup mem (r + 1) k v) r (up A (4 + k) v) := by
  obtain ⟨⟨a1, a2, a3, a4⟩, h2, h3, h4, h5⟩ := h
  refine ⟨⟨?_, ?_, ?_, ?_⟩, fun k2 hk2 => ?_, fun c2 hc2 w2 hw2 => ?_, fun c2 hc2 k2 hk2 => ?_, fun k hk => ?_⟩
  · rw [mup_ne (by omega), up_ne (by omega)]; exact a1
  · rw [mup_ne (by omega), up_ne (by omega)]; exact a2
  · rw [mup_ne (by omega), up_ne (by omega)]; exact a3
  · rw [mup_ne (by omega), up_ne (by omega)]; exact a4
  · by_cases q : k2 = k
    · rw [q, mup_at, up_at]
    · rw [mup_ne (by omega), up_ne (by omega)]; exact h2 k2 hk2
  · rw [mup_ne (by omega), up_ne (by omega)]; exact h3 c2 hc2 w2 hw2
  · rw [mup_ne (by omega), up_ne (by omega)]; exact h4 c2 hc2 k2 hk2
  · rw [mup_ne (by omega), up_ne (by omega)]; exact h5 k hk
theorem XR.spt {mem : Zm} {r : Nat} {A : Nat → Int} (h : XR mem r A) {k : Nat} (hk : k < 10) (v : Int) : XR (mup mem (r + 4) k v) r (up A (124 + k) v) := by
  obtain ⟨⟨a1, a2, a3, a4⟩, h2, h3, h4, h5⟩ := h
  refine ⟨⟨?_, ?_, ?_, ?_⟩, fun k2 hk2 => ?_, fun c2 hc2 w2 hw2 => ?_, fun c2 hc2 k2 hk2 => ?_, fun k2 hk2 => ?_⟩
  · rw [mup_ne (by omega), up_ne (by omega)]; exact a1
  · rw [mup_ne (by omega), up_ne (by omega)]; exact a2
  · rw [mup_ne (by omega), up_ne (by omega)]; exact a3
  · rw [mup_ne (by omega), up_ne (by omega)]; exact a4
  · rw [mup_ne (by omega), up_ne (by omega)]; exact h2 k2 hk2
  · rw [mup_ne (by omega), up_ne (by omega)]; exact h3 c2 hc2 w2 hw2
  · rw [mup_ne (by omega), up_ne (by omega)]; exact h4 c2 hc2 k2 hk2
  · by_cases q : k2 = k
    · rw [q, mup_at, up_at]
    · rw [mup_ne (by omega), up_ne (by omega)]; exact h5 k2 hk2
/-- the four numbers of a room's own: slot 7, 8, 9, 6 is number 0, 1, 2, 3 -/
theorem XR.own {mem : Zm} {r : Nat} {A : Nat → Int} (h : XR mem r A) {s i : Nat} (hs : (s = 7 ∧ i = 0) ∨ (s = 8 ∧ i = 1) ∨ (s = 9 ∧ i = 2) ∨ (s = 6 ∧ i = 3)) (v : Int) : XR (mup mem r s v) r (up A i v) := by
  obtain ⟨⟨a1, a2, a3, a4⟩, h2, h3, h4, h5⟩ := h
  refine ⟨⟨?_, ?_, ?_, ?_⟩, fun k2 hk2 => ?_, fun c2 hc2 w2 hw2 => ?_, fun c2 hc2 k2 hk2 => ?_, fun k2 hk2 => ?_⟩
  · by_cases q : s = 7
    · subst q; rw [show i = 0 by omega, mup_at, up_at]
    · rw [mup_ne (by omega), up_ne (by omega)]; exact a1
  · by_cases q : s = 8
    · subst q; rw [show i = 1 by omega, mup_at, up_at]
    · rw [mup_ne (by omega), up_ne (by omega)]; exact a2
  · by_cases q : s = 9
    · subst q; rw [show i = 2 by omega, mup_at, up_at]
    · rw [mup_ne (by omega), up_ne (by omega)]; exact a3
  · by_cases q : s = 6
    · subst q; rw [show i = 3 by omega, mup_at, up_at]
    · rw [mup_ne (by omega), up_ne (by omega)]; exact a4
  · rw [mup_ne (by omega), up_ne (by omega)]; exact h2 k2 hk2
  · rw [mup_ne (by omega), up_ne (by omega)]; exact h3 c2 hc2 w2 hw2
  · rw [mup_ne (by omega), up_ne (by omega)]; exact h4 c2 hc2 k2 hk2
  · rw [mup_ne (by omega), up_ne (by omega)]; exact h5 k2 hk2
theorem XR.f0 {mem : Zm} {r : Nat} {A : Nat → Int} (h : XR mem r A) {c : Nat} (hc : c < 8) : mem (r + 2) (6 * c) = A (12 + 14 * c) := h.2.2.1 c hc 0 (by omega)
theorem XR.f {mem : Zm} {r : Nat} {A : Nat → Int} (h : XR mem r A) {c w : Nat} (hc : c < 8) (hw : w < 6) : mem (r + 2) (6 * c + w) = A (12 + 14 * c + w) := h.2.2.1 c hc w hw
theorem XR.a {mem : Zm} {r : Nat} {A : Nat → Int} (h : XR mem r A) {c k : Nat} (hc : c < 8) (hk : k < 8) : mem (r + 3) (8 * c + k) = A (12 + 14 * c + (6 + k)) := h.2.2.2.1 c hc k hk
theorem XR.r {mem : Zm} {r : Nat} {A : Nat → Int} (h : XR mem r A) {k : Nat} (hk : k < 8) : mem (r + 1) k = A (4 + k) := h.2.1 k hk
theorem XR.s {mem : Zm} {r : Nat} {A : Nat → Int} (h : XR mem r A) {k : Nat} (hk : k < 10) : mem (r + 4) k = A (124 + k) := h.2.2.2.2 k hk
/-- loops, forward, with a state that is there but not written out -/
theorem loopE {St : Type} (G : (Option PV → Zm → Prop) → Nat → St → Prop) (I : Nat → St → Prop) {n : Nat} {s0 : St} (h0 : I 0 s0) (hs : ∀ i s, i < n → I i s → ∃ s2, I (i + 1) s2 ∧ ∀ Q, G Q (i + 1) s2 → G Q i s) : ∃ s, I n s ∧ ∀ Q, G Q n s → G Q 0 s0 := by
  have key : ∀ k, k ≤ n → ∃ s, I k s ∧ ∀ Q, G Q k s → G Q 0 s0 := by
    intro k
    induction k with
    | zero => intro _; exact ⟨s0, h0, fun Q h => h⟩
    | succ k ih =>
      intro hk
      obtain ⟨s, h1, h2⟩ := ih (by omega)
      obtain ⟨s2, g1, g2⟩ := hs k s (by omega) h1
      exact ⟨s2, g1, fun Q h => h2 Q (g2 Q h)⟩
  exact key n (Nat.le_refl _)
section RB
variable {S : Sx} {mem : Zm} {r : Nat} {A : Nat → Int}
/-! one room becomes another -/
theorem xt_become {r1 : Nat} (hr : isRoom r) (hr1 : isRoom r1) (h : r ≠ r1) (hX : XR mem r1 A) : ∃ m2, Ct1 S mX0_become [Aq r, Aq r1] mem none m2 ∧ XR m2 r A ∧ Fr r mem m2 := by
  have hd : r + 6 < r1 ∨ r1 + 6 < r := by
    rcases hr with rfl | rfl | rfl <;> rcases hr1 with rfl | rfl | rfl <;> omega
  refine ⟨_, ct1V rfl (by decide) (Nat.le_of_ble_eq_true rfl) (rg_X0_become_0 hr hr1 ⟨rfl, rfl⟩), ?_, ?_⟩
  · obtain ⟨⟨a1, a2, a3, a4⟩, h2, h3, h4, h5⟩ := hX
    have mc : ∀ (m : Zm) (a b n o k : Nat), o ≠ b → mcp m a b 0 0 n o k = m o k := fun m a b n o k q => by unfold mcp; rw [if_neg q]
    have mi : ∀ (m : Zm) (a b n k : Nat), k < n → mcp m a b 0 0 n b k = m a k := fun m a b n k q => by unfold mcp; rw [if_pos rfl, if_pos (by omega)]; congr 1; omega
    refine ⟨⟨?_, ?_, ?_, ?_⟩, fun k hk => ?_, fun c hc w hw => ?_, fun c hc k hk => ?_, fun k hk => ?_⟩
    · rw [mup_ne (by omega), mup_ne (by omega), mup_at, mup_ne (by omega), mc _ _ _ _ _ _ (by omega), mc _ _ _ _ _ _ (by omega), mc _ _ _ _ _ _ (by omega), mc _ _ _ _ _ _ (by omega)]; exact a1
    · rw [mup_ne (by omega), mup_at, mup_ne (by omega), mup_ne (by omega), mc _ _ _ _ _ _ (by omega), mc _ _ _ _ _ _ (by omega), mc _ _ _ _ _ _ (by omega), mc _ _ _ _ _ _ (by omega)]; exact a2
    · rw [mup_at, mup_ne (by omega), mup_ne (by omega), mup_ne (by omega), mc _ _ _ _ _ _ (by omega), mc _ _ _ _ _ _ (by omega), mc _ _ _ _ _ _ (by omega), mc _ _ _ _ _ _ (by omega)]; exact a3
    · rw [mup_ne (by omega), mup_ne (by omega), mup_ne (by omega), mup_at, mc _ _ _ _ _ _ (by omega), mc _ _ _ _ _ _ (by omega), mc _ _ _ _ _ _ (by omega), mc _ _ _ _ _ _ (by omega)]; exact a4
    · rw [mup_ne (by omega), mup_ne (by omega), mup_ne (by omega), mup_ne (by omega), mc _ _ _ _ _ _ (by omega), mc _ _ _ _ _ _ (by omega), mc _ _ _ _ _ _ (by omega), mi _ _ _ _ _ hk]; exact h2 k hk
    · rw [mup_ne (by omega), mup_ne (by omega), mup_ne (by omega), mup_ne (by omega), mc _ _ _ _ _ _ (by omega), mc _ _ _ _ _ _ (by omega), mi _ _ _ _ _ (by omega), mc _ _ _ _ _ _ (by omega)]; exact h3 c hc w hw
    · rw [mup_ne (by omega), mup_ne (by omega), mup_ne (by omega), mup_ne (by omega), mc _ _ _ _ _ _ (by omega), mi _ _ _ _ _ (by omega), mc _ _ _ _ _ _ (by omega), mc _ _ _ _ _ _ (by omega)]; exact h4 c hc k hk
    · rw [mup_ne (by omega), mup_ne (by omega), mup_ne (by omega), mup_ne (by omega), mi _ _ _ _ _ (by omega), mc _ _ _ _ _ _ (by omega), mc _ _ _ _ _ _ (by omega), mc _ _ _ _ _ _ (by omega)]; exact h5 k hk
  · intro o ho
    rw [mup_other o (by omega), mup_other o (by omega), mup_other o (by omega), mup_other o (by omega)]
    funext k
    unfold mcp
    rw [if_neg (by omega), if_neg (by omega), if_neg (by omega), if_neg (by omega)]
/-! a child's source, and what it pays -/
theorem xt_source (hr : isRoom r) (hX : XR mem r A) (hA : OKA A) {c : Nat} (hc : (c : Int) < A 0) : Ct1 S mX0_sourceToday [Aq r, Iq (c : Int)] mem (some (Iq (if cpP A c = true then A (12 + 14 * c + 2) else -1))) mem := by
  have h0 := hA.1
  have hc8 : c < 8 := by omega
  have hk := hA.c0 hc
  have h2 := hA.c2 hc
  have hd := hA.day
  refine ct1I rfl (by decide) (Nat.le_of_ble_eq_true rfl) (rg_X0_sourceToday_0 hr ?_)
  rw [Int.toNat_natCast, hX.f hc8 (by omega), hX.f hc8 (by omega), hX.f0 hc8, hX.1.1, hX.1.2.1]
  have no : cpP A c = false → (some (Iq (-1)) = some (Iq (if cpP A c = true then A (12 + 14 * c + 2) else -1))) := fun q => by rw [if_neg (by rw [q]; decide)]
  refine ⟨by omega, fun q => ?_, fun q => ⟨no (decide_eq_false (fun z => by omega)), rfl⟩⟩
  have e3 : A (12 + 14 * c + 2) = ((frm A c : Nat) : Int) := by unfold frm; omega
  have hf := frm_lt hA hc q.1
  have ef : (A (12 + 14 * c + 2)).toNat = frm A c := rfl
  rw [ef, hX.f0 hf.2, hX.f hf.2 (by omega)]
  refine ⟨by omega, fun l => ⟨by omega, by omega, fun p => ⟨no (decide_eq_false (fun z => by omega)), rfl⟩, fun p => ⟨?_, rfl⟩⟩, fun l => ⟨no (decide_eq_false (fun z => l z.2.1)), rfl⟩⟩
  have hcp : cpP A c = true := decide_eq_true ⟨q.1, l, by omega⟩
  rw [if_pos hcp]
theorem xt_pay (hr : isRoom r) (hX : XR mem r A) (hA : OKA A) {c f : Nat} (hc : (c : Int) < A 0) (hf : (f : Int) < A 0) (hp : payV (A (12 + 14 * c)) ≤ A (12 + 14 * c + 4)) : ∃ m2, Ct1 S mX0_payFor [Aq r, Iq (c : Int), Iq (f : Int)] mem none m2 ∧ XR m2 r (pyA A c f (payV (A (12 + 14 * c)))) ∧ (∀ o, o ≠ r + 2 → m2 o = mem o) := by
  have h0 := hA.1
  have hc8 : c < 8 := by omega
  have hf8 : f < 8 := by omega
  have hk := hA.c0 hc
  have h4 := hA.c4 hc
  have hp2 := pay_in2 (A (12 + 14 * c))
  have e0 : mem (r + 2) (6 * c) = A (12 + 14 * c) := hX.f0 hc8
  have e4 : mem (r + 2) (6 * c + 4) = A (12 + 14 * c + 4) := hX.f hc8 (by omega)
  have hX2 := hX.fact hc8 (show 4 < 6 by omega) (A (12 + 14 * c + 4) - payV (A (12 + 14 * c)))
  have e5 := hX2.f (w := 4) hf8 (by omega)
  have hA2 : OKA (up A (12 + 14 * c + 4) (A (12 + 14 * c + 4) - payV (A (12 + 14 * c)))) := hA.st (by omega) (fun _ => rng4 (by omega) (by omega))
  have h5 := hA2.c4 (c := f) (by rw [up_ne (by omega)]; exact hf)
  refine ⟨mup (mup mem (r + 2) (6 * c + 4) (A (12 + 14 * c + 4) - payV (A (12 + 14 * c)))) (r + 2) (6 * f + 4) (min 999 (up A (12 + 14 * c + 4) (A (12 + 14 * c + 4) - payV (A (12 + 14 * c))) (12 + 14 * f + 4) + payV (A (12 + 14 * c)))), ct1V rfl (by decide) (Nat.le_of_ble_eq_true rfl) (rg_X0_payFor_0 hr ?_), ?_, ?_⟩
  · rw [Int.toNat_natCast, Int.toNat_natCast, e0, e4, e5]
    exact ⟨by omega, by omega, by omega, by omega, by omega, by omega, by omega, rfl, rfl⟩
  · exact hX2.fact hf8 (by omega) _
  · intro o ho
    rw [mup_other o ho, mup_other o ho]
end RB

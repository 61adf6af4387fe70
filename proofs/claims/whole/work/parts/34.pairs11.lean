/-! ===== pairs: seats, sheets ===== -/
section P11
variable {S : Sx} {D : Int} {mem : Zm} {x1 x2 x3 x4 x5 : Int} {A B : Nat → Int}
theorem ushr8 (a : Int) : 0 ≤ bUshr a 8 := by
  unfold bUshr
  rw [show ((Int32.ofInt 8).toUInt32 &&& Int32.toUInt32 31) = 8 by decide]
  have h : ((Int32.ofInt a).toUInt32 >>> 8).toBitVec.toNat < 16777216 := by
    show ((Int32.ofInt a).toUInt32 >>> 8).toNat < 16777216
    have := UInt32.toNat_lt (Int32.ofInt a).toUInt32
    rw [UInt32.toNat_shiftRight, show UInt32.toNat 8 % 32 = 8 by decide, Nat.shiftRight_eq_div_pow]
    omega
  show 0 ≤ ((Int32.ofInt a).toUInt32 >>> 8).toBitVec.toInt
  rw [BitVec.toInt_eq_toNat_of_lt (by omega)]
  omega
theorem drw_in (z : Int) : 0 ≤ drwV z := ushr8 _
def drA (A : Nat → Int) : Nat → Int := up A 2 (drwZ (drwZ (A 2)))
def stA (A : Nat → Int) : Nat → Int := if (drwV (A 2) % 8 < A 0 ∧ drwV (drwZ (A 2)) % 8 < A 0) ∧ ¬ drwV (A 2) % 8 = drwV (drwZ (A 2)) % 8 then up (drA A) (12 + 14 * (drwV (A 2) % 8).toNat + 2) (drwV (drwZ (A 2)) % 8) else drA A
def seN (A : Nat → Int) : Nat → (Nat → Int)
  | 0 => A
  | n + 1 => dayA (stA (seN A n))
theorem stA_ok (h : OKA A) : OKA (stA A) ∧ stA A 0 = A 0 ∧ stA A 1 = A 1 := by
  have g : OKA (drA A) := h.st (by omega) (fun _ => by unfold rng; omega)
  have h0 := h.1
  have e0 : drA A 0 = A 0 := up_ne (by omega)
  have e1 : drA A 1 = A 1 := up_ne (by omega)
  have d1 := drw_in (A 2)
  have d2 := drw_in (drwZ (A 2))
  unfold stA
  split
  · exact ⟨g.st (by omega) (fun _ => rng2 (by omega) (by omega)), by rw [up_ne (by omega), e0], by rw [up_ne (by omega), e1]⟩
  · exact ⟨g, e0, e1⟩
theorem seN_ok (h : OKA A) : ∀ n : Nat, OKA (seN A n) ∧ seN A n 0 = A 0 ∧ seN A n 1 = A 1 + n := by
  intro n
  induction n with
  | zero => exact ⟨h, rfl, by show A 1 = _; omega⟩
  | succ n ih =>
    obtain ⟨a, b, c⟩ := ih
    obtain ⟨d, e, f⟩ := stA_ok a
    obtain ⟨g, i, j⟩ := dayA_ok d
    exact ⟨g, by show dayA _ 0 = _; rw [i, e, b], by show dayA _ 1 = _; rw [j, f, c]; omega⟩
theorem pr_seats (h : IV D mem) (hD : D ≤ 90000) : PR S D mem mX3_seats mX4_seats [Iq x1] := by
  have hD2 : D ≤ 90000 := hD
  have hD : D ≤ 1000000 := by omega
  have hd := h.d
  have ed := h.X.1.2.1
  have h1 := h.A.day
  by_cases c : 1 ≤ x1 ∧ x1 ≤ 20
  · obtain ⟨n, hn, rfl⟩ := int_nat (x := x1) (n := 21) ⟨by omega, by omega⟩
    obtain ⟨m1, ⟨a1, a2⟩, ago⟩ := loopE (fun Q j (M : Zm) => PW S mX3_seats Q 40 [some (Aq 0), some (Iq (n : Int)), some (Iq (j : Int)), none, none] [] M) (fun j M => XR M 1 (seN (mem 35) j) ∧ Fr 1 mem M) (n := n) (s0 := mem) ⟨h.X, Fr.rfl'⟩ (by
      intro j M hj ⟨b1, b2⟩
      obtain ⟨g1, g2, g3⟩ := seN_ok h.A j
      obtain ⟨B, eB⟩ : ∃ B, B = seN (mem 35) j := ⟨_, rfl⟩
      have es : seN (mem 35) (j + 1) = dayA (stA B) := by rw [eB]; rfl
      rw [← eB] at b1 g1 g2 g3
      have h0 := g1.1
      obtain ⟨o1, o2, o3⟩ := stA_ok g1
      have d1 := drw_in (B 2)
      have d2 := drw_in (drwZ (B 2))
      have e9 : M 1 9 = B 2 := b1.1.2.2.1
      have e7 : M 1 7 = B 0 := b1.1.1
      have x2 : XR (mup (mup M 1 9 (drwZ (B 2))) 1 9 (drwZ (drwZ (B 2)))) 1 (drA B) := by
        have q := (b1.own (s := 9) (i := 2) (by omega) (drwZ (B 2))).own (s := 9) (i := 2) (by omega) (drwZ (drwZ (B 2)))
        rw [up_up] at q
        exact q
      have f2 : Fr 1 mem (mup (mup M 1 9 (drwZ (B 2))) 1 9 (drwZ (drwZ (B 2)))) := (b2.trans (Fr.mup (by omega))).trans (Fr.mup (by omega))
      have e72 : (mup (mup M 1 9 (drwZ (B 2))) 1 9 (drwZ (drwZ (B 2)))) 1 7 = B 0 := x2.1.1
      by_cases q : (drwV (B 2) % 8 < B 0 ∧ drwV (drwZ (B 2)) % 8 < B 0) ∧ ¬ drwV (B 2) % 8 = drwV (drwZ (B 2)) % 8
      · have st : stA B = up (drA B) (12 + 14 * (drwV (B 2) % 8).toNat + 2) (drwV (drwZ (B 2)) % 8) := if_pos q
        have x3 := x2.fact (c := (drwV (B 2) % 8).toNat) (w := 2) (by omega) (by omega) (drwV (drwZ (B 2)) % 8)
        rw [← st] at x3
        obtain ⟨m2, j1, j2, j3⟩ := xt_days (S := S) isR1 x3 o1 (n := 1) (by omega) (by omega)
        refine ⟨m2, ⟨by rw [es]; exact j2, (f2.trans (Fr.mup (by omega))).trans j3⟩, fun Q hq => rg_X3_seats_40 ?_⟩
        rw [e9, mup_at, e72]
        exact ⟨fun z => by omega, fun _ => ⟨d1, d2, fun _ => ⟨fun _ => ⟨fun z => absurd z q.2, fun _ => ⟨by omega, m2, j1, by omega, hq⟩⟩, fun z => by omega⟩, fun z => by omega⟩⟩
      · have st : stA B = drA B := if_neg q
        rw [← st] at x2
        obtain ⟨m2, j1, j2, j3⟩ := xt_days (S := S) isR1 x2 o1 (n := 1) (by omega) (by omega)
        refine ⟨m2, ⟨by rw [es]; exact j2, f2.trans j3⟩, fun Q hq => rg_X3_seats_40 ?_⟩
        rw [e9, mup_at, e72]
        exact ⟨fun z => by omega, fun _ => ⟨d1, d2, fun y1 => ⟨fun y2 => ⟨fun _ => ⟨m2, j1, by omega, hq⟩, fun y3 => absurd ⟨⟨y1.2, y2.2⟩, y3⟩ q⟩, fun _ => ⟨m2, j1, by omega, hq⟩⟩, fun _ => ⟨m2, j1, by omega, hq⟩⟩⟩)
    have e35 : m1 35 = mem 35 := a2 35 (by omega)
    obtain ⟨m2, ⟨c1, c2⟩, cgo⟩ := loopE (fun Q j (M : Zm) => PW S mX4_seats Q 41 [some (Aq 34), some (Iq (n : Int)), some (Iq (j : Int)), none, none] [] M) (fun j M => M 35 = seN (mem 35) j ∧ ∀ o, o ≠ 35 → M o = m1 o) (n := n) (s0 := m1) ⟨e35, fun _ _ => rfl⟩ (by
      intro j M hj ⟨b1, b2⟩
      obtain ⟨g1, g2, g3⟩ := seN_ok h.A j
      obtain ⟨B, eB⟩ : ∃ B, B = seN (mem 35) j := ⟨_, rfl⟩
      have es : seN (mem 35) (j + 1) = dayA (stA B) := by rw [eB]; rfl
      rw [← eB] at b1 g1 g2 g3
      have h0 := g1.1
      obtain ⟨o1, o2, o3⟩ := stA_ok g1
      have d1 := drw_in (B 2)
      have d2 := drw_in (drwZ (B 2))
      have r2 : mup (mup M 35 2 (drwZ (B 2))) 35 2 (drwZ (drwZ (B 2))) 35 = drA B := by rw [mup_up, mup_up, up_up, b1]; rfl
      have e02 : mup (mup M 35 2 (drwZ (B 2))) 35 2 (drwZ (drwZ (B 2))) 35 0 = B 0 := by rw [r2]; exact up_ne (by omega)
      have e2 : M 35 2 = B 2 := by rw [b1]
      by_cases q : (drwV (B 2) % 8 < B 0 ∧ drwV (drwZ (B 2)) % 8 < B 0) ∧ ¬ drwV (B 2) % 8 = drwV (drwZ (B 2)) % 8
      · have st : stA B = up (drA B) (12 + 14 * (drwV (B 2) % 8).toNat + 2) (drwV (drwZ (B 2)) % 8) := if_pos q
        have ei : (12 + 14 * (drwV (B 2) % 8) + 2).toNat = 12 + 14 * (drwV (B 2) % 8).toNat + 2 := by omega
        have r3 : mup (mup (mup M 35 2 (drwZ (B 2))) 35 2 (drwZ (drwZ (B 2)))) 35 (12 + 14 * (drwV (B 2) % 8) + 2).toNat (drwV (drwZ (B 2)) % 8) 35 = stA B := by rw [mup_up, r2, ei, st]
        have dy := ct_X4_day (S := S) (mem := mup (mup (mup M 35 2 (drwZ (B 2))) 35 2 (drwZ (drwZ (B 2)))) 35 (12 + 14 * (drwV (B 2) % 8) + 2).toNat (drwV (drwZ (B 2)) % 8)) (by rw [r3]; exact ⟨o1, by omega⟩)
        rw [r3] at dy
        refine ⟨setR (mup (mup (mup M 35 2 (drwZ (B 2))) 35 2 (drwZ (drwZ (B 2)))) 35 (12 + 14 * (drwV (B 2) % 8) + 2).toNat (drwV (drwZ (B 2)) % 8)) 35 (dayA (stA B)), ⟨by rw [es]; exact setR_at _ _ _, fun o ho => by rw [setR_ne _ _ ho, mup_other o ho, mup_other o ho, mup_other o ho]; exact b2 o ho⟩, fun Q hq => rg_X4_seats_41 ?_⟩
        rw [e2, mup_at, e02]
        exact ⟨fun z => by omega, fun _ => ⟨d1, d2, fun _ => ⟨fun _ => ⟨fun z => absurd z q.2, fun _ => ⟨by omega, by omega, _, dy, by omega, hq⟩⟩, fun z => by omega⟩, fun z => by omega⟩⟩
      · have st : stA B = drA B := if_neg q
        rw [← st] at r2
        have dy := ct_X4_day (S := S) (mem := mup (mup M 35 2 (drwZ (B 2))) 35 2 (drwZ (drwZ (B 2)))) (by rw [r2]; exact ⟨o1, by omega⟩)
        rw [r2] at dy
        refine ⟨setR (mup (mup M 35 2 (drwZ (B 2))) 35 2 (drwZ (drwZ (B 2)))) 35 (dayA (stA B)), ⟨by rw [es]; exact setR_at _ _ _, fun o ho => by rw [setR_ne _ _ ho, mup_other o ho, mup_other o ho]; exact b2 o ho⟩, fun Q hq => rg_X4_seats_41 ?_⟩
        rw [e2, mup_at, e02]
        exact ⟨fun z => by omega, fun _ => ⟨d1, d2, fun y1 => ⟨fun y2 => ⟨fun _ => ⟨_, dy, by omega, hq⟩, fun y3 => absurd ⟨⟨y1.2, y2.2⟩, y3⟩ q⟩, fun _ => ⟨_, dy, by omega, hq⟩⟩, fun _ => ⟨_, dy, by omega, hq⟩⟩⟩)
    obtain ⟨g1, g2, g3⟩ := seN_ok h.A n
    refine ⟨sumA (seN (mem 35) n) 3 (nA (seN (mem 35) n)), m1, m2, ct1I rfl (by decide) (Nat.le_of_ble_eq_true rfl) (rg_X3_seats_0 ⟨fun _ => ⟨by omega, fun _ => ago _ (rg_X3_seats_40 ⟨fun _ => ⟨_, _, xt_total isR1 a1 g1 (w := 3) (by omega), rfl, rfl⟩, fun z => by omega⟩), fun z => by omega⟩, fun z => absurd c z⟩), ct1I rfl (by decide) (Nat.le_of_ble_eq_true rfl) (rg_X4_seats_0 ⟨fun _ => ⟨by rw [e35]; omega, fun _ => cgo _ (rg_X4_seats_41 ⟨fun _ => ?_, fun z => by omega⟩), fun z => by rw [e35] at z; omega⟩, fun z => absurd c z⟩), ?_⟩
    · rw [c1]; exact ⟨g1, rfl, rfl⟩
    · exact IV.put h (A := seN (mem 35) n) (a1.other (fun o a b => c2 o (by omega))) c1 (fun o a b d => by rw [c2 o d]; exact a2 o (by unfold vis at a; omega)) g1 (by rw [g3]; omega) (by omega)
  · exact prF h hD (f := (-1000001)) (by omega) (fun hfx => ct1I rfl (by decide) (Nat.le_of_ble_eq_true rfl) (rg_X3_seats_0 (by (repeat' (first | exact hfx | intro _ | apply And.intro)) <;> (first | omega | rfl | trivial | (exfalso; omega))))) (fun hfm => by
      have e35 : fndx mem ((-1000001)) 35 = mem 35 := mup_other 35 (by omega)
      have e34 : fndx mem ((-1000001)) 34 = mem 34 := mup_other 34 (by omega)
      have e41 : fndx mem ((-1000001)) 41 = mem 41 := mup_other 41 (by omega)
      have e42 : fndx mem ((-1000001)) 42 = mem 42 := mup_other 42 (by omega)
      refine ct1I rfl (by decide) (Nat.le_of_ble_eq_true rfl) (rg_X4_seats_0 ?_)
      simp only [e35, e34, e41, e42]
      (repeat' (first | exact hfm | intro _ | apply And.intro)) <;> (first | omega | rfl | trivial | (exfalso; omega)))
/-! sheets -/
theorem IV.sht {D D2 : Int} {mem m2 : Zm} (h : IV D mem) (hS : XS m2) (hr : ∀ t, t < 4 → (m2 41 t = -1 ∨ m2 41 t = 8 ∨ m2 41 t = 16 ∨ m2 41 t = 32) ∧ 0 ≤ m2 42 t ∧ m2 42 t ≤ 40) (he : ∀ o, vis o → ¬ (25 ≤ o ∧ o ≤ 32) → ¬ (41 ≤ o ∧ o ≤ 43) → m2 o = mem o) (hD : D ≤ D2) : IV D2 m2 := by
  have q : ∀ o, (o ≤ 5 ∨ (15 ≤ o ∧ o ≤ 19) ∨ (22 ≤ o ∧ o ≤ 24) ∨ (33 ≤ o ∧ o ≤ 36) ∨ o = 39 ∨ o = 40) → m2 o = mem o := fun o ho => he o (by unfold vis; omega) (by omega) (by omega)
  obtain ⟨h1, h2, h3, h4, h5, g1, g2, g3, g4, g5, g6, g7⟩ := h
  refine ⟨?_, ?_, ?_, hS, ?_, ?_⟩
  · rw [q 35 (by omega)]; exact h1.other (fun o a b => q o (by omega))
  · unfold XK; rw [q 0 (by omega), q 34 (by omega), q 36 (by omega)]
    exact ⟨h2.1, fun z => (h2.2 z).other (fun o a b => q o (by omega))⟩
  · unfold XT; rw [q 22 (by omega), q 23 (by omega), q 34 (by omega), q 40 (by omega)]; exact h3
  · unfold XF; rw [q 33 (by omega), q 39 (by omega)]; exact h5
  · unfold OKG
    rw [q 34 (by omega), q 35 (by omega), q 36 (by omega), q 39 (by omega), q 40 (by omega)]
    exact ⟨g1, ⟨g2.1, Int.le_trans g2.2 hD⟩, fun z => ⟨(g3 z).1, Int.le_trans (g3 z).2 hD⟩, g4, hr, fun k hk => ⟨(g6 k hk).1, Int.le_trans (g6 k hk).2 hD⟩, g7⟩
theorem IV.bits (h : IV D mem) {t : Nat} (ht : t < 4) : (mem 41 t = -1 ∧ mem (25 + 2 * t) 1 = 0) ∨ ((mem 41 t = 8 ∨ mem 41 t = 16 ∨ mem 41 t = 32) ∧ mem (25 + 2 * t) 1 = mem 41 t) := by
  have a := (h.2.2.2.1 t ht).1
  have b := (h.2.2.2.2.2.2.2.2.2.1 t ht).1
  by_cases q : mem 41 t = -1
  · rw [if_pos q] at a; exact .inl ⟨q, a⟩
  · rw [if_neg q] at a; exact .inr ⟨by omega, a⟩
theorem ct_fill {r n : Nat} (hr : shp r = (1, n)) (hn : n < 1000) (v : Int) : ∃ m2, Ct1 S mJ7_fill_53178 [Aq r, Iq v] mem none m2 ∧ (∀ k, k < n → m2 r k = v) ∧ ∀ o, o ≠ r → m2 o = mem o := by
  obtain ⟨m2, ⟨a1, a2⟩, ago⟩ := loopE (fun Q j (M : Zm) => PW S mJ7_fill_53178 Q 5 [some (Aq r), some (Iq v), some (Iq (j : Int)), some (Iq (n : Int))] [] M) (fun j M => (∀ k, k < j → M r k = v) ∧ ∀ o, o ≠ r → M o = mem o) (n := n) (s0 := mem) ⟨fun k hk => absurd hk (by omega), fun _ _ => rfl⟩ (by
    intro j M hj ⟨b1, b2⟩
    refine ⟨mup M r j v, ⟨fun k hk => ?_, fun o ho => by rw [mup_other o ho]; exact b2 o ho⟩, fun Q hq => rg_J7_fill_53178_5 hr ⟨fun z => by omega, fun _ => ⟨by omega, by omega, ?_⟩⟩⟩
    · by_cases q : k = j
      · rw [q, mup_at]
      · rw [mup_ne (by omega)]; exact b1 k (by omega)
    · rw [Int.toNat_natCast]; exact hq)
  exact ⟨m2, ct1V rfl (by decide) (Nat.le_of_ble_eq_true rfl) (rg_J7_fill_53178_0 hr ⟨by omega, ago _ (rg_J7_fill_53178_5 hr ⟨fun _ => ⟨rfl, rfl⟩, fun z => by omega⟩)⟩), a1, a2⟩
theorem pr_sheet (h : IV D mem) (hD : D ≤ 90000) : PR S D mem mX3_sheet mX4_sheet [Iq x1, Iq x2, Iq x3] := by
  have hD2 : D ≤ 90000 := hD
  have hD : D ≤ 1000000 := by omega
  by_cases c1 : (0 ≤ x1 ∧ x1 < 4) ∧ (x2 = 0 ∨ x2 = 8 ∨ x2 = 16 ∨ x2 = 32)
  · by_cases c2 : 0 ≤ x3
    · by_cases c3 : x3 ≤ 40
      · obtain ⟨t, ht, rfl⟩ := int_nat (x := x1) (n := 4) ⟨by omega, by omega⟩
        have hs : isSheet (25 + 2 * t) := sheet_is ht
        have hsh : shp (25 + 2 * t + 1) = (1, 40) := by
          rcases hs with e | e | e | e <;> rw [e] <;> rfl
        have gen : ∀ (b v l : Int), ((v = -1 ∧ b = 0) ∨ ((v = 8 ∨ v = 16 ∨ v = 32) ∧ b = v)) → 0 ≤ l → l ≤ 40 → ∃ m1 m2, Ct1 S mX1_renew [Aq (25 + 2 * t), Iq b, Iq l] mem none m1 ∧ m1 (25 + 2 * t) 2 = l ∧ PW S mX4_sheet (fun r m => r = some (Iq l) ∧ m = m2) 94 [some (Aq 34), some (Iq (t : Int)), some (Iq x2), some (Iq x3), some (Iq 0)] [] (mup (mup m1 41 t v) 42 t l) ∧ IV (D + 60) m2 := by
          intro b v l hv hl1 hl2
          obtain ⟨m1, f1, f2, f3⟩ := ct_fill (S := S) (mem := mup (mup mem (25 + 2 * t) 1 b) (25 + 2 * t) 2 l) hsh (by omega) 0
          have e25 : m1 (25 + 2 * t) = mup (mup mem (25 + 2 * t) 1 b) (25 + 2 * t) 2 l (25 + 2 * t) := f3 _ (by omega)
          have eo : ∀ o, o ≠ 25 + 2 * t → o ≠ 25 + 2 * t + 1 → m1 o = mem o := fun o a b => by rw [f3 o b, mup_other o a, mup_other o a]
          obtain ⟨m2, ⟨g1, g2, g3⟩, ggo⟩ := loopE (fun Q j (M : Zm) => PW S mX4_sheet Q 94 [some (Aq 34), some (Iq (t : Int)), some (Iq x2), some (Iq x3), some (Iq (j : Int))] [] M) (fun j M => (∀ k, k < j → M 43 (40 * t + k) = 0) ∧ (∀ k, (k < 40 * t ∨ 40 * t + 40 ≤ k) → M 43 k = mem 43 k) ∧ ∀ o, o ≠ 43 → M o = mup (mup m1 41 t v) 42 t l o) (n := 40) (s0 := mup (mup m1 41 t v) 42 t l) ⟨fun k hk => absurd hk (by omega), fun k _ => by rw [mup_other 43 (by omega), mup_other 43 (by omega), eo 43 (by omega) (by omega)], fun _ _ => rfl⟩ (by
            intro j M hj ⟨b1, b2, b3⟩
            have ei : (40 * (t : Int) + (j : Int)).toNat = 40 * t + j := by omega
            refine ⟨mup M 43 (40 * t + j) 0, ⟨fun k hk => ?_, fun k hk => by rw [mup_ne (by omega)]; exact b2 k hk, fun o ho => by rw [mup_other o ho]; exact b3 o ho⟩, fun Q hq => rg_X4_sheet_94 ⟨fun z => by omega, fun _ => ⟨by omega, by omega, by omega, by omega, by rw [ei]; exact hq⟩⟩⟩
            by_cases q : k = j
            · rw [q, mup_at]
            · rw [mup_ne (by omega)]; exact b1 k (by omega))
          have e42 : m2 42 t = l := by rw [g3 42 (by omega), mup_at]
          refine ⟨m1, m2, ct1V rfl (by decide) (Nat.le_of_ble_eq_true rfl) (rg_X1_renew_0 hs ⟨m1, f1, rfl, rfl⟩), by rw [e25, mup_at], ggo _ (rg_X4_sheet_94 ⟨fun _ => ⟨by omega, by rw [Int.toNat_natCast, e42], rfl⟩, fun z => by omega⟩), ?_⟩
          have e41 : m2 41 t = v := by rw [g3 41 (by omega), mup_other 41 (by omega), mup_at]
          have r41 : ∀ u, u < 4 → u ≠ t → m2 41 u = mem 41 u := fun u _ hu => by rw [g3 41 (by omega), mup_other 41 (by omega), mup_ne (by omega), eo 41 (by omega) (by omega)]
          have r42 : ∀ u, u < 4 → u ≠ t → m2 42 u = mem 42 u := fun u _ hu => by rw [g3 42 (by omega), mup_ne (by omega), mup_other 42 (by omega), eo 42 (by omega) (by omega)]
          have ro : ∀ o, o < 41 → m2 o = m1 o := fun o ho => by rw [g3 o (by omega), mup_other o (by omega), mup_other o (by omega)]
          refine h.sht (fun u hu => ?_) (fun u hu => ?_) (fun o a b d => by rw [ro o (by unfold vis at a; omega)]; exact eo o (by omega) (by omega)) (by omega)
          · by_cases q : u = t
            · subst q
              rw [e41, e42, ro _ (by omega), ro _ (by omega), e25, mup_at, mup_ne (by omega), mup_at]
              refine ⟨?_, rfl, fun k hk => ?_⟩
              · split <;> omega
              · rw [g1 k hk, show 26 + 2 * u = 25 + 2 * u + 1 by omega]; exact f2 k hk
            · rw [r41 u hu q, r42 u hu q, ro _ (by omega), ro _ (by omega), eo _ (by omega) (by omega), eo _ (by omega) (by omega)]
              obtain ⟨w1, w2, w3⟩ := h.2.2.2.1 u hu
              exact ⟨w1, w2, fun k hk => by rw [g2 _ (by omega)]; exact w3 k hk⟩
          · by_cases q : u = t
            · subst q; rw [e41, e42]; omega
            · rw [r41 u hu q, r42 u hu q]; exact h.2.2.2.2.2.2.2.2.2.1 u hu
        by_cases c0 : x2 = 0
        · subst c0
          obtain ⟨m1, m2, k1, k2, k3, k4⟩ := gen 0 (-1) 0 (by omega) (by omega) (by omega)
          refine ⟨0, m1, m2, ct1I rfl (by decide) (Nat.le_of_ble_eq_true rfl) (rg_X3_sheet_0 ?_), ct1I rfl (by decide) (Nat.le_of_ble_eq_true rfl) (rg_X4_sheet_0 ?_), k4⟩
          · rw [Int.toNat_natCast]
            have leaf : ∃ (m14 : Zm), Ct1 S mX1_renew [Aq (25 + 2 * t), Iq 0, Iq 0] mem none m14 ∧ ((0 ≤ (t : Int) ∧ (t : Int) < 4) ∧ (fun r m => r = some (Iq 0) ∧ m = m1) (some (Iq (m14 (25 + 2 * t) 2))) m14) := ⟨m1, k1, by omega, by rw [k2], rfl⟩
            (repeat' (first | exact leaf | intro _ | apply And.intro)) <;> (first | omega | (exfalso; omega))
          · rw [Int.toNat_natCast]
            (repeat' (first | exact k3 | intro _ | apply And.intro)) <;> (first | omega | (exfalso; omega))
        · obtain ⟨m1, m2, k1, k2, k3, k4⟩ := gen x2 x2 x3 (by omega) (by omega) (by omega)
          refine ⟨x3, m1, m2, ct1I rfl (by decide) (Nat.le_of_ble_eq_true rfl) (rg_X3_sheet_0 ?_), ct1I rfl (by decide) (Nat.le_of_ble_eq_true rfl) (rg_X4_sheet_0 ?_), k4⟩
          · rw [Int.toNat_natCast]
            have leaf : ∃ (m14 : Zm), Ct1 S mX1_renew [Aq (25 + 2 * t), Iq x2, Iq x3] mem none m14 ∧ ((0 ≤ (t : Int) ∧ (t : Int) < 4) ∧ (fun r m => r = some (Iq x3) ∧ m = m1) (some (Iq (m14 (25 + 2 * t) 2))) m14) := ⟨m1, k1, by omega, by rw [k2], rfl⟩
            (repeat' (first | exact leaf | intro _ | apply And.intro)) <;> (first | omega | (exfalso; omega))
          · rw [Int.toNat_natCast]
            (repeat' (first | exact k3 | intro _ | apply And.intro)) <;> (first | omega | (exfalso; omega))
      · exact prF h hD (f := (-1000001)) (by omega) (fun hfx => ct1I rfl (by decide) (Nat.le_of_ble_eq_true rfl) (rg_X3_sheet_0 (by (repeat' (first | exact hfx | intro _ | apply And.intro)) <;> (first | omega | rfl | trivial | (exfalso; omega))))) (fun hfm => by
      have e35 : fndx mem ((-1000001)) 35 = mem 35 := mup_other 35 (by omega)
      have e34 : fndx mem ((-1000001)) 34 = mem 34 := mup_other 34 (by omega)
      have e41 : fndx mem ((-1000001)) 41 = mem 41 := mup_other 41 (by omega)
      have e42 : fndx mem ((-1000001)) 42 = mem 42 := mup_other 42 (by omega)
      refine ct1I rfl (by decide) (Nat.le_of_ble_eq_true rfl) (rg_X4_sheet_0 ?_)
      simp only [e35, e34, e41, e42]
      (repeat' (first | exact hfm | intro _ | apply And.intro)) <;> (first | omega | rfl | trivial | (exfalso; omega)))
    · exact prF h hD (f := (-1000007)) (by omega) (fun hfx => ct1I rfl (by decide) (Nat.le_of_ble_eq_true rfl) (rg_X3_sheet_0 (by (repeat' (first | exact hfx | intro _ | apply And.intro)) <;> (first | omega | rfl | trivial | (exfalso; omega))))) (fun hfm => by
      have e35 : fndx mem ((-1000007)) 35 = mem 35 := mup_other 35 (by omega)
      have e34 : fndx mem ((-1000007)) 34 = mem 34 := mup_other 34 (by omega)
      have e41 : fndx mem ((-1000007)) 41 = mem 41 := mup_other 41 (by omega)
      have e42 : fndx mem ((-1000007)) 42 = mem 42 := mup_other 42 (by omega)
      refine ct1I rfl (by decide) (Nat.le_of_ble_eq_true rfl) (rg_X4_sheet_0 ?_)
      simp only [e35, e34, e41, e42]
      (repeat' (first | exact hfm | intro _ | apply And.intro)) <;> (first | omega | rfl | trivial | (exfalso; omega)))
  · exact prF h hD (f := (-1000001)) (by omega) (fun hfx => ct1I rfl (by decide) (Nat.le_of_ble_eq_true rfl) (rg_X3_sheet_0 (by (repeat' (first | exact hfx | intro _ | apply And.intro)) <;> (first | omega | rfl | trivial | (exfalso; omega))))) (fun hfm => by
      have e35 : fndx mem ((-1000001)) 35 = mem 35 := mup_other 35 (by omega)
      have e34 : fndx mem ((-1000001)) 34 = mem 34 := mup_other 34 (by omega)
      have e41 : fndx mem ((-1000001)) 41 = mem 41 := mup_other 41 (by omega)
      have e42 : fndx mem ((-1000001)) 42 = mem 42 := mup_other 42 (by omega)
      refine ct1I rfl (by decide) (Nat.le_of_ble_eq_true rfl) (rg_X4_sheet_0 ?_)
      simp only [e35, e34, e41, e42]
      (repeat' (first | exact hfm | intro _ | apply And.intro)) <;> (first | omega | rfl | trivial | (exfalso; omega)))
end P11

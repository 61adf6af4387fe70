/-! ===== pairs: forbid ===== -/
section P8
variable {S : Sx} {D : Int} {mem : Zm} {x1 x2 x3 x4 x5 : Int} {A B : Nat → Int}
def fbV (A : Nat → Int) (s : Int) (j : Nat) : Int := if 0 ≤ A (12 + 14 * j + 2) ∧ inS s (A (12 + 14 * j + 2)).toNat = true then -1 else A (12 + 14 * j + 2)
def fbN (A : Nat → Int) (s : Int) : Nat → (Nat → Int)
  | 0 => A
  | j + 1 => up (fbN A s j) (12 + 14 * j + 2) (fbV A s j)
theorem fbN_o {s : Int} {i : Nat} : ∀ {n : Nat}, (∀ j, j < n → i ≠ 12 + 14 * j + 2) → fbN A s n i = A i := by
  intro n
  induction n with
  | zero => intro _; rfl
  | succ n ih => intro h; show up _ _ _ _ = _; rw [up_ne (h n (by omega)), ih (fun j q => h j (by omega))]
theorem fbN_i {s : Int} {j : Nat} : ∀ {n : Nat}, j < n → fbN A s n (12 + 14 * j + 2) = fbV A s j := by
  intro n
  induction n with
  | zero => intro h; omega
  | succ n ih =>
    intro h
    show up _ _ _ _ = _
    by_cases q : j = n
    · rw [q, up_at]
    · rw [up_ne (by omega), ih (by omega)]
theorem fbN_c {s t : Int} : ∀ {n : Nat}, (∀ j, j < n → fbV A s j = fbV A t j) → fbN A s n = fbN A t n := by
  intro n
  induction n with
  | zero => intro _; rfl
  | succ n ih => intro h; show up _ _ _ = up _ _ _; rw [ih (fun j q => h j (by omega)), h n (by omega)]
theorem fbV_in {s : Int} (h : OKA A) {j : Nat} (hj : (j : Int) < A 0) : -1 ≤ fbV A s j ∧ fbV A s j < A 0 := by
  have := h.c2 hj
  unfold fbV
  split <;> omega
theorem fbN_ok {s : Int} (h : OKA A) : ∀ n : Nat, (n : Int) ≤ A 0 → OKA (fbN A s n) ∧ fbN A s n 0 = A 0 := by
  have h0 := h.1
  intro n
  induction n with
  | zero => intro _; exact ⟨h, rfl⟩
  | succ n ih =>
    intro hn
    obtain ⟨g1, g2⟩ := ih (by omega)
    have := fbV_in (s := s) h (j := n) (by omega)
    exact ⟨g1.st (by omega) (fun _ => rng2 (by omega) (by omega)), by show up _ _ _ 0 = _; rw [up_ne (by omega), g2]⟩
theorem fbN_T {s : Int} (h : OKA A) : cT (fbN A s (nA A)) 0 = sumA A 5 (nA A) := by
  have hn := h.n
  show sumA (fbN A s (nA A)) 5 (nA (fbN A s (nA A))) = _
  rw [show nA (fbN A s (nA A)) = nA A by unfold nA; rw [(fbN_ok h _ (by unfold nA at hn; omega)).2]]
  exact sumA_eq _ (fun j _ => fbN_o (fun i _ => by omega))
theorem lnd_mem (h : OKA A) {j : Nat} : ∀ n : Nat, (n : Int) ≤ A 0 → j < n → 0 ≤ A (12 + 14 * j + 2) → inS (lndA A n) (A (12 + 14 * j + 2)).toNat = true := by
  have h0 := h.1
  intro n
  induction n with
  | zero => intro _ q; omega
  | succ n ih =>
    intro hn hj hf
    have g := lndA_in h n (by omega)
    have c1 := h.c2 (c := n) (by omega)
    have c2 := h.c2 (c := j) (by omega)
    show inS (if _ then _ else _) _ = true
    split
    · rename_i z
      exact ih (by omega) (by by_cases q : j = n; (rw [q] at hf; omega); omega) hf
    · rw [inS_or g (by omega) (by omega)]
      by_cases q : j = n
      · rw [q, show decide ((((A (12 + 14 * n + 2)).toNat : Nat) : Int) = A (12 + 14 * n + 2)) = true from decide_eq_true (by omega), Bool.or_true]
      · rw [ih (by omega) (by omega) hf, Bool.true_or]
theorem pow_or : ∀ n : Nat, n < 9 → ∀ s : Nat, s < 2 ^ n → ∀ j : Nat, j < n → bOr (s : Int) (bShl 1 (j : Int)) < 2 ^ n := by decide +kernel
theorem pow_shl : ∀ n : Nat, n < 9 → bShl 1 (n : Int) = 2 ^ n := by decide +kernel
theorem lnd_pow (h : OKA A) : ∀ n : Nat, (n : Int) ≤ A 0 → lndA A n < 2 ^ (nA A) := by
  have h0 := h.1
  have hN := h.n
  intro n
  induction n with
  | zero => intro _; show (0 : Int) < 2 ^ (nA A); exact Int.pow_pos (by decide)
  | succ n ih =>
    intro hn
    have g := lndA_in h n (by omega)
    have c1 := h.c2 (c := n) (by omega)
    have i := ih (by omega)
    show (if _ then _ else _) < _
    split
    · exact i
    · obtain ⟨s, hs, es⟩ := pow_nat (n := nA A) ⟨g.1, i⟩
      obtain ⟨f, hf, ef⟩ := int_nat (x := A (12 + 14 * n + 2)) (n := nA A) ⟨by omega, by omega⟩
      rw [es, ef]
      exact pow_or _ (by omega) s hs f hf
/-! nobody copies: nobody is caught -/
theorem wA_c2 {c j : Nat} : wA A c (12 + 14 * j + 2) = A (12 + 14 * j + 2) := by
  unfold wA pyA
  split
  · rw [up_ne (by omega), up_ne (by omega), w1_other (by omega)]
  · rw [w1_other (by omega)]
theorem wN_c2 {j : Nat} : ∀ n : Nat, wN A n (12 + 14 * j + 2) = A (12 + 14 * j + 2) := by
  intro n
  induction n with
  | zero => rfl
  | succ n ih => show wA _ _ _ = _; rw [wA_c2, ih]
theorem cp_no {c : Nat} (h : A (12 + 14 * c + 2) = -1) : cpP A c = false := by
  unfold cpP
  exact decide_eq_false (fun q => by omega)
theorem wN_no (hA : OKA A) (h : ∀ c : Nat, (c : Int) < A 0 → A (12 + 14 * c + 2) = -1) : ∀ n : Nat, (n : Int) ≤ A 0 → (∀ k, k < 8 → wN A n (4 + k) = A (4 + k)) ∧ wN A n 3 = A 3 ∧ ∀ c k, c < n → k < 8 → wN A n (12 + 14 * c + (6 + k)) = A (4 + k) ∨ wN A n (12 + 14 * c + (6 + k)) = -1 := by
  intro n
  induction n with
  | zero => intro _; exact ⟨fun _ _ => rfl, rfl, fun c k q => absurd q (by omega)⟩
  | succ n ih =>
    intro hn
    obtain ⟨i1, i2, i3⟩ := ih (by omega)
    have e : wN A (n + 1) = w1 (wN A n) n 8 := by
      show wA (wN A n) n = _
      unfold wA
      rw [if_neg]
      rw [cp_no (by rw [wN_c2]; exact h n (by omega))]
      decide
    rw [e]
    refine ⟨fun k hk => by rw [w1_other (by omega)]; exact i1 k hk, by rw [w1_other (by omega)]; exact i2, fun c k hc hk => ?_⟩
    by_cases q : c = n
    · rw [q, w1_at hk]
      unfold anV
      rw [cp_no (A := wN A n) (by rw [wN_c2]; exact h n (by omega)), i1 k hk]
      split
      · exact .inl rfl
      · exact .inr (if_neg (by decide))
    · rw [w1_other (by omega)]; exact i3 c k (by omega) hk
theorem fnd_no {W : Nat → Int} (hl : 1 ≤ W 3) {n c : Nat} (h : ∀ k, k < 8 → W (12 + 14 * c + (6 + k)) = W (4 + k) ∨ W (12 + 14 * c + (6 + k)) = -1) : fndN W c n = false := by
  cases q : fndN W c n
  · rfl
  · obtain ⟨o, _, _, h3⟩ := (fndN_iff W c n).1 q
    have e : alk W c o = 0 := by
      show sS (alkB W c o) 8 = sS (fun _ => false) 8
      refine sS_congr (fun k hk => ?_)
      unfold alkB
      refine decide_eq_false (fun z => ?_)
      rcases h k hk with r | r
      · exact z.2.2 r
      · exact z.2.1 r
    rw [e, show pcn 0 = 0 by decide] at h3
    omega
theorem mkN_no {W : Nat → Int} (hW : OKA W) (h : ∀ c k : Nat, (c : Int) < W 0 → k < 8 → W (12 + 14 * c + (6 + k)) = W (4 + k) ∨ W (12 + 14 * c + (6 + k)) = -1) : ∀ n : Nat, (n : Int) ≤ W 0 → ∀ j, mkN W n (12 + 14 * j + 5) = W (12 + 14 * j + 5) ∧ mkN W n (12 + 14 * j + 2) = W (12 + 14 * j + 2) := by
  have hl := hW.lim
  have h0 := hW.1
  intro n
  induction n with
  | zero => intro _ j; exact ⟨rfl, rfl⟩
  | succ n ih =>
    intro hn j
    have g := mkN_low (A := W) (i := 3) (by omega) n (by omega)
    have e : mkN W (n + 1) = up (mkN W n) (12 + 14 * n + 3) (min 9999 (mkN W n (12 + 14 * n + 3) + cnt (gdB (mkN W n) n) 8)) := by
      show mkA (mkN W n) n = _
      unfold mkA
      rw [if_neg]
      rw [fnd_no (W := mkN W n) (by rw [g]; omega) (fun k hk => by rw [mkN_ans hk, mkN_low (by omega) n (by omega)]; exact h n k (by omega) hk)]
      decide
    rw [e, up_ne (by omega), up_ne (by omega)]
    exact ih (by omega) j
theorem day_no (hA : OKA A) (h : ∀ c : Nat, (c : Int) < A 0 → A (12 + 14 * c + 2) = -1) (j : Nat) : dayA A (12 + 14 * j + 5) = A (12 + 14 * j + 5) ∧ dayA A (12 + 14 * j + 2) = A (12 + 14 * j + 2) := by
  have hn := hA.n
  obtain ⟨g1, g2⟩ := wN_ok hA (nA A) (by omega)
  obtain ⟨i1, i2, i3⟩ := wN_no hA h (nA A) (by omega)
  have m := mkN_no g1 (fun c k q hk => by rw [i1 k hk]; exact i3 c k (by omega) hk) (nA A) (by omega) j
  unfold dayA
  rw [up_ne (by omega), up_ne (by omega), rtN_hi (by omega) 8 (by omega), rtN_hi (by omega) 8 (by omega), m.1, m.2, wN_c5, wN_c2]
  exact ⟨rfl, rfl⟩
theorem dN_no (hA : OKA A) (h : ∀ c : Nat, (c : Int) < A 0 → A (12 + 14 * c + 2) = -1) : ∀ n j, dN n A (12 + 14 * j + 5) = A (12 + 14 * j + 5) ∧ dN n A (12 + 14 * j + 2) = A (12 + 14 * j + 2) := by
  intro n
  induction n with
  | zero => intro j; exact ⟨rfl, rfl⟩
  | succ n ih =>
    intro j
    obtain ⟨g1, g2, g3⟩ := dN_ok hA n
    rw [dN_s]
    have q := day_no g1 (fun c hc => by rw [(ih c).2]; exact h c (by omega)) j
    rw [q.1, q.2]
    exact ih j
theorem cT_no (hA : OKA A) (h : ∀ c : Nat, (c : Int) < A 0 → A (12 + 14 * c + 2) = -1) (n : Nat) : cT A n = cT A 0 := sumA_eq _ (fun j _ => (dN_no hA h n j).1)
/-- sets of children who may not be copied from, with nobody caught -/
def fbP (A : Nat → Int) (d : Nat) (s : Int) : Prop := cT (fbN A s (nA A)) d = sumA A 5 (nA A)
theorem fbP_and (h : OKA A) {d : Nat} {s : Int} (hs : 0 ≤ s ∧ s < 256) : fbP A d (bAnd s (lndA A (nA A))) ↔ fbP A d s := by
  have hn := h.n
  have g := lndA_in h (nA A) (by omega)
  unfold fbP
  rw [fbN_c (A := A) (s := bAnd s (lndA A (nA A))) (t := s) (n := nA A) (fun j hj => ?_)]
  unfold fbV
  by_cases q : 0 ≤ A (12 + 14 * j + 2)
  · rw [inS_and hs g, lnd_mem h (nA A) (by omega) hj q, Bool.and_true]
  · rw [if_neg (fun z => q z.1), if_neg (fun z => q z.1)]
theorem fbP_all (h : OKA A) (d : Nat) : fbP A d (lndA A (nA A)) := by
  have hn := h.n
  unfold fbP
  have ok := fbN_ok (s := lndA A (nA A)) h (nA A) (by omega)
  rw [← fbN_T (s := lndA A (nA A)) h]
  refine cT_no ok.1 (fun c hc => ?_) d
  rw [ok.2] at hc
  have c2 := h.c2 hc
  rw [fbN_i (by omega)]
  unfold fbV
  by_cases q : 0 ≤ A (12 + 14 * c + 2)
  · rw [if_pos ⟨q, lnd_mem h (nA A) (by omega) (by omega) q⟩]
  · rw [if_neg (fun z => q z.1)]; omega
theorem sub_no (a b : Int) : bAnd (bAnd a b) (bXor b (-1)) = 0 := by
  unfold bAnd bXor
  rw [Int32.ofInt_toInt, Int32.ofInt_toInt]
  have e : Int32.ofInt a &&& Int32.ofInt b &&& (Int32.ofInt b ^^^ Int32.ofInt (-1)) = 0 := by
    apply Int32.toBitVec_inj.1
    rw [Int32.toBitVec_and, Int32.toBitVec_and, Int32.toBitVec_xor]
    apply BitVec.eq_of_getElem_eq
    intro i hi
    rw [BitVec.getElem_and, BitVec.getElem_and, BitVec.getElem_xor, show (Int32.ofInt (-1)).toBitVec = BitVec.allOnes 32 by decide, BitVec.getElem_allOnes, show (0 : Int32).toBitVec = 0#32 by decide, BitVec.getElem_zero]
    cases (Int32.ofInt a).toBitVec[i] <;> cases (Int32.ofInt b).toBitVec[i] <;> rfl
  rw [e]
  rfl
theorem and_self' {s : Int} (h : 0 ≤ s ∧ s < 256) : bAnd s s = s := by
  obtain ⟨n, hn, rfl⟩ := int_nat h
  rw [bAnd_nat hn hn, Nat.and_self]
theorem pcn_in {s : Int} (h : 0 ≤ s ∧ s < 256) : 0 ≤ pcn s ∧ pcn s ≤ 8 := by
  rw [pcn_inS h]
  have := cnt_le (inS s) 8
  omega
theorem pcn_and {s t : Int} (hs : 0 ≤ s ∧ s < 256) (ht : 0 ≤ t ∧ t < 256) : pcn (bAnd s t) ≤ pcn s := by
  rw [pcn_inS hs, pcn_inS (and_in hs ht)]
  refine cnt_mono (fun k _ q => ?_)
  rw [inS_and hs ht, Bool.and_eq_true] at q
  exact q.1
theorem pcn8 : ∀ s : Nat, s < 256 → pcn (s : Int) = 8 → s = 255 := by decide +kernel
/-- the smallest such set, and the least of these -/
theorem fb_min (h : OKA A) (d : Nat) : ∃ r : Nat, (r < 256 ∧ (r : Int) ≤ lndA A (nA A) ∧ bAnd (r : Int) (bXor (lndA A (nA A)) (-1)) = 0 ∧ fbP A d (r : Int)) ∧ (∀ t : Nat, t < 256 → fbP A d (t : Int) → pcn (r : Int) < pcn (t : Int) ∨ (pcn (r : Int) = pcn (t : Int) ∧ r ≤ t)) ∧ (pcn (r : Int) = 8 → (r : Int) = lndA A (nA A)) := by
  have hn := h.n
  have g := lndA_in h (nA A) (by omega)
  obtain ⟨c, hc, ec⟩ := int_nat g
  rw [ec] at g ⊢
  have key : ∀ t : Nat, t < 256 → (t : Int) ≤ c → bAnd (t : Int) (bXor (c : Int) (-1)) = 0 → fbP A d (t : Int) → ∃ κ, κ < 2304 ∧ κ % 256 = t ∧ ((κ / 256 : Nat) : Int) = pcn (t : Int) := fun t ht _ _ _ => by
    have := pcn_in (s := (t : Int)) (by omega)
    exact ⟨(pcn (t : Int)).toNat * 256 + t, by omega, by omega, by omega⟩
  have allc : bAnd (c : Int) (bXor (c : Int) (-1)) = 0 := by
    have := sub_no (c : Int) (c : Int)
    rw [and_self' g] at this
    exact this
  have pc : fbP A d (c : Int) := by have := fbP_all h d; rw [ec] at this; exact this
  rcases leastD (fun κ => (((κ % 256 : Nat) : Int) ≤ c ∧ bAnd ((κ % 256 : Nat) : Int) (bXor (c : Int) (-1)) = 0 ∧ fbP A d ((κ % 256 : Nat) : Int)) ∧ ((κ / 256 : Nat) : Int) = pcn ((κ % 256 : Nat) : Int)) 2304 with ⟨κ, k1, ⟨⟨k2, k3, k4⟩, k5⟩, k6⟩ | no
  · have low : ∀ t : Nat, t < 256 → fbP A d (t : Int) → pcn ((κ % 256 : Nat) : Int) < pcn (t : Int) ∨ (pcn ((κ % 256 : Nat) : Int) = pcn (t : Int) ∧ κ % 256 ≤ t) := fun t ht pt => by
      have hu := and_in (s := (t : Int)) (t := (c : Int)) (by omega) g
      obtain ⟨u, hu2, eu⟩ := int_nat hu
      have pu : fbP A d (u : Int) := by rw [← eu, ← ec]; exact (fbP_and h (by omega)).2 pt
      have le1 := pcn_and (s := (t : Int)) (t := (c : Int)) (by omega) g
      rw [eu] at le1
      have eun : u = t &&& c := by
        have := bAnd_nat ht hc
        rw [eu] at this
        omega
      have ut : u ≤ t := by rw [eun]; exact Nat.and_le_left
      have uc : u ≤ c := by rw [eun]; exact Nat.and_le_right
      have us : bAnd (u : Int) (bXor (c : Int) (-1)) = 0 := by rw [← eu]; exact sub_no _ _
      obtain ⟨κ2, j1, j2, j3⟩ := key u hu2 (by omega) us pu
      have : ¬ κ2 < κ := fun q => k6 κ2 q ⟨⟨by rw [j2]; omega, by rw [j2]; exact us, by rw [j2]; exact pu⟩, by rw [j2]; exact j3⟩
      omega
    refine ⟨κ % 256, ⟨by omega, k2, k3, k4⟩, low, fun q => ?_⟩
    have := pcn8 (κ % 256) (by omega) q
    omega
  · obtain ⟨κ, j1, j2, j3⟩ := key c hc (by omega) allc pc
    exact absurd ⟨⟨by rw [j2]; omega, by rw [j2]; exact allc, by rw [j2]; exact pc⟩, by rw [j2]; exact j3⟩ (no κ j1)
theorem xt_tryNo (hX : XR mem 1 A) (hA : OKA A) {s : Int} (hs : 0 ≤ s ∧ s < 256) : ∃ m2, Ct1 S mX3_tryWithoutCopiesFrom [Aq 0, Iq s] mem none m2 ∧ XR m2 8 (fbN A s (nA A)) ∧ Fr 8 mem m2 := by
  have hn := hA.n
  have h0 := hA.1
  obtain ⟨m1, k1, k2, k3⟩ := xt_become (S := S) (r := 8) (r1 := 1) isR8 isR1 (by decide) hX
  obtain ⟨m2, ⟨a1, a2⟩, ago⟩ := loopE (fun Q j (M : Zm) => PW S mX3_tryWithoutCopiesFrom Q 13 [some (Aq 0), some (Iq s), some (Iq (j : Int)), none] [] M) (fun j M => XR M 8 (fbN A s j) ∧ Fr 8 mem M) (n := nA A) (s0 := m1) ⟨k2, k3⟩ (by
    intro j M hj ⟨b1, b2⟩
    have e7 : M 8 7 = A 0 := by rw [b1.1.1]; exact (fbN_ok hA j (by omega)).2
    have ef : M (8 + 2) (6 * ((j : Int)).toNat + 2) = A (12 + 14 * j + 2) := by rw [Int.toNat_natCast, b1.f (by omega) (by omega)]; exact fbN_o (fun i _ => by omega)
    have c2 := hA.c2 (c := j) (by omega)
    by_cases q : 0 ≤ A (12 + 14 * j + 2) ∧ inS s (A (12 + 14 * j + 2)).toNat = true
    · have v : fbV A s j = -1 := if_pos q
      have bit := (inS_shr hs (k := (A (12 + 14 * j + 2)).toNat) (by omega)).2 q.2
      rw [show (((A (12 + 14 * j + 2)).toNat : Nat) : Int) = A (12 + 14 * j + 2) by omega] at bit
      refine ⟨mup M (8 + 2) (6 * j + 2) (-1), ⟨?_, b2.trans (Fr.mup (by omega))⟩, fun Q hq => rg_X3_tryWithoutCopiesFrom_13 ⟨fun z => by omega, fun _ => ⟨by omega, fun z => by rw [ef] at z; omega, fun _ => ⟨fun _ => ⟨by omega, by omega, ?_⟩, fun z => by rw [ef] at z; exact absurd bit z⟩⟩⟩⟩
      · show XR _ 8 (up _ _ _)
        rw [v]
        exact b1.fact (by omega) (by omega) (-1)
      · rw [Int.toNat_natCast]; exact hq
    · have v : fbV A s j = A (12 + 14 * j + 2) := if_neg q
      have en : fbN A s (j + 1) = fbN A s j := by
        show up _ _ _ = _
        rw [v, ← fbN_o (A := A) (s := s) (i := 12 + 14 * j + 2) (n := j) (fun i _ => by omega), up_self]
      refine ⟨M, ⟨by rw [en]; exact b1, b2⟩, fun Q hq => rg_X3_tryWithoutCopiesFrom_13 ⟨fun z => by omega, fun _ => ⟨by omega, fun _ => ⟨by omega, hq⟩, fun z => ⟨fun z2 => ?_, fun _ => ⟨by omega, hq⟩⟩⟩⟩⟩
      rw [ef] at z z2
      refine absurd ⟨by omega, (inS_shr hs (k := (A (12 + 14 * j + 2)).toNat) (by omega)).1 ?_⟩ q
      rw [show (((A (12 + 14 * j + 2)).toNat : Nat) : Int) = A (12 + 14 * j + 2) by omega]
      exact z2)
  have e7 : m2 8 7 = A 0 := by rw [a1.1.1]; exact (fbN_ok hA _ (by omega)).2
  exact ⟨m2, ct1V rfl (by decide) (Nat.le_of_ble_eq_true rfl) (rg_X3_tryWithoutCopiesFrom_0 ⟨m1, k1, ago _ (rg_X3_tryWithoutCopiesFrom_13 ⟨fun _ => ⟨rfl, rfl⟩, fun z => by omega⟩)⟩), a1, a2⟩
theorem pr_forbid (h : IV D mem) (hD : D ≤ 90000) : PR S D mem mX3_forbid mX4_forbid [Iq x1] := by
  have hD2 : D ≤ 90000 := hD
  have hD : D ≤ 1000000 := by omega
  have hd := h.d
  have hN := h.X.1.1
  have h0 := h.A.1
  have hnA := h.A.n
  by_cases c : 0 ≤ x1 ∧ x1 ≤ 12
  · obtain ⟨n, hn, rfl⟩ := int_nat (x := x1) (n := 13) ⟨by omega, by omega⟩
    obtain ⟨r, ⟨r1, r2, r3, r4⟩, r5, r6⟩ := fb_min h.A n
    have g := lndA_in h.A (nA (mem 35)) (by omega)
    have gp := lnd_pow h.A (nA (mem 35)) (by omega)
    obtain ⟨L, hL, eL⟩ := int_nat g
    obtain ⟨T, eT⟩ : ∃ T, T = sumA (mem 35) 5 (nA (mem 35)) := ⟨_, rfl⟩
    have fok := fun s => fbN_ok (s := s) h.A (nA (mem 35)) (by omega)
    have fday : ∀ s j, fbN (mem 35) s j 1 = mem 35 1 := fun s j => fbN_o (fun i _ => by omega)
    have cx := xt_copied (S := S) isR1 h.X h.A
    rw [eL] at r2 r3 r6 gp cx
    have pr := pcn_in (s := (r : Int)) (by omega)
    -- one try of x
    have sx : ∀ {M : Zm} {t : Nat}, t < 256 → Fr 8 mem M → ∃ m1 m2, Ct1 S mX3_tryWithoutCopiesFrom [Aq 0, Iq (t : Int)] M none m1 ∧ Ct1 S mX3_nobodyIsCaughtInTrial [Aq 0, Iq (n : Int)] m1 (some (Iq (bI (cT (fbN (mem 35) (t : Int) (nA (mem 35))) n = cT (fbN (mem 35) (t : Int) (nA (mem 35))) 0)))) m2 ∧ Fr 8 mem m2 := fun {M} {t} ht b => by
      obtain ⟨m1, k1, k2, k3⟩ := xt_tryNo (S := S) (b.X1 h.X) h.A (s := (t : Int)) (by omega)
      obtain ⟨m2, q1, q2⟩ := xt_nobody (S := S) ((b.trans k3).X1 h.X) h.A k2 (fok _).1 (by rw [fday]; omega) (fbN_T h.A).symm (n := n) (by omega)
      exact ⟨m1, m2, k1, q1, (b.trans k3).trans q2⟩
    have pI : ∀ {t : Nat}, fbP (mem 35) n (t : Int) ↔ cT (fbN (mem 35) (t : Int) (nA (mem 35))) n = cT (fbN (mem 35) (t : Int) (nA (mem 35))) 0 := fun {t} => by rw [fbN_T h.A]; exact Iff.rfl
    -- a set that does not serve
    have s36 : ∀ {M : Zm} {k t : Nat}, t ≤ L → Fr 8 mem M → (pcn (t : Int) = (k : Int) → ¬ fbP (mem 35) n (t : Int)) → ∃ m2, Fr 8 mem m2 ∧ ∀ Q, PW S mX3_forbid Q 36 [some (Aq 0), some (Iq (n : Int)), some (Iq (L : Int)), some (Iq (k : Int)), some (Iq ((t + 1 : Nat) : Int))] [] m2 → PW S mX3_forbid Q 36 [some (Aq 0), some (Iq (n : Int)), some (Iq (L : Int)), some (Iq (k : Int)), some (Iq (t : Int))] [] M := fun {M} {k} {t} ht b np => by
      by_cases q1 : bAnd (t : Int) (bXor (L : Int) (-1)) = 0
      · by_cases q2 : pcn (t : Int) = (k : Int)
        · obtain ⟨m1, m2, u1, u2, u3⟩ := sx (t := t) (by omega) b
          exact ⟨m2, u3, fun Q hq => rg_X3_forbid_36 ⟨fun z => by omega, fun _ => ⟨fun _ => ⟨by omega, fun _ => ⟨m1, u1, _, m2, u2, fun _ => ⟨by omega, hq⟩, fun z => absurd (if_neg (fun w => np q2 (pI.2 w))) z⟩, fun z => absurd q2 z⟩, fun z => absurd q1 z⟩⟩⟩
        · exact ⟨M, b, fun Q hq => rg_X3_forbid_36 ⟨fun z => by omega, fun _ => ⟨fun _ => ⟨by omega, fun z => absurd z q2, fun _ => ⟨by omega, hq⟩⟩, fun z => absurd q1 z⟩⟩⟩
      · exact ⟨M, b, fun Q hq => rg_X3_forbid_36 ⟨fun z => by omega, fun _ => ⟨fun z => absurd z q1, fun _ => ⟨by omega, hq⟩⟩⟩⟩
    have l36 : ∀ {M : Zm} {k e : Nat}, e ≤ L + 1 → Fr 8 mem M → (∀ t, t < e → pcn (t : Int) = (k : Int) → ¬ fbP (mem 35) n (t : Int)) → ∃ m2, Fr 8 mem m2 ∧ ∀ Q, PW S mX3_forbid Q 36 [some (Aq 0), some (Iq (n : Int)), some (Iq (L : Int)), some (Iq (k : Int)), some (Iq (e : Int))] [] m2 → PW S mX3_forbid Q 36 [some (Aq 0), some (Iq (n : Int)), some (Iq (L : Int)), some (Iq (k : Int)), some (Iq ((0 : Nat) : Int))] [] M := fun {M} {k} {e} he b np =>
      loopE (fun Q t (M : Zm) => PW S mX3_forbid Q 36 [some (Aq 0), some (Iq (n : Int)), some (Iq (L : Int)), some (Iq (k : Int)), some (Iq (t : Int))] [] M) (fun t M => Fr 8 mem M) (n := e) (s0 := M) b (fun t M ht b => s36 (by omega) b (np t ht))
    obtain ⟨p, hp, ep⟩ := int_nat (x := pcn (r : Int)) (n := 9) ⟨by omega, by omega⟩
    have l27 : ∃ m2, Fr 8 mem m2 ∧ ∀ Q, PW S mX3_forbid Q 27 [some (Aq 0), some (Iq (n : Int)), some (Iq (L : Int)), some (Iq (p : Int)), none] [] m2 → PW S mX3_forbid Q 27 [some (Aq 0), some (Iq (n : Int)), some (Iq (L : Int)), some (Iq ((0 : Nat) : Int)), none] [] mem :=
      loopE (fun Q k (M : Zm) => PW S mX3_forbid Q 27 [some (Aq 0), some (Iq (n : Int)), some (Iq (L : Int)), some (Iq (k : Int)), none] [] M) (fun k M => Fr 8 mem M) (n := p) (s0 := mem) Fr.rfl' (fun k M hk b => by
        obtain ⟨m2, a, go⟩ := l36 (M := M) (k := k) (e := L + 1) (by omega) b (fun t ht q pt => by have := r5 t (by omega) pt; omega)
        exact ⟨m2, a, fun Q hq => rg_X3_forbid_27 ⟨fun z => by omega, fun _ => go Q (rg_X3_forbid_36 ⟨fun _ => ⟨by omega, hq⟩, fun z => by omega⟩)⟩⟩)
    obtain ⟨m1, a1, ago⟩ := l27
    obtain ⟨m3, t1, tgo⟩ : ∃ m3, Fr 8 mem m3 ∧ PW S mX3_forbid (fun rr m => rr = some (Iq (r : Int)) ∧ m = m3) 27 [some (Aq 0), some (Iq (n : Int)), some (Iq (L : Int)), some (Iq (p : Int)), none] [] m1 := by
      by_cases q : p = 8
      · exact ⟨m1, a1, rg_X3_forbid_27 ⟨fun _ => ⟨by rw [r6 (by omega)], rfl⟩, fun z => by omega⟩⟩
      · obtain ⟨m2, b, go⟩ := l36 (M := m1) (k := p) (e := r) (by omega) a1 (fun t ht q pt => by have := r5 t (by omega) pt; omega)
        obtain ⟨m4, m5, u1, u2, u3⟩ := sx (t := r) (by omega) b
        exact ⟨m5, u3, rg_X3_forbid_27 ⟨fun z => by omega, fun _ => go _ (rg_X3_forbid_36 ⟨fun z => by omega, fun _ => ⟨fun _ => ⟨by omega, fun _ => ⟨m4, u1, _, m5, u2, fun z => absurd (z.symm.trans (if_pos (pI.1 r4))) (by decide), fun _ => ⟨rfl, rfl⟩⟩, fun z => absurd ep z⟩, fun z => absurd r3 z⟩⟩)⟩⟩
    have e35 : m3 35 = mem 35 := t1 35 (by omega)
    -- one set of the model's
    have s73 : ∀ {M : Zm} {s : Nat} {b : Int}, s < 256 → LA m3 M → ∃ m2, LA m3 m2 ∧ ∀ Q, ((fbP (mem 35) n (s : Int) → PW S mX4_forbid Q 41 [some (Aq 34), some (Iq (n : Int)), some (Iq T), some (Iq (s : Int)), some (Iq ((s + 1 : Nat) : Int)), none, none] [] m2) ∧ (¬ fbP (mem 35) n (s : Int) → PW S mX4_forbid Q 41 [some (Aq 34), some (Iq (n : Int)), some (Iq T), some (Iq b), some (Iq ((s + 1 : Nat) : Int)), none, none] [] m2)) → PW S mX4_forbid Q 73 [some (Aq 34), some (Iq (n : Int)), some (Iq T), some (Iq b), some (Iq (s : Int)), some (Iq ((0 : Nat) : Int)), none] [] M := fun {M} {s} {b} hs hb => by
      obtain ⟨m2, ⟨a1, a2⟩, ago⟩ := loopE (fun Q j (M : Zm) => PW S mX4_forbid Q 73 [some (Aq 34), some (Iq (n : Int)), some (Iq T), some (Iq b), some (Iq (s : Int)), some (Iq (j : Int)), none] [] M) (fun j M2 => M2 35 = fbN (mem 35) (s : Int) j ∧ ∀ o, o ≠ 35 → M2 o = M o) (n := nA (mem 35)) (s0 := M) ⟨by rw [hb.1, e35]; rfl, fun _ _ => rfl⟩ (by
        intro j M2 hj ⟨b1, b2⟩
        have c2 := h.A.c2 (c := j) (by omega)
        have e0 : M2 35 0 = mem 35 0 := by rw [b1]; exact (fbN_ok h.A j (by omega)).2
        have ef : M2 35 (12 + 14 * ((j : Int)).toNat + 2) = mem 35 (12 + 14 * j + 2) := by rw [Int.toNat_natCast, b1]; exact fbN_o (fun i _ => by omega)
        have ei : (12 + 14 * (j : Int) + 2).toNat = 12 + 14 * j + 2 := by omega
        refine ⟨mup M2 35 (12 + 14 * j + 2) (fbV (mem 35) (s : Int) j), ⟨by rw [mup_up, b1]; rfl, fun o ho => by rw [mup_other o ho]; exact b2 o ho⟩, fun Q hq => rg_X4_forbid_73 ?_⟩
        rw [e0, ef, ei]
        refine ⟨fun z => by omega, fun _ => ⟨by omega, by omega, fun z => ⟨by omega, by omega, ?_⟩, fun z => ⟨fun z2 => ⟨by omega, by omega, ?_⟩, fun z2 => ⟨by omega, by omega, ?_⟩⟩⟩⟩
        · rw [show mem 35 (12 + 14 * j + 2) = fbV (mem 35) (s : Int) j from (if_neg (fun w => by omega)).symm]; exact hq
        · rw [show (-1 : Int) = fbV (mem 35) (s : Int) j from (if_pos ⟨by omega, (inS_shr (by omega) (by omega)).1 (by rw [show (((mem 35 (12 + 14 * j + 2)).toNat : Nat) : Int) = mem 35 (12 + 14 * j + 2) by omega]; exact z2)⟩).symm]; exact hq
        · rw [show mem 35 (12 + 14 * j + 2) = fbV (mem 35) (s : Int) j from (if_neg (fun w => z2 (by have := (inS_shr (s := (s : Int)) (by omega) (by omega)).2 w.2; rw [show (((mem 35 (12 + 14 * j + 2)).toNat : Nat) : Int) = mem 35 (12 + 14 * j + 2) by omega] at this; exact this))).symm]; exact hq)
      have q := ct_X4_caughtThen (S := S) (mem := m2) (by rw [a1]; exact (fok _).1) (by rw [a1, fday]; omega) (n := n) (by omega)
      rw [a1] at q
      have e0 : m2 35 0 = mem 35 0 := by rw [a1]; exact (fok _).2
      have la : LA m3 (cprow (setR m2 35 (dN n (fbN (mem 35) (s : Int) (nA (mem 35))))) 38 35) := LA.bk (fun i hi => by rw [setR_at, dN_hi (fok _).1 hi, fbN_o (fun j hj => by omega), e35]) (fun i hi => by rw [setR_ne _ _ (by omega), a2 38 (by omega)]; exact hb.2.1 i hi) (fun o a b => by rw [setR_ne _ _ a, a2 o a]; exact hb.2.2 o a b)
      refine ⟨_, la, fun Q hq => ago Q (rg_X4_forbid_73 ⟨fun _ => ⟨_, _, q, fun z => ⟨by omega, hq.1 (by unfold fbP; rw [z, eT])⟩, fun z => ⟨by omega, hq.2 (fun w => z (by unfold fbP at w; rw [w, eT]))⟩⟩, fun z => by omega⟩)⟩
    have p2 : bShl 1 (mem 35 0) = 2 ^ (nA (mem 35)) := by rw [← hnA.1]; exact pow_shl _ (by omega)
    have hr2 : (r : Int) < 2 ^ (nA (mem 35)) := by omega
    obtain ⟨N2, eN2⟩ : ∃ N2 : Nat, N2 = 2 ^ (nA (mem 35)) := ⟨_, rfl⟩
    have eN3 : (2 : Int) ^ (nA (mem 35)) = (N2 : Int) := by rw [eN2]; exact (Int.natCast_pow 2 _).symm
    have le256 : N2 ≤ 2 ^ 8 := by rw [eN2]; exact Nat.pow_le_pow_right (by omega) hnA.2
    rw [eN3] at p2 hr2
    have L35 : ∀ {M : Zm}, LA m3 M → bShl 1 (M 35 0) = (N2 : Int) := fun {M} b => by rw [b.1, e35]; exact p2
    obtain ⟨⟨mA, bA⟩, ⟨v1, v2⟩, vgo⟩ := loopE (St := Zm × Int) (fun Q s M => PW S mX4_forbid Q 41 [some (Aq 34), some (Iq (n : Int)), some (Iq T), some (Iq M.2), some (Iq (s : Int)), none, none] [] M.1) (fun s M => LA m3 M.1 ∧ (M.2 = -1 ∨ ∃ t : Nat, M.2 = (t : Int) ∧ t < s ∧ fbP (mem 35) n (t : Int))) (n := r) (s0 := (cprow m3 35 38, -1)) ⟨LA.cp, .inl rfl⟩ (by
      intro s ⟨M, b⟩ hs ⟨b1, b2⟩
      simp only at b1 b2
      obtain ⟨m2, q1, q2⟩ := s73 (s := s) (b := b) (by omega) b1
      have w := L35 b1
      by_cases pc : b < 0 ∨ ¬ pcn b ≤ pcn (s : Int)
      · have go : ∀ Q, PW S mX4_forbid Q 73 [some (Aq 34), some (Iq (n : Int)), some (Iq T), some (Iq b), some (Iq (s : Int)), some (Iq ((0 : Nat) : Int)), none] [] M → PW S mX4_forbid Q 41 [some (Aq 34), some (Iq (n : Int)), some (Iq T), some (Iq b), some (Iq (s : Int)), none, none] [] M := fun Q hq => by
          have b256 : ¬ b < 0 → 0 ≤ b ∧ b < 256 := fun z => by
            rcases b2 with e | ⟨t, e, ht, _⟩ <;> omega
          exact rg_X4_forbid_41 ⟨fun z => by omega, fun _ => ⟨fun _ => hq, fun z => ⟨by omega, by have := b256 z; omega, fun z2 => by omega, fun _ => hq⟩⟩⟩
        by_cases ps : fbP (mem 35) n (s : Int)
        · exact ⟨(m2, (s : Int)), ⟨q1, .inr ⟨s, rfl, by omega, ps⟩⟩, fun Q hq => go Q (q2 Q ⟨fun _ => hq, fun z => absurd ps z⟩)⟩
        · exact ⟨(m2, b), ⟨q1, b2.imp id (fun ⟨t, e, ht, pt⟩ => ⟨t, e, by omega, pt⟩)⟩, fun Q hq => go Q (q2 Q ⟨fun z => absurd z ps, fun _ => hq⟩)⟩
      · refine ⟨(M, b), ⟨b1, b2.imp id (fun ⟨t, e, ht, pt⟩ => ⟨t, e, by omega, pt⟩)⟩, fun Q hq => ?_⟩
        have b256 : 0 ≤ b ∧ b < 256 := by
          rcases b2 with e | ⟨t, e, ht, _⟩ <;> omega
        exact (show PW S mX4_forbid Q 41 [some (Aq 34), some (Iq (n : Int)), some (Iq T), some (Iq b), some (Iq (s : Int)), none, none] [] M from rg_X4_forbid_41 ⟨fun z => by omega, fun _ => ⟨fun z => by omega, fun z => ⟨by omega, by omega, fun _ => ⟨by omega, hq⟩, fun z => by omega⟩⟩⟩))
    simp only at v1 v2
    obtain ⟨mB, q1, q2⟩ := s73 (s := r) (b := bA) (by omega) v1
    obtain ⟨mC, y1, ygo⟩ := loopE (fun Q k (M : Zm) => PW S mX4_forbid Q 41 [some (Aq 34), some (Iq (n : Int)), some (Iq T), some (Iq (r : Int)), some (Iq ((r + 1 + k : Nat) : Int)), none, none] [] M) (fun k M => LA m3 M) (n := N2 - (r + 1)) (s0 := mB) q1 (by
      intro k M hk b1
      have w := L35 b1
      obtain ⟨m2, q1, q2⟩ := s73 (s := r + 1 + k) (b := (r : Int)) (by omega) b1
      by_cases pc : pcn (r : Int) ≤ pcn ((r + 1 + k : Nat) : Int)
      · exact ⟨M, b1, fun Q hq => rg_X4_forbid_41 ⟨fun z => by omega, fun _ => ⟨fun z => by omega, fun z => ⟨by omega, by omega, fun _ => ⟨by omega, hq⟩, fun z => by omega⟩⟩⟩⟩
      · refine ⟨m2, q1, fun Q hq => rg_X4_forbid_41 ⟨fun z => by omega, fun _ => ⟨fun z => by omega, fun z => ⟨by omega, by omega, fun z => by omega, fun _ => q2 Q ⟨fun z => ?_, fun _ => hq⟩⟩⟩⟩⟩
        have := r5 _ (by omega) z
        omega)
    have wC := L35 y1
    have wA := L35 v1
    refine prQ h (v := (r : Int)) (ct1I rfl (by decide) (Nat.le_of_ble_eq_true rfl) (rg_X3_forbid_0 ⟨fun _ => ⟨_, _, cx, ago _ tgo⟩, fun z => absurd c z⟩)) t1.vis8 (ct1I rfl (by decide) (Nat.le_of_ble_eq_true rfl) (rg_X4_forbid_0 ⟨fun _ => ?_, fun z => absurd c z⟩)) y1.toVis
    rw [e35, ← eT]
    refine ⟨h.A, vgo _ ?_⟩
    have fin : PW S mX4_forbid (fun rr m => rr = some (Iq (r : Int)) ∧ m = mC) 41 [some (Aq 34), some (Iq (n : Int)), some (Iq T), some (Iq (r : Int)), some (Iq ((r + 1 : Nat) : Int)), none, none] [] mB := ygo _ (rg_X4_forbid_41 ⟨fun _ => ⟨rfl, rfl⟩, fun z => by omega⟩)
    have fin2 := q2 _ ⟨fun _ => fin, fun z => absurd r4 z⟩
    refine (show PW S mX4_forbid _ 41 [some (Aq 34), some (Iq (n : Int)), some (Iq T), some (Iq bA), some (Iq (r : Int)), none, none] [] mA from rg_X4_forbid_41 ⟨fun z => by omega, fun _ => ⟨fun _ => fin2, fun z => ⟨by omega, ?_, fun z2 => ?_, fun _ => fin2⟩⟩⟩)
    · rcases v2 with e | ⟨t, e, ht, _⟩ <;> omega
    · rcases v2 with e | ⟨t, e, ht, pt⟩
      · omega
      · have := r5 t (by omega) pt
        rw [e] at z2
        omega
  · exact prF h hD (f := (-1000001)) (by omega) (fun hfx => ct1I rfl (by decide) (Nat.le_of_ble_eq_true rfl) (rg_X3_forbid_0 (by (repeat' (first | exact hfx | intro _ | apply And.intro)) <;> (first | omega | rfl | trivial | (exfalso; omega))))) (fun hfm => by
      have e35 : fndx mem ((-1000001)) 35 = mem 35 := mup_other 35 (by omega)
      have e34 : fndx mem ((-1000001)) 34 = mem 34 := mup_other 34 (by omega)
      have e41 : fndx mem ((-1000001)) 41 = mem 41 := mup_other 41 (by omega)
      have e42 : fndx mem ((-1000001)) 42 = mem 42 := mup_other 42 (by omega)
      refine ct1I rfl (by decide) (Nat.le_of_ble_eq_true rfl) (rg_X4_forbid_0 ?_)
      simp only [e35, e34, e41, e42]
      (repeat' (first | exact hfm | intro _ | apply And.intro)) <;> (first | omega | rfl | trivial | (exfalso; omega)))
end P8

/-! ===== the class's side: what is asked of a room ===== -/
section RQ
variable {S : Sx} {mem : Zm} {r : Nat} {A : Nat → Int}
theorem xt_total (hr : isRoom r) (hX : XR mem r A) (hA : OKA A) {w : Nat} (hw : 3 ≤ w ∧ w ≤ 5) : Ct1 S mX0_total [Aq r, Iq (w : Int)] mem (some (Iq (sumA A w (nA A)))) mem := by
  have hn := hA.n
  refine ct1I rfl (by decide) (Nat.le_of_ble_eq_true rfl) (rg_X0_total_0 hr ?_)
  refine loopN (n := nA A) (P := fun i => PW S mX0_total (fun r2 m => r2 = some (Iq (sumA A w (nA A))) ∧ m = mem) 4 [some (Aq r), some (Iq (w : Int)), some (Iq (sumA A w i)), some (Iq (i : Int))] [] mem) ?_ ?_ 0 (by omega)
  · exact rg_X0_total_4 hr ⟨fun _ => ⟨rfl, rfl⟩, fun z => by rw [hX.1.1] at z; omega⟩
  · intro i hi ih
    refine rg_X0_total_4 hr ⟨fun z => by rw [hX.1.1] at z; omega, fun z => ?_⟩
    have g := sumA_in hA (w := w) (by omega) (i + 1) (by omega)
    have g2 : sumA A w (i + 1) = sumA A w i + A (12 + 14 * i + w) := rfl
    rw [Int.toNat_natCast, Int.toNat_natCast, hX.f (by omega) (by omega)]
    exact ⟨by omega, by omega, by omega, ih⟩
theorem xt_answered (hr : isRoom r) (hX : XR mem r A) {c : Nat} (hc : c < 8) : Ct1 S mX0_answeredSums [Aq r, Iq (c : Int)] mem (some (Iq (sS (adB A c) 8))) mem := by
  refine ct1I rfl (by decide) (Nat.le_of_ble_eq_true rfl) (rg_X0_answeredSums_0 hr ?_)
  refine loopN (n := 8) (P := fun i => PW S mX0_answeredSums (fun r2 m => r2 = some (Iq (sS (adB A c) 8)) ∧ m = mem) 4 [some (Aq r), some (Iq (c : Int)), some (Iq (sS (adB A c) i)), some (Iq (i : Int))] [] mem) ?_ ?_ 0 (by omega)
  · exact rg_X0_answeredSums_4 hr ⟨fun _ => ⟨rfl, rfl⟩, fun z => absurd (by decide) z⟩
  · intro i hi ih
    refine rg_X0_answeredSums_4 hr ⟨fun z => by omega, fun z => ?_⟩
    rw [Int.toNat_natCast, Int.toNat_natCast, hX.a hc hi]
    refine ⟨by omega, fun d => ⟨by omega, ?_⟩, fun d => ⟨by omega, ?_⟩⟩
    · rw [← sS_f (P := adB A c) (n := i) (decide_eq_false (fun z => z d))]; exact ih
    · rw [sS_t (P := adB A c) hi (decide_eq_true d)]; exact ih
theorem xt_wrong (hr : isRoom r) (hX : XR mem r A) {c : Nat} (hc : c < 8) : Ct1 S mX0_wrongSums [Aq r, Iq (c : Int)] mem (some (Iq (sS (wrB A c) 8))) mem := by
  refine ct1I rfl (by decide) (Nat.le_of_ble_eq_true rfl) (rg_X0_wrongSums_0 hr ?_)
  refine loopN (n := 8) (P := fun i => PW S mX0_wrongSums (fun r2 m => r2 = some (Iq (sS (wrB A c) 8)) ∧ m = mem) 4 [some (Aq r), some (Iq (c : Int)), some (Iq (sS (wrB A c) i)), some (Iq (i : Int)), none] [] mem) ?_ ?_ 0 (by omega)
  · exact rg_X0_wrongSums_4 hr ⟨fun _ => ⟨rfl, rfl⟩, fun z => absurd (by decide) z⟩
  · intro i hi ih
    refine rg_X0_wrongSums_4 hr ⟨fun z => by omega, fun z => ?_⟩
    rw [Int.toNat_natCast, Int.toNat_natCast, hX.a hc hi, hX.r hi]
    refine ⟨by omega, fun d => ⟨by omega, ?_⟩, fun d => ⟨by omega, fun d2 => ⟨by omega, ?_⟩, fun d2 => ⟨by omega, ?_⟩⟩⟩
    · rw [← sS_f (P := wrB A c) (n := i) (decide_eq_false (fun z => z.2 d))]; exact ih
    · rw [← sS_f (P := wrB A c) (n := i) (decide_eq_false (fun z => z.1 d2))]; exact ih
    · rw [sS_t (P := wrB A c) hi (decide_eq_true ⟨d2, d⟩)]; exact ih
theorem xt_alikeSums (hr : isRoom r) (hX : XR mem r A) {a b : Nat} (ha : a < 8) (hb : b < 8) : Ct1 S mX0_alikeSums [Aq r, Iq (a : Int), Iq (b : Int)] mem (some (Iq (alk A a b))) mem := by
  have sa := sS_256 (wrB A a) (Nat.le_refl 8)
  have sb := sS_256 (wrB A b) (Nat.le_refl 8)
  have esame : sS (fun k => inS (bAnd (sS (wrB A a) 8) (sS (wrB A b) 8)) k && decide (mem (r + 3) (8 * a + k) = mem (r + 3) (8 * b + k))) 8 = alk A a b := by
    refine sS_congr (fun k hk => ?_)
    rw [inS_and sa sb, inS_sS hk, inS_sS hk, hX.a ha hk, hX.a hb hk]
    unfold wrB alkB
    rw [← Bool.decide_and, ← Bool.decide_and]
    apply decide_eq_decide.mpr
    constructor
    · rintro ⟨⟨⟨h1, h2⟩, h3, h4⟩, h5⟩; exact ⟨h5, h2, h1⟩
    · rintro ⟨h5, h2, h1⟩; exact ⟨⟨⟨h1, h2⟩, by rw [← h5]; exact h1, by rw [← h5]; exact h2⟩, h5⟩
  rw [← esame]
  exact ct1I rfl (by decide) (Nat.le_of_ble_eq_true rfl) (rg_X0_alikeSums_0 hr ⟨_, _, xt_wrong hr hX ha, _, _, xt_wrong hr hX hb, _, _, ct_same hr (and_in sa sb) ha hb, rfl, rfl⟩)
theorem xt_copied (hr : isRoom r) (hX : XR mem r A) (hA : OKA A) : Ct1 S mX0_copiedChildren [Aq r] mem (some (Iq (lndA A (nA A)))) mem := by
  have hn := hA.n
  refine ct1I rfl (by decide) (Nat.le_of_ble_eq_true rfl) (rg_X0_copiedChildren_0 hr ?_)
  refine loopN (n := nA A) (P := fun i => PW S mX0_copiedChildren (fun r2 m => r2 = some (Iq (lndA A (nA A))) ∧ m = mem) 4 [some (Aq r), some (Iq (lndA A i)), some (Iq (i : Int)), none] [] mem) ?_ ?_ 0 (by omega)
  · exact rg_X0_copiedChildren_4 hr ⟨fun _ => ⟨rfl, rfl⟩, fun z => by rw [hX.1.1] at z; omega⟩
  · intro i hi ih
    have h2 := hA.c2 (c := i) (by omega)
    refine rg_X0_copiedChildren_4 hr ⟨fun z => by rw [hX.1.1] at z; omega, fun z => ?_⟩
    rw [Int.toNat_natCast, hX.f (by omega) (by omega)]
    refine ⟨by omega, fun d => ⟨by omega, ?_⟩, fun d => ⟨by omega, ?_⟩⟩
    · have e : lndA A (i + 1) = lndA A i := if_pos (by omega)
      rw [← e]; exact ih
    · have e : lndA A (i + 1) = bOr (lndA A i) (bShl 1 (A (12 + 14 * i + 2))) := if_neg (by omega)
      rw [← e]; exact ih
theorem or_z {j : Nat} (h : j < 8) : bOr 0 (bShl 1 (j : Int)) = bShl 1 (j : Int) := by
  have : ∀ j : Nat, j < 8 → bOr 0 (bShl 1 (j : Int)) = bShl 1 (j : Int) := by decide
  exact this j h
theorem xt_best (hr : isRoom r) (hX : XR mem r A) (hA : OKA A) : Ct1 S mX0_bestChildren [Aq r] mem (some (Iq (bstA A (nA A)).1)) mem := by
  have hn := hA.n
  refine ct1I rfl (by decide) (Nat.le_of_ble_eq_true rfl) (rg_X0_bestChildren_0 hr ?_)
  refine loopN (n := nA A) (P := fun i => PW S mX0_bestChildren (fun r2 m => r2 = some (Iq (bstA A (nA A)).1) ∧ m = mem) 6 [some (Aq r), some (Iq (bstA A i).1), some (Iq (bstA A i).2), some (Iq (i : Int)), none] [] mem) ?_ ?_ 0 (by omega)
  · exact rg_X0_bestChildren_6 hr ⟨fun _ => ⟨rfl, rfl⟩, fun z => by rw [hX.1.1] at z; omega⟩
  · intro i hi ih
    refine rg_X0_bestChildren_6 hr ⟨fun z => by rw [hX.1.1] at z; omega, fun z => ?_⟩
    rw [Int.toNat_natCast, hX.f (by omega) (by omega)]
    have e2 : (bstA A (i + 1)).2 = max (bstA A i).2 (A (12 + 14 * i + 3)) := rfl
    refine ⟨by omega, fun d => ⟨fun d2 => ⟨by omega, ?_⟩, fun d2 => ⟨by omega, ?_⟩⟩, fun d => ⟨fun d2 => ⟨by omega, ?_⟩, fun d2 => absurd rfl d2⟩⟩
    · have e : (bstA A (i + 1)).1 = bOr (bstA A i).1 (bShl 1 (i : Int)) := (if_pos d).trans (if_pos d2)
      have e3 : (bstA A (i + 1)).2 = (bstA A i).2 := by rw [e2]; omega
      rw [← e, ← e3]; exact ih
    · have e : (bstA A (i + 1)).1 = (bstA A i).1 := (if_pos d).trans (if_neg d2)
      have e3 : (bstA A (i + 1)).2 = (bstA A i).2 := by rw [e2]; omega
      rw [← e, ← e3]; exact ih
    · have e : (bstA A (i + 1)).1 = bShl 1 (i : Int) := if_neg d
      have e3 : (bstA A (i + 1)).2 = A (12 + 14 * i + 3) := by rw [e2]; omega
      rw [or_z (by omega), ← e, ← e3]; exact ih
def orK (A : Nat → Int) : Nat → Int
  | 0 => 0
  | n + 1 => bOr (orK A n) (A (12 + 14 * n + 1))
theorem unk_or (A : Nat → Int) : ∀ n, unkA A n = bAnd 255 (bXor (orK A n) (-1)) := by
  intro n
  induction n with
  | zero => show (255 : Int) = bAnd 255 (bXor 0 (-1)); decide
  | succ n ih =>
    show bAnd (unkA A n) (bXor (A (12 + 14 * n + 1)) (-1)) = bAnd 255 (bXor (bOr (orK A n) (A (12 + 14 * n + 1))) (-1))
    rw [ih]
    unfold bAnd bXor bOr
    simp only [Int32.ofInt_toInt]
    congr 1
    generalize Int32.ofInt (orK A n) = a
    generalize Int32.ofInt (A (12 + 14 * n + 1)) = b
    generalize Int32.ofInt 255 = c
    have e1 : Int32.ofInt (-1) = -1 := by decide
    rw [e1, Int32.and_assoc]
    congr 1
    apply Int32.toBitVec_inj.mp
    simp only [Int32.toBitVec_and, Int32.toBitVec_xor, Int32.toBitVec_or]
    have e2 : (-1 : Int32).toBitVec = BitVec.allOnes 32 := by decide
    rw [e2]
    ext i hi
    simp only [BitVec.getElem_and, BitVec.getElem_xor, BitVec.getElem_or, BitVec.getElem_allOnes]
    cases a.toBitVec[i] <;> cases b.toBitVec[i] <;> rfl
theorem xt_unknown (hr : isRoom r) (hX : XR mem r A) (hA : OKA A) : Ct1 S mX0_unknownSums [Aq r] mem (some (Iq (unkA A (nA A)))) mem := by
  have hn := hA.n
  refine ct1I rfl (by decide) (Nat.le_of_ble_eq_true rfl) (rg_X0_unknownSums_0 hr ?_)
  refine loopN (n := nA A) (P := fun i => PW S mX0_unknownSums (fun r2 m => r2 = some (Iq (unkA A (nA A))) ∧ m = mem) 4 [some (Aq r), some (Iq (orK A i)), some (Iq (i : Int))] [] mem) ?_ ?_ 0 (by omega)
  · exact rg_X0_unknownSums_4 hr ⟨fun _ => ⟨by rw [unk_or], rfl⟩, fun z => by rw [hX.1.1] at z; omega⟩
  · intro i hi ih
    refine rg_X0_unknownSums_4 hr ⟨fun z => by rw [hX.1.1] at z; omega, fun z => ?_⟩
    rw [Int.toNat_natCast, hX.f (by omega) (by omega)]
    exact ⟨by omega, by omega, ih⟩
/-- steps from one to one: what is left of eight, from a child on -/
def chnA (A : Nat → Int) : Nat → Nat → Nat
  | 0, _ => 0
  | n + 1, c => if A (12 + 14 * c + 2) < 0 then 0 else chnA A n (A (12 + 14 * c + 2)).toNat + 1
theorem xt_chain (hr : isRoom r) (hX : XR mem r A) (hA : OKA A) {c : Nat} (hc : (c : Int) < A 0) : Ct1 S mX0_chainLength [Aq r, Iq (c : Int)] mem (some (Iq ((chnA A 8 c : Nat) : Int))) mem := by
  have h0 := hA.1
  refine ct1I rfl (by decide) (Nat.le_of_ble_eq_true rfl) (rg_X0_chainLength_0 hr ?_)
  have key : ∀ (n : Nat) (d : Nat), n ≤ 8 → (d : Int) < A 0 → (8 - n) + chnA A n d = chnA A 8 c → PW S mX0_chainLength (fun r2 m => r2 = some (Iq ((chnA A 8 c : Nat) : Int)) ∧ m = mem) 4 [some (Aq r), some (Iq (c : Int)), some (Iq (d : Int)), some (Iq (8 - (n : Int))), none] [] mem := by
    intro n
    induction n with
    | zero =>
      intro d _ hd e
      have e2 : chnA A 0 d = 0 := rfl
      exact rg_X0_chainLength_4 hr ⟨fun _ => ⟨by rw [← e, e2]; rfl, rfl⟩, fun z => absurd (by decide) z⟩
    | succ n ih =>
      intro d hn hd e
      have h2 := hA.c2 hd
      refine rg_X0_chainLength_4 hr ⟨fun z => by omega, fun z => ?_⟩
      rw [Int.toNat_natCast, hX.f (by omega) (by omega), hX.1.1]
      refine ⟨by omega, fun q => ⟨by omega, ?_⟩, fun q => ⟨?_, rfl⟩⟩
      · have e2 : chnA A (n + 1) d = chnA A n (A (12 + 14 * d + 2)).toNat + 1 := if_neg (by omega)
        have g := ih (A (12 + 14 * d + 2)).toNat (by omega) (by omega) (by omega)
        rw [show (8 - ((n + 1 : Nat) : Int)) + 1 = 8 - (n : Int) by omega]
        rw [show (((A (12 + 14 * d + 2)).toNat : Nat) : Int) = A (12 + 14 * d + 2) by omega] at g
        exact g
      · have e2 : chnA A (n + 1) d = 0 := if_pos (by omega)
        have e3 : ((chnA A 8 c : Nat) : Int) = 8 - ((n + 1 : Nat) : Int) := by omega
        rw [e3]
  exact key 8 c (Nat.le_refl _) hc (by omega)
def spB (A : Nat → Int) (k : Nat) : Bool := decide (¬ A (124 + k) = -1)
theorem xt_spots (hr : isRoom r) (hX : XR mem r A) : Ct1 S mX0_takenSpots [Aq r] mem (some (Iq (cnt (spB A) 10))) mem := by
  refine ct1I rfl (by decide) (Nat.le_of_ble_eq_true rfl) (rg_X0_takenSpots_0 hr ?_)
  refine loopN (n := 10) (P := fun i => PW S mX0_takenSpots (fun r2 m => r2 = some (Iq (cnt (spB A) 10)) ∧ m = mem) 4 [some (Aq r), some (Iq (cnt (spB A) i)), some (Iq (i : Int))] [] mem) ?_ ?_ 0 (by omega)
  · exact rg_X0_takenSpots_4 hr ⟨fun _ => ⟨rfl, rfl⟩, fun z => absurd (by decide) z⟩
  · intro i hi ih
    have g := cnt_le (spB A) i
    refine rg_X0_takenSpots_4 hr ⟨fun z => by omega, fun z => ?_⟩
    rw [Int.toNat_natCast, hX.s hi]
    refine ⟨by omega, fun d => ⟨by omega, ?_⟩, fun d => ⟨by omega, by omega, ?_⟩⟩
    · have e : cnt (spB A) (i + 1) = cnt (spB A) i := if_neg (fun z => (of_decide_eq_true z) d)
      rw [← e]; exact ih
    · have e : cnt (spB A) (i + 1) = cnt (spB A) i + 1 := if_pos (decide_eq_true d)
      rw [← e]; exact ih
theorem xt_add (hr : isRoom r) (hX : XR mem r A) (hA : OKA A) (h8 : A 0 < 8) (kind knows : Int) : ∃ m2, Ct1 S mX0_addChild [Aq r, Iq kind, Iq knows] mem (some (Iq (A 0))) m2 ∧ XR m2 r (addA A kind knows) ∧ Fr r mem m2 := by
  have hn := hA.n
  have h0 := hA.1
  have e0 : A 0 = ((nA A : Nat) : Int) := hn.1.symm
  have hm7 : mem r 7 = ((nA A : Nat) : Int) := by rw [hX.1.1]; exact e0
  have hc8 : nA A < 8 := by omega
  have hF : XR (mup (mup (mup (mup (mup (mup mem (r + 2) (6 * nA A) kind) (r + 2) (6 * nA A + 1) knows) (r + 2) (6 * nA A + 2) (-1)) (r + 2) (6 * nA A + 3) 0) (r + 2) (6 * nA A + 4) 5) (r + 2) (6 * nA A + 5) 0) r (adF A (nA A) kind knows) :=
    (((((hX.fact hc8 (w := 0) (by omega) kind).fact hc8 (w := 1) (by omega) knows).fact hc8 (w := 2) (by omega) (-1)).fact hc8 (w := 3) (by omega) 0).fact hc8 (w := 4) (by omega) 5).fact hc8 (w := 5) (by omega) 0
  have hFr : Fr r mem (mup (mup (mup (mup (mup (mup mem (r + 2) (6 * nA A) kind) (r + 2) (6 * nA A + 1) knows) (r + 2) (6 * nA A + 2) (-1)) (r + 2) (6 * nA A + 3) 0) (r + 2) (6 * nA A + 4) 5) (r + 2) (6 * nA A + 5) 0) := fun o ho => by
    rw [mup_other o (by omega), mup_other o (by omega), mup_other o (by omega), mup_other o (by omega), mup_other o (by omega), mup_other o (by omega)]
  obtain ⟨M, ⟨hM1, hM2⟩, hgo⟩ := loopE (fun Q i (M : Zm) => PW S mX0_addChild Q 50 [some (Aq r), some (Iq kind), some (Iq knows), some (Iq ((nA A : Nat) : Int)), some (Iq (i : Int))] [] M) (fun i M => XR M r (ad1 (adF A (nA A) kind knows) (nA A) i) ∧ Fr r mem M) (n := 8) ⟨hF, hFr⟩ (by
    intro i M hi ⟨h1, h2⟩
    refine ⟨mup M (r + 3) (8 * nA A + i) (-1), ⟨h1.ans hc8 hi _, h2.trans (Fr.mup (by omega))⟩, fun Q hq => rg_X0_addChild_50 hr ⟨fun z => by omega, fun z => ?_⟩⟩
    rw [show (((nA A : Nat) : Int) * 8 + (i : Int)).toNat = 8 * nA A + i by omega]
    exact ⟨by omega, by omega, by omega, by omega, hq⟩)
  have em : M r 7 = A 0 := by rw [hM1.1.1, ad1_other (by omega), adF_other (by omega)]
  refine ⟨mup M r 7 (A 0 + 1), ct1I rfl (by decide) (Nat.le_of_ble_eq_true rfl) (rg_X0_addChild_0 hr ?_), hM1.own (Or.inl ⟨rfl, rfl⟩) _, hM2.trans (Fr.mup (by omega))⟩
  rw [hm7, Int.toNat_natCast]
  refine ⟨by omega, by omega, by omega, by omega, by omega, by omega, hgo _ (rg_X0_addChild_50 hr ⟨fun _ => ?_, fun z => absurd (by decide) z⟩)⟩
  rw [em, ← e0]
  exact ⟨by omega, rfl, rfl⟩
end RQ

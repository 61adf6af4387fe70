/-! a walk that knows fewer locals serves where more are known -/
def lmask : List Bool → List (Option PV) → List (Option PV)
  | b :: bs, a :: r => (if b then a else none) :: lmask bs r
  | _, _ => []
theorem lmask_get : ∀ (bs : List Bool) (ls : List (Option PV)) (i : Nat) (v : PV), lget (lmask bs ls) i = some v → lget ls i = some v := by
  intro bs
  induction bs with
  | nil => intro ls i v h; cases ls <;> cases h
  | cons b bs ih =>
    intro ls i v h
    cases ls with
    | nil => cases h
    | cons a r =>
      cases i with
      | zero =>
        have h2 : (if b = true then a else none) = some v := h
        show a = some v
        cases b
        · cases h2
        · exact h2
      | succ n => exact ih r n v h
theorem okL_lmask : ∀ (bs : List Bool) (ls : List (Option PV)), okL ls → okL (lmask bs ls) := by
  intro bs
  induction bs with
  | nil => intro ls h; cases ls <;> exact trivial
  | cons b bs ih =>
    intro ls h
    cases ls with
    | nil => exact trivial
    | cons a r =>
      refine ⟨?_, ih r h.2⟩
      show okO (if b = true then a else none)
      cases b
      · exact trivial
      · exact h.1
theorem pw_drop {S : Sx} {y : MD} {Q : Option PV → Zm → Prop} {pc : Nat} {bs : List Bool} {ls : List (Option PV)} {st : List PV} {mem : Zm} (k : PW S y Q pc (lmask bs ls) st mem) : PW S y Q pc ls st mem := by
  intro g p l e R s m args below meth c cells slots QF X rt H locs L w hS hM hs hl hv
  exact k g p l e R s m args below meth c cells slots QF X rt H locs L w hS hM hs (okL_lmask bs ls hl) ⟨hv.1, hv.2.1, fun i v h => hv.2.2 i v (lmask_get bs ls i v h)⟩
/-! Math.min -/
theorem pw_min {S : Sx} {y : MD} {Q : Option PV → Zm → Prop} {pc pc2 idx : Nat} {ls : List (Option PV)} {st : List PV} {mem : Zm} {a b : Int} (hd : Dn y pc (.invokestatic idx) 3 pc2) (hk : LkS y.1.cls idx mJ9_min_7cf53 2) (hfr : 1 ≤ y.2.2.2.2.1) (hlo : catS st + 13 ≤ y.2.2.2.2.2)
    (kk : PW S y Q pc2 ls (Iq (min a b) :: st) mem) : PW S y Q pc ls (Iq b :: Iq a :: st) mem := by
  intro g p l e R s m args below meth c cells slots QF X rt H locs L w hS hM hs hls hv
  obtain ⟨hd, rfl⟩ := hd
  have i1 : in32 b := hs.1
  have i2 : in32 a := hs.2.1
  have i3 : in32 (min a b) := ⟨by omega, by omega⟩
  refine va_mmin X.1 X.2.1 (X.2.2.1.trans hv.1.symm) X.2.2.2.1 (X.2.2.2.2.1 _ hk.1) (X.2.2.2.2.1 _ hk.2.1) (X.2.2.2.2.1 _ hk.2.2.1) (X.2.2.2.2.1 _ hk.2.2.2.1) (by rw [X.2.2.2.2.2.1]; exact hfr) (by rw [X.2.2.2.2.2.2.1, catS_tr]; exact hlo) X.2.2.2.2.2.2.2.1 X.2.2.2.2.2.2.2.2.1 hd ?_
  have ee : (if Int32.ofInt b < Int32.ofInt a then Int32.ofInt b else Int32.ofInt a) = Int32.ofInt (min a b) := by
    by_cases h : b < a
    · rw [if_pos (by rw [Int32.lt_iff_toInt_lt, ofI i1, ofI i2]; exact h), show min a b = b by omega]
    · rw [if_neg (by rw [Int32.lt_iff_toInt_lt, ofI i1, ofI i2]; exact h), show min a b = a by omega]
  rw [ee]
  exact kk g p l e R s m args below meth c cells slots QF X rt H locs L w hS hM ⟨i3, hs.2.2⟩ hls hv

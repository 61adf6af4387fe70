section PA
variable {S : Sx} {y : MD} {Q : Option PV → Zm → Prop} {pc pc2 tgt : Nat} {ls ls2 : List (Option PV)} {st : List PV} {mem : Zm}
theorem pw_iadd {a b : Int} (hd : Dn y pc .iadd 1 pc2) (hr : in32 (a + b)) (k : PW S y Q pc2 ls (Iq (a + b) :: st) mem) : PW S y Q pc ls (Iq b :: Iq a :: st) mem := by
  intro g p l e R s m args below meth c cells slots QF X rt H locs L w hS hM hs hl hv
  obtain ⟨hd, rfl⟩ := hd
  refine lv_iadd X.1 X.2.1 hd ?_
  have ee := (Int32.ofInt_add a b).symm
  rw [ee]
  exact k g p l e R s m args below meth c cells slots QF X rt H locs L w hS hM ⟨hr, hs.2.2⟩ hl hv

theorem pw_iaddw {a b : Int} (hd : Dn y pc .iadd 1 pc2) (k : PW S y Q pc2 ls (Iq (wr (a + b)) :: st) mem) : PW S y Q pc ls (Iq b :: Iq a :: st) mem := by
  intro g p l e R s m args below meth c cells slots QF X rt H locs L w hS hM hs hl hv
  obtain ⟨hd, rfl⟩ := hd
  refine lv_iadd X.1 X.2.1 hd ?_
  have ee : Int32.ofInt a + Int32.ofInt b = Int32.ofInt (wr (a + b)) := by unfold wr; rw [Int32.ofInt_toInt, Int32.ofInt_add]
  rw [ee]
  exact k g p l e R s m args below meth c cells slots QF X rt H locs L w hS hM ⟨wr_in _, hs.2.2⟩ hl hv

theorem pw_isub {a b : Int} (hd : Dn y pc .isub 1 pc2) (hr : in32 (a - b)) (k : PW S y Q pc2 ls (Iq (a - b) :: st) mem) : PW S y Q pc ls (Iq b :: Iq a :: st) mem := by
  intro g p l e R s m args below meth c cells slots QF X rt H locs L w hS hM hs hl hv
  obtain ⟨hd, rfl⟩ := hd
  refine lv_isub X.1 X.2.1 hd ?_
  have ee := (Int32.ofInt_sub a b).symm
  rw [ee]
  exact k g p l e R s m args below meth c cells slots QF X rt H locs L w hS hM ⟨hr, hs.2.2⟩ hl hv

theorem pw_isubw {a b : Int} (hd : Dn y pc .isub 1 pc2) (k : PW S y Q pc2 ls (Iq (wr (a - b)) :: st) mem) : PW S y Q pc ls (Iq b :: Iq a :: st) mem := by
  intro g p l e R s m args below meth c cells slots QF X rt H locs L w hS hM hs hl hv
  obtain ⟨hd, rfl⟩ := hd
  refine lv_isub X.1 X.2.1 hd ?_
  have ee : Int32.ofInt a - Int32.ofInt b = Int32.ofInt (wr (a - b)) := by unfold wr; rw [Int32.ofInt_toInt, Int32.ofInt_sub]
  rw [ee]
  exact k g p l e R s m args below meth c cells slots QF X rt H locs L w hS hM ⟨wr_in _, hs.2.2⟩ hl hv

theorem pw_imul {a b : Int} (hd : Dn y pc .imul 1 pc2) (hr : in32 (a * b)) (k : PW S y Q pc2 ls (Iq (a * b) :: st) mem) : PW S y Q pc ls (Iq b :: Iq a :: st) mem := by
  intro g p l e R s m args below meth c cells slots QF X rt H locs L w hS hM hs hl hv
  obtain ⟨hd, rfl⟩ := hd
  refine lv_imul X.1 X.2.1 hd ?_
  have ee := (Int32.ofInt_mul a b).symm
  rw [ee]
  exact k g p l e R s m args below meth c cells slots QF X rt H locs L w hS hM ⟨hr, hs.2.2⟩ hl hv

theorem pw_imulw {a b : Int} (hd : Dn y pc .imul 1 pc2) (k : PW S y Q pc2 ls (Iq (wr (a * b)) :: st) mem) : PW S y Q pc ls (Iq b :: Iq a :: st) mem := by
  intro g p l e R s m args below meth c cells slots QF X rt H locs L w hS hM hs hl hv
  obtain ⟨hd, rfl⟩ := hd
  refine lv_imul X.1 X.2.1 hd ?_
  have ee : Int32.ofInt a * Int32.ofInt b = Int32.ofInt (wr (a * b)) := by unfold wr; rw [Int32.ofInt_toInt, Int32.ofInt_mul]
  rw [ee]
  exact k g p l e R s m args below meth c cells slots QF X rt H locs L w hS hM ⟨wr_in _, hs.2.2⟩ hl hv

theorem pw_iand {a b : Int} (hd : Dn y pc .iand 1 pc2) (k : PW S y Q pc2 ls (Iq (bAnd a b) :: st) mem) : PW S y Q pc ls (Iq b :: Iq a :: st) mem := by
  intro g p l e R s m args below meth c cells slots QF X rt H locs L w hS hM hs hl hv
  obtain ⟨hd, rfl⟩ := hd
  refine lv_iand X.1 X.2.1 hd ?_
  have ee := (Int32.ofInt_toInt (Int32.ofInt a &&& Int32.ofInt b)).symm
  rw [ee]
  exact k g p l e R s m args below meth c cells slots QF X rt H locs L w hS hM ⟨in32_toInt _, hs.2.2⟩ hl hv

theorem pw_ior {a b : Int} (hd : Dn y pc .ior 1 pc2) (k : PW S y Q pc2 ls (Iq (bOr a b) :: st) mem) : PW S y Q pc ls (Iq b :: Iq a :: st) mem := by
  intro g p l e R s m args below meth c cells slots QF X rt H locs L w hS hM hs hl hv
  obtain ⟨hd, rfl⟩ := hd
  refine lv_ior X.1 X.2.1 hd ?_
  have ee := (Int32.ofInt_toInt (Int32.ofInt a ||| Int32.ofInt b)).symm
  rw [ee]
  exact k g p l e R s m args below meth c cells slots QF X rt H locs L w hS hM ⟨in32_toInt _, hs.2.2⟩ hl hv

theorem pw_ixor {a b : Int} (hd : Dn y pc .ixor 1 pc2) (k : PW S y Q pc2 ls (Iq (bXor a b) :: st) mem) : PW S y Q pc ls (Iq b :: Iq a :: st) mem := by
  intro g p l e R s m args below meth c cells slots QF X rt H locs L w hS hM hs hl hv
  obtain ⟨hd, rfl⟩ := hd
  refine lv_ixor X.1 X.2.1 hd ?_
  have ee := (Int32.ofInt_toInt (Int32.ofInt a ^^^ Int32.ofInt b)).symm
  rw [ee]
  exact k g p l e R s m args below meth c cells slots QF X rt H locs L w hS hM ⟨in32_toInt _, hs.2.2⟩ hl hv

theorem pw_ishl {a b : Int} (hd : Dn y pc .ishl 1 pc2) (k : PW S y Q pc2 ls (Iq (bShl a b) :: st) mem) : PW S y Q pc ls (Iq b :: Iq a :: st) mem := by
  intro g p l e R s m args below meth c cells slots QF X rt H locs L w hS hM hs hl hv
  obtain ⟨hd, rfl⟩ := hd
  refine lv_ishl X.1 X.2.1 hd ?_
  have ee := (Int32.ofInt_toInt (Int32.ofInt a <<< (Int32.ofInt b &&& 31))).symm
  rw [ee]
  exact k g p l e R s m args below meth c cells slots QF X rt H locs L w hS hM ⟨in32_toInt _, hs.2.2⟩ hl hv

theorem pw_ishr {a b : Int} (hd : Dn y pc .ishr 1 pc2) (k : PW S y Q pc2 ls (Iq (bShr a b) :: st) mem) : PW S y Q pc ls (Iq b :: Iq a :: st) mem := by
  intro g p l e R s m args below meth c cells slots QF X rt H locs L w hS hM hs hl hv
  obtain ⟨hd, rfl⟩ := hd
  refine lv_ishr X.1 X.2.1 hd ?_
  have ee := (Int32.ofInt_toInt (Int32.ofInt a >>> (Int32.ofInt b &&& 31))).symm
  rw [ee]
  exact k g p l e R s m args below meth c cells slots QF X rt H locs L w hS hM ⟨in32_toInt _, hs.2.2⟩ hl hv

theorem pw_iushr {a b : Int} (hd : Dn y pc .iushr 1 pc2) (k : PW S y Q pc2 ls (Iq (bUshr a b) :: st) mem) : PW S y Q pc ls (Iq b :: Iq a :: st) mem := by
  intro g p l e R s m args below meth c cells slots QF X rt H locs L w hS hM hs hl hv
  obtain ⟨hd, rfl⟩ := hd
  exact lv_iushr X.1 X.2.1 hd (Int32.ofInt_toInt _).symm (k g p l e R s m args below meth c cells slots QF X rt H locs L w hS hM ⟨in32_toInt _, hs.2.2⟩ hl hv)

theorem tdivI {a b : Int} (ha : 0 ≤ a) (hb : 0 < b) (h1 : in32 a) (h2 : in32 b) : Int32.ofInt a / Int32.ofInt b = Int32.ofInt (a / b) ∧ in32 (a / b) := by
  have h3 : 0 ≤ a / b := Int.ediv_nonneg ha (by omega)
  have h4 : a / b ≤ a := Int.ediv_le_self b ha
  have h5 : in32 (a / b) := ⟨by omega, by omega⟩
  refine ⟨?_, h5⟩
  apply Int32.toInt_inj.mp
  rw [Int32.toInt_div_of_ne_right _ _ (fun q => by
    have := congrArg Int32.toInt q
    rw [ofI h2] at this
    have h6 : (-1 : Int32).toInt = -1 := by decide
    omega), ofI h1, ofI h2, ofI h5, Int.tdiv_eq_ediv_of_nonneg ha]
theorem ne0I {b : Int} (hb : 0 < b) (h2 : in32 b) : ¬ Int32.ofInt b = 0 := fun q => by
  have := congrArg Int32.toInt q
  rw [ofI h2] at this
  have h6 : (0 : Int32).toInt = 0 := by decide
  omega
theorem pw_idiv {a b : Int} (hd : Dn y pc .idiv 1 pc2) (ha : 0 ≤ a) (hb : 0 < b) (k : PW S y Q pc2 ls (Iq (a / b) :: st) mem) : PW S y Q pc ls (Iq b :: Iq a :: st) mem := by
  intro g p l e R s m args below meth c cells slots QF X rt H locs L w hS hM hs hl hv
  obtain ⟨hd, rfl⟩ := hd
  refine lv_idiv X.1 X.2.1 hd (ne0I hb hs.1) ?_
  obtain ⟨e1, e2⟩ := tdivI ha hb hs.2.1 hs.1
  rw [e1]
  exact k g p l e R s m args below meth c cells slots QF X rt H locs L w hS hM ⟨e2, hs.2.2⟩ hl hv
theorem emI {a b : Int} : a - a / b * b = a % b := by
  have := Int.emod_def a b
  rw [this, Int.mul_comm]
theorem pw_irem {a b : Int} (hd : Dn y pc .irem 1 pc2) (ha : 0 ≤ a) (hb : 0 < b) (k : PW S y Q pc2 ls (Iq (a % b) :: st) mem) : PW S y Q pc ls (Iq b :: Iq a :: st) mem := by
  intro g p l e R s m args below meth c cells slots QF X rt H locs L w hS hM hs hl hv
  obtain ⟨hd, rfl⟩ := hd
  refine lv_irem X.1 X.2.1 hd (ne0I hb hs.1) ?_
  obtain ⟨e1, e2⟩ := tdivI ha hb hs.2.1 hs.1
  rw [e1, ← Int32.ofInt_mul, ← Int32.ofInt_sub, emI]
  have h1 := Int.emod_nonneg a (show b ≠ 0 by omega)
  have h2 := Int.emod_lt_of_pos a hb
  have h3 := hs.1
  have h4 : in32 b := h3
  exact k g p l e R s m args below meth c cells slots QF X rt H locs L w hS hM ⟨(⟨by omega, by omega⟩ : in32 (a % b)), hs.2.2⟩ hl hv

theorem pw_lmul {a b : Int} (hd : Dn y pc .lmul 1 pc2) (k : PW S y Q pc2 ls (Jq (wrL (a * b)) :: st) mem) : PW S y Q pc ls (Jq b :: Jq a :: st) mem := by
  intro g p l e R s m args below meth c cells slots QF X rt H locs L w hS hM hs hl hv
  obtain ⟨hd, rfl⟩ := hd
  refine lv_lmul X.1 X.2.1 hd ?_
  have ee : Int64.ofInt a * Int64.ofInt b = Int64.ofInt (wrL (a * b)) := by unfold wrL; rw [Int64.ofInt_toInt, Int64.ofInt_mul]
  rw [ee]
  exact k g p l e R s m args below meth c cells slots QF X rt H locs L w hS hM ⟨in64_toInt _, hs.2.2⟩ hl hv
theorem tdivJ {a b : Int} (ha : 0 ≤ a) (hb : 0 < b) (h1 : in64 a) (h2 : in64 b) : Int64.ofInt a / Int64.ofInt b = Int64.ofInt (a / b) ∧ in64 (a / b) := by
  have h3 : 0 ≤ a / b := Int.ediv_nonneg ha (by omega)
  have h4 : a / b ≤ a := Int.ediv_le_self b ha
  have h5 : in64 (a / b) := ⟨by omega, by omega⟩
  refine ⟨?_, h5⟩
  apply Int64.toInt_inj.mp
  rw [Int64.toInt_div_of_ne_right _ _ (fun q => by
    have := congrArg Int64.toInt q
    rw [ofJ h2] at this
    have h6 : (-1 : Int64).toInt = -1 := by decide
    omega), ofJ h1, ofJ h2, ofJ h5, Int.tdiv_eq_ediv_of_nonneg ha]
theorem ne0J {b : Int} (hb : 0 < b) (h2 : in64 b) : ¬ Int64.ofInt b = 0 := fun q => by
  have := congrArg Int64.toInt q
  rw [ofJ h2] at this
  have h6 : (0 : Int64).toInt = 0 := by decide
  omega
theorem pw_ldiv {a b : Int} (hd : Dn y pc .ldiv 1 pc2) (ha : 0 ≤ a) (hb : 0 < b) (k : PW S y Q pc2 ls (Jq (a / b) :: st) mem) : PW S y Q pc ls (Jq b :: Jq a :: st) mem := by
  intro g p l e R s m args below meth c cells slots QF X rt H locs L w hS hM hs hl hv
  obtain ⟨hd, rfl⟩ := hd
  refine lv_ldiv X.1 X.2.1 hd (ne0J hb hs.1) ?_
  obtain ⟨e1, e2⟩ := tdivJ ha hb hs.2.1 hs.1
  rw [e1]
  exact k g p l e R s m args below meth c cells slots QF X rt H locs L w hS hM ⟨e2, hs.2.2⟩ hl hv
theorem pw_lrem {a b : Int} (hd : Dn y pc .lrem 1 pc2) (ha : 0 ≤ a) (hb : 0 < b) (k : PW S y Q pc2 ls (Jq (a % b) :: st) mem) : PW S y Q pc ls (Jq b :: Jq a :: st) mem := by
  intro g p l e R s m args below meth c cells slots QF X rt H locs L w hS hM hs hl hv
  obtain ⟨hd, rfl⟩ := hd
  refine lv_lrem X.1 X.2.1 hd (ne0J hb hs.1) ?_
  obtain ⟨e1, e2⟩ := tdivJ ha hb hs.2.1 hs.1
  rw [e1, ← Int64.ofInt_mul, ← Int64.ofInt_sub, emI]
  have h1 := Int.emod_nonneg a (show b ≠ 0 by omega)
  have h2 := Int.emod_lt_of_pos a hb
  have h3 := hs.1
  have h4 : in64 b := h3
  exact k g p l e R s m args below meth c cells slots QF X rt H locs L w hS hM ⟨(⟨by omega, by omega⟩ : in64 (a % b)), hs.2.2⟩ hl hv
theorem pw_lor {a b : Int} (hd : Dn y pc .lor 1 pc2) (k : PW S y Q pc2 ls (Jq (lOr a b) :: st) mem) : PW S y Q pc ls (Jq b :: Jq a :: st) mem := by
  intro g p l e R s m args below meth c cells slots QF X rt H locs L w hS hM hs hl hv
  obtain ⟨hd, rfl⟩ := hd
  refine lv_lor X.1 X.2.1 hd ?_
  have ee := (Int64.ofInt_toInt (Int64.ofInt a ||| Int64.ofInt b)).symm
  rw [ee]
  exact k g p l e R s m args below meth c cells slots QF X rt H locs L w hS hM ⟨in64_toInt _, hs.2.2⟩ hl hv
theorem pw_lshl {a b : Int} (hd : Dn y pc .lshl 1 pc2) (k : PW S y Q pc2 ls (Jq (lShl a b) :: st) mem) : PW S y Q pc ls (Iq b :: Jq a :: st) mem := by
  intro g p l e R s m args below meth c cells slots QF X rt H locs L w hS hM hs hl hv
  obtain ⟨hd, rfl⟩ := hd
  exact lv_lshl X.1 X.2.1 hd (Int64.ofInt_toInt _).symm (k g p l e R s m args below meth c cells slots QF X rt H locs L w hS hM ⟨in64_toInt _, hs.2.2⟩ hl hv)
theorem pw_i2l {a : Int} (hd : Dn y pc .i2l 1 pc2) (k : PW S y Q pc2 ls (Jq a :: st) mem) : PW S y Q pc ls (Iq a :: st) mem := by
  intro g p l e R s m args below meth c cells slots QF X rt H locs L w hS hM hs hl hv
  obtain ⟨hd, rfl⟩ := hd
  have h1 : in32 a := hs.1
  have h2 : in64 a := ⟨by omega, by omega⟩
  refine lv_i2l (v := Int64.ofInt a) X.1 X.2.1 hd ?_ (k g p l e R s m args below meth c cells slots QF X rt H locs L w hS hM ⟨h2, hs.2⟩ hl hv)
  apply Int64.toInt_inj.mp
  rw [Int32.toInt_toInt64, ofI h1, ofJ h2]
theorem pw_i2b {a : Int} (hd : Dn y pc .i2b 1 pc2) (k : PW S y Q pc2 ls (Iq (toB a) :: st) mem) : PW S y Q pc ls (Iq a :: st) mem := by
  intro g p l e R s m args below meth c cells slots QF X rt H locs L w hS hM hs hl hv
  obtain ⟨hd, rfl⟩ := hd
  exact lv_i2b X.1 X.2.1 hd (Int32.ofInt_toInt _).symm (k g p l e R s m args below meth c cells slots QF X rt H locs L w hS hM ⟨in32_toInt _, hs.2⟩ hl hv)
theorem pw_i2s {a : Int} (hd : Dn y pc .i2s 1 pc2) (k : PW S y Q pc2 ls (Iq (toSh a) :: st) mem) : PW S y Q pc ls (Iq a :: st) mem := by
  intro g p l e R s m args below meth c cells slots QF X rt H locs L w hS hM hs hl hv
  obtain ⟨hd, rfl⟩ := hd
  exact lv_i2s X.1 X.2.1 hd (Int32.ofInt_toInt _).symm (k g p l e R s m args below meth c cells slots QF X rt H locs L w hS hM ⟨in32_toInt _, hs.2⟩ hl hv)
theorem pw_lcmp {a b : Int} (hd : Dn y pc .lcmp 1 pc2) (k : PW S y Q pc2 ls (Iq (cmpL a b) :: st) mem) : PW S y Q pc ls (Jq b :: Jq a :: st) mem := by
  intro g p l e R s m args below meth c cells slots QF X rt H locs L w hS hM hs hl hv
  obtain ⟨hd, rfl⟩ := hd
  have h1 : in64 b := hs.1
  have h2 : in64 a := hs.2.1
  refine W.lcmp X.1 X.2.1 hd ?_
  have h3 : in32 (cmpL a b) := by unfold cmpL; split; exact ⟨by omega, by omega⟩; split <;> exact ⟨by omega, by omega⟩
  have ee : lg_cmp (Int64.ofInt a) (Int64.ofInt b) = Int32.ofInt (cmpL a b) := by
    unfold lg_cmp cmpL
    have e1 : (Int64.ofInt a > Int64.ofInt b) ↔ b < a := by
      show Int64.ofInt b < Int64.ofInt a ↔ b < a
      rw [Int64.lt_iff_toInt_lt, ofJ h1, ofJ h2]
    have e2 : (Int64.ofInt a = Int64.ofInt b) ↔ a = b := by
      rw [← Int64.toInt_inj, ofJ h1, ofJ h2]
    by_cases q1 : b < a
    · rw [if_pos (e1.mpr q1), if_pos q1]; rfl
    · rw [if_neg (fun z => q1 (e1.mp z)), if_neg q1]
      by_cases q2 : a = b
      · rw [if_pos (e2.mpr q2), if_pos q2]; rfl
      · rw [if_neg (fun z => q2 (e2.mp z)), if_neg q2]; rfl
  rw [ee]
  exact k g p l e R s m args below meth c cells slots QF X rt H locs L w hS hM ⟨h3, hs.2.2⟩ hl hv
theorem pw_dup {v : PV} (hd : Dn y pc .dup 1 pc2) (hc : isJ (some v) = false) (k : PW S y Q pc2 ls (v :: v :: st) mem) : PW S y Q pc ls (v :: st) mem := by
  intro g p l e R s m args below meth c cells slots QF X rt H locs L w hS hM hs hl hv
  obtain ⟨hd, rfl⟩ := hd
  refine lv_dup X.1 X.2.1 hd ?_ (k g p l e R s m args below meth c cells slots QF X rt H locs L w hS hM ⟨hs.1, hs⟩ hl hv)
  rcases v with x | x | x
  · rfl
  · cases hc
  · rfl
theorem pw_dup2 {v u : PV} (hd : Dn y pc .dup2 1 pc2) (hc : isJ (some v) = false) (hc2 : isJ (some u) = false) (k : PW S y Q pc2 ls (v :: u :: v :: u :: st) mem) : PW S y Q pc ls (v :: u :: st) mem := by
  intro g p l e R s m args below meth c cells slots QF X rt H locs L w hS hM hs hl hv
  obtain ⟨hd, rfl⟩ := hd
  refine lv_dup2_11 X.1 X.2.1 hd ?_ ?_ (k g p l e R s m args below meth c cells slots QF X rt H locs L w hS hM ⟨hs.1, hs.2.1, hs⟩ hl hv)
  · rcases v with x | x | x
    · rfl
    · cases hc
    · rfl
  · rcases u with x | x | x
    · rfl
    · cases hc2
    · rfl

theorem pw_goto {off : Int} (hd : Dj y pc (.goto off) off pc2 tgt) (k : PW S y Q tgt ls st mem) : PW S y Q pc ls st mem := by
  intro g p l e R s m args below meth c cells slots QF X rt H locs L w hS hM hs hl hv
  exact lv_goto X.1 X.2.1 hd.1 hd.2.2 (k g p l e R s m args below meth c cells slots QF X rt H locs L w hS hM hs hl hv)
theorem pw_icmp_eq {a b : Int} {off : Int} (hd : Dj y pc (.if_icmp .eq off) off pc2 tgt) (kt : a = b → PW S y Q tgt ls st mem) (kf : ¬ (a = b) → PW S y Q pc2 ls st mem) : PW S y Q pc ls (Iq b :: Iq a :: st) mem := by
  intro g p l e R s m args below meth c cells slots QF X rt H locs L w hS hM hs hl hv
  obtain ⟨hd, rfl, ht⟩ := hd
  have h1 : in32 b := hs.1
  have h2 : in32 a := hs.2.1
  have e1 : (Int32.ofInt a = Int32.ofInt b) ↔ a = b := by rw [← Int32.toInt_inj, ofI h1, ofI h2]
  have e2 : (Int32.ofInt a < Int32.ofInt b) ↔ a < b := by rw [Int32.lt_iff_toInt_lt, ofI h1, ofI h2]
  have e3 : (Int32.ofInt b < Int32.ofInt a) ↔ b < a := by rw [Int32.lt_iff_toInt_lt, ofI h1, ofI h2]
  have e4 : (Int32.ofInt a ≤ Int32.ofInt b) ↔ a ≤ b := by rw [Int32.le_iff_toInt_le, ofI h1, ofI h2]
  have e5 : (Int32.ofInt b ≤ Int32.ofInt a) ↔ b ≤ a := by rw [Int32.le_iff_toInt_le, ofI h1, ofI h2]
  exact lv_icmp_eq X.1 X.2.1 hd ht (fun q => kt (by first | exact e1.mp q | exact e2.mp q | exact e3.mp q | exact e4.mp q | exact e5.mp q | (intro z; exact q (e1.mpr z))) g p l e R s m args below meth c cells slots QF X rt H locs L w hS hM hs.2.2 hl hv) (fun q => kf (by intro z; first | exact q (e1.mpr z) | exact q (e2.mpr z) | exact q (e3.mpr z) | exact q (e4.mpr z) | exact q (e5.mpr z) | exact z (e1.mp q)) g p l e R s m args below meth c cells slots QF X rt H locs L w hS hM hs.2.2 hl hv)
theorem pw_if_eq {a : Int} {off : Int} (hd : Dj y pc (.ifCond .eq off) off pc2 tgt) (kt : a = 0 → PW S y Q tgt ls st mem) (kf : ¬ (a = 0) → PW S y Q pc2 ls st mem) : PW S y Q pc ls (Iq a :: st) mem := by
  intro g p l e R s m args below meth c cells slots QF X rt H locs L w hS hM hs hl hv
  obtain ⟨hd, rfl, ht⟩ := hd
  have h2 : in32 a := hs.1
  have h0 : (0 : Int32).toInt = 0 := by decide
  have e1 : (Int32.ofInt a = 0) ↔ a = 0 := by rw [← Int32.toInt_inj, ofI h2, h0]
  have e2 : (Int32.ofInt a < 0) ↔ a < 0 := by rw [Int32.lt_iff_toInt_lt, ofI h2, h0]
  have e3 : (0 < Int32.ofInt a) ↔ 0 < a := by rw [Int32.lt_iff_toInt_lt, ofI h2, h0]
  have e4 : (Int32.ofInt a ≤ 0) ↔ a ≤ 0 := by rw [Int32.le_iff_toInt_le, ofI h2, h0]
  have e5 : (0 ≤ Int32.ofInt a) ↔ 0 ≤ a := by rw [Int32.le_iff_toInt_le, ofI h2, h0]
  exact lv_if_eq X.1 X.2.1 hd ht (fun q => kt (by first | exact e1.mp q | exact e2.mp q | exact e3.mp q | exact e4.mp q | exact e5.mp q | (intro z; exact q (e1.mpr z))) g p l e R s m args below meth c cells slots QF X rt H locs L w hS hM hs.2 hl hv) (fun q => kf (by intro z; first | exact q (e1.mpr z) | exact q (e2.mpr z) | exact q (e3.mpr z) | exact q (e4.mpr z) | exact q (e5.mpr z) | exact z (e1.mp q)) g p l e R s m args below meth c cells slots QF X rt H locs L w hS hM hs.2 hl hv)
theorem pw_icmp_ne {a b : Int} {off : Int} (hd : Dj y pc (.if_icmp .ne off) off pc2 tgt) (kt : ¬ a = b → PW S y Q tgt ls st mem) (kf : ¬ (¬ a = b) → PW S y Q pc2 ls st mem) : PW S y Q pc ls (Iq b :: Iq a :: st) mem := by
  intro g p l e R s m args below meth c cells slots QF X rt H locs L w hS hM hs hl hv
  obtain ⟨hd, rfl, ht⟩ := hd
  have h1 : in32 b := hs.1
  have h2 : in32 a := hs.2.1
  have e1 : (Int32.ofInt a = Int32.ofInt b) ↔ a = b := by rw [← Int32.toInt_inj, ofI h1, ofI h2]
  have e2 : (Int32.ofInt a < Int32.ofInt b) ↔ a < b := by rw [Int32.lt_iff_toInt_lt, ofI h1, ofI h2]
  have e3 : (Int32.ofInt b < Int32.ofInt a) ↔ b < a := by rw [Int32.lt_iff_toInt_lt, ofI h1, ofI h2]
  have e4 : (Int32.ofInt a ≤ Int32.ofInt b) ↔ a ≤ b := by rw [Int32.le_iff_toInt_le, ofI h1, ofI h2]
  have e5 : (Int32.ofInt b ≤ Int32.ofInt a) ↔ b ≤ a := by rw [Int32.le_iff_toInt_le, ofI h1, ofI h2]
  exact lv_icmp_ne X.1 X.2.1 hd ht (fun q => kt (by first | exact e1.mp q | exact e2.mp q | exact e3.mp q | exact e4.mp q | exact e5.mp q | (intro z; exact q (e1.mpr z))) g p l e R s m args below meth c cells slots QF X rt H locs L w hS hM hs.2.2 hl hv) (fun q => kf (by intro z; first | exact q (e1.mpr z) | exact q (e2.mpr z) | exact q (e3.mpr z) | exact q (e4.mpr z) | exact q (e5.mpr z) | exact z (e1.mp q)) g p l e R s m args below meth c cells slots QF X rt H locs L w hS hM hs.2.2 hl hv)
theorem pw_if_ne {a : Int} {off : Int} (hd : Dj y pc (.ifCond .ne off) off pc2 tgt) (kt : ¬ a = 0 → PW S y Q tgt ls st mem) (kf : ¬ (¬ a = 0) → PW S y Q pc2 ls st mem) : PW S y Q pc ls (Iq a :: st) mem := by
  intro g p l e R s m args below meth c cells slots QF X rt H locs L w hS hM hs hl hv
  obtain ⟨hd, rfl, ht⟩ := hd
  have h2 : in32 a := hs.1
  have h0 : (0 : Int32).toInt = 0 := by decide
  have e1 : (Int32.ofInt a = 0) ↔ a = 0 := by rw [← Int32.toInt_inj, ofI h2, h0]
  have e2 : (Int32.ofInt a < 0) ↔ a < 0 := by rw [Int32.lt_iff_toInt_lt, ofI h2, h0]
  have e3 : (0 < Int32.ofInt a) ↔ 0 < a := by rw [Int32.lt_iff_toInt_lt, ofI h2, h0]
  have e4 : (Int32.ofInt a ≤ 0) ↔ a ≤ 0 := by rw [Int32.le_iff_toInt_le, ofI h2, h0]
  have e5 : (0 ≤ Int32.ofInt a) ↔ 0 ≤ a := by rw [Int32.le_iff_toInt_le, ofI h2, h0]
  exact lv_if_ne X.1 X.2.1 hd ht (fun q => kt (by first | exact e1.mp q | exact e2.mp q | exact e3.mp q | exact e4.mp q | exact e5.mp q | (intro z; exact q (e1.mpr z))) g p l e R s m args below meth c cells slots QF X rt H locs L w hS hM hs.2 hl hv) (fun q => kf (by intro z; first | exact q (e1.mpr z) | exact q (e2.mpr z) | exact q (e3.mpr z) | exact q (e4.mpr z) | exact q (e5.mpr z) | exact z (e1.mp q)) g p l e R s m args below meth c cells slots QF X rt H locs L w hS hM hs.2 hl hv)
theorem pw_icmp_lt {a b : Int} {off : Int} (hd : Dj y pc (.if_icmp .lt off) off pc2 tgt) (kt : a < b → PW S y Q tgt ls st mem) (kf : ¬ (a < b) → PW S y Q pc2 ls st mem) : PW S y Q pc ls (Iq b :: Iq a :: st) mem := by
  intro g p l e R s m args below meth c cells slots QF X rt H locs L w hS hM hs hl hv
  obtain ⟨hd, rfl, ht⟩ := hd
  have h1 : in32 b := hs.1
  have h2 : in32 a := hs.2.1
  have e1 : (Int32.ofInt a = Int32.ofInt b) ↔ a = b := by rw [← Int32.toInt_inj, ofI h1, ofI h2]
  have e2 : (Int32.ofInt a < Int32.ofInt b) ↔ a < b := by rw [Int32.lt_iff_toInt_lt, ofI h1, ofI h2]
  have e3 : (Int32.ofInt b < Int32.ofInt a) ↔ b < a := by rw [Int32.lt_iff_toInt_lt, ofI h1, ofI h2]
  have e4 : (Int32.ofInt a ≤ Int32.ofInt b) ↔ a ≤ b := by rw [Int32.le_iff_toInt_le, ofI h1, ofI h2]
  have e5 : (Int32.ofInt b ≤ Int32.ofInt a) ↔ b ≤ a := by rw [Int32.le_iff_toInt_le, ofI h1, ofI h2]
  exact lv_icmp_lt X.1 X.2.1 hd ht (fun q => kt (by first | exact e1.mp q | exact e2.mp q | exact e3.mp q | exact e4.mp q | exact e5.mp q | (intro z; exact q (e1.mpr z))) g p l e R s m args below meth c cells slots QF X rt H locs L w hS hM hs.2.2 hl hv) (fun q => kf (by intro z; first | exact q (e1.mpr z) | exact q (e2.mpr z) | exact q (e3.mpr z) | exact q (e4.mpr z) | exact q (e5.mpr z) | exact z (e1.mp q)) g p l e R s m args below meth c cells slots QF X rt H locs L w hS hM hs.2.2 hl hv)
theorem pw_if_lt {a : Int} {off : Int} (hd : Dj y pc (.ifCond .lt off) off pc2 tgt) (kt : a < 0 → PW S y Q tgt ls st mem) (kf : ¬ (a < 0) → PW S y Q pc2 ls st mem) : PW S y Q pc ls (Iq a :: st) mem := by
  intro g p l e R s m args below meth c cells slots QF X rt H locs L w hS hM hs hl hv
  obtain ⟨hd, rfl, ht⟩ := hd
  have h2 : in32 a := hs.1
  have h0 : (0 : Int32).toInt = 0 := by decide
  have e1 : (Int32.ofInt a = 0) ↔ a = 0 := by rw [← Int32.toInt_inj, ofI h2, h0]
  have e2 : (Int32.ofInt a < 0) ↔ a < 0 := by rw [Int32.lt_iff_toInt_lt, ofI h2, h0]
  have e3 : (0 < Int32.ofInt a) ↔ 0 < a := by rw [Int32.lt_iff_toInt_lt, ofI h2, h0]
  have e4 : (Int32.ofInt a ≤ 0) ↔ a ≤ 0 := by rw [Int32.le_iff_toInt_le, ofI h2, h0]
  have e5 : (0 ≤ Int32.ofInt a) ↔ 0 ≤ a := by rw [Int32.le_iff_toInt_le, ofI h2, h0]
  exact lv_if_lt X.1 X.2.1 hd ht (fun q => kt (by first | exact e1.mp q | exact e2.mp q | exact e3.mp q | exact e4.mp q | exact e5.mp q | (intro z; exact q (e1.mpr z))) g p l e R s m args below meth c cells slots QF X rt H locs L w hS hM hs.2 hl hv) (fun q => kf (by intro z; first | exact q (e1.mpr z) | exact q (e2.mpr z) | exact q (e3.mpr z) | exact q (e4.mpr z) | exact q (e5.mpr z) | exact z (e1.mp q)) g p l e R s m args below meth c cells slots QF X rt H locs L w hS hM hs.2 hl hv)
theorem pw_icmp_ge {a b : Int} {off : Int} (hd : Dj y pc (.if_icmp .ge off) off pc2 tgt) (kt : b ≤ a → PW S y Q tgt ls st mem) (kf : ¬ (b ≤ a) → PW S y Q pc2 ls st mem) : PW S y Q pc ls (Iq b :: Iq a :: st) mem := by
  intro g p l e R s m args below meth c cells slots QF X rt H locs L w hS hM hs hl hv
  obtain ⟨hd, rfl, ht⟩ := hd
  have h1 : in32 b := hs.1
  have h2 : in32 a := hs.2.1
  have e1 : (Int32.ofInt a = Int32.ofInt b) ↔ a = b := by rw [← Int32.toInt_inj, ofI h1, ofI h2]
  have e2 : (Int32.ofInt a < Int32.ofInt b) ↔ a < b := by rw [Int32.lt_iff_toInt_lt, ofI h1, ofI h2]
  have e3 : (Int32.ofInt b < Int32.ofInt a) ↔ b < a := by rw [Int32.lt_iff_toInt_lt, ofI h1, ofI h2]
  have e4 : (Int32.ofInt a ≤ Int32.ofInt b) ↔ a ≤ b := by rw [Int32.le_iff_toInt_le, ofI h1, ofI h2]
  have e5 : (Int32.ofInt b ≤ Int32.ofInt a) ↔ b ≤ a := by rw [Int32.le_iff_toInt_le, ofI h1, ofI h2]
  exact lv_icmp_ge X.1 X.2.1 hd ht (fun q => kt (by first | exact e1.mp q | exact e2.mp q | exact e3.mp q | exact e4.mp q | exact e5.mp q | (intro z; exact q (e1.mpr z))) g p l e R s m args below meth c cells slots QF X rt H locs L w hS hM hs.2.2 hl hv) (fun q => kf (by intro z; first | exact q (e1.mpr z) | exact q (e2.mpr z) | exact q (e3.mpr z) | exact q (e4.mpr z) | exact q (e5.mpr z) | exact z (e1.mp q)) g p l e R s m args below meth c cells slots QF X rt H locs L w hS hM hs.2.2 hl hv)
theorem pw_if_ge {a : Int} {off : Int} (hd : Dj y pc (.ifCond .ge off) off pc2 tgt) (kt : 0 ≤ a → PW S y Q tgt ls st mem) (kf : ¬ (0 ≤ a) → PW S y Q pc2 ls st mem) : PW S y Q pc ls (Iq a :: st) mem := by
  intro g p l e R s m args below meth c cells slots QF X rt H locs L w hS hM hs hl hv
  obtain ⟨hd, rfl, ht⟩ := hd
  have h2 : in32 a := hs.1
  have h0 : (0 : Int32).toInt = 0 := by decide
  have e1 : (Int32.ofInt a = 0) ↔ a = 0 := by rw [← Int32.toInt_inj, ofI h2, h0]
  have e2 : (Int32.ofInt a < 0) ↔ a < 0 := by rw [Int32.lt_iff_toInt_lt, ofI h2, h0]
  have e3 : (0 < Int32.ofInt a) ↔ 0 < a := by rw [Int32.lt_iff_toInt_lt, ofI h2, h0]
  have e4 : (Int32.ofInt a ≤ 0) ↔ a ≤ 0 := by rw [Int32.le_iff_toInt_le, ofI h2, h0]
  have e5 : (0 ≤ Int32.ofInt a) ↔ 0 ≤ a := by rw [Int32.le_iff_toInt_le, ofI h2, h0]
  exact lv_if_ge X.1 X.2.1 hd ht (fun q => kt (by first | exact e1.mp q | exact e2.mp q | exact e3.mp q | exact e4.mp q | exact e5.mp q | (intro z; exact q (e1.mpr z))) g p l e R s m args below meth c cells slots QF X rt H locs L w hS hM hs.2 hl hv) (fun q => kf (by intro z; first | exact q (e1.mpr z) | exact q (e2.mpr z) | exact q (e3.mpr z) | exact q (e4.mpr z) | exact q (e5.mpr z) | exact z (e1.mp q)) g p l e R s m args below meth c cells slots QF X rt H locs L w hS hM hs.2 hl hv)
theorem pw_icmp_gt {a b : Int} {off : Int} (hd : Dj y pc (.if_icmp .gt off) off pc2 tgt) (kt : b < a → PW S y Q tgt ls st mem) (kf : ¬ (b < a) → PW S y Q pc2 ls st mem) : PW S y Q pc ls (Iq b :: Iq a :: st) mem := by
  intro g p l e R s m args below meth c cells slots QF X rt H locs L w hS hM hs hl hv
  obtain ⟨hd, rfl, ht⟩ := hd
  have h1 : in32 b := hs.1
  have h2 : in32 a := hs.2.1
  have e1 : (Int32.ofInt a = Int32.ofInt b) ↔ a = b := by rw [← Int32.toInt_inj, ofI h1, ofI h2]
  have e2 : (Int32.ofInt a < Int32.ofInt b) ↔ a < b := by rw [Int32.lt_iff_toInt_lt, ofI h1, ofI h2]
  have e3 : (Int32.ofInt b < Int32.ofInt a) ↔ b < a := by rw [Int32.lt_iff_toInt_lt, ofI h1, ofI h2]
  have e4 : (Int32.ofInt a ≤ Int32.ofInt b) ↔ a ≤ b := by rw [Int32.le_iff_toInt_le, ofI h1, ofI h2]
  have e5 : (Int32.ofInt b ≤ Int32.ofInt a) ↔ b ≤ a := by rw [Int32.le_iff_toInt_le, ofI h1, ofI h2]
  exact lv_icmp_gt X.1 X.2.1 hd ht (fun q => kt (by first | exact e1.mp q | exact e2.mp q | exact e3.mp q | exact e4.mp q | exact e5.mp q | (intro z; exact q (e1.mpr z))) g p l e R s m args below meth c cells slots QF X rt H locs L w hS hM hs.2.2 hl hv) (fun q => kf (by intro z; first | exact q (e1.mpr z) | exact q (e2.mpr z) | exact q (e3.mpr z) | exact q (e4.mpr z) | exact q (e5.mpr z) | exact z (e1.mp q)) g p l e R s m args below meth c cells slots QF X rt H locs L w hS hM hs.2.2 hl hv)
theorem pw_if_gt {a : Int} {off : Int} (hd : Dj y pc (.ifCond .gt off) off pc2 tgt) (kt : 0 < a → PW S y Q tgt ls st mem) (kf : ¬ (0 < a) → PW S y Q pc2 ls st mem) : PW S y Q pc ls (Iq a :: st) mem := by
  intro g p l e R s m args below meth c cells slots QF X rt H locs L w hS hM hs hl hv
  obtain ⟨hd, rfl, ht⟩ := hd
  have h2 : in32 a := hs.1
  have h0 : (0 : Int32).toInt = 0 := by decide
  have e1 : (Int32.ofInt a = 0) ↔ a = 0 := by rw [← Int32.toInt_inj, ofI h2, h0]
  have e2 : (Int32.ofInt a < 0) ↔ a < 0 := by rw [Int32.lt_iff_toInt_lt, ofI h2, h0]
  have e3 : (0 < Int32.ofInt a) ↔ 0 < a := by rw [Int32.lt_iff_toInt_lt, ofI h2, h0]
  have e4 : (Int32.ofInt a ≤ 0) ↔ a ≤ 0 := by rw [Int32.le_iff_toInt_le, ofI h2, h0]
  have e5 : (0 ≤ Int32.ofInt a) ↔ 0 ≤ a := by rw [Int32.le_iff_toInt_le, ofI h2, h0]
  exact lv_if_gt X.1 X.2.1 hd ht (fun q => kt (by first | exact e1.mp q | exact e2.mp q | exact e3.mp q | exact e4.mp q | exact e5.mp q | (intro z; exact q (e1.mpr z))) g p l e R s m args below meth c cells slots QF X rt H locs L w hS hM hs.2 hl hv) (fun q => kf (by intro z; first | exact q (e1.mpr z) | exact q (e2.mpr z) | exact q (e3.mpr z) | exact q (e4.mpr z) | exact q (e5.mpr z) | exact z (e1.mp q)) g p l e R s m args below meth c cells slots QF X rt H locs L w hS hM hs.2 hl hv)
theorem pw_icmp_le {a b : Int} {off : Int} (hd : Dj y pc (.if_icmp .le off) off pc2 tgt) (kt : a ≤ b → PW S y Q tgt ls st mem) (kf : ¬ (a ≤ b) → PW S y Q pc2 ls st mem) : PW S y Q pc ls (Iq b :: Iq a :: st) mem := by
  intro g p l e R s m args below meth c cells slots QF X rt H locs L w hS hM hs hl hv
  obtain ⟨hd, rfl, ht⟩ := hd
  have h1 : in32 b := hs.1
  have h2 : in32 a := hs.2.1
  have e1 : (Int32.ofInt a = Int32.ofInt b) ↔ a = b := by rw [← Int32.toInt_inj, ofI h1, ofI h2]
  have e2 : (Int32.ofInt a < Int32.ofInt b) ↔ a < b := by rw [Int32.lt_iff_toInt_lt, ofI h1, ofI h2]
  have e3 : (Int32.ofInt b < Int32.ofInt a) ↔ b < a := by rw [Int32.lt_iff_toInt_lt, ofI h1, ofI h2]
  have e4 : (Int32.ofInt a ≤ Int32.ofInt b) ↔ a ≤ b := by rw [Int32.le_iff_toInt_le, ofI h1, ofI h2]
  have e5 : (Int32.ofInt b ≤ Int32.ofInt a) ↔ b ≤ a := by rw [Int32.le_iff_toInt_le, ofI h1, ofI h2]
  exact lv_icmp_le X.1 X.2.1 hd ht (fun q => kt (by first | exact e1.mp q | exact e2.mp q | exact e3.mp q | exact e4.mp q | exact e5.mp q | (intro z; exact q (e1.mpr z))) g p l e R s m args below meth c cells slots QF X rt H locs L w hS hM hs.2.2 hl hv) (fun q => kf (by intro z; first | exact q (e1.mpr z) | exact q (e2.mpr z) | exact q (e3.mpr z) | exact q (e4.mpr z) | exact q (e5.mpr z) | exact z (e1.mp q)) g p l e R s m args below meth c cells slots QF X rt H locs L w hS hM hs.2.2 hl hv)
theorem pw_if_le {a : Int} {off : Int} (hd : Dj y pc (.ifCond .le off) off pc2 tgt) (kt : a ≤ 0 → PW S y Q tgt ls st mem) (kf : ¬ (a ≤ 0) → PW S y Q pc2 ls st mem) : PW S y Q pc ls (Iq a :: st) mem := by
  intro g p l e R s m args below meth c cells slots QF X rt H locs L w hS hM hs hl hv
  obtain ⟨hd, rfl, ht⟩ := hd
  have h2 : in32 a := hs.1
  have h0 : (0 : Int32).toInt = 0 := by decide
  have e1 : (Int32.ofInt a = 0) ↔ a = 0 := by rw [← Int32.toInt_inj, ofI h2, h0]
  have e2 : (Int32.ofInt a < 0) ↔ a < 0 := by rw [Int32.lt_iff_toInt_lt, ofI h2, h0]
  have e3 : (0 < Int32.ofInt a) ↔ 0 < a := by rw [Int32.lt_iff_toInt_lt, ofI h2, h0]
  have e4 : (Int32.ofInt a ≤ 0) ↔ a ≤ 0 := by rw [Int32.le_iff_toInt_le, ofI h2, h0]
  have e5 : (0 ≤ Int32.ofInt a) ↔ 0 ≤ a := by rw [Int32.le_iff_toInt_le, ofI h2, h0]
  exact lv_if_le X.1 X.2.1 hd ht (fun q => kt (by first | exact e1.mp q | exact e2.mp q | exact e3.mp q | exact e4.mp q | exact e5.mp q | (intro z; exact q (e1.mpr z))) g p l e R s m args below meth c cells slots QF X rt H locs L w hS hM hs.2 hl hv) (fun q => kf (by intro z; first | exact q (e1.mpr z) | exact q (e2.mpr z) | exact q (e3.mpr z) | exact q (e4.mpr z) | exact q (e5.mpr z) | exact z (e1.mp q)) g p l e R s m args below meth c cells slots QF X rt H locs L w hS hM hs.2 hl hv)
/-- the cases of a switch, by their keys -/
def Swi (x : Int) (P : Nat → Prop) : List (Int × Nat) → Prop
  | [] => True
  | q :: r => (x = q.1 → P q.2) ∧ Swi x P r
theorem Swi.at {x : Int} {P : Nat → Prop} : ∀ {l : List (Int × Nat)} (j : Nat) {q : Int × Nat}, Swi x P l → l[j]? = some q → x = q.1 → P q.2 := by
  intro l
  induction l with
  | nil => intro j q _ h; simp at h
  | cons a r ih =>
    intro j q hs h hx
    cases j with
    | zero => simp at h; subst h; exact hs.1 hx
    | succ n => exact ih n hs.2 (by simpa using h) hx
theorem pw_tsw {x dflt lo hi : Int} {offs : Array Int} {len td : Nat} {ps : List (Int × Nat)} (hd : Dn y pc (.tableswitch dflt lo hi offs) len pc2) (hz : (offs.size : Int) = hi - lo + 1) (h1 : (List.range offs.size).map (fun j : Nat => lo + (j : Int)) = ps.map (fun q => q.1)) (h2 : offs.toList.map (fun o => (pc : Int) + o) = ps.map (fun q => (q.2 : Int))) (h3 : (pc : Int) + dflt = (td : Int))
    (k : Swi x (fun t => PW S y Q t ls st mem) ps) (kd : (x < lo ∨ hi < x) → PW S y Q td ls st mem) : PW S y Q pc ls (Iq x :: st) mem := by
  intro g p l e R s m args below meth c cells slots QF X rt H locs L w hS hM hs hl hv
  obtain ⟨hd, -⟩ := hd
  have hx : in32 x := hs.1
  by_cases h : x < lo ∨ hi < x
  · exact lv_tableOut X.1 X.2.1 hd (by rw [ofI hx]; exact h) h3 (kd h g p l e R s m args below meth c cells slots QF X rt H locs L w hS hM hs.2 hl hv)
  · have hj : (x - lo).toNat < offs.size := by omega
    have hj2 : offs[(x - lo).toNat]? = some offs[(x - lo).toNat] := Array.getElem?_eq_getElem hj
    have hp1 := congrArg (fun l => l[(x - lo).toNat]?) h1
    have hp2 := congrArg (fun l => l[(x - lo).toNat]?) h2
    simp only [List.getElem?_map, List.getElem?_range hj, Array.getElem?_toList, hj2, Option.map_some] at hp1 hp2
    cases hq : ps[(x - lo).toNat]? with
    | none => rw [hq] at hp1; cases hp1
    | some q =>
      rw [hq] at hp1 hp2
      simp only [Option.map_some, Option.some.injEq] at hp1 hp2
      refine lv_tableIn X.1 X.2.1 hd (by rw [ofI hx]; omega) (by rw [ofI hx]; omega) (by rw [ofI hx]; exact hj2) hp2 ?_
      exact (k.at (x - lo).toNat hq (by omega)) g p l e R s m args below meth c cells slots QF X rt H locs L w hS hM hs.2 hl hv
theorem pw_lsw {x dflt : Int} {ps0 : Array (Int × Int)} {len td : Nat} {ps : List (Int × Nat)} (hd : Dn y pc (.lookupswitch dflt ps0) len pc2) (hp : (ps0.toList.zip (ps0.toList.drop 1)).all (fun (a, next) => a.1 < next.1) = true) (h1 : ps0.toList.map (fun q => q.1) = ps.map (fun q => q.1)) (h2 : ps0.toList.map (fun q => (pc : Int) + q.2) = ps.map (fun q => (q.2 : Int))) (h3 : (pc : Int) + dflt = (td : Int))
    (k : Swi x (fun t => PW S y Q t ls st mem) ps) (kd : (∀ q ∈ ps, ¬ x = q.1) → PW S y Q td ls st mem) : PW S y Q pc ls (Iq x :: st) mem := by
  intro g p l e R s m args below meth c cells slots QF X rt H locs L w hS hM hs hl hv
  obtain ⟨hd, -⟩ := hd
  have hx : in32 x := hs.1
  have key : ∀ (a : List (Int × Int)) (b : List (Int × Nat)), a.map (fun q => q.1) = b.map (fun q => q.1) → a.map (fun q => (pc : Int) + q.2) = b.map (fun q => (q.2 : Int)) → Swi x (fun t => PW S y Q t ls st mem) b → ((∀ q ∈ b, ¬ x = q.1) → PW S y Q td ls st mem) →
      ∃ t : Nat, (pc : Int) + Op.lookupswitch.offset a dflt x = (t : Int) ∧ PW S y Q t ls st mem := by
    intro a
    induction a with
    | nil =>
      intro b e1 e2 hk hkd
      cases b with
      | nil => exact ⟨td, h3, hkd (fun q hq => by cases hq)⟩
      | cons q r => cases e1
    | cons z a ih =>
      intro b e1 e2 hk hkd
      cases b with
      | nil => cases e1
      | cons q r =>
        simp only [List.map_cons, List.cons.injEq] at e1 e2
        by_cases hz : x = z.1
        · refine ⟨q.2, ?_, hk.1 (by rw [hz, e1.1])⟩
          rw [← e2.1]
          obtain ⟨z1, z2⟩ := z
          rw [Op.lookupswitch.offset_cons, if_pos hz.symm]
        · obtain ⟨t, ht1, ht2⟩ := ih r e1.2 e2.2 hk.2 (fun hq => hkd (fun q2 h2 => by
            rcases List.mem_cons.mp h2 with h2 | h2
            · rw [h2, ← e1.1]; exact hz
            · exact hq q2 h2))
          refine ⟨t, ?_, ht2⟩
          rw [← ht1]
          obtain ⟨z1, z2⟩ := z
          rw [Op.lookupswitch.offset_cons, if_neg (fun q => hz q.symm)]
  obtain ⟨t, ht1, ht2⟩ := key _ _ h1 h2 k kd
  exact lv_lookup X.1 X.2.1 hd hp (by rw [ofI hx]) ht1 (ht2 g p l e R s m args below meth c cells slots QF X rt H locs L w hS hM hs.2 hl hv)
theorem pw_iret {v : Int} (hd : Dn y pc .ireturn 1 pc2) (k : Q (some (Iq v)) mem) : PW S y Q pc ls [Iq v] mem := by
  intro g p l e R s m args below meth c cells slots QF X rt H locs L w hS hM hs hl hv
  exact rt (some (Iq v)) mem H locs L pc k w hS hM hs.1 hd.1
theorem pw_lret {v : Int} (hd : Dn y pc .lreturn 1 pc2) (k : Q (some (Jq v)) mem) : PW S y Q pc ls [Jq v] mem := by
  intro g p l e R s m args below meth c cells slots QF X rt H locs L w hS hM hs hl hv
  exact rt (some (Jq v)) mem H locs L pc k w hS hM hs.1 hd.1
theorem pw_vret (hd : Dn y pc .return_ 1 pc2) (k : Q none mem) : PW S y Q pc ls [] mem := by
  intro g p l e R s m args below meth c cells slots QF X rt H locs L w hS hM hs hl hv
  exact rt none mem H locs L pc k w hS hM trivial hd.1
theorem pw_ok (k : okS st → okL ls → okM mem → PW S y Q pc ls st mem) : PW S y Q pc ls st mem := by
  intro g p l e R s m args below meth c cells slots QF X rt H locs L w hS hM hs hl hv
  exact k hs hl hM g p l e R s m args below meth c cells slots QF X rt H locs L w hS hM hs hl hv
end PA

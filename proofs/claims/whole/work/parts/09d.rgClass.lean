section RG
set_option maxRecDepth 100000 in
theorem rg_X3_wipe_0 {S : Sx} {Q : Option PV → Zm → Prop} {mem : Zm}   
    (h : Q (some (Iq (mem 22 1))) (mup mem 22 1 0)) :
    PW S mX3_wipe Q 0 [some (Aq 0), none] [] mem := by
  refine pw_aload_n eX3_wipe_0 rfl rfl ?_
  refine gf_RX3_29 rfl eX3_wipe_1 sh0 ?_
  refine gf_RX3_177 rfl eX3_wipe_4 sh22 ?_
  refine pw_istore_n (ls2 := [some (Aq 0), some (Iq (mem 22 1))]) eX3_wipe_7 rfl (by decide) rfl ?_
  refine pw_aload_n eX3_wipe_8 rfl rfl ?_
  refine gf_RX3_29 rfl eX3_wipe_9 sh0 ?_
  refine pw_iconst eX3_wipe_12 ⟨by decide, by decide⟩ ?_
  refine pf_RX3_177 rfl eX3_wipe_13 sh22 ?_
  refine pw_iload_n eX3_wipe_16 rfl rfl ?_
  exact pw_iret eX3_wipe_17 h
set_option maxRecDepth 100000 in
theorem rg_X3_text_0 {S : Sx} {Q : Option PV → Zm → Prop} {mem : Zm}   
    (h : (∃ (m2 : Zm), Ct1 S mX0_become [Aq 8, Aq 1] mem none m2 ∧ ((∃ (v4 : Int) (m5 : Zm), Ct1 S mX2_readInto [Aq 22, Aq 8] m2 (some (Iq v4)) m5 ∧ ((((v4 < 0) → (Q (some (Iq v4)) (mup m5 22 1 0))) ∧ (¬ (v4 < 0) → ((∃ (m9 : Zm), Ct1 S mX0_become [Aq 1, Aq 8] m5 none m9 ∧ (Q (some (Iq v4)) (mup m9 22 1 0))))))))))) :
    PW S mX3_text Q 0 [some (Aq 0), none] [] mem := by
  refine pw_aload_n eX3_text_0 rfl rfl ?_
  refine gf_RX3_16 rfl eX3_text_1 sh0 ?_
  refine pw_aload_n eX3_text_4 rfl rfl ?_
  refine gf_RX3_10 rfl eX3_text_5 sh0 ?_
  obtain ⟨m2, hc3, h⟩ := h
  refine pw_cV (z := mX0_become) (av := [Aq 1]) (st := []) eX3_text_8 lk_RX3_126 rfl (by decide) (by decide) (shR isR8) rfl rfl (Nat.le_of_ble_eq_true rfl) rfl hc3 ?_
  show PW S mX3_text Q 11 [some (Aq 0), none] [] m2
  refine pw_aload_n eX3_text_11 rfl rfl ?_
  refine gf_RX3_29 rfl eX3_text_12 sh0 ?_
  refine pw_aload_n eX3_text_15 rfl rfl ?_
  refine gf_RX3_16 rfl eX3_text_16 sh0 ?_
  obtain ⟨v4, m5, hc6, h⟩ := h
  refine pw_cV (z := mX2_readInto) (av := [Aq 8]) (st := []) eX3_text_19 lk_RX3_183 rfl (by decide) (by decide) sh22 rfl rfl (Nat.le_of_ble_eq_true rfl) rfl hc6 ?_
  show PW S mX3_text Q 22 [some (Aq 0), none] [Iq v4] m5
  refine pw_istore_n (ls2 := [some (Aq 0), some (Iq v4)]) eX3_text_22 rfl (by decide) rfl ?_
  refine pw_iload_n eX3_text_23 rfl rfl ?_
  refine pw_if_lt eX3_text_24 (fun c7 => ?_) (fun c7 => ?_)
  · have h := h.1 c7
    refine pw_aload_n eX3_text_38 rfl rfl ?_
    refine gf_RX3_29 rfl eX3_text_39 sh0 ?_
    refine pw_iconst eX3_text_42 ⟨by decide, by decide⟩ ?_
    refine pf_RX3_177 rfl eX3_text_43 sh22 ?_
    refine pw_iload_n eX3_text_46 rfl rfl ?_
    exact pw_iret eX3_text_47 h
  · have h := h.2 c7
    refine pw_aload_n eX3_text_27 rfl rfl ?_
    refine gf_RX3_10 rfl eX3_text_28 sh0 ?_
    refine pw_aload_n eX3_text_31 rfl rfl ?_
    refine gf_RX3_16 rfl eX3_text_32 sh0 ?_
    obtain ⟨m9, hc10, h⟩ := h
    refine pw_cV (z := mX0_become) (av := [Aq 8]) (st := []) eX3_text_35 lk_RX3_126 rfl (by decide) (by decide) (shR isR1) rfl rfl (Nat.le_of_ble_eq_true rfl) rfl hc10 ?_
    show PW S mX3_text Q 38 [some (Aq 0), some (Iq v4)] [] m9
    refine pw_aload_n eX3_text_38 rfl rfl ?_
    refine gf_RX3_29 rfl eX3_text_39 sh0 ?_
    refine pw_iconst eX3_text_42 ⟨by decide, by decide⟩ ?_
    refine pf_RX3_177 rfl eX3_text_43 sh22 ?_
    refine pw_iload_n eX3_text_46 rfl rfl ?_
    exact pw_iret eX3_text_47 h
set_option maxRecDepth 100000 in
theorem rg_X3_hold_0 {S : Sx} {Q : Option PV → Zm → Prop} {mem : Zm}   {x1 x2 : Int} 
    (h : (∃ (v1 : Int) (m2 : Zm), Ct1 S mX3_within [Iq x1, Iq 0, Iq 9] mem (some (Iq v1)) m2 ∧ ((((v1 = 0) → ((∃ (v5 : Int) (m6 : Zm), Ct1 S mX3_finding [Aq 0, Iq (-1000001)] m2 (some (Iq v5)) m6 ∧ (Q (some (Iq v5)) m6)))) ∧ (¬ (v1 = 0) → ((((x2 = -1) → ((0 ≤ x1 ∧ x1 < 10) ∧ Q (some (Iq 1)) (mup m2 5 (x1).toNat x2))) ∧ (¬ (x2 = -1) → ((∃ (v10 : Int) (m11 : Zm), Ct1 S mX0_has [Aq 1, Iq x2] m2 (some (Iq v10)) m11 ∧ ((((¬ v10 = 0) → ((0 ≤ x1 ∧ x1 < 10) ∧ Q (some (Iq 1)) (mup m11 5 (x1).toNat x2))) ∧ (¬ (¬ v10 = 0) → ((∃ (v15 : Int) (m16 : Zm), Ct1 S mX3_finding [Aq 0, Iq (-1000001)] m11 (some (Iq v15)) m16 ∧ (Q (some (Iq v15)) m16)))))))))))))))) :
    PW S mX3_hold Q 0 [some (Aq 0), some (Iq x1), some (Iq x2)] [] mem := by
  refine pw_iload_n eX3_hold_0 rfl rfl ?_
  refine pw_iconst eX3_hold_1 ⟨by decide, by decide⟩ ?_
  refine pw_bipush eX3_hold_2 ⟨by decide, by decide⟩ (by decide) ?_
  obtain ⟨v1, m2, hc3, h⟩ := h
  refine pw_cS (z := mX3_within) (av := [Iq x1, Iq 0, Iq 9]) (st := []) eX3_hold_4 lk_RX3_44 rfl (by decide) (by decide) (Nat.le_of_ble_eq_true rfl) rfl hc3 ?_
  show PW S mX3_hold Q 7 [some (Aq 0), some (Iq x1), some (Iq x2)] [Iq v1] m2
  refine pw_if_eq eX3_hold_7 (fun c4 => ?_) (fun c4 => ?_)
  · have h := h.1 c4
    refine pw_aload_n eX3_hold_26 rfl rfl ?_
    refine pw_ldc (n := (-1000001)) eX3_hold_27 ⟨by decide, by decide⟩ kc_RX3_48 ?_
    obtain ⟨v5, m6, hc7, h⟩ := h
    refine pw_cV (z := mX3_finding) (av := [Iq (-1000001)]) (st := []) eX3_hold_29 lk_RX3_49 rfl (by decide) (by decide) sh0 rfl rfl (Nat.le_of_ble_eq_true rfl) rfl hc7 ?_
    show PW S mX3_hold Q 32 [some (Aq 0), some (Iq x1), some (Iq x2)] [Iq v5] m6
    exact pw_iret eX3_hold_32 h
  · have h := h.2 c4
    refine pw_iload_n eX3_hold_10 rfl rfl ?_
    refine pw_iconst eX3_hold_11 ⟨by decide, by decide⟩ ?_
    refine pw_icmp_eq eX3_hold_12 (fun c8 => ?_) (fun c8 => ?_)
    · have h := h.1 c8
      refine pw_aload_n eX3_hold_33 rfl rfl ?_
      refine gf_RX3_10 rfl eX3_hold_34 sh0 ?_
      refine gf_RX3_187 rfl eX3_hold_37 (shR isR1) ?_
      refine pw_iload_n eX3_hold_40 rfl rfl ?_
      refine pw_iload_n eX3_hold_41 rfl rfl ?_
      obtain ⟨o9, h⟩ := h
      refine pw_iast eX3_hold_42 sh5 o9 ?_
      refine pw_iconst eX3_hold_43 ⟨by decide, by decide⟩ ?_
      exact pw_iret eX3_hold_44 h
    · have h := h.2 c8
      refine pw_aload_n eX3_hold_15 rfl rfl ?_
      refine gf_RX3_10 rfl eX3_hold_16 sh0 ?_
      refine pw_iload_n eX3_hold_19 rfl rfl ?_
      obtain ⟨v10, m11, hc12, h⟩ := h
      refine pw_cV (z := mX0_has) (av := [Iq x2]) (st := []) eX3_hold_20 lk_RX3_68 rfl (by decide) (by decide) (shR isR1) rfl rfl (Nat.le_of_ble_eq_true rfl) rfl hc12 ?_
      show PW S mX3_hold Q 23 [some (Aq 0), some (Iq x1), some (Iq x2)] [Iq v10] m11
      refine pw_if_ne eX3_hold_23 (fun c13 => ?_) (fun c13 => ?_)
      · have h := h.1 c13
        refine pw_aload_n eX3_hold_33 rfl rfl ?_
        refine gf_RX3_10 rfl eX3_hold_34 sh0 ?_
        refine gf_RX3_187 rfl eX3_hold_37 (shR isR1) ?_
        refine pw_iload_n eX3_hold_40 rfl rfl ?_
        refine pw_iload_n eX3_hold_41 rfl rfl ?_
        obtain ⟨o14, h⟩ := h
        refine pw_iast eX3_hold_42 sh5 o14 ?_
        refine pw_iconst eX3_hold_43 ⟨by decide, by decide⟩ ?_
        exact pw_iret eX3_hold_44 h
      · have h := h.2 c13
        refine pw_aload_n eX3_hold_26 rfl rfl ?_
        refine pw_ldc (n := (-1000001)) eX3_hold_27 ⟨by decide, by decide⟩ kc_RX3_48 ?_
        obtain ⟨v15, m16, hc17, h⟩ := h
        refine pw_cV (z := mX3_finding) (av := [Iq (-1000001)]) (st := []) eX3_hold_29 lk_RX3_49 rfl (by decide) (by decide) sh0 rfl rfl (Nat.le_of_ble_eq_true rfl) rfl hc17 ?_
        show PW S mX3_hold Q 32 [some (Aq 0), some (Iq x1), some (Iq x2)] [Iq v15] m16
        exact pw_iret eX3_hold_32 h
set_option maxRecDepth 100000 in
theorem rg_X3_as_0 {S : Sx} {Q : Option PV → Zm → Prop} {mem : Zm}   {x1 x2 : Int} 
    (h : (∃ (v1 : Int) (m2 : Zm), Ct1 S mX3_within [Iq x1, Iq 0, Iq 9] mem (some (Iq v1)) m2 ∧ ((((v1 = 0) → ((∃ (v5 : Int) (m6 : Zm), Ct1 S mX3_finding [Aq 0, Iq (-1000001)] m2 (some (Iq v5)) m6 ∧ (Q (some (Iq v5)) m6)))) ∧ (¬ (v1 = 0) → ((∃ (v8 : Int) (m9 : Zm), Ct1 S mX3_within [Iq x2, Iq 0, Iq 6] m2 (some (Iq v8)) m9 ∧ ((((¬ v8 = 0) → ((0 ≤ x1 ∧ x1 < 10) ∧ (∃ (v13 : Int) (m14 : Zm), Ct1 S mX0_has [Aq 1, Iq (m9 5 (x1).toNat)] m9 (some (Iq v13)) m14 ∧ ((((¬ v13 = 0) → ((∃ (v17 : Int) (m18 : Zm), Ct1 S mX0_fact [Aq 1, Iq (m9 5 (x1).toNat), Iq 0] m14 (some (Iq v17)) m18 ∧ ((∃ (v20 : Int) (m21 : Zm), Ct1 S mX3_isUnder [Iq v17, Iq x2] m18 (some (Iq v20)) m21 ∧ ((((¬ v20 = 0) → (Q (some (Iq (m9 5 (x1).toNat))) m21)) ∧ (¬ (¬ v20 = 0) → ((∃ (v24 : Int) (m25 : Zm), Ct1 S mX3_finding [Aq 0, Iq (-1000003)] m21 (some (Iq v24)) m25 ∧ (Q (some (Iq v24)) m25))))))))))) ∧ (¬ (¬ v13 = 0) → ((∃ (v27 : Int) (m28 : Zm), Ct1 S mX3_finding [Aq 0, Iq (-1000006)] m14 (some (Iq v27)) m28 ∧ (Q (some (Iq v27)) m28))))))))) ∧ (¬ (¬ v8 = 0) → ((∃ (v30 : Int) (m31 : Zm), Ct1 S mX3_finding [Aq 0, Iq (-1000001)] m9 (some (Iq v30)) m31 ∧ (Q (some (Iq v30)) m31))))))))))))) :
    PW S mX3_as Q 0 [some (Aq 0), some (Iq x1), some (Iq x2), none] [] mem := by
  refine pw_iload_n eX3_as_0 rfl rfl ?_
  refine pw_iconst eX3_as_1 ⟨by decide, by decide⟩ ?_
  refine pw_bipush eX3_as_2 ⟨by decide, by decide⟩ (by decide) ?_
  obtain ⟨v1, m2, hc3, h⟩ := h
  refine pw_cS (z := mX3_within) (av := [Iq x1, Iq 0, Iq 9]) (st := []) eX3_as_4 lk_RX3_44 rfl (by decide) (by decide) (Nat.le_of_ble_eq_true rfl) rfl hc3 ?_
  show PW S mX3_as Q 7 [some (Aq 0), some (Iq x1), some (Iq x2), none] [Iq v1] m2
  refine pw_if_eq eX3_as_7 (fun c4 => ?_) (fun c4 => ?_)
  · have h := h.1 c4
    refine pw_aload_n eX3_as_20 rfl rfl ?_
    refine pw_ldc (n := (-1000001)) eX3_as_21 ⟨by decide, by decide⟩ kc_RX3_48 ?_
    obtain ⟨v5, m6, hc7, h⟩ := h
    refine pw_cV (z := mX3_finding) (av := [Iq (-1000001)]) (st := []) eX3_as_23 lk_RX3_49 rfl (by decide) (by decide) sh0 rfl rfl (Nat.le_of_ble_eq_true rfl) rfl hc7 ?_
    show PW S mX3_as Q 26 [some (Aq 0), some (Iq x1), some (Iq x2), none] [Iq v5] m6
    exact pw_iret eX3_as_26 h
  · have h := h.2 c4
    refine pw_iload_n eX3_as_10 rfl rfl ?_
    refine pw_iconst eX3_as_11 ⟨by decide, by decide⟩ ?_
    refine pw_bipush eX3_as_12 ⟨by decide, by decide⟩ (by decide) ?_
    obtain ⟨v8, m9, hc10, h⟩ := h
    refine pw_cS (z := mX3_within) (av := [Iq x2, Iq 0, Iq 6]) (st := []) eX3_as_14 lk_RX3_44 rfl (by decide) (by decide) (Nat.le_of_ble_eq_true rfl) rfl hc10 ?_
    show PW S mX3_as Q 17 [some (Aq 0), some (Iq x1), some (Iq x2), none] [Iq v8] m9
    refine pw_if_ne eX3_as_17 (fun c11 => ?_) (fun c11 => ?_)
    · have h := h.1 c11
      refine pw_aload_n eX3_as_27 rfl rfl ?_
      refine gf_RX3_10 rfl eX3_as_28 sh0 ?_
      refine gf_RX3_187 rfl eX3_as_31 (shR isR1) ?_
      refine pw_iload_n eX3_as_34 rfl rfl ?_
      obtain ⟨o12, h⟩ := h
      refine pw_iald eX3_as_35 sh5 o12 ?_
      refine pw_istore_n (ls2 := [some (Aq 0), some (Iq x1), some (Iq x2), some (Iq (m9 5 (x1).toNat))]) eX3_as_36 rfl (by decide) rfl ?_
      refine pw_aload_n eX3_as_37 rfl rfl ?_
      refine gf_RX3_10 rfl eX3_as_38 sh0 ?_
      refine pw_iload_n eX3_as_41 rfl rfl ?_
      obtain ⟨v13, m14, hc15, h⟩ := h
      refine pw_cV (z := mX0_has) (av := [Iq (m9 5 (x1).toNat)]) (st := []) eX3_as_42 lk_RX3_68 rfl (by decide) (by decide) (shR isR1) rfl rfl (Nat.le_of_ble_eq_true rfl) rfl hc15 ?_
      show PW S mX3_as Q 45 [some (Aq 0), some (Iq x1), some (Iq x2), some (Iq (m9 5 (x1).toNat))] [Iq v13] m14
      refine pw_if_ne eX3_as_45 (fun c16 => ?_) (fun c16 => ?_)
      · have h := h.1 c16
        refine pw_aload_n eX3_as_55 rfl rfl ?_
        refine gf_RX3_10 rfl eX3_as_56 sh0 ?_
        refine pw_iload_n eX3_as_59 rfl rfl ?_
        refine pw_iconst eX3_as_60 ⟨by decide, by decide⟩ ?_
        obtain ⟨v17, m18, hc19, h⟩ := h
        refine pw_cV (z := mX0_fact) (av := [Iq (m9 5 (x1).toNat), Iq 0]) (st := []) eX3_as_61 lk_RX3_81 rfl (by decide) (by decide) (shR isR1) rfl rfl (Nat.le_of_ble_eq_true rfl) rfl hc19 ?_
        show PW S mX3_as Q 64 [some (Aq 0), some (Iq x1), some (Iq x2), some (Iq (m9 5 (x1).toNat))] [Iq v17] m18
        refine pw_iload_n eX3_as_64 rfl rfl ?_
        obtain ⟨v20, m21, hc22, h⟩ := h
        refine pw_cS (z := mX3_isUnder) (av := [Iq v17, Iq x2]) (st := []) eX3_as_65 lk_RX3_191 rfl (by decide) (by decide) (Nat.le_of_ble_eq_true rfl) rfl hc22 ?_
        show PW S mX3_as Q 68 [some (Aq 0), some (Iq x1), some (Iq x2), some (Iq (m9 5 (x1).toNat))] [Iq v20] m21
        refine pw_if_ne eX3_as_68 (fun c23 => ?_) (fun c23 => ?_)
        · have h := h.1 c23
          refine pw_iload_n eX3_as_78 rfl rfl ?_
          exact pw_iret eX3_as_79 h
        · have h := h.2 c23
          refine pw_aload_n eX3_as_71 rfl rfl ?_
          refine pw_ldc (n := (-1000003)) eX3_as_72 ⟨by decide, by decide⟩ kc_RX3_195 ?_
          obtain ⟨v24, m25, hc26, h⟩ := h
          refine pw_cV (z := mX3_finding) (av := [Iq (-1000003)]) (st := []) eX3_as_74 lk_RX3_49 rfl (by decide) (by decide) sh0 rfl rfl (Nat.le_of_ble_eq_true rfl) rfl hc26 ?_
          show PW S mX3_as Q 77 [some (Aq 0), some (Iq x1), some (Iq x2), some (Iq (m9 5 (x1).toNat))] [Iq v24] m25
          exact pw_iret eX3_as_77 h
      · have h := h.2 c16
        refine pw_aload_n eX3_as_48 rfl rfl ?_
        refine pw_ldc (n := (-1000006)) eX3_as_49 ⟨by decide, by decide⟩ kc_RX3_190 ?_
        obtain ⟨v27, m28, hc29, h⟩ := h
        refine pw_cV (z := mX3_finding) (av := [Iq (-1000006)]) (st := []) eX3_as_51 lk_RX3_49 rfl (by decide) (by decide) sh0 rfl rfl (Nat.le_of_ble_eq_true rfl) rfl hc29 ?_
        show PW S mX3_as Q 54 [some (Aq 0), some (Iq x1), some (Iq x2), some (Iq (m9 5 (x1).toNat))] [Iq v27] m28
        exact pw_iret eX3_as_54 h
    · have h := h.2 c11
      refine pw_aload_n eX3_as_20 rfl rfl ?_
      refine pw_ldc (n := (-1000001)) eX3_as_21 ⟨by decide, by decide⟩ kc_RX3_48 ?_
      obtain ⟨v30, m31, hc32, h⟩ := h
      refine pw_cV (z := mX3_finding) (av := [Iq (-1000001)]) (st := []) eX3_as_23 lk_RX3_49 rfl (by decide) (by decide) sh0 rfl rfl (Nat.le_of_ble_eq_true rfl) rfl hc32 ?_
      show PW S mX3_as Q 26 [some (Aq 0), some (Iq x1), some (Iq x2), none] [Iq v30] m31
      exact pw_iret eX3_as_26 h
set_option maxRecDepth 100000 in
theorem rg_X3_sheet_0 {S : Sx} {Q : Option PV → Zm → Prop} {mem : Zm}   {x1 x2 x3 : Int} 
    (h : (((x2 = 0) → ((∃ (v2 : Int) (m3 : Zm), Ct1 S mX3_within [Iq x1, Iq 0, Iq 3] mem (some (Iq v2)) m3 ∧ ((((v2 = 0) → ((∃ (v6 : Int) (m7 : Zm), Ct1 S mX3_finding [Aq 0, Iq (-1000001)] m3 (some (Iq v6)) m7 ∧ (Q (some (Iq v6)) m7)))) ∧ (¬ (v2 = 0) → ((((0 ≤ x3) → ((((x3 ≤ 40) → ((0 ≤ x1 ∧ x1 < 4) ∧ (((¬ x2 = 0) → ((∃ (m15 : Zm), Ct1 S mX1_renew [Aq (25 + 2 * (x1).toNat), Iq x2, Iq x3] m3 none m15 ∧ ((0 ≤ x1 ∧ x1 < 4) ∧ Q (some (Iq (m15 (25 + 2 * (x1).toNat) 2))) m15)))) ∧ (¬ (¬ x2 = 0) → ((∃ (m19 : Zm), Ct1 S mX1_renew [Aq (25 + 2 * (x1).toNat), Iq x2, Iq 0] m3 none m19 ∧ ((0 ≤ x1 ∧ x1 < 4) ∧ Q (some (Iq (m19 (25 + 2 * (x1).toNat) 2))) m19))))))) ∧ (¬ (x3 ≤ 40) → ((∃ (v22 : Int) (m23 : Zm), Ct1 S mX3_finding [Aq 0, Iq (-1000001)] m3 (some (Iq v22)) m23 ∧ (Q (some (Iq v22)) m23))))))) ∧ (¬ (0 ≤ x3) → ((∃ (v25 : Int) (m26 : Zm), Ct1 S mX3_finding [Aq 0, Iq (-1000007)] m3 (some (Iq v25)) m26 ∧ (Q (some (Iq v25)) m26)))))))))))) ∧ (¬ (x2 = 0) → ((((x2 = 8) → ((∃ (v29 : Int) (m30 : Zm), Ct1 S mX3_within [Iq x1, Iq 0, Iq 3] mem (some (Iq v29)) m30 ∧ ((((v29 = 0) → ((∃ (v33 : Int) (m34 : Zm), Ct1 S mX3_finding [Aq 0, Iq (-1000001)] m30 (some (Iq v33)) m34 ∧ (Q (some (Iq v33)) m34)))) ∧ (¬ (v29 = 0) → ((((0 ≤ x3) → ((((x3 ≤ 40) → ((0 ≤ x1 ∧ x1 < 4) ∧ (((¬ x2 = 0) → ((∃ (m42 : Zm), Ct1 S mX1_renew [Aq (25 + 2 * (x1).toNat), Iq x2, Iq x3] m30 none m42 ∧ ((0 ≤ x1 ∧ x1 < 4) ∧ Q (some (Iq (m42 (25 + 2 * (x1).toNat) 2))) m42)))) ∧ (¬ (¬ x2 = 0) → ((∃ (m46 : Zm), Ct1 S mX1_renew [Aq (25 + 2 * (x1).toNat), Iq x2, Iq 0] m30 none m46 ∧ ((0 ≤ x1 ∧ x1 < 4) ∧ Q (some (Iq (m46 (25 + 2 * (x1).toNat) 2))) m46))))))) ∧ (¬ (x3 ≤ 40) → ((∃ (v49 : Int) (m50 : Zm), Ct1 S mX3_finding [Aq 0, Iq (-1000001)] m30 (some (Iq v49)) m50 ∧ (Q (some (Iq v49)) m50))))))) ∧ (¬ (0 ≤ x3) → ((∃ (v52 : Int) (m53 : Zm), Ct1 S mX3_finding [Aq 0, Iq (-1000007)] m30 (some (Iq v52)) m53 ∧ (Q (some (Iq v52)) m53)))))))))))) ∧ (¬ (x2 = 8) → ((((x2 = 16) → ((∃ (v56 : Int) (m57 : Zm), Ct1 S mX3_within [Iq x1, Iq 0, Iq 3] mem (some (Iq v56)) m57 ∧ ((((v56 = 0) → ((∃ (v60 : Int) (m61 : Zm), Ct1 S mX3_finding [Aq 0, Iq (-1000001)] m57 (some (Iq v60)) m61 ∧ (Q (some (Iq v60)) m61)))) ∧ (¬ (v56 = 0) → ((((0 ≤ x3) → ((((x3 ≤ 40) → ((0 ≤ x1 ∧ x1 < 4) ∧ (((¬ x2 = 0) → ((∃ (m69 : Zm), Ct1 S mX1_renew [Aq (25 + 2 * (x1).toNat), Iq x2, Iq x3] m57 none m69 ∧ ((0 ≤ x1 ∧ x1 < 4) ∧ Q (some (Iq (m69 (25 + 2 * (x1).toNat) 2))) m69)))) ∧ (¬ (¬ x2 = 0) → ((∃ (m73 : Zm), Ct1 S mX1_renew [Aq (25 + 2 * (x1).toNat), Iq x2, Iq 0] m57 none m73 ∧ ((0 ≤ x1 ∧ x1 < 4) ∧ Q (some (Iq (m73 (25 + 2 * (x1).toNat) 2))) m73))))))) ∧ (¬ (x3 ≤ 40) → ((∃ (v76 : Int) (m77 : Zm), Ct1 S mX3_finding [Aq 0, Iq (-1000001)] m57 (some (Iq v76)) m77 ∧ (Q (some (Iq v76)) m77))))))) ∧ (¬ (0 ≤ x3) → ((∃ (v79 : Int) (m80 : Zm), Ct1 S mX3_finding [Aq 0, Iq (-1000007)] m57 (some (Iq v79)) m80 ∧ (Q (some (Iq v79)) m80)))))))))))) ∧ (¬ (x2 = 16) → ((((¬ x2 = 32) → ((∃ (v83 : Int) (m84 : Zm), Ct1 S mX3_within [Iq x1, Iq 0, Iq 3] mem (some (Iq v83)) m84 ∧ ((((v83 = 0) → ((∃ (v87 : Int) (m88 : Zm), Ct1 S mX3_finding [Aq 0, Iq (-1000001)] m84 (some (Iq v87)) m88 ∧ (Q (some (Iq v87)) m88)))) ∧ (¬ (v83 = 0) → ((∃ (v91 : Int) (m92 : Zm), Ct1 S mX3_finding [Aq 0, Iq (-1000001)] m84 (some (Iq v91)) m92 ∧ (Q (some (Iq v91)) m92))))))))) ∧ (¬ (¬ x2 = 32) → ((∃ (v94 : Int) (m95 : Zm), Ct1 S mX3_within [Iq x1, Iq 0, Iq 3] mem (some (Iq v94)) m95 ∧ ((((v94 = 0) → ((∃ (v98 : Int) (m99 : Zm), Ct1 S mX3_finding [Aq 0, Iq (-1000001)] m95 (some (Iq v98)) m99 ∧ (Q (some (Iq v98)) m99)))) ∧ (¬ (v94 = 0) → ((((0 ≤ x3) → ((((x3 ≤ 40) → ((0 ≤ x1 ∧ x1 < 4) ∧ (((¬ x2 = 0) → ((∃ (m107 : Zm), Ct1 S mX1_renew [Aq (25 + 2 * (x1).toNat), Iq x2, Iq x3] m95 none m107 ∧ ((0 ≤ x1 ∧ x1 < 4) ∧ Q (some (Iq (m107 (25 + 2 * (x1).toNat) 2))) m107)))) ∧ (¬ (¬ x2 = 0) → ((∃ (m111 : Zm), Ct1 S mX1_renew [Aq (25 + 2 * (x1).toNat), Iq x2, Iq 0] m95 none m111 ∧ ((0 ≤ x1 ∧ x1 < 4) ∧ Q (some (Iq (m111 (25 + 2 * (x1).toNat) 2))) m111))))))) ∧ (¬ (x3 ≤ 40) → ((∃ (v114 : Int) (m115 : Zm), Ct1 S mX3_finding [Aq 0, Iq (-1000001)] m95 (some (Iq v114)) m115 ∧ (Q (some (Iq v114)) m115))))))) ∧ (¬ (0 ≤ x3) → ((∃ (v117 : Int) (m118 : Zm), Ct1 S mX3_finding [Aq 0, Iq (-1000007)] m95 (some (Iq v117)) m118 ∧ (Q (some (Iq v117)) m118))))))))))))))))))))))) :
    PW S mX3_sheet Q 0 [some (Aq 0), some (Iq x1), some (Iq x2), some (Iq x3), none] [] mem := by
  refine pw_iload_n eX3_sheet_0 rfl rfl ?_
  refine pw_if_eq eX3_sheet_1 (fun c1 => ?_) (fun c1 => ?_)
  · have h := h.1 c1
    refine pw_iconst eX3_sheet_22 ⟨by decide, by decide⟩ ?_
    refine pw_goto eX3_sheet_23 ?_
    refine pw_istore (ls2 := [some (Aq 0), some (Iq x1), some (Iq x2), some (Iq x3), some (Iq 1)]) eX3_sheet_27 (by decide) rfl ?_
    refine pw_iload_n eX3_sheet_29 rfl rfl ?_
    refine pw_iconst eX3_sheet_30 ⟨by decide, by decide⟩ ?_
    refine pw_iconst eX3_sheet_31 ⟨by decide, by decide⟩ ?_
    obtain ⟨v2, m3, hc4, h⟩ := h
    refine pw_cS (z := mX3_within) (av := [Iq x1, Iq 0, Iq 3]) (st := []) eX3_sheet_32 lk_RX3_44 rfl (by decide) (by decide) (Nat.le_of_ble_eq_true rfl) rfl hc4 ?_
    show PW S mX3_sheet Q 35 [some (Aq 0), some (Iq x1), some (Iq x2), some (Iq x3), some (Iq 1)] [Iq v2] m3
    refine pw_if_eq eX3_sheet_35 (fun c5 => ?_) (fun c5 => ?_)
    · have h := h.1 c5
      refine pw_aload_n eX3_sheet_43 rfl rfl ?_
      refine pw_ldc (n := (-1000001)) eX3_sheet_44 ⟨by decide, by decide⟩ kc_RX3_48 ?_
      obtain ⟨v6, m7, hc8, h⟩ := h
      refine pw_cV (z := mX3_finding) (av := [Iq (-1000001)]) (st := []) eX3_sheet_46 lk_RX3_49 rfl (by decide) (by decide) sh0 rfl rfl (Nat.le_of_ble_eq_true rfl) rfl hc8 ?_
      show PW S mX3_sheet Q 49 [some (Aq 0), some (Iq x1), some (Iq x2), some (Iq x3), some (Iq 1)] [Iq v6] m7
      exact pw_iret eX3_sheet_49 h
    · have h := h.2 c5
      refine pw_iload eX3_sheet_38 rfl ?_
      refine pw_if_ne eX3_sheet_40 (fun c9 => ?_) (fun c9 => ?_)
      · skip
        refine pw_iload_n eX3_sheet_50 rfl rfl ?_
        refine pw_if_ge eX3_sheet_51 (fun c10 => ?_) (fun c10 => ?_)
        · have h := h.1 c10
          refine pw_iload_n eX3_sheet_61 rfl rfl ?_
          refine pw_bipush eX3_sheet_62 ⟨by decide, by decide⟩ (by decide) ?_
          refine pw_icmp_le eX3_sheet_64 (fun c11 => ?_) (fun c11 => ?_)
          · have h := h.1 c11
            refine pw_aload_n eX3_sheet_74 rfl rfl ?_
            refine gf_RX3_35 rfl eX3_sheet_75 sh0 ?_
            refine pw_iload_n eX3_sheet_78 rfl rfl ?_
            obtain ⟨o12, h⟩ := h
            refine pw_aald eX3_sheet_79 sh24 o12 ?_
            refine pw_iload_n eX3_sheet_80 rfl rfl ?_
            refine pw_iload_n eX3_sheet_81 rfl rfl ?_
            refine pw_if_ne eX3_sheet_82 (fun c13 => ?_) (fun c13 => ?_)
            · have h := h.1 c13
              refine pw_iload_n eX3_sheet_89 rfl rfl ?_
              obtain ⟨m15, hc16, h⟩ := h
              refine pw_cV (z := mX1_renew) (av := [Iq x2, Iq x3]) (st := []) eX3_sheet_90 lk_RX3_197 rfl (by decide) (by decide) (shS (isSh o12)) rfl rfl (Nat.le_of_ble_eq_true rfl) rfl hc16 ?_
              show PW S mX3_sheet Q 93 [some (Aq 0), some (Iq x1), some (Iq x2), some (Iq x3), some (Iq 1)] [] m15
              refine pw_aload_n eX3_sheet_93 rfl rfl ?_
              refine gf_RX3_35 rfl eX3_sheet_94 sh0 ?_
              refine pw_iload_n eX3_sheet_97 rfl rfl ?_
              obtain ⟨o17, h⟩ := h
              refine pw_aald eX3_sheet_98 sh24 o17 ?_
              refine gf_RX3_201 rfl eX3_sheet_99 (shS (isSh o17)) ?_
              exact pw_iret eX3_sheet_102 h
            · have h := h.2 c13
              refine pw_iconst eX3_sheet_85 ⟨by decide, by decide⟩ ?_
              refine pw_goto eX3_sheet_86 ?_
              obtain ⟨m19, hc20, h⟩ := h
              refine pw_cV (z := mX1_renew) (av := [Iq x2, Iq 0]) (st := []) eX3_sheet_90 lk_RX3_197 rfl (by decide) (by decide) (shS (isSh o12)) rfl rfl (Nat.le_of_ble_eq_true rfl) rfl hc20 ?_
              show PW S mX3_sheet Q 93 [some (Aq 0), some (Iq x1), some (Iq x2), some (Iq x3), some (Iq 1)] [] m19
              refine pw_aload_n eX3_sheet_93 rfl rfl ?_
              refine gf_RX3_35 rfl eX3_sheet_94 sh0 ?_
              refine pw_iload_n eX3_sheet_97 rfl rfl ?_
              obtain ⟨o21, h⟩ := h
              refine pw_aald eX3_sheet_98 sh24 o21 ?_
              refine gf_RX3_201 rfl eX3_sheet_99 (shS (isSh o21)) ?_
              exact pw_iret eX3_sheet_102 h
          · have h := h.2 c11
            refine pw_aload_n eX3_sheet_67 rfl rfl ?_
            refine pw_ldc (n := (-1000001)) eX3_sheet_68 ⟨by decide, by decide⟩ kc_RX3_48 ?_
            obtain ⟨v22, m23, hc24, h⟩ := h
            refine pw_cV (z := mX3_finding) (av := [Iq (-1000001)]) (st := []) eX3_sheet_70 lk_RX3_49 rfl (by decide) (by decide) sh0 rfl rfl (Nat.le_of_ble_eq_true rfl) rfl hc24 ?_
            show PW S mX3_sheet Q 73 [some (Aq 0), some (Iq x1), some (Iq x2), some (Iq x3), some (Iq 1)] [Iq v22] m23
            exact pw_iret eX3_sheet_73 h
        · have h := h.2 c10
          refine pw_aload_n eX3_sheet_54 rfl rfl ?_
          refine pw_ldc (n := (-1000007)) eX3_sheet_55 ⟨by decide, by decide⟩ kc_RX3_196 ?_
          obtain ⟨v25, m26, hc27, h⟩ := h
          refine pw_cV (z := mX3_finding) (av := [Iq (-1000007)]) (st := []) eX3_sheet_57 lk_RX3_49 rfl (by decide) (by decide) sh0 rfl rfl (Nat.le_of_ble_eq_true rfl) rfl hc27 ?_
          show PW S mX3_sheet Q 60 [some (Aq 0), some (Iq x1), some (Iq x2), some (Iq x3), some (Iq 1)] [Iq v25] m26
          exact pw_iret eX3_sheet_60 h
      · exact absurd (by decide) c9
  · have h := h.2 c1
    refine pw_iload_n eX3_sheet_4 rfl rfl ?_
    refine pw_bipush eX3_sheet_5 ⟨by decide, by decide⟩ (by decide) ?_
    refine pw_icmp_eq eX3_sheet_7 (fun c28 => ?_) (fun c28 => ?_)
    · have h := h.1 c28
      refine pw_iconst eX3_sheet_22 ⟨by decide, by decide⟩ ?_
      refine pw_goto eX3_sheet_23 ?_
      refine pw_istore (ls2 := [some (Aq 0), some (Iq x1), some (Iq x2), some (Iq x3), some (Iq 1)]) eX3_sheet_27 (by decide) rfl ?_
      refine pw_iload_n eX3_sheet_29 rfl rfl ?_
      refine pw_iconst eX3_sheet_30 ⟨by decide, by decide⟩ ?_
      refine pw_iconst eX3_sheet_31 ⟨by decide, by decide⟩ ?_
      obtain ⟨v29, m30, hc31, h⟩ := h
      refine pw_cS (z := mX3_within) (av := [Iq x1, Iq 0, Iq 3]) (st := []) eX3_sheet_32 lk_RX3_44 rfl (by decide) (by decide) (Nat.le_of_ble_eq_true rfl) rfl hc31 ?_
      show PW S mX3_sheet Q 35 [some (Aq 0), some (Iq x1), some (Iq x2), some (Iq x3), some (Iq 1)] [Iq v29] m30
      refine pw_if_eq eX3_sheet_35 (fun c32 => ?_) (fun c32 => ?_)
      · have h := h.1 c32
        refine pw_aload_n eX3_sheet_43 rfl rfl ?_
        refine pw_ldc (n := (-1000001)) eX3_sheet_44 ⟨by decide, by decide⟩ kc_RX3_48 ?_
        obtain ⟨v33, m34, hc35, h⟩ := h
        refine pw_cV (z := mX3_finding) (av := [Iq (-1000001)]) (st := []) eX3_sheet_46 lk_RX3_49 rfl (by decide) (by decide) sh0 rfl rfl (Nat.le_of_ble_eq_true rfl) rfl hc35 ?_
        show PW S mX3_sheet Q 49 [some (Aq 0), some (Iq x1), some (Iq x2), some (Iq x3), some (Iq 1)] [Iq v33] m34
        exact pw_iret eX3_sheet_49 h
      · have h := h.2 c32
        refine pw_iload eX3_sheet_38 rfl ?_
        refine pw_if_ne eX3_sheet_40 (fun c36 => ?_) (fun c36 => ?_)
        · skip
          refine pw_iload_n eX3_sheet_50 rfl rfl ?_
          refine pw_if_ge eX3_sheet_51 (fun c37 => ?_) (fun c37 => ?_)
          · have h := h.1 c37
            refine pw_iload_n eX3_sheet_61 rfl rfl ?_
            refine pw_bipush eX3_sheet_62 ⟨by decide, by decide⟩ (by decide) ?_
            refine pw_icmp_le eX3_sheet_64 (fun c38 => ?_) (fun c38 => ?_)
            · have h := h.1 c38
              refine pw_aload_n eX3_sheet_74 rfl rfl ?_
              refine gf_RX3_35 rfl eX3_sheet_75 sh0 ?_
              refine pw_iload_n eX3_sheet_78 rfl rfl ?_
              obtain ⟨o39, h⟩ := h
              refine pw_aald eX3_sheet_79 sh24 o39 ?_
              refine pw_iload_n eX3_sheet_80 rfl rfl ?_
              refine pw_iload_n eX3_sheet_81 rfl rfl ?_
              refine pw_if_ne eX3_sheet_82 (fun c40 => ?_) (fun c40 => ?_)
              · have h := h.1 c40
                refine pw_iload_n eX3_sheet_89 rfl rfl ?_
                obtain ⟨m42, hc43, h⟩ := h
                refine pw_cV (z := mX1_renew) (av := [Iq x2, Iq x3]) (st := []) eX3_sheet_90 lk_RX3_197 rfl (by decide) (by decide) (shS (isSh o39)) rfl rfl (Nat.le_of_ble_eq_true rfl) rfl hc43 ?_
                show PW S mX3_sheet Q 93 [some (Aq 0), some (Iq x1), some (Iq x2), some (Iq x3), some (Iq 1)] [] m42
                refine pw_aload_n eX3_sheet_93 rfl rfl ?_
                refine gf_RX3_35 rfl eX3_sheet_94 sh0 ?_
                refine pw_iload_n eX3_sheet_97 rfl rfl ?_
                obtain ⟨o44, h⟩ := h
                refine pw_aald eX3_sheet_98 sh24 o44 ?_
                refine gf_RX3_201 rfl eX3_sheet_99 (shS (isSh o44)) ?_
                exact pw_iret eX3_sheet_102 h
              · have h := h.2 c40
                refine pw_iconst eX3_sheet_85 ⟨by decide, by decide⟩ ?_
                refine pw_goto eX3_sheet_86 ?_
                obtain ⟨m46, hc47, h⟩ := h
                refine pw_cV (z := mX1_renew) (av := [Iq x2, Iq 0]) (st := []) eX3_sheet_90 lk_RX3_197 rfl (by decide) (by decide) (shS (isSh o39)) rfl rfl (Nat.le_of_ble_eq_true rfl) rfl hc47 ?_
                show PW S mX3_sheet Q 93 [some (Aq 0), some (Iq x1), some (Iq x2), some (Iq x3), some (Iq 1)] [] m46
                refine pw_aload_n eX3_sheet_93 rfl rfl ?_
                refine gf_RX3_35 rfl eX3_sheet_94 sh0 ?_
                refine pw_iload_n eX3_sheet_97 rfl rfl ?_
                obtain ⟨o48, h⟩ := h
                refine pw_aald eX3_sheet_98 sh24 o48 ?_
                refine gf_RX3_201 rfl eX3_sheet_99 (shS (isSh o48)) ?_
                exact pw_iret eX3_sheet_102 h
            · have h := h.2 c38
              refine pw_aload_n eX3_sheet_67 rfl rfl ?_
              refine pw_ldc (n := (-1000001)) eX3_sheet_68 ⟨by decide, by decide⟩ kc_RX3_48 ?_
              obtain ⟨v49, m50, hc51, h⟩ := h
              refine pw_cV (z := mX3_finding) (av := [Iq (-1000001)]) (st := []) eX3_sheet_70 lk_RX3_49 rfl (by decide) (by decide) sh0 rfl rfl (Nat.le_of_ble_eq_true rfl) rfl hc51 ?_
              show PW S mX3_sheet Q 73 [some (Aq 0), some (Iq x1), some (Iq x2), some (Iq x3), some (Iq 1)] [Iq v49] m50
              exact pw_iret eX3_sheet_73 h
          · have h := h.2 c37
            refine pw_aload_n eX3_sheet_54 rfl rfl ?_
            refine pw_ldc (n := (-1000007)) eX3_sheet_55 ⟨by decide, by decide⟩ kc_RX3_196 ?_
            obtain ⟨v52, m53, hc54, h⟩ := h
            refine pw_cV (z := mX3_finding) (av := [Iq (-1000007)]) (st := []) eX3_sheet_57 lk_RX3_49 rfl (by decide) (by decide) sh0 rfl rfl (Nat.le_of_ble_eq_true rfl) rfl hc54 ?_
            show PW S mX3_sheet Q 60 [some (Aq 0), some (Iq x1), some (Iq x2), some (Iq x3), some (Iq 1)] [Iq v52] m53
            exact pw_iret eX3_sheet_60 h
        · exact absurd (by decide) c36
    · have h := h.2 c28
      refine pw_iload_n eX3_sheet_10 rfl rfl ?_
      refine pw_bipush eX3_sheet_11 ⟨by decide, by decide⟩ (by decide) ?_
      refine pw_icmp_eq eX3_sheet_13 (fun c55 => ?_) (fun c55 => ?_)
      · have h := h.1 c55
        refine pw_iconst eX3_sheet_22 ⟨by decide, by decide⟩ ?_
        refine pw_goto eX3_sheet_23 ?_
        refine pw_istore (ls2 := [some (Aq 0), some (Iq x1), some (Iq x2), some (Iq x3), some (Iq 1)]) eX3_sheet_27 (by decide) rfl ?_
        refine pw_iload_n eX3_sheet_29 rfl rfl ?_
        refine pw_iconst eX3_sheet_30 ⟨by decide, by decide⟩ ?_
        refine pw_iconst eX3_sheet_31 ⟨by decide, by decide⟩ ?_
        obtain ⟨v56, m57, hc58, h⟩ := h
        refine pw_cS (z := mX3_within) (av := [Iq x1, Iq 0, Iq 3]) (st := []) eX3_sheet_32 lk_RX3_44 rfl (by decide) (by decide) (Nat.le_of_ble_eq_true rfl) rfl hc58 ?_
        show PW S mX3_sheet Q 35 [some (Aq 0), some (Iq x1), some (Iq x2), some (Iq x3), some (Iq 1)] [Iq v56] m57
        refine pw_if_eq eX3_sheet_35 (fun c59 => ?_) (fun c59 => ?_)
        · have h := h.1 c59
          refine pw_aload_n eX3_sheet_43 rfl rfl ?_
          refine pw_ldc (n := (-1000001)) eX3_sheet_44 ⟨by decide, by decide⟩ kc_RX3_48 ?_
          obtain ⟨v60, m61, hc62, h⟩ := h
          refine pw_cV (z := mX3_finding) (av := [Iq (-1000001)]) (st := []) eX3_sheet_46 lk_RX3_49 rfl (by decide) (by decide) sh0 rfl rfl (Nat.le_of_ble_eq_true rfl) rfl hc62 ?_
          show PW S mX3_sheet Q 49 [some (Aq 0), some (Iq x1), some (Iq x2), some (Iq x3), some (Iq 1)] [Iq v60] m61
          exact pw_iret eX3_sheet_49 h
        · have h := h.2 c59
          refine pw_iload eX3_sheet_38 rfl ?_
          refine pw_if_ne eX3_sheet_40 (fun c63 => ?_) (fun c63 => ?_)
          · skip
            refine pw_iload_n eX3_sheet_50 rfl rfl ?_
            refine pw_if_ge eX3_sheet_51 (fun c64 => ?_) (fun c64 => ?_)
            · have h := h.1 c64
              refine pw_iload_n eX3_sheet_61 rfl rfl ?_
              refine pw_bipush eX3_sheet_62 ⟨by decide, by decide⟩ (by decide) ?_
              refine pw_icmp_le eX3_sheet_64 (fun c65 => ?_) (fun c65 => ?_)
              · have h := h.1 c65
                refine pw_aload_n eX3_sheet_74 rfl rfl ?_
                refine gf_RX3_35 rfl eX3_sheet_75 sh0 ?_
                refine pw_iload_n eX3_sheet_78 rfl rfl ?_
                obtain ⟨o66, h⟩ := h
                refine pw_aald eX3_sheet_79 sh24 o66 ?_
                refine pw_iload_n eX3_sheet_80 rfl rfl ?_
                refine pw_iload_n eX3_sheet_81 rfl rfl ?_
                refine pw_if_ne eX3_sheet_82 (fun c67 => ?_) (fun c67 => ?_)
                · have h := h.1 c67
                  refine pw_iload_n eX3_sheet_89 rfl rfl ?_
                  obtain ⟨m69, hc70, h⟩ := h
                  refine pw_cV (z := mX1_renew) (av := [Iq x2, Iq x3]) (st := []) eX3_sheet_90 lk_RX3_197 rfl (by decide) (by decide) (shS (isSh o66)) rfl rfl (Nat.le_of_ble_eq_true rfl) rfl hc70 ?_
                  show PW S mX3_sheet Q 93 [some (Aq 0), some (Iq x1), some (Iq x2), some (Iq x3), some (Iq 1)] [] m69
                  refine pw_aload_n eX3_sheet_93 rfl rfl ?_
                  refine gf_RX3_35 rfl eX3_sheet_94 sh0 ?_
                  refine pw_iload_n eX3_sheet_97 rfl rfl ?_
                  obtain ⟨o71, h⟩ := h
                  refine pw_aald eX3_sheet_98 sh24 o71 ?_
                  refine gf_RX3_201 rfl eX3_sheet_99 (shS (isSh o71)) ?_
                  exact pw_iret eX3_sheet_102 h
                · have h := h.2 c67
                  refine pw_iconst eX3_sheet_85 ⟨by decide, by decide⟩ ?_
                  refine pw_goto eX3_sheet_86 ?_
                  obtain ⟨m73, hc74, h⟩ := h
                  refine pw_cV (z := mX1_renew) (av := [Iq x2, Iq 0]) (st := []) eX3_sheet_90 lk_RX3_197 rfl (by decide) (by decide) (shS (isSh o66)) rfl rfl (Nat.le_of_ble_eq_true rfl) rfl hc74 ?_
                  show PW S mX3_sheet Q 93 [some (Aq 0), some (Iq x1), some (Iq x2), some (Iq x3), some (Iq 1)] [] m73
                  refine pw_aload_n eX3_sheet_93 rfl rfl ?_
                  refine gf_RX3_35 rfl eX3_sheet_94 sh0 ?_
                  refine pw_iload_n eX3_sheet_97 rfl rfl ?_
                  obtain ⟨o75, h⟩ := h
                  refine pw_aald eX3_sheet_98 sh24 o75 ?_
                  refine gf_RX3_201 rfl eX3_sheet_99 (shS (isSh o75)) ?_
                  exact pw_iret eX3_sheet_102 h
              · have h := h.2 c65
                refine pw_aload_n eX3_sheet_67 rfl rfl ?_
                refine pw_ldc (n := (-1000001)) eX3_sheet_68 ⟨by decide, by decide⟩ kc_RX3_48 ?_
                obtain ⟨v76, m77, hc78, h⟩ := h
                refine pw_cV (z := mX3_finding) (av := [Iq (-1000001)]) (st := []) eX3_sheet_70 lk_RX3_49 rfl (by decide) (by decide) sh0 rfl rfl (Nat.le_of_ble_eq_true rfl) rfl hc78 ?_
                show PW S mX3_sheet Q 73 [some (Aq 0), some (Iq x1), some (Iq x2), some (Iq x3), some (Iq 1)] [Iq v76] m77
                exact pw_iret eX3_sheet_73 h
            · have h := h.2 c64
              refine pw_aload_n eX3_sheet_54 rfl rfl ?_
              refine pw_ldc (n := (-1000007)) eX3_sheet_55 ⟨by decide, by decide⟩ kc_RX3_196 ?_
              obtain ⟨v79, m80, hc81, h⟩ := h
              refine pw_cV (z := mX3_finding) (av := [Iq (-1000007)]) (st := []) eX3_sheet_57 lk_RX3_49 rfl (by decide) (by decide) sh0 rfl rfl (Nat.le_of_ble_eq_true rfl) rfl hc81 ?_
              show PW S mX3_sheet Q 60 [some (Aq 0), some (Iq x1), some (Iq x2), some (Iq x3), some (Iq 1)] [Iq v79] m80
              exact pw_iret eX3_sheet_60 h
          · exact absurd (by decide) c63
      · have h := h.2 c55
        refine pw_iload_n eX3_sheet_16 rfl rfl ?_
        refine pw_bipush eX3_sheet_17 ⟨by decide, by decide⟩ (by decide) ?_
        refine pw_icmp_ne eX3_sheet_19 (fun c82 => ?_) (fun c82 => ?_)
        · have h := h.1 c82
          refine pw_iconst eX3_sheet_26 ⟨by decide, by decide⟩ ?_
          refine pw_istore (ls2 := [some (Aq 0), some (Iq x1), some (Iq x2), some (Iq x3), some (Iq 0)]) eX3_sheet_27 (by decide) rfl ?_
          refine pw_iload_n eX3_sheet_29 rfl rfl ?_
          refine pw_iconst eX3_sheet_30 ⟨by decide, by decide⟩ ?_
          refine pw_iconst eX3_sheet_31 ⟨by decide, by decide⟩ ?_
          obtain ⟨v83, m84, hc85, h⟩ := h
          refine pw_cS (z := mX3_within) (av := [Iq x1, Iq 0, Iq 3]) (st := []) eX3_sheet_32 lk_RX3_44 rfl (by decide) (by decide) (Nat.le_of_ble_eq_true rfl) rfl hc85 ?_
          show PW S mX3_sheet Q 35 [some (Aq 0), some (Iq x1), some (Iq x2), some (Iq x3), some (Iq 0)] [Iq v83] m84
          refine pw_if_eq eX3_sheet_35 (fun c86 => ?_) (fun c86 => ?_)
          · have h := h.1 c86
            refine pw_aload_n eX3_sheet_43 rfl rfl ?_
            refine pw_ldc (n := (-1000001)) eX3_sheet_44 ⟨by decide, by decide⟩ kc_RX3_48 ?_
            obtain ⟨v87, m88, hc89, h⟩ := h
            refine pw_cV (z := mX3_finding) (av := [Iq (-1000001)]) (st := []) eX3_sheet_46 lk_RX3_49 rfl (by decide) (by decide) sh0 rfl rfl (Nat.le_of_ble_eq_true rfl) rfl hc89 ?_
            show PW S mX3_sheet Q 49 [some (Aq 0), some (Iq x1), some (Iq x2), some (Iq x3), some (Iq 0)] [Iq v87] m88
            exact pw_iret eX3_sheet_49 h
          · have h := h.2 c86
            refine pw_iload eX3_sheet_38 rfl ?_
            refine pw_if_ne eX3_sheet_40 (fun c90 => ?_) (fun c90 => ?_)
            · exact absurd c90 (by decide)
            · skip
              refine pw_aload_n eX3_sheet_43 rfl rfl ?_
              refine pw_ldc (n := (-1000001)) eX3_sheet_44 ⟨by decide, by decide⟩ kc_RX3_48 ?_
              obtain ⟨v91, m92, hc93, h⟩ := h
              refine pw_cV (z := mX3_finding) (av := [Iq (-1000001)]) (st := []) eX3_sheet_46 lk_RX3_49 rfl (by decide) (by decide) sh0 rfl rfl (Nat.le_of_ble_eq_true rfl) rfl hc93 ?_
              show PW S mX3_sheet Q 49 [some (Aq 0), some (Iq x1), some (Iq x2), some (Iq x3), some (Iq 0)] [Iq v91] m92
              exact pw_iret eX3_sheet_49 h
        · have h := h.2 c82
          refine pw_iconst eX3_sheet_22 ⟨by decide, by decide⟩ ?_
          refine pw_goto eX3_sheet_23 ?_
          refine pw_istore (ls2 := [some (Aq 0), some (Iq x1), some (Iq x2), some (Iq x3), some (Iq 1)]) eX3_sheet_27 (by decide) rfl ?_
          refine pw_iload_n eX3_sheet_29 rfl rfl ?_
          refine pw_iconst eX3_sheet_30 ⟨by decide, by decide⟩ ?_
          refine pw_iconst eX3_sheet_31 ⟨by decide, by decide⟩ ?_
          obtain ⟨v94, m95, hc96, h⟩ := h
          refine pw_cS (z := mX3_within) (av := [Iq x1, Iq 0, Iq 3]) (st := []) eX3_sheet_32 lk_RX3_44 rfl (by decide) (by decide) (Nat.le_of_ble_eq_true rfl) rfl hc96 ?_
          show PW S mX3_sheet Q 35 [some (Aq 0), some (Iq x1), some (Iq x2), some (Iq x3), some (Iq 1)] [Iq v94] m95
          refine pw_if_eq eX3_sheet_35 (fun c97 => ?_) (fun c97 => ?_)
          · have h := h.1 c97
            refine pw_aload_n eX3_sheet_43 rfl rfl ?_
            refine pw_ldc (n := (-1000001)) eX3_sheet_44 ⟨by decide, by decide⟩ kc_RX3_48 ?_
            obtain ⟨v98, m99, hc100, h⟩ := h
            refine pw_cV (z := mX3_finding) (av := [Iq (-1000001)]) (st := []) eX3_sheet_46 lk_RX3_49 rfl (by decide) (by decide) sh0 rfl rfl (Nat.le_of_ble_eq_true rfl) rfl hc100 ?_
            show PW S mX3_sheet Q 49 [some (Aq 0), some (Iq x1), some (Iq x2), some (Iq x3), some (Iq 1)] [Iq v98] m99
            exact pw_iret eX3_sheet_49 h
          · have h := h.2 c97
            refine pw_iload eX3_sheet_38 rfl ?_
            refine pw_if_ne eX3_sheet_40 (fun c101 => ?_) (fun c101 => ?_)
            · skip
              refine pw_iload_n eX3_sheet_50 rfl rfl ?_
              refine pw_if_ge eX3_sheet_51 (fun c102 => ?_) (fun c102 => ?_)
              · have h := h.1 c102
                refine pw_iload_n eX3_sheet_61 rfl rfl ?_
                refine pw_bipush eX3_sheet_62 ⟨by decide, by decide⟩ (by decide) ?_
                refine pw_icmp_le eX3_sheet_64 (fun c103 => ?_) (fun c103 => ?_)
                · have h := h.1 c103
                  refine pw_aload_n eX3_sheet_74 rfl rfl ?_
                  refine gf_RX3_35 rfl eX3_sheet_75 sh0 ?_
                  refine pw_iload_n eX3_sheet_78 rfl rfl ?_
                  obtain ⟨o104, h⟩ := h
                  refine pw_aald eX3_sheet_79 sh24 o104 ?_
                  refine pw_iload_n eX3_sheet_80 rfl rfl ?_
                  refine pw_iload_n eX3_sheet_81 rfl rfl ?_
                  refine pw_if_ne eX3_sheet_82 (fun c105 => ?_) (fun c105 => ?_)
                  · have h := h.1 c105
                    refine pw_iload_n eX3_sheet_89 rfl rfl ?_
                    obtain ⟨m107, hc108, h⟩ := h
                    refine pw_cV (z := mX1_renew) (av := [Iq x2, Iq x3]) (st := []) eX3_sheet_90 lk_RX3_197 rfl (by decide) (by decide) (shS (isSh o104)) rfl rfl (Nat.le_of_ble_eq_true rfl) rfl hc108 ?_
                    show PW S mX3_sheet Q 93 [some (Aq 0), some (Iq x1), some (Iq x2), some (Iq x3), some (Iq 1)] [] m107
                    refine pw_aload_n eX3_sheet_93 rfl rfl ?_
                    refine gf_RX3_35 rfl eX3_sheet_94 sh0 ?_
                    refine pw_iload_n eX3_sheet_97 rfl rfl ?_
                    obtain ⟨o109, h⟩ := h
                    refine pw_aald eX3_sheet_98 sh24 o109 ?_
                    refine gf_RX3_201 rfl eX3_sheet_99 (shS (isSh o109)) ?_
                    exact pw_iret eX3_sheet_102 h
                  · have h := h.2 c105
                    refine pw_iconst eX3_sheet_85 ⟨by decide, by decide⟩ ?_
                    refine pw_goto eX3_sheet_86 ?_
                    obtain ⟨m111, hc112, h⟩ := h
                    refine pw_cV (z := mX1_renew) (av := [Iq x2, Iq 0]) (st := []) eX3_sheet_90 lk_RX3_197 rfl (by decide) (by decide) (shS (isSh o104)) rfl rfl (Nat.le_of_ble_eq_true rfl) rfl hc112 ?_
                    show PW S mX3_sheet Q 93 [some (Aq 0), some (Iq x1), some (Iq x2), some (Iq x3), some (Iq 1)] [] m111
                    refine pw_aload_n eX3_sheet_93 rfl rfl ?_
                    refine gf_RX3_35 rfl eX3_sheet_94 sh0 ?_
                    refine pw_iload_n eX3_sheet_97 rfl rfl ?_
                    obtain ⟨o113, h⟩ := h
                    refine pw_aald eX3_sheet_98 sh24 o113 ?_
                    refine gf_RX3_201 rfl eX3_sheet_99 (shS (isSh o113)) ?_
                    exact pw_iret eX3_sheet_102 h
                · have h := h.2 c103
                  refine pw_aload_n eX3_sheet_67 rfl rfl ?_
                  refine pw_ldc (n := (-1000001)) eX3_sheet_68 ⟨by decide, by decide⟩ kc_RX3_48 ?_
                  obtain ⟨v114, m115, hc116, h⟩ := h
                  refine pw_cV (z := mX3_finding) (av := [Iq (-1000001)]) (st := []) eX3_sheet_70 lk_RX3_49 rfl (by decide) (by decide) sh0 rfl rfl (Nat.le_of_ble_eq_true rfl) rfl hc116 ?_
                  show PW S mX3_sheet Q 73 [some (Aq 0), some (Iq x1), some (Iq x2), some (Iq x3), some (Iq 1)] [Iq v114] m115
                  exact pw_iret eX3_sheet_73 h
              · have h := h.2 c102
                refine pw_aload_n eX3_sheet_54 rfl rfl ?_
                refine pw_ldc (n := (-1000007)) eX3_sheet_55 ⟨by decide, by decide⟩ kc_RX3_196 ?_
                obtain ⟨v117, m118, hc119, h⟩ := h
                refine pw_cV (z := mX3_finding) (av := [Iq (-1000007)]) (st := []) eX3_sheet_57 lk_RX3_49 rfl (by decide) (by decide) sh0 rfl rfl (Nat.le_of_ble_eq_true rfl) rfl hc119 ?_
                show PW S mX3_sheet Q 60 [some (Aq 0), some (Iq x1), some (Iq x2), some (Iq x3), some (Iq 1)] [Iq v117] m118
                exact pw_iret eX3_sheet_60 h
            · exact absurd (by decide) c101
set_option maxRecDepth 100000 in
theorem rg_X3_write_0 {S : Sx} {Q : Option PV → Zm → Prop} {mem : Zm}   {x1 x2 x3 : Int} 
    (h : (∃ (v1 : Int) (m2 : Zm), Ct1 S mX3_sheetCheck [Aq 0, Iq x1] mem (some (Iq v1)) m2 ∧ ((((v1 = 0) → ((0 ≤ x1 ∧ x1 < 4) ∧ (in32 ((m2 (25 + 2 * (x1).toNat) 2) - 1)) ∧ (∃ (v7 : Int) (m8 : Zm), Ct1 S mX3_within [Iq x2, Iq 0, Iq ((m2 (25 + 2 * (x1).toNat) 2) - 1)] m2 (some (Iq v7)) m8 ∧ ((((¬ v7 = 0) → ((0 ≤ x1 ∧ x1 < 4) ∧ (∃ (m13 : Zm), Ct1 S mX1_put [Aq (25 + 2 * (x1).toNat), Iq x2, Iq x3] m8 none m13 ∧ (Q (some (Iq 1)) m13)))) ∧ (¬ (¬ v7 = 0) → ((∃ (v15 : Int) (m16 : Zm), Ct1 S mX3_finding [Aq 0, Iq (-1000001)] m8 (some (Iq v15)) m16 ∧ (Q (some (Iq v15)) m16))))))))) ∧ (¬ (v1 = 0) → ((∃ (v18 : Int) (m19 : Zm), Ct1 S mX3_finding [Aq 0, Iq v1] m2 (some (Iq v18)) m19 ∧ (Q (some (Iq v18)) m19)))))))) :
    PW S mX3_write Q 0 [some (Aq 0), some (Iq x1), some (Iq x2), some (Iq x3), none] [] mem := by
  refine pw_aload_n eX3_write_0 rfl rfl ?_
  refine pw_iload_n eX3_write_1 rfl rfl ?_
  obtain ⟨v1, m2, hc3, h⟩ := h
  refine pw_cV (z := mX3_sheetCheck) (av := [Iq x1]) (st := []) eX3_write_2 lk_RX3_202 rfl (by decide) (by decide) sh0 rfl rfl (Nat.le_of_ble_eq_true rfl) rfl hc3 ?_
  show PW S mX3_write Q 5 [some (Aq 0), some (Iq x1), some (Iq x2), some (Iq x3), none] [Iq v1] m2
  refine pw_istore (ls2 := [some (Aq 0), some (Iq x1), some (Iq x2), some (Iq x3), some (Iq v1)]) eX3_write_5 (by decide) rfl ?_
  refine pw_iload eX3_write_7 rfl ?_
  refine pw_if_eq eX3_write_9 (fun c4 => ?_) (fun c4 => ?_)
  · have h := h.1 c4
    refine pw_iload_n eX3_write_19 rfl rfl ?_
    refine pw_iconst eX3_write_20 ⟨by decide, by decide⟩ ?_
    refine pw_aload_n eX3_write_21 rfl rfl ?_
    refine gf_RX3_35 rfl eX3_write_22 sh0 ?_
    refine pw_iload_n eX3_write_25 rfl rfl ?_
    obtain ⟨o5, h⟩ := h
    refine pw_aald eX3_write_26 sh24 o5 ?_
    refine gf_RX3_201 rfl eX3_write_27 (shS (isSh o5)) ?_
    refine pw_iconst eX3_write_30 ⟨by decide, by decide⟩ ?_
    obtain ⟨o6, h⟩ := h
    refine pw_isub eX3_write_31 o6 ?_
    obtain ⟨v7, m8, hc9, h⟩ := h
    refine pw_cS (z := mX3_within) (av := [Iq x2, Iq 0, Iq ((m2 (25 + 2 * (x1).toNat) 2) - 1)]) (st := []) eX3_write_32 lk_RX3_44 rfl (by decide) (by decide) (Nat.le_of_ble_eq_true rfl) rfl hc9 ?_
    show PW S mX3_write Q 35 [some (Aq 0), some (Iq x1), some (Iq x2), some (Iq x3), some (Iq v1)] [Iq v7] m8
    refine pw_if_ne eX3_write_35 (fun c10 => ?_) (fun c10 => ?_)
    · have h := h.1 c10
      refine pw_aload_n eX3_write_45 rfl rfl ?_
      refine gf_RX3_35 rfl eX3_write_46 sh0 ?_
      refine pw_iload_n eX3_write_49 rfl rfl ?_
      obtain ⟨o11, h⟩ := h
      refine pw_aald eX3_write_50 sh24 o11 ?_
      refine pw_iload_n eX3_write_51 rfl rfl ?_
      refine pw_iload_n eX3_write_52 rfl rfl ?_
      obtain ⟨m13, hc14, h⟩ := h
      refine pw_cV (z := mX1_put) (av := [Iq x2, Iq x3]) (st := []) eX3_write_53 lk_RX3_205 rfl (by decide) (by decide) (shS (isSh o11)) rfl rfl (Nat.le_of_ble_eq_true rfl) rfl hc14 ?_
      show PW S mX3_write Q 56 [some (Aq 0), some (Iq x1), some (Iq x2), some (Iq x3), some (Iq v1)] [] m13
      refine pw_iconst eX3_write_56 ⟨by decide, by decide⟩ ?_
      exact pw_iret eX3_write_57 h
    · have h := h.2 c10
      refine pw_aload_n eX3_write_38 rfl rfl ?_
      refine pw_ldc (n := (-1000001)) eX3_write_39 ⟨by decide, by decide⟩ kc_RX3_48 ?_
      obtain ⟨v15, m16, hc17, h⟩ := h
      refine pw_cV (z := mX3_finding) (av := [Iq (-1000001)]) (st := []) eX3_write_41 lk_RX3_49 rfl (by decide) (by decide) sh0 rfl rfl (Nat.le_of_ble_eq_true rfl) rfl hc17 ?_
      show PW S mX3_write Q 44 [some (Aq 0), some (Iq x1), some (Iq x2), some (Iq x3), some (Iq v1)] [Iq v15] m16
      exact pw_iret eX3_write_44 h
  · have h := h.2 c4
    refine pw_aload_n eX3_write_12 rfl rfl ?_
    refine pw_iload eX3_write_13 rfl ?_
    obtain ⟨v18, m19, hc20, h⟩ := h
    refine pw_cV (z := mX3_finding) (av := [Iq v1]) (st := []) eX3_write_15 lk_RX3_49 rfl (by decide) (by decide) sh0 rfl rfl (Nat.le_of_ble_eq_true rfl) rfl hc20 ?_
    show PW S mX3_write Q 18 [some (Aq 0), some (Iq x1), some (Iq x2), some (Iq x3), some (Iq v1)] [Iq v18] m19
    exact pw_iret eX3_write_18 h
set_option maxRecDepth 100000 in
theorem rg_X3_copy_0 {S : Sx} {Q : Option PV → Zm → Prop} {mem : Zm}   {x1 x2 x3 x4 x5 : Int} 
    (h : (∃ (v1 : Int) (m2 : Zm), Ct1 S mX3_within [Iq x1, Iq 0, Iq 3] mem (some (Iq v1)) m2 ∧ ((((v1 = 0) → ((∃ (v5 : Int) (m6 : Zm), Ct1 S mX3_finding [Aq 0, Iq (-1000001)] m2 (some (Iq v5)) m6 ∧ (Q (some (Iq v5)) m6)))) ∧ (¬ (v1 = 0) → ((∃ (v8 : Int) (m9 : Zm), Ct1 S mX3_within [Iq x3, Iq 0, Iq 3] m2 (some (Iq v8)) m9 ∧ ((((¬ v8 = 0) → ((0 ≤ x1 ∧ x1 < 4) ∧ (0 ≤ x3 ∧ x3 < 4) ∧ (∃ (v14 : Int) (m15 : Zm), Ct1 S mX1_isMissing [Aq (25 + 2 * (x1).toNat)] m9 (some (Iq v14)) m15 ∧ ((((¬ v14 = 0) → ((∃ (v18 : Int) (m19 : Zm), Ct1 S mX3_finding [Aq 0, Iq (-1000006)] m15 (some (Iq v18)) m19 ∧ (Q (some (Iq v18)) m19)))) ∧ (¬ (¬ v14 = 0) → ((∃ (v21 : Int) (m22 : Zm), Ct1 S mX1_isMissing [Aq (25 + 2 * (x3).toNat)] m15 (some (Iq v21)) m22 ∧ ((((v21 = 0) → ((((m22 (25 + 2 * (x1).toNat) 1 = m22 (25 + 2 * (x3).toNat) 1) → ((∃ (v26 : Int) (m27 : Zm), Ct1 S mX1_hasPart [Aq (25 + 2 * (x1).toNat), Iq x2, Iq x5] m22 (some (Iq v26)) m27 ∧ ((((v26 = 0) → ((∃ (v30 : Int) (m31 : Zm), Ct1 S mX3_finding [Aq 0, Iq (-1000001)] m27 (some (Iq v30)) m31 ∧ (Q (some (Iq v30)) m31)))) ∧ (¬ (v26 = 0) → ((∃ (v33 : Int) (m34 : Zm), Ct1 S mX1_hasPart [Aq (25 + 2 * (x3).toNat), Iq x4, Iq x5] m27 (some (Iq v33)) m34 ∧ ((((¬ v33 = 0) → ((0 ≤ x2 ∧ 0 ≤ x4 ∧ 0 ≤ x5 ∧ x2 + x5 ≤ 40 ∧ x4 + x5 ≤ 40) ∧ Q (some (Iq x5)) (mcp m34 ((25 + 2 * (x1).toNat) + 1) ((25 + 2 * (x3).toNat) + 1) (x2).toNat (x4).toNat (x5).toNat))) ∧ (¬ (¬ v33 = 0) → ((∃ (v38 : Int) (m39 : Zm), Ct1 S mX3_finding [Aq 0, Iq (-1000001)] m34 (some (Iq v38)) m39 ∧ (Q (some (Iq v38)) m39)))))))))))))) ∧ (¬ (m22 (25 + 2 * (x1).toNat) 1 = m22 (25 + 2 * (x3).toNat) 1) → ((∃ (v41 : Int) (m42 : Zm), Ct1 S mX3_finding [Aq 0, Iq (-1000003)] m22 (some (Iq v41)) m42 ∧ (Q (some (Iq v41)) m42))))))) ∧ (¬ (v21 = 0) → ((∃ (v44 : Int) (m45 : Zm), Ct1 S mX3_finding [Aq 0, Iq (-1000006)] m22 (some (Iq v44)) m45 ∧ (Q (some (Iq v44)) m45)))))))))))))) ∧ (¬ (¬ v8 = 0) → ((∃ (v47 : Int) (m48 : Zm), Ct1 S mX3_finding [Aq 0, Iq (-1000001)] m9 (some (Iq v47)) m48 ∧ (Q (some (Iq v47)) m48))))))))))))) :
    PW S mX3_copy Q 0 [some (Aq 0), some (Iq x1), some (Iq x2), some (Iq x3), some (Iq x4), some (Iq x5), none, none] [] mem := by
  refine pw_iload_n eX3_copy_0 rfl rfl ?_
  refine pw_iconst eX3_copy_1 ⟨by decide, by decide⟩ ?_
  refine pw_iconst eX3_copy_2 ⟨by decide, by decide⟩ ?_
  obtain ⟨v1, m2, hc3, h⟩ := h
  refine pw_cS (z := mX3_within) (av := [Iq x1, Iq 0, Iq 3]) (st := []) eX3_copy_3 lk_RX3_44 rfl (by decide) (by decide) (Nat.le_of_ble_eq_true rfl) rfl hc3 ?_
  show PW S mX3_copy Q 6 [some (Aq 0), some (Iq x1), some (Iq x2), some (Iq x3), some (Iq x4), some (Iq x5), none, none] [Iq v1] m2
  refine pw_if_eq eX3_copy_6 (fun c4 => ?_) (fun c4 => ?_)
  · have h := h.1 c4
    refine pw_aload_n eX3_copy_18 rfl rfl ?_
    refine pw_ldc (n := (-1000001)) eX3_copy_19 ⟨by decide, by decide⟩ kc_RX3_48 ?_
    obtain ⟨v5, m6, hc7, h⟩ := h
    refine pw_cV (z := mX3_finding) (av := [Iq (-1000001)]) (st := []) eX3_copy_21 lk_RX3_49 rfl (by decide) (by decide) sh0 rfl rfl (Nat.le_of_ble_eq_true rfl) rfl hc7 ?_
    show PW S mX3_copy Q 24 [some (Aq 0), some (Iq x1), some (Iq x2), some (Iq x3), some (Iq x4), some (Iq x5), none, none] [Iq v5] m6
    exact pw_iret eX3_copy_24 h
  · have h := h.2 c4
    refine pw_iload_n eX3_copy_9 rfl rfl ?_
    refine pw_iconst eX3_copy_10 ⟨by decide, by decide⟩ ?_
    refine pw_iconst eX3_copy_11 ⟨by decide, by decide⟩ ?_
    obtain ⟨v8, m9, hc10, h⟩ := h
    refine pw_cS (z := mX3_within) (av := [Iq x3, Iq 0, Iq 3]) (st := []) eX3_copy_12 lk_RX3_44 rfl (by decide) (by decide) (Nat.le_of_ble_eq_true rfl) rfl hc10 ?_
    show PW S mX3_copy Q 15 [some (Aq 0), some (Iq x1), some (Iq x2), some (Iq x3), some (Iq x4), some (Iq x5), none, none] [Iq v8] m9
    refine pw_if_ne eX3_copy_15 (fun c11 => ?_) (fun c11 => ?_)
    · have h := h.1 c11
      refine pw_aload_n eX3_copy_25 rfl rfl ?_
      refine gf_RX3_35 rfl eX3_copy_26 sh0 ?_
      refine pw_iload_n eX3_copy_29 rfl rfl ?_
      obtain ⟨o12, h⟩ := h
      refine pw_aald eX3_copy_30 sh24 o12 ?_
      refine pw_astore (ls2 := [some (Aq 0), some (Iq x1), some (Iq x2), some (Iq x3), some (Iq x4), some (Iq x5), some (Aq (25 + 2 * (x1).toNat)), none]) eX3_copy_31 (by decide) rfl ?_
      refine pw_aload_n eX3_copy_33 rfl rfl ?_
      refine gf_RX3_35 rfl eX3_copy_34 sh0 ?_
      refine pw_iload_n eX3_copy_37 rfl rfl ?_
      obtain ⟨o13, h⟩ := h
      refine pw_aald eX3_copy_38 sh24 o13 ?_
      refine pw_astore (ls2 := [some (Aq 0), some (Iq x1), some (Iq x2), some (Iq x3), some (Iq x4), some (Iq x5), some (Aq (25 + 2 * (x1).toNat)), some (Aq (25 + 2 * (x3).toNat))]) eX3_copy_39 (by decide) rfl ?_
      refine pw_aload eX3_copy_41 rfl ?_
      obtain ⟨v14, m15, hc16, h⟩ := h
      refine pw_cV (z := mX1_isMissing) (av := []) (st := []) eX3_copy_43 lk_RX3_208 rfl (by decide) (by decide) (shS (isSh o12)) rfl rfl (Nat.le_of_ble_eq_true rfl) rfl hc16 ?_
      show PW S mX3_copy Q 46 [some (Aq 0), some (Iq x1), some (Iq x2), some (Iq x3), some (Iq x4), some (Iq x5), some (Aq (25 + 2 * (x1).toNat)), some (Aq (25 + 2 * (x3).toNat))] [Iq v14] m15
      refine pw_if_ne eX3_copy_46 (fun c17 => ?_) (fun c17 => ?_)
      · have h := h.1 c17
        refine pw_aload_n eX3_copy_57 rfl rfl ?_
        refine pw_ldc (n := (-1000006)) eX3_copy_58 ⟨by decide, by decide⟩ kc_RX3_190 ?_
        obtain ⟨v18, m19, hc20, h⟩ := h
        refine pw_cV (z := mX3_finding) (av := [Iq (-1000006)]) (st := []) eX3_copy_60 lk_RX3_49 rfl (by decide) (by decide) sh0 rfl rfl (Nat.le_of_ble_eq_true rfl) rfl hc20 ?_
        show PW S mX3_copy Q 63 [some (Aq 0), some (Iq x1), some (Iq x2), some (Iq x3), some (Iq x4), some (Iq x5), some (Aq (25 + 2 * (x1).toNat)), some (Aq (25 + 2 * (x3).toNat))] [Iq v18] m19
        exact pw_iret eX3_copy_63 h
      · have h := h.2 c17
        refine pw_aload eX3_copy_49 rfl ?_
        obtain ⟨v21, m22, hc23, h⟩ := h
        refine pw_cV (z := mX1_isMissing) (av := []) (st := []) eX3_copy_51 lk_RX3_208 rfl (by decide) (by decide) (shS (isSh o13)) rfl rfl (Nat.le_of_ble_eq_true rfl) rfl hc23 ?_
        show PW S mX3_copy Q 54 [some (Aq 0), some (Iq x1), some (Iq x2), some (Iq x3), some (Iq x4), some (Iq x5), some (Aq (25 + 2 * (x1).toNat)), some (Aq (25 + 2 * (x3).toNat))] [Iq v21] m22
        refine pw_if_eq eX3_copy_54 (fun c24 => ?_) (fun c24 => ?_)
        · have h := h.1 c24
          refine pw_aload eX3_copy_64 rfl ?_
          refine gf_RX3_212 rfl eX3_copy_66 (shS (isSh o12)) ?_
          refine pw_aload eX3_copy_69 rfl ?_
          refine gf_RX3_212 rfl eX3_copy_71 (shS (isSh o13)) ?_
          refine pw_icmp_eq eX3_copy_74 (fun c25 => ?_) (fun c25 => ?_)
          · have h := h.1 c25
            refine pw_aload eX3_copy_84 rfl ?_
            refine pw_iload_n eX3_copy_86 rfl rfl ?_
            refine pw_iload eX3_copy_87 rfl ?_
            obtain ⟨v26, m27, hc28, h⟩ := h
            refine pw_cV (z := mX1_hasPart) (av := [Iq x2, Iq x5]) (st := []) eX3_copy_89 lk_RX3_215 rfl (by decide) (by decide) (shS (isSh o12)) rfl rfl (Nat.le_of_ble_eq_true rfl) rfl hc28 ?_
            show PW S mX3_copy Q 92 [some (Aq 0), some (Iq x1), some (Iq x2), some (Iq x3), some (Iq x4), some (Iq x5), some (Aq (25 + 2 * (x1).toNat)), some (Aq (25 + 2 * (x3).toNat))] [Iq v26] m27
            refine pw_if_eq eX3_copy_92 (fun c29 => ?_) (fun c29 => ?_)
            · have h := h.1 c29
              refine pw_aload_n eX3_copy_107 rfl rfl ?_
              refine pw_ldc (n := (-1000001)) eX3_copy_108 ⟨by decide, by decide⟩ kc_RX3_48 ?_
              obtain ⟨v30, m31, hc32, h⟩ := h
              refine pw_cV (z := mX3_finding) (av := [Iq (-1000001)]) (st := []) eX3_copy_110 lk_RX3_49 rfl (by decide) (by decide) sh0 rfl rfl (Nat.le_of_ble_eq_true rfl) rfl hc32 ?_
              show PW S mX3_copy Q 113 [some (Aq 0), some (Iq x1), some (Iq x2), some (Iq x3), some (Iq x4), some (Iq x5), some (Aq (25 + 2 * (x1).toNat)), some (Aq (25 + 2 * (x3).toNat))] [Iq v30] m31
              exact pw_iret eX3_copy_113 h
            · have h := h.2 c29
              refine pw_aload eX3_copy_95 rfl ?_
              refine pw_iload eX3_copy_97 rfl ?_
              refine pw_iload eX3_copy_99 rfl ?_
              obtain ⟨v33, m34, hc35, h⟩ := h
              refine pw_cV (z := mX1_hasPart) (av := [Iq x4, Iq x5]) (st := []) eX3_copy_101 lk_RX3_215 rfl (by decide) (by decide) (shS (isSh o13)) rfl rfl (Nat.le_of_ble_eq_true rfl) rfl hc35 ?_
              show PW S mX3_copy Q 104 [some (Aq 0), some (Iq x1), some (Iq x2), some (Iq x3), some (Iq x4), some (Iq x5), some (Aq (25 + 2 * (x1).toNat)), some (Aq (25 + 2 * (x3).toNat))] [Iq v33] m34
              refine pw_if_ne eX3_copy_104 (fun c36 => ?_) (fun c36 => ?_)
              · have h := h.1 c36
                refine pw_aload eX3_copy_114 rfl ?_
                refine gf_RX3_218 rfl eX3_copy_116 (shS (isSh o12)) ?_
                refine pw_iload_n eX3_copy_119 rfl rfl ?_
                refine pw_aload eX3_copy_120 rfl ?_
                refine gf_RX3_218 rfl eX3_copy_122 (shS (isSh o13)) ?_
                refine pw_iload eX3_copy_125 rfl ?_
                refine pw_iload eX3_copy_127 rfl ?_
                obtain ⟨o37, h⟩ := h
                refine pw_acopy eX3_copy_129 lc_RX3_221 lc_nat lc_stt lc_ini (by decide) (by decide) rfl (shS1 (isSh o12)) (shS1 (isSh o13)) o37 ?_
                refine pw_iload eX3_copy_132 rfl ?_
                exact pw_iret eX3_copy_134 h
              · have h := h.2 c36
                refine pw_aload_n eX3_copy_107 rfl rfl ?_
                refine pw_ldc (n := (-1000001)) eX3_copy_108 ⟨by decide, by decide⟩ kc_RX3_48 ?_
                obtain ⟨v38, m39, hc40, h⟩ := h
                refine pw_cV (z := mX3_finding) (av := [Iq (-1000001)]) (st := []) eX3_copy_110 lk_RX3_49 rfl (by decide) (by decide) sh0 rfl rfl (Nat.le_of_ble_eq_true rfl) rfl hc40 ?_
                show PW S mX3_copy Q 113 [some (Aq 0), some (Iq x1), some (Iq x2), some (Iq x3), some (Iq x4), some (Iq x5), some (Aq (25 + 2 * (x1).toNat)), some (Aq (25 + 2 * (x3).toNat))] [Iq v38] m39
                exact pw_iret eX3_copy_113 h
          · have h := h.2 c25
            refine pw_aload_n eX3_copy_77 rfl rfl ?_
            refine pw_ldc (n := (-1000003)) eX3_copy_78 ⟨by decide, by decide⟩ kc_RX3_195 ?_
            obtain ⟨v41, m42, hc43, h⟩ := h
            refine pw_cV (z := mX3_finding) (av := [Iq (-1000003)]) (st := []) eX3_copy_80 lk_RX3_49 rfl (by decide) (by decide) sh0 rfl rfl (Nat.le_of_ble_eq_true rfl) rfl hc43 ?_
            show PW S mX3_copy Q 83 [some (Aq 0), some (Iq x1), some (Iq x2), some (Iq x3), some (Iq x4), some (Iq x5), some (Aq (25 + 2 * (x1).toNat)), some (Aq (25 + 2 * (x3).toNat))] [Iq v41] m42
            exact pw_iret eX3_copy_83 h
        · have h := h.2 c24
          refine pw_aload_n eX3_copy_57 rfl rfl ?_
          refine pw_ldc (n := (-1000006)) eX3_copy_58 ⟨by decide, by decide⟩ kc_RX3_190 ?_
          obtain ⟨v44, m45, hc46, h⟩ := h
          refine pw_cV (z := mX3_finding) (av := [Iq (-1000006)]) (st := []) eX3_copy_60 lk_RX3_49 rfl (by decide) (by decide) sh0 rfl rfl (Nat.le_of_ble_eq_true rfl) rfl hc46 ?_
          show PW S mX3_copy Q 63 [some (Aq 0), some (Iq x1), some (Iq x2), some (Iq x3), some (Iq x4), some (Iq x5), some (Aq (25 + 2 * (x1).toNat)), some (Aq (25 + 2 * (x3).toNat))] [Iq v44] m45
          exact pw_iret eX3_copy_63 h
    · have h := h.2 c11
      refine pw_aload_n eX3_copy_18 rfl rfl ?_
      refine pw_ldc (n := (-1000001)) eX3_copy_19 ⟨by decide, by decide⟩ kc_RX3_48 ?_
      obtain ⟨v47, m48, hc49, h⟩ := h
      refine pw_cV (z := mX3_finding) (av := [Iq (-1000001)]) (st := []) eX3_copy_21 lk_RX3_49 rfl (by decide) (by decide) sh0 rfl rfl (Nat.le_of_ble_eq_true rfl) rfl hc49 ?_
      show PW S mX3_copy Q 24 [some (Aq 0), some (Iq x1), some (Iq x2), some (Iq x3), some (Iq x4), some (Iq x5), none, none] [Iq v47] m48
      exact pw_iret eX3_copy_24 h
set_option maxRecDepth 100000 in
theorem rg_X3_load_0 {S : Sx} {Q : Option PV → Zm → Prop} {mem : Zm}   {x1 : Int} 
    (h : (∃ (v1 : Int) (m2 : Zm), Ct1 S mX3_sheetCheck [Aq 0, Iq x1] mem (some (Iq v1)) m2 ∧ ((((v1 = 0) → (PW S mX3_load Q 18 [some (Aq 0), some (Iq x1), some (Iq v1), some (Iq 0)] [] m2)) ∧ (¬ (v1 = 0) → ((∃ (v5 : Int) (m6 : Zm), Ct1 S mX3_finding [Aq 0, Iq v1] m2 (some (Iq v5)) m6 ∧ (Q (some (Iq v5)) m6)))))))) :
    PW S mX3_load Q 0 [some (Aq 0), some (Iq x1), none, none] [] mem := by
  refine pw_aload_n eX3_load_0 rfl rfl ?_
  refine pw_iload_n eX3_load_1 rfl rfl ?_
  obtain ⟨v1, m2, hc3, h⟩ := h
  refine pw_cV (z := mX3_sheetCheck) (av := [Iq x1]) (st := []) eX3_load_2 lk_RX3_202 rfl (by decide) (by decide) sh0 rfl rfl (Nat.le_of_ble_eq_true rfl) rfl hc3 ?_
  show PW S mX3_load Q 5 [some (Aq 0), some (Iq x1), none, none] [Iq v1] m2
  refine pw_istore_n (ls2 := [some (Aq 0), some (Iq x1), some (Iq v1), none]) eX3_load_5 rfl (by decide) rfl ?_
  refine pw_iload_n eX3_load_6 rfl rfl ?_
  refine pw_if_eq eX3_load_7 (fun c4 => ?_) (fun c4 => ?_)
  · have h := h.1 c4
    refine pw_iconst eX3_load_16 ⟨by decide, by decide⟩ ?_
    refine pw_istore_n (ls2 := [some (Aq 0), some (Iq x1), some (Iq v1), some (Iq 0)]) eX3_load_17 rfl (by decide) rfl ?_
    exact h
  · have h := h.2 c4
    refine pw_aload_n eX3_load_10 rfl rfl ?_
    refine pw_iload_n eX3_load_11 rfl rfl ?_
    obtain ⟨v5, m6, hc7, h⟩ := h
    refine pw_cV (z := mX3_finding) (av := [Iq v1]) (st := []) eX3_load_12 lk_RX3_49 rfl (by decide) (by decide) sh0 rfl rfl (Nat.le_of_ble_eq_true rfl) rfl hc7 ?_
    show PW S mX3_load Q 15 [some (Aq 0), some (Iq x1), some (Iq v1), none] [Iq v5] m6
    exact pw_iret eX3_load_15 h

set_option maxRecDepth 100000 in
theorem rg_X3_load_18 {S : Sx} {Q : Option PV → Zm → Prop} {mem : Zm}   {x1 x2 x3 : Int} 
    (h : (((8 ≤ x3) → (Q (some (Iq x3)) mem)) ∧ (¬ (8 ≤ x3) → ((0 ≤ x1 ∧ x1 < 4) ∧ (((mem (25 + 2 * (x1).toNat) 2 ≤ x3) → (Q (some (Iq x3)) mem)) ∧ (¬ (mem (25 + 2 * (x1).toNat) 2 ≤ x3) → ((0 ≤ x1 ∧ x1 < 4) ∧ (0 ≤ x3 ∧ x3 < 40) ∧ (∃ (v6 : Int) (m7 : Zm), Ct1 S mX3_within [Iq (mem ((25 + 2 * (x1).toNat) + 1) (x3).toNat), Iq 0, Iq 99] mem (some (Iq v6)) m7 ∧ ((((v6 = 0) → (Q (some (Iq x3)) m7)) ∧ (¬ (v6 = 0) → ((0 ≤ x1 ∧ x1 < 4) ∧ (0 ≤ x3 ∧ x3 < 40) ∧ (0 ≤ x3 ∧ x3 < 8) ∧ (in32 (x3 + 1)) ∧ PW S mX3_load Q 18 [some (Aq 0), some (Iq x1), some (Iq x2), some (Iq (x3 + 1))] [] (mup m7 2 (x3).toNat (m7 ((25 + 2 * (x1).toNat) + 1) (x3).toNat)))))))))))))) :
    PW S mX3_load Q 18 [some (Aq 0), some (Iq x1), some (Iq x2), some (Iq x3)] [] mem := by
  refine pw_iload_n eX3_load_18 rfl rfl ?_
  refine pw_bipush eX3_load_19 ⟨by decide, by decide⟩ (by decide) ?_
  refine pw_icmp_ge eX3_load_21 (fun c1 => ?_) (fun c1 => ?_)
  · have h := h.1 c1
    refine pw_iload_n eX3_load_83 rfl rfl ?_
    exact pw_iret eX3_load_84 h
  · have h := h.2 c1
    refine pw_iload_n eX3_load_24 rfl rfl ?_
    refine pw_aload_n eX3_load_25 rfl rfl ?_
    refine gf_RX3_35 rfl eX3_load_26 sh0 ?_
    refine pw_iload_n eX3_load_29 rfl rfl ?_
    obtain ⟨o2, h⟩ := h
    refine pw_aald eX3_load_30 sh24 o2 ?_
    refine gf_RX3_201 rfl eX3_load_31 (shS (isSh o2)) ?_
    refine pw_icmp_ge eX3_load_34 (fun c3 => ?_) (fun c3 => ?_)
    · have h := h.1 c3
      refine pw_iload_n eX3_load_83 rfl rfl ?_
      exact pw_iret eX3_load_84 h
    · have h := h.2 c3
      refine pw_aload_n eX3_load_37 rfl rfl ?_
      refine gf_RX3_35 rfl eX3_load_38 sh0 ?_
      refine pw_iload_n eX3_load_41 rfl rfl ?_
      obtain ⟨o4, h⟩ := h
      refine pw_aald eX3_load_42 sh24 o4 ?_
      refine gf_RX3_218 rfl eX3_load_43 (shS (isSh o4)) ?_
      refine pw_iload_n eX3_load_46 rfl rfl ?_
      obtain ⟨o5, h⟩ := h
      refine pw_iald eX3_load_47 (shS1 (isSh o4)) o5 ?_
      refine pw_iconst eX3_load_48 ⟨by decide, by decide⟩ ?_
      refine pw_bipush eX3_load_49 ⟨by decide, by decide⟩ (by decide) ?_
      obtain ⟨v6, m7, hc8, h⟩ := h
      refine pw_cS (z := mX3_within) (av := [Iq (mem ((25 + 2 * (x1).toNat) + 1) (x3).toNat), Iq 0, Iq 99]) (st := []) eX3_load_51 lk_RX3_44 rfl (by decide) (by decide) (Nat.le_of_ble_eq_true rfl) rfl hc8 ?_
      show PW S mX3_load Q 54 [some (Aq 0), some (Iq x1), some (Iq x2), some (Iq x3)] [Iq v6] m7
      refine pw_if_eq eX3_load_54 (fun c9 => ?_) (fun c9 => ?_)
      · have h := h.1 c9
        refine pw_iload_n eX3_load_83 rfl rfl ?_
        exact pw_iret eX3_load_84 h
      · have h := h.2 c9
        refine pw_aload_n eX3_load_57 rfl rfl ?_
        refine gf_RX3_10 rfl eX3_load_58 sh0 ?_
        refine gf_RX3_53 rfl eX3_load_61 (shR isR1) ?_
        refine pw_iload_n eX3_load_64 rfl rfl ?_
        refine pw_aload_n eX3_load_65 rfl rfl ?_
        refine gf_RX3_35 rfl eX3_load_66 sh0 ?_
        refine pw_iload_n eX3_load_69 rfl rfl ?_
        obtain ⟨o10, h⟩ := h
        refine pw_aald eX3_load_70 sh24 o10 ?_
        refine gf_RX3_218 rfl eX3_load_71 (shS (isSh o10)) ?_
        refine pw_iload_n eX3_load_74 rfl rfl ?_
        obtain ⟨o11, h⟩ := h
        refine pw_iald eX3_load_75 (shS1 (isSh o10)) o11 ?_
        obtain ⟨o12, h⟩ := h
        refine pw_iast eX3_load_76 sh2 o12 ?_
        obtain ⟨o13, h⟩ := h
        refine pw_iinc (ls2 := [some (Aq 0), some (Iq x1), some (Iq x2), some (Iq (x3 + 1))]) eX3_load_77 rfl o13 rfl ?_
        refine pw_goto eX3_load_80 ?_
        exact h
set_option maxRecDepth 100000 in
theorem rg_X3_judge_0 {S : Sx} {Q : Option PV → Zm → Prop} {mem : Zm}   {x1 : Int} 
    (h : (∃ (v1 : Int) (m2 : Zm), Ct1 S mX3_sheetCheck [Aq 0, Iq x1] mem (some (Iq v1)) m2 ∧ ((((v1 = 0) → (PW S mX3_judge Q 18 [some (Aq 0), some (Iq x1), some (Iq v1), some (Iq 0)] [] m2)) ∧ (¬ (v1 = 0) → ((∃ (v5 : Int) (m6 : Zm), Ct1 S mX3_finding [Aq 0, Iq v1] m2 (some (Iq v5)) m6 ∧ (Q (some (Iq v5)) m6)))))))) :
    PW S mX3_judge Q 0 [some (Aq 0), some (Iq x1), none, none] [] mem := by
  refine pw_aload_n eX3_judge_0 rfl rfl ?_
  refine pw_iload_n eX3_judge_1 rfl rfl ?_
  obtain ⟨v1, m2, hc3, h⟩ := h
  refine pw_cV (z := mX3_sheetCheck) (av := [Iq x1]) (st := []) eX3_judge_2 lk_RX3_202 rfl (by decide) (by decide) sh0 rfl rfl (Nat.le_of_ble_eq_true rfl) rfl hc3 ?_
  show PW S mX3_judge Q 5 [some (Aq 0), some (Iq x1), none, none] [Iq v1] m2
  refine pw_istore_n (ls2 := [some (Aq 0), some (Iq x1), some (Iq v1), none]) eX3_judge_5 rfl (by decide) rfl ?_
  refine pw_iload_n eX3_judge_6 rfl rfl ?_
  refine pw_if_eq eX3_judge_7 (fun c4 => ?_) (fun c4 => ?_)
  · have h := h.1 c4
    refine pw_iconst eX3_judge_16 ⟨by decide, by decide⟩ ?_
    refine pw_istore_n (ls2 := [some (Aq 0), some (Iq x1), some (Iq v1), some (Iq 0)]) eX3_judge_17 rfl (by decide) rfl ?_
    exact h
  · have h := h.2 c4
    refine pw_aload_n eX3_judge_10 rfl rfl ?_
    refine pw_iload_n eX3_judge_11 rfl rfl ?_
    obtain ⟨v5, m6, hc7, h⟩ := h
    refine pw_cV (z := mX3_finding) (av := [Iq v1]) (st := []) eX3_judge_12 lk_RX3_49 rfl (by decide) (by decide) sh0 rfl rfl (Nat.le_of_ble_eq_true rfl) rfl hc7 ?_
    show PW S mX3_judge Q 15 [some (Aq 0), some (Iq x1), some (Iq v1), none] [Iq v5] m6
    exact pw_iret eX3_judge_15 h

set_option maxRecDepth 100000 in
theorem rg_X3_judge_18 {S : Sx} {Q : Option PV → Zm → Prop} {mem : Zm}   {x1 x2 x3 : Int} 
    (h : (0 ≤ x1 ∧ x1 < 4) ∧ (((mem (25 + 2 * (x1).toNat) 2 ≤ x3) → (Q (some (Iq 0)) mem)) ∧ (¬ (mem (25 + 2 * (x1).toNat) 2 ≤ x3) → ((∃ (v3 : Int) (m4 : Zm), Ct1 S mX0_has [Aq 1, Iq x3] mem (some (Iq v3)) m4 ∧ ((((v3 = 0) → ((in32 (1 + x3)) ∧ Q (some (Iq (1 + x3))) m4)) ∧ (¬ (v3 = 0) → ((∃ (v8 : Int) (m9 : Zm), Ct1 S mX0_fact [Aq 1, Iq x3, Iq 3] m4 (some (Iq v8)) m9 ∧ ((0 ≤ x1 ∧ x1 < 4) ∧ (0 ≤ x3 ∧ x3 < 40) ∧ (((v8 = m9 ((25 + 2 * (x1).toNat) + 1) (x3).toNat) → ((in32 (x3 + 1)) ∧ PW S mX3_judge Q 18 [some (Aq 0), some (Iq x1), some (Iq x2), some (Iq (x3 + 1))] [] m9)) ∧ (¬ (v8 = m9 ((25 + 2 * (x1).toNat) + 1) (x3).toNat) → ((in32 (1 + x3)) ∧ Q (some (Iq (1 + x3))) m9)))))))))))))) :
    PW S mX3_judge Q 18 [some (Aq 0), some (Iq x1), some (Iq x2), some (Iq x3)] [] mem := by
  refine pw_iload_n eX3_judge_18 rfl rfl ?_
  refine pw_aload_n eX3_judge_19 rfl rfl ?_
  refine gf_RX3_35 rfl eX3_judge_20 sh0 ?_
  refine pw_iload_n eX3_judge_23 rfl rfl ?_
  obtain ⟨o1, h⟩ := h
  refine pw_aald eX3_judge_24 sh24 o1 ?_
  refine gf_RX3_201 rfl eX3_judge_25 (shS (isSh o1)) ?_
  refine pw_icmp_ge eX3_judge_28 (fun c2 => ?_) (fun c2 => ?_)
  · have h := h.1 c2
    refine pw_iconst eX3_judge_75 ⟨by decide, by decide⟩ ?_
    exact pw_iret eX3_judge_76 h
  · have h := h.2 c2
    refine pw_aload_n eX3_judge_31 rfl rfl ?_
    refine gf_RX3_10 rfl eX3_judge_32 sh0 ?_
    refine pw_iload_n eX3_judge_35 rfl rfl ?_
    obtain ⟨v3, m4, hc5, h⟩ := h
    refine pw_cV (z := mX0_has) (av := [Iq x3]) (st := []) eX3_judge_36 lk_RX3_68 rfl (by decide) (by decide) (shR isR1) rfl rfl (Nat.le_of_ble_eq_true rfl) rfl hc5 ?_
    show PW S mX3_judge Q 39 [some (Aq 0), some (Iq x1), some (Iq x2), some (Iq x3)] [Iq v3] m4
    refine pw_if_eq eX3_judge_39 (fun c6 => ?_) (fun c6 => ?_)
    · have h := h.1 c6
      refine pw_iconst eX3_judge_65 ⟨by decide, by decide⟩ ?_
      refine pw_iload_n eX3_judge_66 rfl rfl ?_
      obtain ⟨o7, h⟩ := h
      refine pw_iadd eX3_judge_67 o7 ?_
      exact pw_iret eX3_judge_68 h
    · have h := h.2 c6
      refine pw_aload_n eX3_judge_42 rfl rfl ?_
      refine gf_RX3_10 rfl eX3_judge_43 sh0 ?_
      refine pw_iload_n eX3_judge_46 rfl rfl ?_
      refine pw_iconst eX3_judge_47 ⟨by decide, by decide⟩ ?_
      obtain ⟨v8, m9, hc10, h⟩ := h
      refine pw_cV (z := mX0_fact) (av := [Iq x3, Iq 3]) (st := []) eX3_judge_48 lk_RX3_81 rfl (by decide) (by decide) (shR isR1) rfl rfl (Nat.le_of_ble_eq_true rfl) rfl hc10 ?_
      show PW S mX3_judge Q 51 [some (Aq 0), some (Iq x1), some (Iq x2), some (Iq x3)] [Iq v8] m9
      refine pw_aload_n eX3_judge_51 rfl rfl ?_
      refine gf_RX3_35 rfl eX3_judge_52 sh0 ?_
      refine pw_iload_n eX3_judge_55 rfl rfl ?_
      obtain ⟨o11, h⟩ := h
      refine pw_aald eX3_judge_56 sh24 o11 ?_
      refine gf_RX3_218 rfl eX3_judge_57 (shS (isSh o11)) ?_
      refine pw_iload_n eX3_judge_60 rfl rfl ?_
      obtain ⟨o12, h⟩ := h
      refine pw_iald eX3_judge_61 (shS1 (isSh o11)) o12 ?_
      refine pw_icmp_eq eX3_judge_62 (fun c13 => ?_) (fun c13 => ?_)
      · have h := h.1 c13
        obtain ⟨o14, h⟩ := h
        refine pw_iinc (ls2 := [some (Aq 0), some (Iq x1), some (Iq x2), some (Iq (x3 + 1))]) eX3_judge_69 rfl o14 rfl ?_
        refine pw_goto eX3_judge_72 ?_
        exact h
      · have h := h.2 c13
        refine pw_iconst eX3_judge_65 ⟨by decide, by decide⟩ ?_
        refine pw_iload_n eX3_judge_66 rfl rfl ?_
        obtain ⟨o15, h⟩ := h
        refine pw_iadd eX3_judge_67 o15 ?_
        exact pw_iret eX3_judge_68 h
set_option maxRecDepth 100000 in
theorem rg_X3_image_0 {S : Sx} {Q : Option PV → Zm → Prop} {mem : Zm}   
    (h : (∃ (m2 : Zm), Ct1 S mX0_become [Aq 15, Aq 1] mem none m2 ∧ (Q (some (Iq 1)) (mup m2 0 3 1)))) :
    PW S mX3_image Q 0 [some (Aq 0)] [] mem := by
  refine pw_aload_n eX3_image_0 rfl rfl ?_
  refine gf_RX3_19 rfl eX3_image_1 sh0 ?_
  refine pw_aload_n eX3_image_4 rfl rfl ?_
  refine gf_RX3_10 rfl eX3_image_5 sh0 ?_
  obtain ⟨m2, hc3, h⟩ := h
  refine pw_cV (z := mX0_become) (av := [Aq 1]) (st := []) eX3_image_8 lk_RX3_126 rfl (by decide) (by decide) (shR isR15) rfl rfl (Nat.le_of_ble_eq_true rfl) rfl hc3 ?_
  show PW S mX3_image Q 11 [some (Aq 0)] [] m2
  refine pw_aload_n eX3_image_11 rfl rfl ?_
  refine pw_iconst eX3_image_12 ⟨by decide, by decide⟩ ?_
  refine pf_RX3_22 rfl eX3_image_13 sh0 (Or.inr rfl) ?_
  refine pw_iconst eX3_image_16 ⟨by decide, by decide⟩ ?_
  exact pw_iret eX3_image_17 h
set_option maxRecDepth 100000 in
theorem rg_X3_undo_0 {S : Sx} {Q : Option PV → Zm → Prop} {mem : Zm}   
    (h : (((¬ mem 0 3 = 0) → ((∃ (m3 : Zm), Ct1 S mX0_become [Aq 1, Aq 15] mem none m3 ∧ (Q (some (Iq (m3 1 8))) m3)))) ∧ (¬ (¬ mem 0 3 = 0) → ((∃ (v5 : Int) (m6 : Zm), Ct1 S mX3_finding [Aq 0, Iq (-1000004)] mem (some (Iq v5)) m6 ∧ (Q (some (Iq v5)) m6)))))) :
    PW S mX3_undo Q 0 [some (Aq 0)] [] mem := by
  refine pw_aload_n eX3_undo_0 rfl rfl ?_
  refine gf_RX3_22 rfl eX3_undo_1 sh0 ?_
  refine pw_if_ne eX3_undo_4 (fun c1 => ?_) (fun c1 => ?_)
  · have h := h.1 c1
    refine pw_aload_n eX3_undo_14 rfl rfl ?_
    refine gf_RX3_10 rfl eX3_undo_15 sh0 ?_
    refine pw_aload_n eX3_undo_18 rfl rfl ?_
    refine gf_RX3_19 rfl eX3_undo_19 sh0 ?_
    obtain ⟨m3, hc4, h⟩ := h
    refine pw_cV (z := mX0_become) (av := [Aq 15]) (st := []) eX3_undo_22 lk_RX3_126 rfl (by decide) (by decide) (shR isR1) rfl rfl (Nat.le_of_ble_eq_true rfl) rfl hc4 ?_
    show PW S mX3_undo Q 25 [some (Aq 0)] [] m3
    refine pw_aload_n eX3_undo_25 rfl rfl ?_
    refine gf_RX3_10 rfl eX3_undo_26 sh0 ?_
    refine gf_RX3_101 rfl eX3_undo_29 (shR isR1) ?_
    exact pw_iret eX3_undo_32 h
  · have h := h.2 c1
    refine pw_aload_n eX3_undo_7 rfl rfl ?_
    refine pw_ldc (n := (-1000004)) eX3_undo_8 ⟨by decide, by decide⟩ kc_RX3_133 ?_
    obtain ⟨v5, m6, hc7, h⟩ := h
    refine pw_cV (z := mX3_finding) (av := [Iq (-1000004)]) (st := []) eX3_undo_10 lk_RX3_49 rfl (by decide) (by decide) sh0 rfl rfl (Nat.le_of_ble_eq_true rfl) rfl hc7 ?_
    show PW S mX3_undo Q 13 [some (Aq 0)] [Iq v5] m6
    exact pw_iret eX3_undo_13 h
set_option maxRecDepth 100000 in
theorem rg_X3_tear_0 {S : Sx} {Q : Option PV → Zm → Prop} {mem : Zm}   
    (h : (((mem 0 3 = 0) → (Q (some (Iq 0)) (mup mem 0 3 0))) ∧ (¬ (mem 0 3 = 0) → (Q (some (Iq 1)) (mup mem 0 3 0))))) :
    PW S mX3_tear Q 0 [some (Aq 0), none] [] mem := by
  refine pw_aload_n eX3_tear_0 rfl rfl ?_
  refine gf_RX3_22 rfl eX3_tear_1 sh0 ?_
  refine pw_if_eq eX3_tear_4 (fun c1 => ?_) (fun c1 => ?_)
  · have h := h.1 c1
    refine pw_iconst eX3_tear_11 ⟨by decide, by decide⟩ ?_
    refine pw_istore_n (ls2 := [some (Aq 0), some (Iq 0)]) eX3_tear_12 rfl (by decide) rfl ?_
    refine pw_aload_n eX3_tear_13 rfl rfl ?_
    refine pw_iconst eX3_tear_14 ⟨by decide, by decide⟩ ?_
    refine pf_RX3_22 rfl eX3_tear_15 sh0 (Or.inl rfl) ?_
    refine pw_iload_n eX3_tear_18 rfl rfl ?_
    exact pw_iret eX3_tear_19 h
  · have h := h.2 c1
    refine pw_iconst eX3_tear_7 ⟨by decide, by decide⟩ ?_
    refine pw_goto eX3_tear_8 ?_
    refine pw_istore_n (ls2 := [some (Aq 0), some (Iq 1)]) eX3_tear_12 rfl (by decide) rfl ?_
    refine pw_aload_n eX3_tear_13 rfl rfl ?_
    refine pw_iconst eX3_tear_14 ⟨by decide, by decide⟩ ?_
    refine pf_RX3_22 rfl eX3_tear_15 sh0 (Or.inl rfl) ?_
    refine pw_iload_n eX3_tear_18 rfl rfl ?_
    exact pw_iret eX3_tear_19 h
set_option maxRecDepth 100000 in
theorem rg_X3_count_0 {S : Sx} {Q : Option PV → Zm → Prop} {mem : Zm}   {x1 : Int} 
    (h : (((x1 = 0) → (Q (some (Iq (mem 1 8))) mem)) ∧ ((x1 = 1) → (Q (some (Iq (mem 1 7))) mem)) ∧ ((x1 = 2) → ((∃ (v2 : Int) (m3 : Zm), Ct1 S mX0_total [Aq 1, Iq 3] mem (some (Iq v2)) m3 ∧ (Q (some (Iq v2)) m3)))) ∧ ((x1 = 3) → ((∃ (v5 : Int) (m6 : Zm), Ct1 S mX0_total [Aq 1, Iq 5] mem (some (Iq v5)) m6 ∧ (Q (some (Iq v5)) m6)))) ∧ ((x1 = 4) → ((∃ (v8 : Int) (m9 : Zm), Ct1 S mX0_total [Aq 1, Iq 4] mem (some (Iq v8)) m9 ∧ (Q (some (Iq v8)) m9)))) ∧ ((x1 = 5) → (Q (some (Iq (mem 22 1))) mem)) ∧ ((x1 = 6) → (Q (some (Iq (mem 1 9))) mem)) ∧ ((x1 = 7) → ((∃ (v11 : Int) (m12 : Zm), Ct1 S mX0_takenSpots [Aq 1] mem (some (Iq v11)) m12 ∧ (Q (some (Iq v11)) m12)))) ∧ ((x1 < 0 ∨ 7 < x1) → ((∃ (v14 : Int) (m15 : Zm), Ct1 S mX3_finding [Aq 0, Iq (-1000001)] mem (some (Iq v14)) m15 ∧ (Q (some (Iq v14)) m15)))))) :
    PW S mX3_count Q 0 [some (Aq 0), some (Iq x1)] [] mem := by
  refine pw_iload_n eX3_count_0 rfl rfl ?_
  obtain ⟨hk0, hk1, hk2, hk3, hk4, hk5, hk6, hk7, hkd⟩ := h
  refine pw_tsw (ps := [(0, 48), (1, 56), (2, 64), (3, 73), (4, 82), (5, 91), (6, 99), (7, 107)]) (td := 115) eX3_count_1 rfl (by decide) (by decide) rfl ⟨fun c1 => ?_, fun c1 => ?_, fun c1 => ?_, fun c1 => ?_, fun c1 => ?_, fun c1 => ?_, fun c1 => ?_, fun c1 => ?_, trivial⟩ (fun c1 => ?_)
  · have h := hk0 c1
    refine pw_aload_n eX3_count_48 rfl rfl ?_
    refine gf_RX3_10 rfl eX3_count_49 sh0 ?_
    refine gf_RX3_101 rfl eX3_count_52 (shR isR1) ?_
    exact pw_iret eX3_count_55 h
  · have h := hk1 c1
    refine pw_aload_n eX3_count_56 rfl rfl ?_
    refine gf_RX3_10 rfl eX3_count_57 sh0 ?_
    refine gf_RX3_60 rfl eX3_count_60 (shR isR1) ?_
    exact pw_iret eX3_count_63 h
  · have h := hk2 c1
    refine pw_aload_n eX3_count_64 rfl rfl ?_
    refine gf_RX3_10 rfl eX3_count_65 sh0 ?_
    refine pw_iconst eX3_count_68 ⟨by decide, by decide⟩ ?_
    obtain ⟨v2, m3, hc4, h⟩ := h
    refine pw_cV (z := mX0_total) (av := [Iq 3]) (st := []) eX3_count_69 lk_RX3_110 rfl (by decide) (by decide) (shR isR1) rfl rfl (Nat.le_of_ble_eq_true rfl) rfl hc4 ?_
    show PW S mX3_count Q 72 [some (Aq 0), some (Iq x1)] [Iq v2] m3
    exact pw_iret eX3_count_72 h
  · have h := hk3 c1
    refine pw_aload_n eX3_count_73 rfl rfl ?_
    refine gf_RX3_10 rfl eX3_count_74 sh0 ?_
    refine pw_iconst eX3_count_77 ⟨by decide, by decide⟩ ?_
    obtain ⟨v5, m6, hc7, h⟩ := h
    refine pw_cV (z := mX0_total) (av := [Iq 5]) (st := []) eX3_count_78 lk_RX3_110 rfl (by decide) (by decide) (shR isR1) rfl rfl (Nat.le_of_ble_eq_true rfl) rfl hc7 ?_
    show PW S mX3_count Q 81 [some (Aq 0), some (Iq x1)] [Iq v5] m6
    exact pw_iret eX3_count_81 h
  · have h := hk4 c1
    refine pw_aload_n eX3_count_82 rfl rfl ?_
    refine gf_RX3_10 rfl eX3_count_83 sh0 ?_
    refine pw_iconst eX3_count_86 ⟨by decide, by decide⟩ ?_
    obtain ⟨v8, m9, hc10, h⟩ := h
    refine pw_cV (z := mX0_total) (av := [Iq 4]) (st := []) eX3_count_87 lk_RX3_110 rfl (by decide) (by decide) (shR isR1) rfl rfl (Nat.le_of_ble_eq_true rfl) rfl hc10 ?_
    show PW S mX3_count Q 90 [some (Aq 0), some (Iq x1)] [Iq v8] m9
    exact pw_iret eX3_count_90 h
  · have h := hk5 c1
    refine pw_aload_n eX3_count_91 rfl rfl ?_
    refine gf_RX3_29 rfl eX3_count_92 sh0 ?_
    refine gf_RX3_177 rfl eX3_count_95 sh22 ?_
    exact pw_iret eX3_count_98 h
  · have h := hk6 c1
    refine pw_aload_n eX3_count_99 rfl rfl ?_
    refine gf_RX3_10 rfl eX3_count_100 sh0 ?_
    refine gf_RX3_174 rfl eX3_count_103 (shR isR1) ?_
    exact pw_iret eX3_count_106 h
  · have h := hk7 c1
    refine pw_aload_n eX3_count_107 rfl rfl ?_
    refine gf_RX3_10 rfl eX3_count_108 sh0 ?_
    obtain ⟨v11, m12, hc13, h⟩ := h
    refine pw_cV (z := mX0_takenSpots) (av := []) (st := []) eX3_count_111 lk_RX3_227 rfl (by decide) (by decide) (shR isR1) rfl rfl (Nat.le_of_ble_eq_true rfl) rfl hc13 ?_
    show PW S mX3_count Q 114 [some (Aq 0), some (Iq x1)] [Iq v11] m12
    exact pw_iret eX3_count_114 h
  · have h := hkd c1
    refine pw_aload_n eX3_count_115 rfl rfl ?_
    refine pw_ldc (n := (-1000001)) eX3_count_116 ⟨by decide, by decide⟩ kc_RX3_48 ?_
    obtain ⟨v14, m15, hc16, h⟩ := h
    refine pw_cV (z := mX3_finding) (av := [Iq (-1000001)]) (st := []) eX3_count_118 lk_RX3_49 rfl (by decide) (by decide) sh0 rfl rfl (Nat.le_of_ble_eq_true rfl) rfl hc16 ?_
    show PW S mX3_count Q 121 [some (Aq 0), some (Iq x1)] [Iq v14] m15
    exact pw_iret eX3_count_121 h
set_option maxRecDepth 100000 in
theorem rg_X3_status_0 {S : Sx} {Q : Option PV → Zm → Prop} {mem : Zm}   {x1 : Int} 
    (h : (∃ (v1 : Int) (m2 : Zm), Ct1 S mX3_within [Iq x1, Iq (-1), Iq 6] mem (some (Iq v1)) m2 ∧ ((((¬ v1 = 0) → ((((x1 < 0) → (PW S mX3_status Q 32 [some (Aq 0), some (Iq x1), some (Iq 0), some (Iq 0)] [] m2)) ∧ (¬ (x1 < 0) → ((0 ≤ x1 ∧ x1 < 7) ∧ Q (some (Iq (m2 33 (x1).toNat))) m2))))) ∧ (¬ (¬ v1 = 0) → ((∃ (v7 : Int) (m8 : Zm), Ct1 S mX3_finding [Aq 0, Iq (-1000001)] m2 (some (Iq v7)) m8 ∧ (Q (some (Iq v7)) m8)))))))) :
    PW S mX3_status Q 0 [some (Aq 0), some (Iq x1), none, none] [] mem := by
  refine pw_iload_n eX3_status_0 rfl rfl ?_
  refine pw_iconst eX3_status_1 ⟨by decide, by decide⟩ ?_
  refine pw_bipush eX3_status_2 ⟨by decide, by decide⟩ (by decide) ?_
  obtain ⟨v1, m2, hc3, h⟩ := h
  refine pw_cS (z := mX3_within) (av := [Iq x1, Iq (-1), Iq 6]) (st := []) eX3_status_4 lk_RX3_44 rfl (by decide) (by decide) (Nat.le_of_ble_eq_true rfl) rfl hc3 ?_
  show PW S mX3_status Q 7 [some (Aq 0), some (Iq x1), none, none] [Iq v1] m2
  refine pw_if_ne eX3_status_7 (fun c4 => ?_) (fun c4 => ?_)
  · have h := h.1 c4
    refine pw_iload_n eX3_status_17 rfl rfl ?_
    refine pw_if_lt eX3_status_18 (fun c5 => ?_) (fun c5 => ?_)
    · have h := h.1 c5
      refine pw_iconst eX3_status_28 ⟨by decide, by decide⟩ ?_
      refine pw_istore_n (ls2 := [some (Aq 0), some (Iq x1), some (Iq 0), none]) eX3_status_29 rfl (by decide) rfl ?_
      refine pw_iconst eX3_status_30 ⟨by decide, by decide⟩ ?_
      refine pw_istore_n (ls2 := [some (Aq 0), some (Iq x1), some (Iq 0), some (Iq 0)]) eX3_status_31 rfl (by decide) rfl ?_
      exact h
    · have h := h.2 c5
      refine pw_aload_n eX3_status_21 rfl rfl ?_
      refine gf_RX3_40 rfl eX3_status_22 sh0 ?_
      refine pw_iload_n eX3_status_25 rfl rfl ?_
      obtain ⟨o6, h⟩ := h
      refine pw_iald eX3_status_26 sh33 o6 ?_
      exact pw_iret eX3_status_27 h
  · have h := h.2 c4
    refine pw_aload_n eX3_status_10 rfl rfl ?_
    refine pw_ldc (n := (-1000001)) eX3_status_11 ⟨by decide, by decide⟩ kc_RX3_48 ?_
    obtain ⟨v7, m8, hc9, h⟩ := h
    refine pw_cV (z := mX3_finding) (av := [Iq (-1000001)]) (st := []) eX3_status_13 lk_RX3_49 rfl (by decide) (by decide) sh0 rfl rfl (Nat.le_of_ble_eq_true rfl) rfl hc9 ?_
    show PW S mX3_status Q 16 [some (Aq 0), some (Iq x1), none, none] [Iq v7] m8
    exact pw_iret eX3_status_16 h

set_option maxRecDepth 100000 in
theorem rg_X3_status_32 {S : Sx} {Q : Option PV → Zm → Prop} {mem : Zm}   {x1 x2 x3 : Int} 
    (h : (((7 ≤ x3) → (Q (some (Iq x2)) mem)) ∧ (¬ (7 ≤ x3) → ((0 ≤ x3 ∧ x3 < 7) ∧ (in32 (x2 + (mem 33 (x3).toNat))) ∧ (in32 (x3 + 1)) ∧ PW S mX3_status Q 32 [some (Aq 0), some (Iq x1), some (Iq (x2 + (mem 33 (x3).toNat))), some (Iq (x3 + 1))] [] mem)))) :
    PW S mX3_status Q 32 [some (Aq 0), some (Iq x1), some (Iq x2), some (Iq x3)] [] mem := by
  refine pw_iload_n eX3_status_32 rfl rfl ?_
  refine pw_bipush eX3_status_33 ⟨by decide, by decide⟩ (by decide) ?_
  refine pw_icmp_ge eX3_status_35 (fun c1 => ?_) (fun c1 => ?_)
  · have h := h.1 c1
    refine pw_iload_n eX3_status_53 rfl rfl ?_
    exact pw_iret eX3_status_54 h
  · have h := h.2 c1
    refine pw_iload_n eX3_status_38 rfl rfl ?_
    refine pw_aload_n eX3_status_39 rfl rfl ?_
    refine gf_RX3_40 rfl eX3_status_40 sh0 ?_
    refine pw_iload_n eX3_status_43 rfl rfl ?_
    obtain ⟨o2, h⟩ := h
    refine pw_iald eX3_status_44 sh33 o2 ?_
    obtain ⟨o3, h⟩ := h
    refine pw_iadd eX3_status_45 o3 ?_
    refine pw_istore_n (ls2 := [some (Aq 0), some (Iq x1), some (Iq (x2 + (mem 33 (x3).toNat))), some (Iq x3)]) eX3_status_46 rfl (by decide) rfl ?_
    obtain ⟨o4, h⟩ := h
    refine pw_iinc (ls2 := [some (Aq 0), some (Iq x1), some (Iq (x2 + (mem 33 (x3).toNat))), some (Iq (x3 + 1))]) eX3_status_47 rfl o4 rfl ?_
    refine pw_goto eX3_status_50 ?_
    exact h
set_option maxRecDepth 100000 in
theorem rg_X3_finding_0 {S : Sx} {Q : Option PV → Zm → Prop} {mem : Zm}   {x1 : Int} 
    (h : (in32 ((-1000001) - x1)) ∧ (∃ (v2 : Int) (m3 : Zm), Ct1 S mX3_within [Iq ((-1000001) - x1), Iq 0, Iq 6] mem (some (Iq v2)) m3 ∧ ((((v2 = 0) → (Q (some (Iq x1)) m3)) ∧ (¬ (v2 = 0) → ((0 ≤ (-1000001) - x1 ∧ (-1000001) - x1 < 7) ∧ (in32 ((m3 33 ((-1000001) - x1).toNat) + 1)) ∧ (0 ≤ (-1000001) - x1 ∧ (-1000001) - x1 < 7) ∧ Q (some (Iq x1)) (mup m3 33 ((-1000001) - x1).toNat ((m3 33 ((-1000001) - x1).toNat) + 1)))))))) :
    PW S mX3_finding Q 0 [some (Aq 0), some (Iq x1), none] [] mem := by
  refine pw_ldc (n := (-1000001)) eX3_finding_0 ⟨by decide, by decide⟩ kc_RX3_48 ?_
  refine pw_iload_n eX3_finding_2 rfl rfl ?_
  obtain ⟨o1, h⟩ := h
  refine pw_isub eX3_finding_3 o1 ?_
  refine pw_istore_n (ls2 := [some (Aq 0), some (Iq x1), some (Iq ((-1000001) - x1))]) eX3_finding_4 rfl (by decide) rfl ?_
  refine pw_iload_n eX3_finding_5 rfl rfl ?_
  refine pw_iconst eX3_finding_6 ⟨by decide, by decide⟩ ?_
  refine pw_bipush eX3_finding_7 ⟨by decide, by decide⟩ (by decide) ?_
  obtain ⟨v2, m3, hc4, h⟩ := h
  refine pw_cS (z := mX3_within) (av := [Iq ((-1000001) - x1), Iq 0, Iq 6]) (st := []) eX3_finding_9 lk_RX3_44 rfl (by decide) (by decide) (Nat.le_of_ble_eq_true rfl) rfl hc4 ?_
  show PW S mX3_finding Q 12 [some (Aq 0), some (Iq x1), some (Iq ((-1000001) - x1))] [Iq v2] m3
  refine pw_if_eq eX3_finding_12 (fun c5 => ?_) (fun c5 => ?_)
  · have h := h.1 c5
    refine pw_iload_n eX3_finding_25 rfl rfl ?_
    exact pw_iret eX3_finding_26 h
  · have h := h.2 c5
    refine pw_aload_n eX3_finding_15 rfl rfl ?_
    refine gf_RX3_40 rfl eX3_finding_16 sh0 ?_
    refine pw_iload_n eX3_finding_19 rfl rfl ?_
    refine pw_dup2 eX3_finding_20 rfl rfl ?_
    obtain ⟨o6, h⟩ := h
    refine pw_iald eX3_finding_21 sh33 o6 ?_
    refine pw_iconst eX3_finding_22 ⟨by decide, by decide⟩ ?_
    obtain ⟨o7, h⟩ := h
    refine pw_iadd eX3_finding_23 o7 ?_
    obtain ⟨o8, h⟩ := h
    refine pw_iast eX3_finding_24 sh33 o8 ?_
    refine pw_iload_n eX3_finding_25 rfl rfl ?_
    exact pw_iret eX3_finding_26 h
set_option maxRecDepth 100000 in
theorem rg_X3_within_0 {S : Sx} {Q : Option PV → Zm → Prop} {mem : Zm}   {x0 x1 x2 : Int} 
    (h : (((x0 < x1) → (Q (some (Iq 0)) mem)) ∧ (¬ (x0 < x1) → ((((x2 < x0) → (Q (some (Iq 0)) mem)) ∧ (¬ (x2 < x0) → (Q (some (Iq 1)) mem))))))) :
    PW S mX3_within Q 0 [some (Iq x0), some (Iq x1), some (Iq x2)] [] mem := by
  refine pw_iload_n eX3_within_0 rfl rfl ?_
  refine pw_iload_n eX3_within_1 rfl rfl ?_
  refine pw_icmp_lt eX3_within_2 (fun c1 => ?_) (fun c1 => ?_)
  · have h := h.1 c1
    refine pw_iconst eX3_within_14 ⟨by decide, by decide⟩ ?_
    exact pw_iret eX3_within_15 h
  · have h := h.2 c1
    refine pw_iload_n eX3_within_5 rfl rfl ?_
    refine pw_iload_n eX3_within_6 rfl rfl ?_
    refine pw_icmp_gt eX3_within_7 (fun c2 => ?_) (fun c2 => ?_)
    · have h := h.1 c2
      refine pw_iconst eX3_within_14 ⟨by decide, by decide⟩ ?_
      exact pw_iret eX3_within_15 h
    · have h := h.2 c2
      refine pw_iconst eX3_within_10 ⟨by decide, by decide⟩ ?_
      refine pw_goto eX3_within_11 ?_
      exact pw_iret eX3_within_15 h
set_option maxRecDepth 100000 in
theorem rg_X3_canBecome_0 {S : Sx} {Q : Option PV → Zm → Prop} {mem : Zm}   {x1 x2 x3 : Int} 
    (h : (((x2 = 0) → ((∃ (v2 : Int) (m3 : Zm), Ct1 S mX3_within [Iq x3, Iq 0, Iq 6] mem (some (Iq v2)) m3 ∧ (Q (some (Iq v2)) m3)))) ∧ ((x2 = 1) → ((∃ (v5 : Int) (m6 : Zm), Ct1 S mX3_within [Iq x3, Iq 0, Iq 255] mem (some (Iq v5)) m6 ∧ (Q (some (Iq v5)) m6)))) ∧ ((x2 = 2) → ((((x3 = -1) → (Q (some (Iq 1)) mem)) ∧ (¬ (x3 = -1) → ((∃ (v9 : Int) (m10 : Zm), Ct1 S mX0_has [Aq 1, Iq x3] mem (some (Iq v9)) m10 ∧ ((((v9 = 0) → (Q (some (Iq 0)) m10)) ∧ (¬ (v9 = 0) → ((((x3 = x1) → (Q (some (Iq 0)) m10)) ∧ (¬ (x3 = x1) → (Q (some (Iq 1)) m10))))))))))))) ∧ ((x2 = 3) → ((∃ (v14 : Int) (m15 : Zm), Ct1 S mX3_within [Iq x3, Iq 0, Iq 9999] mem (some (Iq v14)) m15 ∧ (Q (some (Iq v14)) m15)))) ∧ ((x2 = 4) → ((∃ (v17 : Int) (m18 : Zm), Ct1 S mX3_within [Iq x3, Iq 0, Iq 999] mem (some (Iq v17)) m18 ∧ (Q (some (Iq v17)) m18)))) ∧ ((x2 < 0 ∨ 4 < x2) → ((∃ (v20 : Int) (m21 : Zm), Ct1 S mX3_within [Iq x3, Iq 0, Iq 9999] mem (some (Iq v20)) m21 ∧ (Q (some (Iq v20)) m21)))))) :
    PW S mX3_canBecome Q 0 [some (Aq 0), some (Iq x1), some (Iq x2), some (Iq x3)] [] mem := by
  refine pw_iload_n eX3_canBecome_0 rfl rfl ?_
  obtain ⟨hk0, hk1, hk2, hk3, hk4, hkd⟩ := h
  refine pw_tsw (ps := [(0, 36), (1, 44), (2, 53), (3, 80), (4, 89)]) (td := 98) eX3_canBecome_1 rfl (by decide) (by decide) rfl ⟨fun c1 => ?_, fun c1 => ?_, fun c1 => ?_, fun c1 => ?_, fun c1 => ?_, trivial⟩ (fun c1 => ?_)
  · have h := hk0 c1
    refine pw_iload_n eX3_canBecome_36 rfl rfl ?_
    refine pw_iconst eX3_canBecome_37 ⟨by decide, by decide⟩ ?_
    refine pw_bipush eX3_canBecome_38 ⟨by decide, by decide⟩ (by decide) ?_
    obtain ⟨v2, m3, hc4, h⟩ := h
    refine pw_cS (z := mX3_within) (av := [Iq x3, Iq 0, Iq 6]) (st := []) eX3_canBecome_40 lk_RX3_44 rfl (by decide) (by decide) (Nat.le_of_ble_eq_true rfl) rfl hc4 ?_
    show PW S mX3_canBecome Q 43 [some (Aq 0), some (Iq x1), some (Iq x2), some (Iq x3)] [Iq v2] m3
    exact pw_iret eX3_canBecome_43 h
  · have h := hk1 c1
    refine pw_iload_n eX3_canBecome_44 rfl rfl ?_
    refine pw_iconst eX3_canBecome_45 ⟨by decide, by decide⟩ ?_
    refine pw_sipush eX3_canBecome_46 ⟨by decide, by decide⟩ (by decide) ?_
    obtain ⟨v5, m6, hc7, h⟩ := h
    refine pw_cS (z := mX3_within) (av := [Iq x3, Iq 0, Iq 255]) (st := []) eX3_canBecome_49 lk_RX3_44 rfl (by decide) (by decide) (Nat.le_of_ble_eq_true rfl) rfl hc7 ?_
    show PW S mX3_canBecome Q 52 [some (Aq 0), some (Iq x1), some (Iq x2), some (Iq x3)] [Iq v5] m6
    exact pw_iret eX3_canBecome_52 h
  · have h := hk2 c1
    refine pw_iload_n eX3_canBecome_53 rfl rfl ?_
    refine pw_iconst eX3_canBecome_54 ⟨by decide, by decide⟩ ?_
    refine pw_icmp_eq eX3_canBecome_55 (fun c8 => ?_) (fun c8 => ?_)
    · have h := h.1 c8
      refine pw_iconst eX3_canBecome_74 ⟨by decide, by decide⟩ ?_
      refine pw_goto eX3_canBecome_75 ?_
      exact pw_iret eX3_canBecome_79 h
    · have h := h.2 c8
      refine pw_aload_n eX3_canBecome_58 rfl rfl ?_
      refine gf_RX3_10 rfl eX3_canBecome_59 sh0 ?_
      refine pw_iload_n eX3_canBecome_62 rfl rfl ?_
      obtain ⟨v9, m10, hc11, h⟩ := h
      refine pw_cV (z := mX0_has) (av := [Iq x3]) (st := []) eX3_canBecome_63 lk_RX3_68 rfl (by decide) (by decide) (shR isR1) rfl rfl (Nat.le_of_ble_eq_true rfl) rfl hc11 ?_
      show PW S mX3_canBecome Q 66 [some (Aq 0), some (Iq x1), some (Iq x2), some (Iq x3)] [Iq v9] m10
      refine pw_if_eq eX3_canBecome_66 (fun c12 => ?_) (fun c12 => ?_)
      · have h := h.1 c12
        refine pw_iconst eX3_canBecome_78 ⟨by decide, by decide⟩ ?_
        exact pw_iret eX3_canBecome_79 h
      · have h := h.2 c12
        refine pw_iload_n eX3_canBecome_69 rfl rfl ?_
        refine pw_iload_n eX3_canBecome_70 rfl rfl ?_
        refine pw_icmp_eq eX3_canBecome_71 (fun c13 => ?_) (fun c13 => ?_)
        · have h := h.1 c13
          refine pw_iconst eX3_canBecome_78 ⟨by decide, by decide⟩ ?_
          exact pw_iret eX3_canBecome_79 h
        · have h := h.2 c13
          refine pw_iconst eX3_canBecome_74 ⟨by decide, by decide⟩ ?_
          refine pw_goto eX3_canBecome_75 ?_
          exact pw_iret eX3_canBecome_79 h
  · have h := hk3 c1
    refine pw_iload_n eX3_canBecome_80 rfl rfl ?_
    refine pw_iconst eX3_canBecome_81 ⟨by decide, by decide⟩ ?_
    refine pw_sipush eX3_canBecome_82 ⟨by decide, by decide⟩ (by decide) ?_
    obtain ⟨v14, m15, hc16, h⟩ := h
    refine pw_cS (z := mX3_within) (av := [Iq x3, Iq 0, Iq 9999]) (st := []) eX3_canBecome_85 lk_RX3_44 rfl (by decide) (by decide) (Nat.le_of_ble_eq_true rfl) rfl hc16 ?_
    show PW S mX3_canBecome Q 88 [some (Aq 0), some (Iq x1), some (Iq x2), some (Iq x3)] [Iq v14] m15
    exact pw_iret eX3_canBecome_88 h
  · have h := hk4 c1
    refine pw_iload_n eX3_canBecome_89 rfl rfl ?_
    refine pw_iconst eX3_canBecome_90 ⟨by decide, by decide⟩ ?_
    refine pw_sipush eX3_canBecome_91 ⟨by decide, by decide⟩ (by decide) ?_
    obtain ⟨v17, m18, hc19, h⟩ := h
    refine pw_cS (z := mX3_within) (av := [Iq x3, Iq 0, Iq 999]) (st := []) eX3_canBecome_94 lk_RX3_44 rfl (by decide) (by decide) (Nat.le_of_ble_eq_true rfl) rfl hc19 ?_
    show PW S mX3_canBecome Q 97 [some (Aq 0), some (Iq x1), some (Iq x2), some (Iq x3)] [Iq v17] m18
    exact pw_iret eX3_canBecome_97 h
  · have h := hkd c1
    refine pw_iload_n eX3_canBecome_98 rfl rfl ?_
    refine pw_iconst eX3_canBecome_99 ⟨by decide, by decide⟩ ?_
    refine pw_sipush eX3_canBecome_100 ⟨by decide, by decide⟩ (by decide) ?_
    obtain ⟨v20, m21, hc22, h⟩ := h
    refine pw_cS (z := mX3_within) (av := [Iq x3, Iq 0, Iq 9999]) (st := []) eX3_canBecome_103 lk_RX3_44 rfl (by decide) (by decide) (Nat.le_of_ble_eq_true rfl) rfl hc22 ?_
    show PW S mX3_canBecome Q 106 [some (Aq 0), some (Iq x1), some (Iq x2), some (Iq x3)] [Iq v20] m21
    exact pw_iret eX3_canBecome_106 h
set_option maxRecDepth 100000 in
theorem rg_X3_sheetCheck_0 {S : Sx} {Q : Option PV → Zm → Prop} {mem : Zm}   {x1 : Int} 
    (h : (∃ (v1 : Int) (m2 : Zm), Ct1 S mX3_within [Iq x1, Iq 0, Iq 3] mem (some (Iq v1)) m2 ∧ ((((¬ v1 = 0) → ((0 ≤ x1 ∧ x1 < 4) ∧ (∃ (v6 : Int) (m7 : Zm), Ct1 S mX1_isMissing [Aq (25 + 2 * (x1).toNat)] m2 (some (Iq v6)) m7 ∧ ((((v6 = 0) → (Q (some (Iq 0)) m7)) ∧ (¬ (v6 = 0) → (Q (some (Iq (-1000006))) m7))))))) ∧ (¬ (¬ v1 = 0) → (Q (some (Iq (-1000001))) m2)))))) :
    PW S mX3_sheetCheck Q 0 [some (Aq 0), some (Iq x1)] [] mem := by
  refine pw_iload_n eX3_sheetCheck_0 rfl rfl ?_
  refine pw_iconst eX3_sheetCheck_1 ⟨by decide, by decide⟩ ?_
  refine pw_iconst eX3_sheetCheck_2 ⟨by decide, by decide⟩ ?_
  obtain ⟨v1, m2, hc3, h⟩ := h
  refine pw_cS (z := mX3_within) (av := [Iq x1, Iq 0, Iq 3]) (st := []) eX3_sheetCheck_3 lk_RX3_44 rfl (by decide) (by decide) (Nat.le_of_ble_eq_true rfl) rfl hc3 ?_
  show PW S mX3_sheetCheck Q 6 [some (Aq 0), some (Iq x1)] [Iq v1] m2
  refine pw_if_ne eX3_sheetCheck_6 (fun c4 => ?_) (fun c4 => ?_)
  · have h := h.1 c4
    refine pw_aload_n eX3_sheetCheck_12 rfl rfl ?_
    refine gf_RX3_35 rfl eX3_sheetCheck_13 sh0 ?_
    refine pw_iload_n eX3_sheetCheck_16 rfl rfl ?_
    obtain ⟨o5, h⟩ := h
    refine pw_aald eX3_sheetCheck_17 sh24 o5 ?_
    obtain ⟨v6, m7, hc8, h⟩ := h
    refine pw_cV (z := mX1_isMissing) (av := []) (st := []) eX3_sheetCheck_18 lk_RX3_208 rfl (by decide) (by decide) (shS (isSh o5)) rfl rfl (Nat.le_of_ble_eq_true rfl) rfl hc8 ?_
    show PW S mX3_sheetCheck Q 21 [some (Aq 0), some (Iq x1)] [Iq v6] m7
    refine pw_if_eq eX3_sheetCheck_21 (fun c9 => ?_) (fun c9 => ?_)
    · have h := h.1 c9
      refine pw_iconst eX3_sheetCheck_29 ⟨by decide, by decide⟩ ?_
      exact pw_iret eX3_sheetCheck_30 h
    · have h := h.2 c9
      refine pw_ldc (n := (-1000006)) eX3_sheetCheck_24 ⟨by decide, by decide⟩ kc_RX3_190 ?_
      refine pw_goto eX3_sheetCheck_26 ?_
      exact pw_iret eX3_sheetCheck_30 h
  · have h := h.2 c4
    refine pw_ldc (n := (-1000001)) eX3_sheetCheck_9 ⟨by decide, by decide⟩ kc_RX3_48 ?_
    exact pw_iret eX3_sheetCheck_11 h
set_option maxRecDepth 100000 in
theorem rg_X3_sheetAndChildCheck_0 {S : Sx} {Q : Option PV → Zm → Prop} {mem : Zm}   {x1 x2 : Int} 
    (h : (∃ (v1 : Int) (m2 : Zm), Ct1 S mX3_sheetCheck [Aq 0, Iq x1] mem (some (Iq v1)) m2 ∧ ((((v1 = 0) → ((∃ (v5 : Int) (m6 : Zm), Ct1 S mX0_has [Aq 1, Iq x2] m2 (some (Iq v5)) m6 ∧ ((((v5 = 0) → (Q (some (Iq (-1000001))) m6)) ∧ (¬ (v5 = 0) → (Q (some (Iq 0)) m6))))))) ∧ (¬ (v1 = 0) → (Q (some (Iq v1)) m2)))))) :
    PW S mX3_sheetAndChildCheck Q 0 [some (Aq 0), some (Iq x1), some (Iq x2), none] [] mem := by
  refine pw_aload_n eX3_sheetAndChildCheck_0 rfl rfl ?_
  refine pw_iload_n eX3_sheetAndChildCheck_1 rfl rfl ?_
  obtain ⟨v1, m2, hc3, h⟩ := h
  refine pw_cV (z := mX3_sheetCheck) (av := [Iq x1]) (st := []) eX3_sheetAndChildCheck_2 lk_RX3_202 rfl (by decide) (by decide) sh0 rfl rfl (Nat.le_of_ble_eq_true rfl) rfl hc3 ?_
  show PW S mX3_sheetAndChildCheck Q 5 [some (Aq 0), some (Iq x1), some (Iq x2), none] [Iq v1] m2
  refine pw_istore_n (ls2 := [some (Aq 0), some (Iq x1), some (Iq x2), some (Iq v1)]) eX3_sheetAndChildCheck_5 rfl (by decide) rfl ?_
  refine pw_iload_n eX3_sheetAndChildCheck_6 rfl rfl ?_
  refine pw_if_eq eX3_sheetAndChildCheck_7 (fun c4 => ?_) (fun c4 => ?_)
  · have h := h.1 c4
    refine pw_aload_n eX3_sheetAndChildCheck_12 rfl rfl ?_
    refine gf_RX3_10 rfl eX3_sheetAndChildCheck_13 sh0 ?_
    refine pw_iload_n eX3_sheetAndChildCheck_16 rfl rfl ?_
    obtain ⟨v5, m6, hc7, h⟩ := h
    refine pw_cV (z := mX0_has) (av := [Iq x2]) (st := []) eX3_sheetAndChildCheck_17 lk_RX3_68 rfl (by decide) (by decide) (shR isR1) rfl rfl (Nat.le_of_ble_eq_true rfl) rfl hc7 ?_
    show PW S mX3_sheetAndChildCheck Q 20 [some (Aq 0), some (Iq x1), some (Iq x2), some (Iq v1)] [Iq v5] m6
    refine pw_if_eq eX3_sheetAndChildCheck_20 (fun c8 => ?_) (fun c8 => ?_)
    · have h := h.1 c8
      refine pw_ldc (n := (-1000001)) eX3_sheetAndChildCheck_27 ⟨by decide, by decide⟩ kc_RX3_48 ?_
      exact pw_iret eX3_sheetAndChildCheck_29 h
    · have h := h.2 c8
      refine pw_iconst eX3_sheetAndChildCheck_23 ⟨by decide, by decide⟩ ?_
      refine pw_goto eX3_sheetAndChildCheck_24 ?_
      exact pw_iret eX3_sheetAndChildCheck_29 h
  · have h := h.2 c4
    refine pw_iload_n eX3_sheetAndChildCheck_10 rfl rfl ?_
    exact pw_iret eX3_sheetAndChildCheck_11 h
set_option maxRecDepth 100000 in
theorem rg_X3_daysUntil_0 {S : Sx} {Q : Option PV → Zm → Prop} {mem : Zm}   {x1 x2 x3 : Int} 
    (h : (∃ (m2 : Zm), Ct1 S mX0_become [Aq 8, Aq 1] mem none m2 ∧ (PW S mX3_daysUntil Q 14 [some (Aq 0), some (Iq x1), some (Iq x2), some (Iq x3), some (Iq 0)] [] m2))) :
    PW S mX3_daysUntil Q 0 [some (Aq 0), some (Iq x1), some (Iq x2), some (Iq x3), none] [] mem := by
  refine pw_aload_n eX3_daysUntil_0 rfl rfl ?_
  refine gf_RX3_16 rfl eX3_daysUntil_1 sh0 ?_
  refine pw_aload_n eX3_daysUntil_4 rfl rfl ?_
  refine gf_RX3_10 rfl eX3_daysUntil_5 sh0 ?_
  obtain ⟨m2, hc3, h⟩ := h
  refine pw_cV (z := mX0_become) (av := [Aq 1]) (st := []) eX3_daysUntil_8 lk_RX3_126 rfl (by decide) (by decide) (shR isR8) rfl rfl (Nat.le_of_ble_eq_true rfl) rfl hc3 ?_
  show PW S mX3_daysUntil Q 11 [some (Aq 0), some (Iq x1), some (Iq x2), some (Iq x3), none] [] m2
  refine pw_iconst eX3_daysUntil_11 ⟨by decide, by decide⟩ ?_
  refine pw_istore (ls2 := [some (Aq 0), some (Iq x1), some (Iq x2), some (Iq x3), some (Iq 0)]) eX3_daysUntil_12 (by decide) rfl ?_
  exact h

set_option maxRecDepth 100000 in
theorem rg_X3_daysUntil_14 {S : Sx} {Q : Option PV → Zm → Prop} {mem : Zm}   {x1 x2 x3 x4 : Int} 
    (h : (((60 < x4) → (Q (some (Iq (-1000004))) mem)) ∧ (¬ (60 < x4) → ((∃ (v2 : Int) (m3 : Zm), Ct1 S mX0_fact [Aq 8, Iq x1, Iq x2] mem (some (Iq v2)) m3 ∧ ((((v2 < x3) → ((∃ (m7 : Zm), Ct1 S mX0_passDays [Aq 8, Iq 1] m3 none m7 ∧ ((in32 (x4 + 1)) ∧ PW S mX3_daysUntil Q 14 [some (Aq 0), some (Iq x1), some (Iq x2), some (Iq x3), some (Iq (x4 + 1))] [] m7)))) ∧ (¬ (v2 < x3) → (Q (some (Iq x4)) m3))))))))) :
    PW S mX3_daysUntil Q 14 [some (Aq 0), some (Iq x1), some (Iq x2), some (Iq x3), some (Iq x4)] [] mem := by
  refine pw_iload eX3_daysUntil_14 rfl ?_
  refine pw_bipush eX3_daysUntil_16 ⟨by decide, by decide⟩ (by decide) ?_
  refine pw_icmp_gt eX3_daysUntil_18 (fun c1 => ?_) (fun c1 => ?_)
  · have h := h.1 c1
    refine pw_ldc (n := (-1000004)) eX3_daysUntil_51 ⟨by decide, by decide⟩ kc_RX3_133 ?_
    exact pw_iret eX3_daysUntil_53 h
  · have h := h.2 c1
    refine pw_aload_n eX3_daysUntil_21 rfl rfl ?_
    refine gf_RX3_16 rfl eX3_daysUntil_22 sh0 ?_
    refine pw_iload_n eX3_daysUntil_25 rfl rfl ?_
    refine pw_iload_n eX3_daysUntil_26 rfl rfl ?_
    obtain ⟨v2, m3, hc4, h⟩ := h
    refine pw_cV (z := mX0_fact) (av := [Iq x1, Iq x2]) (st := []) eX3_daysUntil_27 lk_RX3_81 rfl (by decide) (by decide) (shR isR8) rfl rfl (Nat.le_of_ble_eq_true rfl) rfl hc4 ?_
    show PW S mX3_daysUntil Q 30 [some (Aq 0), some (Iq x1), some (Iq x2), some (Iq x3), some (Iq x4)] [Iq v2] m3
    refine pw_iload_n eX3_daysUntil_30 rfl rfl ?_
    refine pw_icmp_lt eX3_daysUntil_31 (fun c5 => ?_) (fun c5 => ?_)
    · have h := h.1 c5
      refine pw_aload_n eX3_daysUntil_37 rfl rfl ?_
      refine gf_RX3_16 rfl eX3_daysUntil_38 sh0 ?_
      refine pw_iconst eX3_daysUntil_41 ⟨by decide, by decide⟩ ?_
      obtain ⟨m7, hc8, h⟩ := h
      refine pw_cV (z := mX0_passDays) (av := [Iq 1]) (st := []) eX3_daysUntil_42 lk_RX3_106 rfl (by decide) (by decide) (shR isR8) rfl rfl (Nat.le_of_ble_eq_true rfl) rfl hc8 ?_
      show PW S mX3_daysUntil Q 45 [some (Aq 0), some (Iq x1), some (Iq x2), some (Iq x3), some (Iq x4)] [] m7
      obtain ⟨o9, h⟩ := h
      refine pw_iinc (ls2 := [some (Aq 0), some (Iq x1), some (Iq x2), some (Iq x3), some (Iq (x4 + 1))]) eX3_daysUntil_45 rfl o9 rfl ?_
      refine pw_goto eX3_daysUntil_48 ?_
      exact h
    · have h := h.2 c5
      refine pw_iload eX3_daysUntil_34 rfl ?_
      exact pw_iret eX3_daysUntil_36 h
set_option maxRecDepth 100000 in
theorem rg_X3_marksWith_0 {S : Sx} {Q : Option PV → Zm → Prop} {mem : Zm}   {x1 x2 x3 x4 : Int} 
    (h : (∃ (m2 : Zm), Ct1 S mX0_become [Aq 8, Aq 1] mem none m2 ∧ ((∃ (m5 : Zm), Ct1 S mX0_setFact [Aq 8, Iq x1, Iq x2, Iq x3] m2 none m5 ∧ ((∃ (m8 : Zm), Ct1 S mX0_passDays [Aq 8, Iq x4] m5 none m8 ∧ ((∃ (v10 : Int) (m11 : Zm), Ct1 S mX0_fact [Aq 8, Iq x1, Iq 3] m8 (some (Iq v10)) m11 ∧ (Q (some (Iq v10)) m11))))))))) :
    PW S mX3_marksWith Q 0 [some (Aq 0), some (Iq x1), some (Iq x2), some (Iq x3), some (Iq x4)] [] mem := by
  refine pw_aload_n eX3_marksWith_0 rfl rfl ?_
  refine gf_RX3_16 rfl eX3_marksWith_1 sh0 ?_
  refine pw_aload_n eX3_marksWith_4 rfl rfl ?_
  refine gf_RX3_10 rfl eX3_marksWith_5 sh0 ?_
  obtain ⟨m2, hc3, h⟩ := h
  refine pw_cV (z := mX0_become) (av := [Aq 1]) (st := []) eX3_marksWith_8 lk_RX3_126 rfl (by decide) (by decide) (shR isR8) rfl rfl (Nat.le_of_ble_eq_true rfl) rfl hc3 ?_
  show PW S mX3_marksWith Q 11 [some (Aq 0), some (Iq x1), some (Iq x2), some (Iq x3), some (Iq x4)] [] m2
  refine pw_aload_n eX3_marksWith_11 rfl rfl ?_
  refine gf_RX3_16 rfl eX3_marksWith_12 sh0 ?_
  refine pw_iload_n eX3_marksWith_15 rfl rfl ?_
  refine pw_iload_n eX3_marksWith_16 rfl rfl ?_
  refine pw_iload_n eX3_marksWith_17 rfl rfl ?_
  obtain ⟨m5, hc6, h⟩ := h
  refine pw_cV (z := mX0_setFact) (av := [Iq x1, Iq x2, Iq x3]) (st := []) eX3_marksWith_18 lk_RX3_87 rfl (by decide) (by decide) (shR isR8) rfl rfl (Nat.le_of_ble_eq_true rfl) rfl hc6 ?_
  show PW S mX3_marksWith Q 21 [some (Aq 0), some (Iq x1), some (Iq x2), some (Iq x3), some (Iq x4)] [] m5
  refine pw_aload_n eX3_marksWith_21 rfl rfl ?_
  refine gf_RX3_16 rfl eX3_marksWith_22 sh0 ?_
  refine pw_iload eX3_marksWith_25 rfl ?_
  obtain ⟨m8, hc9, h⟩ := h
  refine pw_cV (z := mX0_passDays) (av := [Iq x4]) (st := []) eX3_marksWith_27 lk_RX3_106 rfl (by decide) (by decide) (shR isR8) rfl rfl (Nat.le_of_ble_eq_true rfl) rfl hc9 ?_
  show PW S mX3_marksWith Q 30 [some (Aq 0), some (Iq x1), some (Iq x2), some (Iq x3), some (Iq x4)] [] m8
  refine pw_aload_n eX3_marksWith_30 rfl rfl ?_
  refine gf_RX3_16 rfl eX3_marksWith_31 sh0 ?_
  refine pw_iload_n eX3_marksWith_34 rfl rfl ?_
  refine pw_iconst eX3_marksWith_35 ⟨by decide, by decide⟩ ?_
  obtain ⟨v10, m11, hc12, h⟩ := h
  refine pw_cV (z := mX0_fact) (av := [Iq x1, Iq 3]) (st := []) eX3_marksWith_36 lk_RX3_81 rfl (by decide) (by decide) (shR isR8) rfl rfl (Nat.le_of_ble_eq_true rfl) rfl hc12 ?_
  show PW S mX3_marksWith Q 39 [some (Aq 0), some (Iq x1), some (Iq x2), some (Iq x3), some (Iq x4)] [Iq v10] m11
  exact pw_iret eX3_marksWith_39 h
set_option maxRecDepth 100000 in
theorem rg_X3_nobodyIsCaughtInTrial_0 {S : Sx} {Q : Option PV → Zm → Prop} {mem : Zm}   {x1 : Int} 
    (h : (∃ (v1 : Int) (m2 : Zm), Ct1 S mX0_total [Aq 1, Iq 5] mem (some (Iq v1)) m2 ∧ (PW S mX3_nobodyIsCaughtInTrial Q 11 [some (Aq 0), some (Iq x1), some (Iq v1), some (Iq 0)] [] m2))) :
    PW S mX3_nobodyIsCaughtInTrial Q 0 [some (Aq 0), some (Iq x1), none, none] [] mem := by
  refine pw_aload_n eX3_nobodyIsCaughtInTrial_0 rfl rfl ?_
  refine gf_RX3_10 rfl eX3_nobodyIsCaughtInTrial_1 sh0 ?_
  refine pw_iconst eX3_nobodyIsCaughtInTrial_4 ⟨by decide, by decide⟩ ?_
  obtain ⟨v1, m2, hc3, h⟩ := h
  refine pw_cV (z := mX0_total) (av := [Iq 5]) (st := []) eX3_nobodyIsCaughtInTrial_5 lk_RX3_110 rfl (by decide) (by decide) (shR isR1) rfl rfl (Nat.le_of_ble_eq_true rfl) rfl hc3 ?_
  show PW S mX3_nobodyIsCaughtInTrial Q 8 [some (Aq 0), some (Iq x1), none, none] [Iq v1] m2
  refine pw_istore_n (ls2 := [some (Aq 0), some (Iq x1), some (Iq v1), none]) eX3_nobodyIsCaughtInTrial_8 rfl (by decide) rfl ?_
  refine pw_iconst eX3_nobodyIsCaughtInTrial_9 ⟨by decide, by decide⟩ ?_
  refine pw_istore_n (ls2 := [some (Aq 0), some (Iq x1), some (Iq v1), some (Iq 0)]) eX3_nobodyIsCaughtInTrial_10 rfl (by decide) rfl ?_
  exact h

set_option maxRecDepth 100000 in
theorem rg_X3_nobodyIsCaughtInTrial_11 {S : Sx} {Q : Option PV → Zm → Prop} {mem : Zm}   {x1 x2 x3 : Int} 
    (h : (((x1 ≤ x3) → (Q (some (Iq 1)) mem)) ∧ (¬ (x1 ≤ x3) → ((∃ (m3 : Zm), Ct1 S mX0_passDays [Aq 8, Iq 1] mem none m3 ∧ ((∃ (v5 : Int) (m6 : Zm), Ct1 S mX0_total [Aq 8, Iq 5] m3 (some (Iq v5)) m6 ∧ ((((v5 = x2) → ((in32 (x3 + 1)) ∧ PW S mX3_nobodyIsCaughtInTrial Q 11 [some (Aq 0), some (Iq x1), some (Iq x2), some (Iq (x3 + 1))] [] m6)) ∧ (¬ (v5 = x2) → (Q (some (Iq 0)) m6))))))))))) :
    PW S mX3_nobodyIsCaughtInTrial Q 11 [some (Aq 0), some (Iq x1), some (Iq x2), some (Iq x3)] [] mem := by
  refine pw_iload_n eX3_nobodyIsCaughtInTrial_11 rfl rfl ?_
  refine pw_iload_n eX3_nobodyIsCaughtInTrial_12 rfl rfl ?_
  refine pw_icmp_ge eX3_nobodyIsCaughtInTrial_13 (fun c1 => ?_) (fun c1 => ?_)
  · have h := h.1 c1
    refine pw_iconst eX3_nobodyIsCaughtInTrial_44 ⟨by decide, by decide⟩ ?_
    exact pw_iret eX3_nobodyIsCaughtInTrial_45 h
  · have h := h.2 c1
    refine pw_aload_n eX3_nobodyIsCaughtInTrial_16 rfl rfl ?_
    refine gf_RX3_16 rfl eX3_nobodyIsCaughtInTrial_17 sh0 ?_
    refine pw_iconst eX3_nobodyIsCaughtInTrial_20 ⟨by decide, by decide⟩ ?_
    obtain ⟨m3, hc4, h⟩ := h
    refine pw_cV (z := mX0_passDays) (av := [Iq 1]) (st := []) eX3_nobodyIsCaughtInTrial_21 lk_RX3_106 rfl (by decide) (by decide) (shR isR8) rfl rfl (Nat.le_of_ble_eq_true rfl) rfl hc4 ?_
    show PW S mX3_nobodyIsCaughtInTrial Q 24 [some (Aq 0), some (Iq x1), some (Iq x2), some (Iq x3)] [] m3
    refine pw_aload_n eX3_nobodyIsCaughtInTrial_24 rfl rfl ?_
    refine gf_RX3_16 rfl eX3_nobodyIsCaughtInTrial_25 sh0 ?_
    refine pw_iconst eX3_nobodyIsCaughtInTrial_28 ⟨by decide, by decide⟩ ?_
    obtain ⟨v5, m6, hc7, h⟩ := h
    refine pw_cV (z := mX0_total) (av := [Iq 5]) (st := []) eX3_nobodyIsCaughtInTrial_29 lk_RX3_110 rfl (by decide) (by decide) (shR isR8) rfl rfl (Nat.le_of_ble_eq_true rfl) rfl hc7 ?_
    show PW S mX3_nobodyIsCaughtInTrial Q 32 [some (Aq 0), some (Iq x1), some (Iq x2), some (Iq x3)] [Iq v5] m6
    refine pw_iload_n eX3_nobodyIsCaughtInTrial_32 rfl rfl ?_
    refine pw_icmp_eq eX3_nobodyIsCaughtInTrial_33 (fun c8 => ?_) (fun c8 => ?_)
    · have h := h.1 c8
      obtain ⟨o9, h⟩ := h
      refine pw_iinc (ls2 := [some (Aq 0), some (Iq x1), some (Iq x2), some (Iq (x3 + 1))]) eX3_nobodyIsCaughtInTrial_38 rfl o9 rfl ?_
      refine pw_goto eX3_nobodyIsCaughtInTrial_41 ?_
      exact h
    · have h := h.2 c8
      refine pw_iconst eX3_nobodyIsCaughtInTrial_36 ⟨by decide, by decide⟩ ?_
      exact pw_iret eX3_nobodyIsCaughtInTrial_37 h
set_option maxRecDepth 100000 in
theorem rg_X3_tryWithoutCopiesFrom_0 {S : Sx} {Q : Option PV → Zm → Prop} {mem : Zm}   {x1 : Int} 
    (h : (∃ (m2 : Zm), Ct1 S mX0_become [Aq 8, Aq 1] mem none m2 ∧ (PW S mX3_tryWithoutCopiesFrom Q 13 [some (Aq 0), some (Iq x1), some (Iq 0), none] [] m2))) :
    PW S mX3_tryWithoutCopiesFrom Q 0 [some (Aq 0), some (Iq x1), none, none] [] mem := by
  refine pw_aload_n eX3_tryWithoutCopiesFrom_0 rfl rfl ?_
  refine gf_RX3_16 rfl eX3_tryWithoutCopiesFrom_1 sh0 ?_
  refine pw_aload_n eX3_tryWithoutCopiesFrom_4 rfl rfl ?_
  refine gf_RX3_10 rfl eX3_tryWithoutCopiesFrom_5 sh0 ?_
  obtain ⟨m2, hc3, h⟩ := h
  refine pw_cV (z := mX0_become) (av := [Aq 1]) (st := []) eX3_tryWithoutCopiesFrom_8 lk_RX3_126 rfl (by decide) (by decide) (shR isR8) rfl rfl (Nat.le_of_ble_eq_true rfl) rfl hc3 ?_
  show PW S mX3_tryWithoutCopiesFrom Q 11 [some (Aq 0), some (Iq x1), none, none] [] m2
  refine pw_iconst eX3_tryWithoutCopiesFrom_11 ⟨by decide, by decide⟩ ?_
  refine pw_istore_n (ls2 := [some (Aq 0), some (Iq x1), some (Iq 0), none]) eX3_tryWithoutCopiesFrom_12 rfl (by decide) rfl ?_
  exact h

set_option maxRecDepth 100000 in
theorem rg_X3_tryWithoutCopiesFrom_13 {S : Sx} {Q : Option PV → Zm → Prop} {mem : Zm}   {x1 x2 : Int} 
    (h : (((mem 8 7 ≤ x2) → (Q none mem)) ∧ (¬ (mem 8 7 ≤ x2) → ((∃ (v2 : Int) (m3 : Zm), Ct1 S mX0_fact [Aq 8, Iq x2, Iq 2] mem (some (Iq v2)) m3 ∧ ((((v2 = -1) → ((in32 (x2 + 1)) ∧ PW S mX3_tryWithoutCopiesFrom Q 13 [some (Aq 0), some (Iq x1), some (Iq (x2 + 1)), none] [] m3)) ∧ (¬ (v2 = -1) → ((((¬ bAnd (bShr x1 v2) 1 = 1) → ((in32 (x2 + 1)) ∧ PW S mX3_tryWithoutCopiesFrom Q 13 [some (Aq 0), some (Iq x1), some (Iq (x2 + 1)), none] [] m3)) ∧ (¬ (¬ bAnd (bShr x1 v2) 1 = 1) → ((∃ (m10 : Zm), Ct1 S mX0_setFact [Aq 8, Iq x2, Iq 2, Iq (-1)] m3 none m10 ∧ ((in32 (x2 + 1)) ∧ PW S mX3_tryWithoutCopiesFrom Q 13 [some (Aq 0), some (Iq x1), some (Iq (x2 + 1)), none] [] m10)))))))))))))) :
    PW S mX3_tryWithoutCopiesFrom Q 13 [some (Aq 0), some (Iq x1), some (Iq x2), none] [] mem := by
  refine pw_iload_n eX3_tryWithoutCopiesFrom_13 rfl rfl ?_
  refine pw_aload_n eX3_tryWithoutCopiesFrom_14 rfl rfl ?_
  refine gf_RX3_16 rfl eX3_tryWithoutCopiesFrom_15 sh0 ?_
  refine gf_RX3_60 rfl eX3_tryWithoutCopiesFrom_18 (shR isR8) ?_
  refine pw_icmp_ge eX3_tryWithoutCopiesFrom_21 (fun c1 => ?_) (fun c1 => ?_)
  · have h := h.1 c1
    exact pw_vret eX3_tryWithoutCopiesFrom_64 h
  · have h := h.2 c1
    refine pw_aload_n eX3_tryWithoutCopiesFrom_24 rfl rfl ?_
    refine gf_RX3_16 rfl eX3_tryWithoutCopiesFrom_25 sh0 ?_
    refine pw_iload_n eX3_tryWithoutCopiesFrom_28 rfl rfl ?_
    refine pw_iconst eX3_tryWithoutCopiesFrom_29 ⟨by decide, by decide⟩ ?_
    obtain ⟨v2, m3, hc4, h⟩ := h
    refine pw_cV (z := mX0_fact) (av := [Iq x2, Iq 2]) (st := []) eX3_tryWithoutCopiesFrom_30 lk_RX3_81 rfl (by decide) (by decide) (shR isR8) rfl rfl (Nat.le_of_ble_eq_true rfl) rfl hc4 ?_
    show PW S mX3_tryWithoutCopiesFrom Q 33 [some (Aq 0), some (Iq x1), some (Iq x2), none] [Iq v2] m3
    refine pw_istore_n (ls2 := [some (Aq 0), some (Iq x1), some (Iq x2), some (Iq v2)]) eX3_tryWithoutCopiesFrom_33 rfl (by decide) rfl ?_
    refine pw_iload_n eX3_tryWithoutCopiesFrom_34 rfl rfl ?_
    refine pw_iconst eX3_tryWithoutCopiesFrom_35 ⟨by decide, by decide⟩ ?_
    refine pw_icmp_eq eX3_tryWithoutCopiesFrom_36 (fun c5 => ?_) (fun c5 => ?_)
    · have h := h.1 c5
      obtain ⟨o6, h⟩ := h
      refine pw_iinc (ls2 := [some (Aq 0), some (Iq x1), some (Iq (x2 + 1)), some (Iq v2)]) eX3_tryWithoutCopiesFrom_58 rfl o6 rfl ?_
      refine pw_goto eX3_tryWithoutCopiesFrom_61 ?_
      exact pw_drop (bs := [true, true, true, false]) h
    · have h := h.2 c5
      refine pw_iload_n eX3_tryWithoutCopiesFrom_39 rfl rfl ?_
      refine pw_iload_n eX3_tryWithoutCopiesFrom_40 rfl rfl ?_
      refine pw_ishr eX3_tryWithoutCopiesFrom_41 ?_
      refine pw_iconst eX3_tryWithoutCopiesFrom_42 ⟨by decide, by decide⟩ ?_
      refine pw_iand eX3_tryWithoutCopiesFrom_43 ?_
      refine pw_iconst eX3_tryWithoutCopiesFrom_44 ⟨by decide, by decide⟩ ?_
      refine pw_icmp_ne eX3_tryWithoutCopiesFrom_45 (fun c7 => ?_) (fun c7 => ?_)
      · have h := h.1 c7
        obtain ⟨o8, h⟩ := h
        refine pw_iinc (ls2 := [some (Aq 0), some (Iq x1), some (Iq (x2 + 1)), some (Iq v2)]) eX3_tryWithoutCopiesFrom_58 rfl o8 rfl ?_
        refine pw_goto eX3_tryWithoutCopiesFrom_61 ?_
        exact pw_drop (bs := [true, true, true, false]) h
      · have h := h.2 c7
        refine pw_aload_n eX3_tryWithoutCopiesFrom_48 rfl rfl ?_
        refine gf_RX3_16 rfl eX3_tryWithoutCopiesFrom_49 sh0 ?_
        refine pw_iload_n eX3_tryWithoutCopiesFrom_52 rfl rfl ?_
        refine pw_iconst eX3_tryWithoutCopiesFrom_53 ⟨by decide, by decide⟩ ?_
        refine pw_iconst eX3_tryWithoutCopiesFrom_54 ⟨by decide, by decide⟩ ?_
        obtain ⟨m10, hc11, h⟩ := h
        refine pw_cV (z := mX0_setFact) (av := [Iq x2, Iq 2, Iq (-1)]) (st := []) eX3_tryWithoutCopiesFrom_55 lk_RX3_87 rfl (by decide) (by decide) (shR isR8) rfl rfl (Nat.le_of_ble_eq_true rfl) rfl hc11 ?_
        show PW S mX3_tryWithoutCopiesFrom Q 58 [some (Aq 0), some (Iq x1), some (Iq x2), some (Iq v2)] [] m10
        obtain ⟨o12, h⟩ := h
        refine pw_iinc (ls2 := [some (Aq 0), some (Iq x1), some (Iq (x2 + 1)), some (Iq v2)]) eX3_tryWithoutCopiesFrom_58 rfl o12 rfl ?_
        refine pw_goto eX3_tryWithoutCopiesFrom_61 ?_
        exact pw_drop (bs := [true, true, true, false]) h
set_option maxRecDepth 100000 in
theorem rg_X3_writesAsAsked_0 {S : Sx} {Q : Option PV → Zm → Prop} {mem : Zm}  {r1 : Nat} {x2 x3 x4 : Int} (hr1 : isSheet r1)
    (h : (∃ (m2 : Zm), Ct1 S mX0_become [Aq 8, Aq 1] mem none m2 ∧ ((∃ (m5 : Zm), Ct1 S mX0_setFact [Aq 8, Iq x2, Iq x3, Iq x4] m2 none m5 ∧ ((∃ (m8 : Zm), Ct1 S mX0_passDays [Aq 8, Iq 1] m5 none m8 ∧ (PW S mX3_writesAsAsked Q 33 [some (Aq 0), some (Aq r1), some (Iq x2), some (Iq x3), some (Iq x4), some (Iq 0)] [] m8))))))) :
    PW S mX3_writesAsAsked Q 0 [some (Aq 0), some (Aq r1), some (Iq x2), some (Iq x3), some (Iq x4), none] [] mem := by
  refine pw_aload_n eX3_writesAsAsked_0 rfl rfl ?_
  refine gf_RX3_16 rfl eX3_writesAsAsked_1 sh0 ?_
  refine pw_aload_n eX3_writesAsAsked_4 rfl rfl ?_
  refine gf_RX3_10 rfl eX3_writesAsAsked_5 sh0 ?_
  obtain ⟨m2, hc3, h⟩ := h
  refine pw_cV (z := mX0_become) (av := [Aq 1]) (st := []) eX3_writesAsAsked_8 lk_RX3_126 rfl (by decide) (by decide) (shR isR8) rfl rfl (Nat.le_of_ble_eq_true rfl) rfl hc3 ?_
  show PW S mX3_writesAsAsked Q 11 [some (Aq 0), some (Aq r1), some (Iq x2), some (Iq x3), some (Iq x4), none] [] m2
  refine pw_aload_n eX3_writesAsAsked_11 rfl rfl ?_
  refine gf_RX3_16 rfl eX3_writesAsAsked_12 sh0 ?_
  refine pw_iload_n eX3_writesAsAsked_15 rfl rfl ?_
  refine pw_iload_n eX3_writesAsAsked_16 rfl rfl ?_
  refine pw_iload eX3_writesAsAsked_17 rfl ?_
  obtain ⟨m5, hc6, h⟩ := h
  refine pw_cV (z := mX0_setFact) (av := [Iq x2, Iq x3, Iq x4]) (st := []) eX3_writesAsAsked_19 lk_RX3_87 rfl (by decide) (by decide) (shR isR8) rfl rfl (Nat.le_of_ble_eq_true rfl) rfl hc6 ?_
  show PW S mX3_writesAsAsked Q 22 [some (Aq 0), some (Aq r1), some (Iq x2), some (Iq x3), some (Iq x4), none] [] m5
  refine pw_aload_n eX3_writesAsAsked_22 rfl rfl ?_
  refine gf_RX3_16 rfl eX3_writesAsAsked_23 sh0 ?_
  refine pw_iconst eX3_writesAsAsked_26 ⟨by decide, by decide⟩ ?_
  obtain ⟨m8, hc9, h⟩ := h
  refine pw_cV (z := mX0_passDays) (av := [Iq 1]) (st := []) eX3_writesAsAsked_27 lk_RX3_106 rfl (by decide) (by decide) (shR isR8) rfl rfl (Nat.le_of_ble_eq_true rfl) rfl hc9 ?_
  show PW S mX3_writesAsAsked Q 30 [some (Aq 0), some (Aq r1), some (Iq x2), some (Iq x3), some (Iq x4), none] [] m8
  refine pw_iconst eX3_writesAsAsked_30 ⟨by decide, by decide⟩ ?_
  refine pw_istore (ls2 := [some (Aq 0), some (Aq r1), some (Iq x2), some (Iq x3), some (Iq x4), some (Iq 0)]) eX3_writesAsAsked_31 (by decide) rfl ?_
  exact h

set_option maxRecDepth 100000 in
theorem rg_X3_writesAsAsked_33 {S : Sx} {Q : Option PV → Zm → Prop} {mem : Zm}  {r1 : Nat} {x2 x3 x4 x5 : Int} (hr1 : isSheet r1)
    (h : (((8 ≤ x5) → (Q (some (Iq 1)) mem)) ∧ (¬ (8 ≤ x5) → ((∃ (v2 : Int) (m3 : Zm), Ct1 S mX0_answerOf [Aq 8, Iq x2, Iq x5] mem (some (Iq v2)) m3 ∧ ((∃ (v5 : Int) (m6 : Zm), Ct1 S mX1_allows [Aq r1, Iq x5, Iq v2] m3 (some (Iq v5)) m6 ∧ ((((¬ v5 = 0) → ((in32 (x5 + 1)) ∧ PW S mX3_writesAsAsked Q 33 [some (Aq 0), some (Aq r1), some (Iq x2), some (Iq x3), some (Iq x4), some (Iq (x5 + 1))] [] m6)) ∧ (¬ (¬ v5 = 0) → (Q (some (Iq 0)) m6))))))))))) :
    PW S mX3_writesAsAsked Q 33 [some (Aq 0), some (Aq r1), some (Iq x2), some (Iq x3), some (Iq x4), some (Iq x5)] [] mem := by
  refine pw_iload eX3_writesAsAsked_33 rfl ?_
  refine pw_bipush eX3_writesAsAsked_35 ⟨by decide, by decide⟩ (by decide) ?_
  refine pw_icmp_ge eX3_writesAsAsked_37 (fun c1 => ?_) (fun c1 => ?_)
  · have h := h.1 c1
    refine pw_iconst eX3_writesAsAsked_67 ⟨by decide, by decide⟩ ?_
    exact pw_iret eX3_writesAsAsked_68 h
  · have h := h.2 c1
    refine pw_aload_n eX3_writesAsAsked_40 rfl rfl ?_
    refine pw_iload eX3_writesAsAsked_41 rfl ?_
    refine pw_aload_n eX3_writesAsAsked_43 rfl rfl ?_
    refine gf_RX3_16 rfl eX3_writesAsAsked_44 sh0 ?_
    refine pw_iload_n eX3_writesAsAsked_47 rfl rfl ?_
    refine pw_iload eX3_writesAsAsked_48 rfl ?_
    obtain ⟨v2, m3, hc4, h⟩ := h
    refine pw_cV (z := mX0_answerOf) (av := [Iq x2, Iq x5]) (st := [Iq x5, Aq r1]) eX3_writesAsAsked_50 lk_RX3_91 rfl (by decide) (by decide) (shR isR8) rfl rfl (Nat.le_of_ble_eq_true rfl) rfl hc4 ?_
    show PW S mX3_writesAsAsked Q 53 [some (Aq 0), some (Aq r1), some (Iq x2), some (Iq x3), some (Iq x4), some (Iq x5)] [Iq v2, Iq x5, Aq r1] m3
    obtain ⟨v5, m6, hc7, h⟩ := h
    refine pw_cV (z := mX1_allows) (av := [Iq x5, Iq v2]) (st := []) eX3_writesAsAsked_53 lk_RX3_230 rfl (by decide) (by decide) (shS hr1) rfl rfl (Nat.le_of_ble_eq_true rfl) rfl hc7 ?_
    show PW S mX3_writesAsAsked Q 56 [some (Aq 0), some (Aq r1), some (Iq x2), some (Iq x3), some (Iq x4), some (Iq x5)] [Iq v5] m6
    refine pw_if_ne eX3_writesAsAsked_56 (fun c8 => ?_) (fun c8 => ?_)
    · have h := h.1 c8
      obtain ⟨o9, h⟩ := h
      refine pw_iinc (ls2 := [some (Aq 0), some (Aq r1), some (Iq x2), some (Iq x3), some (Iq x4), some (Iq (x5 + 1))]) eX3_writesAsAsked_61 rfl o9 rfl ?_
      refine pw_goto eX3_writesAsAsked_64 ?_
      exact h
    · have h := h.2 c8
      refine pw_iconst eX3_writesAsAsked_59 ⟨by decide, by decide⟩ ?_
      exact pw_iret eX3_writesAsAsked_60 h
set_option maxRecDepth 100000 in
theorem rg_X3_tryDayKnowingNothing_0 {S : Sx} {Q : Option PV → Zm → Prop} {mem : Zm}   {x1 : Int} 
    (h : (∃ (m2 : Zm), Ct1 S mX0_become [Aq 8, Aq 1] mem none m2 ∧ ((∃ (m5 : Zm), Ct1 S mX0_setFact [Aq 8, Iq x1, Iq 1, Iq 0] m2 none m5 ∧ ((∃ (m8 : Zm), Ct1 S mX0_passDays [Aq 8, Iq 1] m5 none m8 ∧ (Q none m8))))))) :
    PW S mX3_tryDayKnowingNothing Q 0 [some (Aq 0), some (Iq x1)] [] mem := by
  refine pw_aload_n eX3_tryDayKnowingNothing_0 rfl rfl ?_
  refine gf_RX3_16 rfl eX3_tryDayKnowingNothing_1 sh0 ?_
  refine pw_aload_n eX3_tryDayKnowingNothing_4 rfl rfl ?_
  refine gf_RX3_10 rfl eX3_tryDayKnowingNothing_5 sh0 ?_
  obtain ⟨m2, hc3, h⟩ := h
  refine pw_cV (z := mX0_become) (av := [Aq 1]) (st := []) eX3_tryDayKnowingNothing_8 lk_RX3_126 rfl (by decide) (by decide) (shR isR8) rfl rfl (Nat.le_of_ble_eq_true rfl) rfl hc3 ?_
  show PW S mX3_tryDayKnowingNothing Q 11 [some (Aq 0), some (Iq x1)] [] m2
  refine pw_aload_n eX3_tryDayKnowingNothing_11 rfl rfl ?_
  refine gf_RX3_16 rfl eX3_tryDayKnowingNothing_12 sh0 ?_
  refine pw_iload_n eX3_tryDayKnowingNothing_15 rfl rfl ?_
  refine pw_iconst eX3_tryDayKnowingNothing_16 ⟨by decide, by decide⟩ ?_
  refine pw_iconst eX3_tryDayKnowingNothing_17 ⟨by decide, by decide⟩ ?_
  obtain ⟨m5, hc6, h⟩ := h
  refine pw_cV (z := mX0_setFact) (av := [Iq x1, Iq 1, Iq 0]) (st := []) eX3_tryDayKnowingNothing_18 lk_RX3_87 rfl (by decide) (by decide) (shR isR8) rfl rfl (Nat.le_of_ble_eq_true rfl) rfl hc6 ?_
  show PW S mX3_tryDayKnowingNothing Q 21 [some (Aq 0), some (Iq x1)] [] m5
  refine pw_aload_n eX3_tryDayKnowingNothing_21 rfl rfl ?_
  refine gf_RX3_16 rfl eX3_tryDayKnowingNothing_22 sh0 ?_
  refine pw_iconst eX3_tryDayKnowingNothing_25 ⟨by decide, by decide⟩ ?_
  obtain ⟨m8, hc9, h⟩ := h
  refine pw_cV (z := mX0_passDays) (av := [Iq 1]) (st := []) eX3_tryDayKnowingNothing_26 lk_RX3_106 rfl (by decide) (by decide) (shR isR8) rfl rfl (Nat.le_of_ble_eq_true rfl) rfl hc9 ?_
  show PW S mX3_tryDayKnowingNothing Q 29 [some (Aq 0), some (Iq x1)] [] m8
  exact pw_vret eX3_tryDayKnowingNothing_29 h
set_option maxRecDepth 100000 in
theorem rg_X3_fitsUnknown_0 {S : Sx} {Q : Option PV → Zm → Prop} {mem : Zm}  {r1 : Nat} {x2 x3 : Int} (hr1 : isSheet r1)
    (h : (∃ (v1 : Int) (m2 : Zm), Ct1 S mX0_answerOf [Aq 8, Iq x2, Iq x3] mem (some (Iq v1)) m2 ∧ ((∃ (v4 : Int) (m5 : Zm), Ct1 S mX1_allows [Aq r1, Iq x3, Iq v1] m2 (some (Iq v4)) m5 ∧ (Q (some (Iq v4)) m5))))) :
    PW S mX3_fitsUnknown Q 0 [some (Aq 0), some (Aq r1), some (Iq x2), some (Iq x3)] [] mem := by
  refine pw_aload_n eX3_fitsUnknown_0 rfl rfl ?_
  refine pw_iload_n eX3_fitsUnknown_1 rfl rfl ?_
  refine pw_aload_n eX3_fitsUnknown_2 rfl rfl ?_
  refine gf_RX3_16 rfl eX3_fitsUnknown_3 sh0 ?_
  refine pw_iload_n eX3_fitsUnknown_6 rfl rfl ?_
  refine pw_iload_n eX3_fitsUnknown_7 rfl rfl ?_
  obtain ⟨v1, m2, hc3, h⟩ := h
  refine pw_cV (z := mX0_answerOf) (av := [Iq x2, Iq x3]) (st := [Iq x3, Aq r1]) eX3_fitsUnknown_8 lk_RX3_91 rfl (by decide) (by decide) (shR isR8) rfl rfl (Nat.le_of_ble_eq_true rfl) rfl hc3 ?_
  show PW S mX3_fitsUnknown Q 11 [some (Aq 0), some (Aq r1), some (Iq x2), some (Iq x3)] [Iq v1, Iq x3, Aq r1] m2
  obtain ⟨v4, m5, hc6, h⟩ := h
  refine pw_cV (z := mX1_allows) (av := [Iq x3, Iq v1]) (st := []) eX3_fitsUnknown_11 lk_RX3_230 rfl (by decide) (by decide) (shS hr1) rfl rfl (Nat.le_of_ble_eq_true rfl) rfl hc6 ?_
  show PW S mX3_fitsUnknown Q 14 [some (Aq 0), some (Aq r1), some (Iq x2), some (Iq x3)] [Iq v4] m5
  exact pw_iret eX3_fitsUnknown_14 h
set_option maxRecDepth 100000 in
theorem rg_X3_fitsKnown_0 {S : Sx} {Q : Option PV → Zm → Prop} {mem : Zm}  {r1 : Nat} {x2 : Int} (hr1 : isSheet r1)
    (h : (0 ≤ x2 ∧ x2 < 8) ∧ (∃ (v2 : Int) (m3 : Zm), Ct1 S mX1_allows [Aq r1, Iq x2, Iq (mem 2 (x2).toNat)] mem (some (Iq v2)) m3 ∧ (Q (some (Iq v2)) m3))) :
    PW S mX3_fitsKnown Q 0 [some (Aq 0), some (Aq r1), some (Iq x2)] [] mem := by
  refine pw_aload_n eX3_fitsKnown_0 rfl rfl ?_
  refine pw_iload_n eX3_fitsKnown_1 rfl rfl ?_
  refine pw_aload_n eX3_fitsKnown_2 rfl rfl ?_
  refine gf_RX3_10 rfl eX3_fitsKnown_3 sh0 ?_
  refine gf_RX3_53 rfl eX3_fitsKnown_6 (shR isR1) ?_
  refine pw_iload_n eX3_fitsKnown_9 rfl rfl ?_
  obtain ⟨o1, h⟩ := h
  refine pw_iald eX3_fitsKnown_10 sh2 o1 ?_
  obtain ⟨v2, m3, hc4, h⟩ := h
  refine pw_cV (z := mX1_allows) (av := [Iq x2, Iq (mem 2 (x2).toNat)]) (st := []) eX3_fitsKnown_11 lk_RX3_230 rfl (by decide) (by decide) (shS hr1) rfl rfl (Nat.le_of_ble_eq_true rfl) rfl hc4 ?_
  show PW S mX3_fitsKnown Q 14 [some (Aq 0), some (Aq r1), some (Iq x2)] [Iq v2] m3
  exact pw_iret eX3_fitsKnown_14 h
set_option maxRecDepth 100000 in
theorem rg_X3_power_0 {S : Sx} {Q : Option PV → Zm → Prop} {mem : Zm}   {x0 x1 : Int} 
    (h : PW S mX3_power Q 5 [some (Iq x0), some (Iq x1), some (Jq 1), none, some (Iq 0)] [] mem) :
    PW S mX3_power Q 0 [some (Iq x0), some (Iq x1), none, none, none] [] mem := by
  refine pw_lconst (v := 1) eX3_power_0 ⟨by decide, by decide⟩ rfl ?_
  refine pw_lstore_n (ls2 := [some (Iq x0), some (Iq x1), some (Jq 1), none, none]) eX3_power_1 rfl (by decide) rfl ?_
  refine pw_iconst eX3_power_2 ⟨by decide, by decide⟩ ?_
  refine pw_istore (ls2 := [some (Iq x0), some (Iq x1), some (Jq 1), none, some (Iq 0)]) eX3_power_3 (by decide) rfl ?_
  exact h

set_option maxRecDepth 100000 in
theorem rg_X3_power_5 {S : Sx} {Q : Option PV → Zm → Prop} {mem : Zm}   {x0 x1 x2 x4 : Int} 
    (h : (((x1 ≤ x4) → (Q (some (Jq x2)) mem)) ∧ (¬ (x1 ≤ x4) → ((in32 (x4 + 1)) ∧ PW S mX3_power Q 5 [some (Iq x0), some (Iq x1), some (Jq (wrL (x2 * x0))), none, some (Iq (x4 + 1))] [] mem)))) :
    PW S mX3_power Q 5 [some (Iq x0), some (Iq x1), some (Jq x2), none, some (Iq x4)] [] mem := by
  refine pw_iload eX3_power_5 rfl ?_
  refine pw_iload_n eX3_power_7 rfl rfl ?_
  refine pw_icmp_ge eX3_power_8 (fun c1 => ?_) (fun c1 => ?_)
  · have h := h.1 c1
    refine pw_lload_n eX3_power_22 rfl rfl ?_
    exact pw_lret eX3_power_23 h
  · have h := h.2 c1
    refine pw_lload_n eX3_power_11 rfl rfl ?_
    refine pw_iload_n eX3_power_12 rfl rfl ?_
    refine pw_i2l eX3_power_13 ?_
    refine pw_lmul eX3_power_14 ?_
    refine pw_lstore_n (ls2 := [some (Iq x0), some (Iq x1), some (Jq (wrL (x2 * x0))), none, some (Iq x4)]) eX3_power_15 rfl (by decide) rfl ?_
    obtain ⟨o2, h⟩ := h
    refine pw_iinc (ls2 := [some (Iq x0), some (Iq x1), some (Jq (wrL (x2 * x0))), none, some (Iq (x4 + 1))]) eX3_power_16 rfl o2 rfl ?_
    refine pw_goto eX3_power_19 ?_
    exact h
set_option maxRecDepth 100000 in
theorem rg_X3_isUnder_0 {S : Sx} {Q : Option PV → Zm → Prop} {mem : Zm}   {x0 x1 : Int} 
    (h : PW S mX3_isUnder Q 4 [some (Iq x0), some (Iq x1), some (Iq x0), some (Iq 0)] [] mem) :
    PW S mX3_isUnder Q 0 [some (Iq x0), some (Iq x1), none, none] [] mem := by
  refine pw_iload_n eX3_isUnder_0 rfl rfl ?_
  refine pw_istore_n (ls2 := [some (Iq x0), some (Iq x1), some (Iq x0), none]) eX3_isUnder_1 rfl (by decide) rfl ?_
  refine pw_iconst eX3_isUnder_2 ⟨by decide, by decide⟩ ?_
  refine pw_istore_n (ls2 := [some (Iq x0), some (Iq x1), some (Iq x0), some (Iq 0)]) eX3_isUnder_3 rfl (by decide) rfl ?_
  exact h

set_option maxRecDepth 100000 in
theorem rg_X3_isUnder_4 {S : Sx} {Q : Option PV → Zm → Prop} {mem : Zm}   {x0 x1 x2 x3 : Int} 
    (h : (((7 ≤ x3) → (Q (some (Iq 0)) mem)) ∧ (¬ (7 ≤ x3) → ((∃ (v2 : Int) (m3 : Zm), Ct1 S mX3_within [Iq x2, Iq 0, Iq 6] mem (some (Iq v2)) m3 ∧ ((((v2 = 0) → (Q (some (Iq 0)) m3)) ∧ (¬ (v2 = 0) → ((((¬ x2 = x1) → ((0 ≤ x2 ∧ x2 < 7) ∧ (in32 (x3 + 1)) ∧ PW S mX3_isUnder Q 4 [some (Iq x0), some (Iq x1), some (Iq (tbU (x2).toNat)), some (Iq (x3 + 1))] [] m3)) ∧ (¬ (¬ x2 = x1) → (Q (some (Iq 1)) m3)))))))))))) :
    PW S mX3_isUnder Q 4 [some (Iq x0), some (Iq x1), some (Iq x2), some (Iq x3)] [] mem := by
  refine pw_iload_n eX3_isUnder_4 rfl rfl ?_
  refine pw_bipush eX3_isUnder_5 ⟨by decide, by decide⟩ (by decide) ?_
  refine pw_icmp_ge eX3_isUnder_7 (fun c1 => ?_) (fun c1 => ?_)
  · have h := h.1 c1
    refine pw_iconst eX3_isUnder_39 ⟨by decide, by decide⟩ ?_
    exact pw_iret eX3_isUnder_40 h
  · have h := h.2 c1
    refine pw_iload_n eX3_isUnder_10 rfl rfl ?_
    refine pw_iconst eX3_isUnder_11 ⟨by decide, by decide⟩ ?_
    refine pw_bipush eX3_isUnder_12 ⟨by decide, by decide⟩ (by decide) ?_
    obtain ⟨v2, m3, hc4, h⟩ := h
    refine pw_cS (z := mX3_within) (av := [Iq x2, Iq 0, Iq 6]) (st := []) eX3_isUnder_14 lk_RX3_44 rfl (by decide) (by decide) (Nat.le_of_ble_eq_true rfl) rfl hc4 ?_
    show PW S mX3_isUnder Q 17 [some (Iq x0), some (Iq x1), some (Iq x2), some (Iq x3)] [Iq v2] m3
    refine pw_if_eq eX3_isUnder_17 (fun c5 => ?_) (fun c5 => ?_)
    · have h := h.1 c5
      refine pw_iconst eX3_isUnder_39 ⟨by decide, by decide⟩ ?_
      exact pw_iret eX3_isUnder_40 h
    · have h := h.2 c5
      refine pw_iload_n eX3_isUnder_20 rfl rfl ?_
      refine pw_iload_n eX3_isUnder_21 rfl rfl ?_
      refine pw_icmp_ne eX3_isUnder_22 (fun c6 => ?_) (fun c6 => ?_)
      · have h := h.1 c6
        refine pw_gsU eX3_isUnder_27 lf_RX3_233 ?_
        refine pw_iload_n eX3_isUnder_30 rfl rfl ?_
        obtain ⟨o7, h⟩ := h
        refine pw_ialdU eX3_isUnder_31 o7 ?_
        refine pw_istore_n (ls2 := [some (Iq x0), some (Iq x1), some (Iq (tbU (x2).toNat)), some (Iq x3)]) eX3_isUnder_32 rfl (by decide) rfl ?_
        obtain ⟨o8, h⟩ := h
        refine pw_iinc (ls2 := [some (Iq x0), some (Iq x1), some (Iq (tbU (x2).toNat)), some (Iq (x3 + 1))]) eX3_isUnder_33 rfl o8 rfl ?_
        refine pw_goto eX3_isUnder_36 ?_
        exact h
      · have h := h.2 c6
        refine pw_iconst eX3_isUnder_25 ⟨by decide, by decide⟩ ?_
        exact pw_iret eX3_isUnder_26 h
end RG

section RG
set_option maxRecDepth 100000 in
theorem rg_X3_right_0 {S : Sx} {Q : Option PV → Zm → Prop} {mem : Zm}   {x1 x2 : Int} 
    (h : (∃ (v1 : Int) (m2 : Zm), Ct1 S mX3_within [Iq x1, Iq 0, Iq 7] mem (some (Iq v1)) m2 ∧ ((((v1 = 0) → ((∃ (v5 : Int) (m6 : Zm), Ct1 S mX3_finding [Aq 0, Iq (-1000001)] m2 (some (Iq v5)) m6 ∧ (Q (some (Iq v5)) m6)))) ∧ (¬ (v1 = 0) → ((∃ (v8 : Int) (m9 : Zm), Ct1 S mX3_within [Iq x2, Iq 0, Iq 99] m2 (some (Iq v8)) m9 ∧ ((((¬ v8 = 0) → ((0 ≤ x1 ∧ x1 < 8) ∧ (0 ≤ x1 ∧ x1 < 8) ∧ Q (some (Iq (m9 2 (x1).toNat))) (mup m9 2 (x1).toNat x2))) ∧ (¬ (¬ v8 = 0) → ((∃ (v14 : Int) (m15 : Zm), Ct1 S mX3_finding [Aq 0, Iq (-1000001)] m9 (some (Iq v14)) m15 ∧ (Q (some (Iq v14)) m15))))))))))))) :
    PW S mX3_right Q 0 [some (Aq 0), some (Iq x1), some (Iq x2), none] [] mem := by
  refine pw_iload_n eX3_right_0 rfl rfl ?_
  refine pw_iconst eX3_right_1 ⟨by decide, by decide⟩ ?_
  refine pw_bipush eX3_right_2 ⟨by decide, by decide⟩ (by decide) ?_
  obtain ⟨v1, m2, hc3, h⟩ := h
  refine pw_cS (z := mX3_within) (av := [Iq x1, Iq 0, Iq 7]) (st := []) eX3_right_4 lk_RX3_44 rfl (by decide) (by decide) (Nat.le_of_ble_eq_true rfl) rfl hc3 ?_
  show PW S mX3_right Q 7 [some (Aq 0), some (Iq x1), some (Iq x2), none] [Iq v1] m2
  refine pw_if_eq eX3_right_7 (fun c4 => ?_) (fun c4 => ?_)
  · have h := h.1 c4
    refine pw_aload_n eX3_right_20 rfl rfl ?_
    refine pw_ldc (n := (-1000001)) eX3_right_21 ⟨by decide, by decide⟩ kc_RX3_48 ?_
    obtain ⟨v5, m6, hc7, h⟩ := h
    refine pw_cV (z := mX3_finding) (av := [Iq (-1000001)]) (st := []) eX3_right_23 lk_RX3_49 rfl (by decide) (by decide) sh0 rfl rfl (Nat.le_of_ble_eq_true rfl) rfl hc7 ?_
    show PW S mX3_right Q 26 [some (Aq 0), some (Iq x1), some (Iq x2), none] [Iq v5] m6
    exact pw_iret eX3_right_26 h
  · have h := h.2 c4
    refine pw_iload_n eX3_right_10 rfl rfl ?_
    refine pw_iconst eX3_right_11 ⟨by decide, by decide⟩ ?_
    refine pw_bipush eX3_right_12 ⟨by decide, by decide⟩ (by decide) ?_
    obtain ⟨v8, m9, hc10, h⟩ := h
    refine pw_cS (z := mX3_within) (av := [Iq x2, Iq 0, Iq 99]) (st := []) eX3_right_14 lk_RX3_44 rfl (by decide) (by decide) (Nat.le_of_ble_eq_true rfl) rfl hc10 ?_
    show PW S mX3_right Q 17 [some (Aq 0), some (Iq x1), some (Iq x2), none] [Iq v8] m9
    refine pw_if_ne eX3_right_17 (fun c11 => ?_) (fun c11 => ?_)
    · have h := h.1 c11
      refine pw_aload_n eX3_right_27 rfl rfl ?_
      refine gf_RX3_10 rfl eX3_right_28 sh0 ?_
      refine gf_RX3_53 rfl eX3_right_31 (shR isR1) ?_
      refine pw_iload_n eX3_right_34 rfl rfl ?_
      obtain ⟨o12, h⟩ := h
      refine pw_iald eX3_right_35 sh2 o12 ?_
      refine pw_istore_n (ls2 := [some (Aq 0), some (Iq x1), some (Iq x2), some (Iq (m9 2 (x1).toNat))]) eX3_right_36 rfl (by decide) rfl ?_
      refine pw_aload_n eX3_right_37 rfl rfl ?_
      refine gf_RX3_10 rfl eX3_right_38 sh0 ?_
      refine gf_RX3_53 rfl eX3_right_41 (shR isR1) ?_
      refine pw_iload_n eX3_right_44 rfl rfl ?_
      refine pw_iload_n eX3_right_45 rfl rfl ?_
      obtain ⟨o13, h⟩ := h
      refine pw_iast eX3_right_46 sh2 o13 ?_
      refine pw_iload_n eX3_right_47 rfl rfl ?_
      exact pw_iret eX3_right_48 h
    · have h := h.2 c11
      refine pw_aload_n eX3_right_20 rfl rfl ?_
      refine pw_ldc (n := (-1000001)) eX3_right_21 ⟨by decide, by decide⟩ kc_RX3_48 ?_
      obtain ⟨v14, m15, hc16, h⟩ := h
      refine pw_cV (z := mX3_finding) (av := [Iq (-1000001)]) (st := []) eX3_right_23 lk_RX3_49 rfl (by decide) (by decide) sh0 rfl rfl (Nat.le_of_ble_eq_true rfl) rfl hc16 ?_
      show PW S mX3_right Q 26 [some (Aq 0), some (Iq x1), some (Iq x2), none] [Iq v14] m15
      exact pw_iret eX3_right_26 h
set_option maxRecDepth 100000 in
theorem rg_X3_isRight_0 {S : Sx} {Q : Option PV → Zm → Prop} {mem : Zm}   {x1 : Int} 
    (h : (∃ (v1 : Int) (m2 : Zm), Ct1 S mX3_within [Iq x1, Iq 0, Iq 7] mem (some (Iq v1)) m2 ∧ ((((¬ v1 = 0) → ((0 ≤ x1 ∧ x1 < 8) ∧ Q (some (Iq (m2 2 (x1).toNat))) m2)) ∧ (¬ (¬ v1 = 0) → ((∃ (v6 : Int) (m7 : Zm), Ct1 S mX3_finding [Aq 0, Iq (-1000001)] m2 (some (Iq v6)) m7 ∧ (Q (some (Iq v6)) m7)))))))) :
    PW S mX3_isRight Q 0 [some (Aq 0), some (Iq x1)] [] mem := by
  refine pw_iload_n eX3_isRight_0 rfl rfl ?_
  refine pw_iconst eX3_isRight_1 ⟨by decide, by decide⟩ ?_
  refine pw_bipush eX3_isRight_2 ⟨by decide, by decide⟩ (by decide) ?_
  obtain ⟨v1, m2, hc3, h⟩ := h
  refine pw_cS (z := mX3_within) (av := [Iq x1, Iq 0, Iq 7]) (st := []) eX3_isRight_4 lk_RX3_44 rfl (by decide) (by decide) (Nat.le_of_ble_eq_true rfl) rfl hc3 ?_
  show PW S mX3_isRight Q 7 [some (Aq 0), some (Iq x1)] [Iq v1] m2
  refine pw_if_ne eX3_isRight_7 (fun c4 => ?_) (fun c4 => ?_)
  · have h := h.1 c4
    refine pw_aload_n eX3_isRight_17 rfl rfl ?_
    refine gf_RX3_10 rfl eX3_isRight_18 sh0 ?_
    refine gf_RX3_53 rfl eX3_isRight_21 (shR isR1) ?_
    refine pw_iload_n eX3_isRight_24 rfl rfl ?_
    obtain ⟨o5, h⟩ := h
    refine pw_iald eX3_isRight_25 sh2 o5 ?_
    exact pw_iret eX3_isRight_26 h
  · have h := h.2 c4
    refine pw_aload_n eX3_isRight_10 rfl rfl ?_
    refine pw_ldc (n := (-1000001)) eX3_isRight_11 ⟨by decide, by decide⟩ kc_RX3_48 ?_
    obtain ⟨v6, m7, hc8, h⟩ := h
    refine pw_cV (z := mX3_finding) (av := [Iq (-1000001)]) (st := []) eX3_isRight_13 lk_RX3_49 rfl (by decide) (by decide) sh0 rfl rfl (Nat.le_of_ble_eq_true rfl) rfl hc8 ?_
    show PW S mX3_isRight Q 16 [some (Aq 0), some (Iq x1)] [Iq v6] m7
    exact pw_iret eX3_isRight_16 h
set_option maxRecDepth 100000 in
theorem rg_X3_limit_0 {S : Sx} {Q : Option PV → Zm → Prop} {mem : Zm}   {x1 : Int} 
    (h : (∃ (v1 : Int) (m2 : Zm), Ct1 S mX3_within [Iq x1, Iq 1, Iq 9] mem (some (Iq v1)) m2 ∧ ((((¬ v1 = 0) → (Q (some (Iq (m2 1 6))) (mup m2 1 6 x1))) ∧ (¬ (¬ v1 = 0) → ((∃ (v5 : Int) (m6 : Zm), Ct1 S mX3_finding [Aq 0, Iq (-1000001)] m2 (some (Iq v5)) m6 ∧ (Q (some (Iq v5)) m6)))))))) :
    PW S mX3_limit Q 0 [some (Aq 0), some (Iq x1), none] [] mem := by
  refine pw_iload_n eX3_limit_0 rfl rfl ?_
  refine pw_iconst eX3_limit_1 ⟨by decide, by decide⟩ ?_
  refine pw_bipush eX3_limit_2 ⟨by decide, by decide⟩ (by decide) ?_
  obtain ⟨v1, m2, hc3, h⟩ := h
  refine pw_cS (z := mX3_within) (av := [Iq x1, Iq 1, Iq 9]) (st := []) eX3_limit_4 lk_RX3_44 rfl (by decide) (by decide) (Nat.le_of_ble_eq_true rfl) rfl hc3 ?_
  show PW S mX3_limit Q 7 [some (Aq 0), some (Iq x1), none] [Iq v1] m2
  refine pw_if_ne eX3_limit_7 (fun c4 => ?_) (fun c4 => ?_)
  · have h := h.1 c4
    refine pw_aload_n eX3_limit_17 rfl rfl ?_
    refine gf_RX3_10 rfl eX3_limit_18 sh0 ?_
    refine gf_RX3_56 rfl eX3_limit_21 (shR isR1) ?_
    refine pw_istore_n (ls2 := [some (Aq 0), some (Iq x1), some (Iq (m2 1 6))]) eX3_limit_24 rfl (by decide) rfl ?_
    refine pw_aload_n eX3_limit_25 rfl rfl ?_
    refine gf_RX3_10 rfl eX3_limit_26 sh0 ?_
    refine pw_iload_n eX3_limit_29 rfl rfl ?_
    refine pf_RX3_56 rfl eX3_limit_30 (shR isR1) ?_
    refine pw_iload_n eX3_limit_33 rfl rfl ?_
    exact pw_iret eX3_limit_34 h
  · have h := h.2 c4
    refine pw_aload_n eX3_limit_10 rfl rfl ?_
    refine pw_ldc (n := (-1000001)) eX3_limit_11 ⟨by decide, by decide⟩ kc_RX3_48 ?_
    obtain ⟨v5, m6, hc7, h⟩ := h
    refine pw_cV (z := mX3_finding) (av := [Iq (-1000001)]) (st := []) eX3_limit_13 lk_RX3_49 rfl (by decide) (by decide) sh0 rfl rfl (Nat.le_of_ble_eq_true rfl) rfl hc7 ?_
    show PW S mX3_limit Q 16 [some (Aq 0), some (Iq x1), none] [Iq v5] m6
    exact pw_iret eX3_limit_16 h
set_option maxRecDepth 100000 in
theorem rg_X3_child_0 {S : Sx} {Q : Option PV → Zm → Prop} {mem : Zm}   {x1 x2 : Int} 
    (h : (∃ (v1 : Int) (m2 : Zm), Ct1 S mX3_within [Iq x1, Iq 0, Iq 6] mem (some (Iq v1)) m2 ∧ ((((v1 = 0) → ((∃ (v5 : Int) (m6 : Zm), Ct1 S mX3_finding [Aq 0, Iq (-1000001)] m2 (some (Iq v5)) m6 ∧ (Q (some (Iq v5)) m6)))) ∧ (¬ (v1 = 0) → ((∃ (v8 : Int) (m9 : Zm), Ct1 S mX3_within [Iq x2, Iq 0, Iq 255] m2 (some (Iq v8)) m9 ∧ ((((¬ v8 = 0) → ((((m9 1 7 < 8) → ((∃ (v13 : Int) (m14 : Zm), Ct1 S mX0_addChild [Aq 1, Iq x1, Iq x2] m9 (some (Iq v13)) m14 ∧ (Q (some (Iq v13)) m14)))) ∧ (¬ (m9 1 7 < 8) → ((∃ (v16 : Int) (m17 : Zm), Ct1 S mX3_finding [Aq 0, Iq (-1000002)] m9 (some (Iq v16)) m17 ∧ (Q (some (Iq v16)) m17))))))) ∧ (¬ (¬ v8 = 0) → ((∃ (v19 : Int) (m20 : Zm), Ct1 S mX3_finding [Aq 0, Iq (-1000001)] m9 (some (Iq v19)) m20 ∧ (Q (some (Iq v19)) m20))))))))))))) :
    PW S mX3_child Q 0 [some (Aq 0), some (Iq x1), some (Iq x2)] [] mem := by
  refine pw_iload_n eX3_child_0 rfl rfl ?_
  refine pw_iconst eX3_child_1 ⟨by decide, by decide⟩ ?_
  refine pw_bipush eX3_child_2 ⟨by decide, by decide⟩ (by decide) ?_
  obtain ⟨v1, m2, hc3, h⟩ := h
  refine pw_cS (z := mX3_within) (av := [Iq x1, Iq 0, Iq 6]) (st := []) eX3_child_4 lk_RX3_44 rfl (by decide) (by decide) (Nat.le_of_ble_eq_true rfl) rfl hc3 ?_
  show PW S mX3_child Q 7 [some (Aq 0), some (Iq x1), some (Iq x2)] [Iq v1] m2
  refine pw_if_eq eX3_child_7 (fun c4 => ?_) (fun c4 => ?_)
  · have h := h.1 c4
    refine pw_aload_n eX3_child_21 rfl rfl ?_
    refine pw_ldc (n := (-1000001)) eX3_child_22 ⟨by decide, by decide⟩ kc_RX3_48 ?_
    obtain ⟨v5, m6, hc7, h⟩ := h
    refine pw_cV (z := mX3_finding) (av := [Iq (-1000001)]) (st := []) eX3_child_24 lk_RX3_49 rfl (by decide) (by decide) sh0 rfl rfl (Nat.le_of_ble_eq_true rfl) rfl hc7 ?_
    show PW S mX3_child Q 27 [some (Aq 0), some (Iq x1), some (Iq x2)] [Iq v5] m6
    exact pw_iret eX3_child_27 h
  · have h := h.2 c4
    refine pw_iload_n eX3_child_10 rfl rfl ?_
    refine pw_iconst eX3_child_11 ⟨by decide, by decide⟩ ?_
    refine pw_sipush eX3_child_12 ⟨by decide, by decide⟩ (by decide) ?_
    obtain ⟨v8, m9, hc10, h⟩ := h
    refine pw_cS (z := mX3_within) (av := [Iq x2, Iq 0, Iq 255]) (st := []) eX3_child_15 lk_RX3_44 rfl (by decide) (by decide) (Nat.le_of_ble_eq_true rfl) rfl hc10 ?_
    show PW S mX3_child Q 18 [some (Aq 0), some (Iq x1), some (Iq x2)] [Iq v8] m9
    refine pw_if_ne eX3_child_18 (fun c11 => ?_) (fun c11 => ?_)
    · have h := h.1 c11
      refine pw_aload_n eX3_child_28 rfl rfl ?_
      refine gf_RX3_10 rfl eX3_child_29 sh0 ?_
      refine gf_RX3_60 rfl eX3_child_32 (shR isR1) ?_
      refine pw_bipush eX3_child_35 ⟨by decide, by decide⟩ (by decide) ?_
      refine pw_icmp_lt eX3_child_37 (fun c12 => ?_) (fun c12 => ?_)
      · have h := h.1 c12
        refine pw_aload_n eX3_child_47 rfl rfl ?_
        refine gf_RX3_10 rfl eX3_child_48 sh0 ?_
        refine pw_iload_n eX3_child_51 rfl rfl ?_
        refine pw_iload_n eX3_child_52 rfl rfl ?_
        obtain ⟨v13, m14, hc15, h⟩ := h
        refine pw_cV (z := mX0_addChild) (av := [Iq x1, Iq x2]) (st := []) eX3_child_53 lk_RX3_64 rfl (by decide) (by decide) (shR isR1) rfl rfl (Nat.le_of_ble_eq_true rfl) rfl hc15 ?_
        show PW S mX3_child Q 56 [some (Aq 0), some (Iq x1), some (Iq x2)] [Iq v13] m14
        exact pw_iret eX3_child_56 h
      · have h := h.2 c12
        refine pw_aload_n eX3_child_40 rfl rfl ?_
        refine pw_ldc (n := (-1000002)) eX3_child_41 ⟨by decide, by decide⟩ kc_RX3_63 ?_
        obtain ⟨v16, m17, hc18, h⟩ := h
        refine pw_cV (z := mX3_finding) (av := [Iq (-1000002)]) (st := []) eX3_child_43 lk_RX3_49 rfl (by decide) (by decide) sh0 rfl rfl (Nat.le_of_ble_eq_true rfl) rfl hc18 ?_
        show PW S mX3_child Q 46 [some (Aq 0), some (Iq x1), some (Iq x2)] [Iq v16] m17
        exact pw_iret eX3_child_46 h
    · have h := h.2 c11
      refine pw_aload_n eX3_child_21 rfl rfl ?_
      refine pw_ldc (n := (-1000001)) eX3_child_22 ⟨by decide, by decide⟩ kc_RX3_48 ?_
      obtain ⟨v19, m20, hc21, h⟩ := h
      refine pw_cV (z := mX3_finding) (av := [Iq (-1000001)]) (st := []) eX3_child_24 lk_RX3_49 rfl (by decide) (by decide) sh0 rfl rfl (Nat.le_of_ble_eq_true rfl) rfl hc21 ?_
      show PW S mX3_child Q 27 [some (Aq 0), some (Iq x1), some (Iq x2)] [Iq v19] m20
      exact pw_iret eX3_child_27 h
set_option maxRecDepth 100000 in
theorem rg_X3_of_0 {S : Sx} {Q : Option PV → Zm → Prop} {mem : Zm}   {x1 x2 : Int} 
    (h : (∃ (v1 : Int) (m2 : Zm), Ct1 S mX0_has [Aq 1, Iq x1] mem (some (Iq v1)) m2 ∧ ((((v1 = 0) → ((∃ (v5 : Int) (m6 : Zm), Ct1 S mX3_finding [Aq 0, Iq (-1000001)] m2 (some (Iq v5)) m6 ∧ (Q (some (Iq v5)) m6)))) ∧ (¬ (v1 = 0) → ((∃ (v8 : Int) (m9 : Zm), Ct1 S mX3_within [Iq x2, Iq 0, Iq 8] m2 (some (Iq v8)) m9 ∧ ((((¬ v8 = 0) → ((((x2 = 6) → ((∃ (v13 : Int) (m14 : Zm), Ct1 S mX0_price [Aq 1, Iq x1] m9 (some (Iq v13)) m14 ∧ (Q (some (Iq v13)) m14)))) ∧ ((x2 = 7) → ((∃ (v16 : Int) (m17 : Zm), Ct1 S mX0_isLending [Aq 1, Iq x1] m9 (some (Iq v16)) m17 ∧ ((((v16 = 0) → (Q (some (Iq 0)) m17)) ∧ (¬ (v16 = 0) → (Q (some (Iq 1)) m17))))))) ∧ ((x2 = 8) → ((∃ (v20 : Int) (m21 : Zm), Ct1 S mX0_answeredSums [Aq 1, Iq x1] m9 (some (Iq v20)) m21 ∧ (Q (some (Iq v20)) m21)))) ∧ ((x2 < 6 ∨ 8 < x2) → ((∃ (v23 : Int) (m24 : Zm), Ct1 S mX0_fact [Aq 1, Iq x1, Iq x2] m9 (some (Iq v23)) m24 ∧ (Q (some (Iq v23)) m24))))))) ∧ (¬ (¬ v8 = 0) → ((∃ (v26 : Int) (m27 : Zm), Ct1 S mX3_finding [Aq 0, Iq (-1000001)] m9 (some (Iq v26)) m27 ∧ (Q (some (Iq v26)) m27))))))))))))) :
    PW S mX3_of Q 0 [some (Aq 0), some (Iq x1), some (Iq x2)] [] mem := by
  refine pw_aload_n eX3_of_0 rfl rfl ?_
  refine gf_RX3_10 rfl eX3_of_1 sh0 ?_
  refine pw_iload_n eX3_of_4 rfl rfl ?_
  obtain ⟨v1, m2, hc3, h⟩ := h
  refine pw_cV (z := mX0_has) (av := [Iq x1]) (st := []) eX3_of_5 lk_RX3_68 rfl (by decide) (by decide) (shR isR1) rfl rfl (Nat.le_of_ble_eq_true rfl) rfl hc3 ?_
  show PW S mX3_of Q 8 [some (Aq 0), some (Iq x1), some (Iq x2)] [Iq v1] m2
  refine pw_if_eq eX3_of_8 (fun c4 => ?_) (fun c4 => ?_)
  · have h := h.1 c4
    refine pw_aload_n eX3_of_21 rfl rfl ?_
    refine pw_ldc (n := (-1000001)) eX3_of_22 ⟨by decide, by decide⟩ kc_RX3_48 ?_
    obtain ⟨v5, m6, hc7, h⟩ := h
    refine pw_cV (z := mX3_finding) (av := [Iq (-1000001)]) (st := []) eX3_of_24 lk_RX3_49 rfl (by decide) (by decide) sh0 rfl rfl (Nat.le_of_ble_eq_true rfl) rfl hc7 ?_
    show PW S mX3_of Q 27 [some (Aq 0), some (Iq x1), some (Iq x2)] [Iq v5] m6
    exact pw_iret eX3_of_27 h
  · have h := h.2 c4
    refine pw_iload_n eX3_of_11 rfl rfl ?_
    refine pw_iconst eX3_of_12 ⟨by decide, by decide⟩ ?_
    refine pw_bipush eX3_of_13 ⟨by decide, by decide⟩ (by decide) ?_
    obtain ⟨v8, m9, hc10, h⟩ := h
    refine pw_cS (z := mX3_within) (av := [Iq x2, Iq 0, Iq 8]) (st := []) eX3_of_15 lk_RX3_44 rfl (by decide) (by decide) (Nat.le_of_ble_eq_true rfl) rfl hc10 ?_
    show PW S mX3_of Q 18 [some (Aq 0), some (Iq x1), some (Iq x2)] [Iq v8] m9
    refine pw_if_ne eX3_of_18 (fun c11 => ?_) (fun c11 => ?_)
    · have h := h.1 c11
      refine pw_iload_n eX3_of_28 rfl rfl ?_
      obtain ⟨hk0, hk1, hk2, hkd⟩ := h
      refine pw_tsw (ps := [(6, 56), (7, 65), (8, 82)]) (td := 91) eX3_of_29 rfl (by decide) (by decide) rfl ⟨fun c12 => ?_, fun c12 => ?_, fun c12 => ?_, trivial⟩ (fun c12 => ?_)
      · have h := hk0 c12
        refine pw_aload_n eX3_of_56 rfl rfl ?_
        refine gf_RX3_10 rfl eX3_of_57 sh0 ?_
        refine pw_iload_n eX3_of_60 rfl rfl ?_
        obtain ⟨v13, m14, hc15, h⟩ := h
        refine pw_cV (z := mX0_price) (av := [Iq x1]) (st := []) eX3_of_61 lk_RX3_72 rfl (by decide) (by decide) (shR isR1) rfl rfl (Nat.le_of_ble_eq_true rfl) rfl hc15 ?_
        show PW S mX3_of Q 64 [some (Aq 0), some (Iq x1), some (Iq x2)] [Iq v13] m14
        exact pw_iret eX3_of_64 h
      · have h := hk1 c12
        refine pw_aload_n eX3_of_65 rfl rfl ?_
        refine gf_RX3_10 rfl eX3_of_66 sh0 ?_
        refine pw_iload_n eX3_of_69 rfl rfl ?_
        obtain ⟨v16, m17, hc18, h⟩ := h
        refine pw_cV (z := mX0_isLending) (av := [Iq x1]) (st := []) eX3_of_70 lk_RX3_75 rfl (by decide) (by decide) (shR isR1) rfl rfl (Nat.le_of_ble_eq_true rfl) rfl hc18 ?_
        show PW S mX3_of Q 73 [some (Aq 0), some (Iq x1), some (Iq x2)] [Iq v16] m17
        refine pw_if_eq eX3_of_73 (fun c19 => ?_) (fun c19 => ?_)
        · have h := h.1 c19
          refine pw_iconst eX3_of_80 ⟨by decide, by decide⟩ ?_
          exact pw_iret eX3_of_81 h
        · have h := h.2 c19
          refine pw_iconst eX3_of_76 ⟨by decide, by decide⟩ ?_
          refine pw_goto eX3_of_77 ?_
          exact pw_iret eX3_of_81 h
      · have h := hk2 c12
        refine pw_aload_n eX3_of_82 rfl rfl ?_
        refine gf_RX3_10 rfl eX3_of_83 sh0 ?_
        refine pw_iload_n eX3_of_86 rfl rfl ?_
        obtain ⟨v20, m21, hc22, h⟩ := h
        refine pw_cV (z := mX0_answeredSums) (av := [Iq x1]) (st := []) eX3_of_87 lk_RX3_78 rfl (by decide) (by decide) (shR isR1) rfl rfl (Nat.le_of_ble_eq_true rfl) rfl hc22 ?_
        show PW S mX3_of Q 90 [some (Aq 0), some (Iq x1), some (Iq x2)] [Iq v20] m21
        exact pw_iret eX3_of_90 h
      · have h := hkd c12
        refine pw_aload_n eX3_of_91 rfl rfl ?_
        refine gf_RX3_10 rfl eX3_of_92 sh0 ?_
        refine pw_iload_n eX3_of_95 rfl rfl ?_
        refine pw_iload_n eX3_of_96 rfl rfl ?_
        obtain ⟨v23, m24, hc25, h⟩ := h
        refine pw_cV (z := mX0_fact) (av := [Iq x1, Iq x2]) (st := []) eX3_of_97 lk_RX3_81 rfl (by decide) (by decide) (shR isR1) rfl rfl (Nat.le_of_ble_eq_true rfl) rfl hc25 ?_
        show PW S mX3_of Q 100 [some (Aq 0), some (Iq x1), some (Iq x2)] [Iq v23] m24
        exact pw_iret eX3_of_100 h
    · have h := h.2 c11
      refine pw_aload_n eX3_of_21 rfl rfl ?_
      refine pw_ldc (n := (-1000001)) eX3_of_22 ⟨by decide, by decide⟩ kc_RX3_48 ?_
      obtain ⟨v26, m27, hc28, h⟩ := h
      refine pw_cV (z := mX3_finding) (av := [Iq (-1000001)]) (st := []) eX3_of_24 lk_RX3_49 rfl (by decide) (by decide) sh0 rfl rfl (Nat.le_of_ble_eq_true rfl) rfl hc28 ?_
      show PW S mX3_of Q 27 [some (Aq 0), some (Iq x1), some (Iq x2)] [Iq v26] m27
      exact pw_iret eX3_of_27 h
set_option maxRecDepth 100000 in
theorem rg_X3_change_0 {S : Sx} {Q : Option PV → Zm → Prop} {mem : Zm}   {x1 x2 x3 : Int} 
    (h : (∃ (v1 : Int) (m2 : Zm), Ct1 S mX0_has [Aq 1, Iq x1] mem (some (Iq v1)) m2 ∧ ((((v1 = 0) → ((∃ (v5 : Int) (m6 : Zm), Ct1 S mX3_finding [Aq 0, Iq (-1000001)] m2 (some (Iq v5)) m6 ∧ (Q (some (Iq v5)) m6)))) ∧ (¬ (v1 = 0) → ((∃ (v8 : Int) (m9 : Zm), Ct1 S mX3_within [Iq x2, Iq 0, Iq 5] m2 (some (Iq v8)) m9 ∧ ((((v8 = 0) → ((∃ (v12 : Int) (m13 : Zm), Ct1 S mX3_finding [Aq 0, Iq (-1000001)] m9 (some (Iq v12)) m13 ∧ (Q (some (Iq v12)) m13)))) ∧ (¬ (v8 = 0) → ((∃ (v15 : Int) (m16 : Zm), Ct1 S mX3_canBecome [Aq 0, Iq x1, Iq x2, Iq x3] m9 (some (Iq v15)) m16 ∧ ((((¬ v15 = 0) → ((∃ (v19 : Int) (m20 : Zm), Ct1 S mX0_fact [Aq 1, Iq x1, Iq x2] m16 (some (Iq v19)) m20 ∧ ((∃ (m23 : Zm), Ct1 S mX0_setFact [Aq 1, Iq x1, Iq x2, Iq x3] m20 none m23 ∧ (Q (some (Iq v19)) m23)))))) ∧ (¬ (¬ v15 = 0) → ((∃ (v25 : Int) (m26 : Zm), Ct1 S mX3_finding [Aq 0, Iq (-1000001)] m16 (some (Iq v25)) m26 ∧ (Q (some (Iq v25)) m26)))))))))))))))))) :
    PW S mX3_change Q 0 [some (Aq 0), some (Iq x1), some (Iq x2), some (Iq x3), none] [] mem := by
  refine pw_aload_n eX3_change_0 rfl rfl ?_
  refine gf_RX3_10 rfl eX3_change_1 sh0 ?_
  refine pw_iload_n eX3_change_4 rfl rfl ?_
  obtain ⟨v1, m2, hc3, h⟩ := h
  refine pw_cV (z := mX0_has) (av := [Iq x1]) (st := []) eX3_change_5 lk_RX3_68 rfl (by decide) (by decide) (shR isR1) rfl rfl (Nat.le_of_ble_eq_true rfl) rfl hc3 ?_
  show PW S mX3_change Q 8 [some (Aq 0), some (Iq x1), some (Iq x2), some (Iq x3), none] [Iq v1] m2
  refine pw_if_eq eX3_change_8 (fun c4 => ?_) (fun c4 => ?_)
  · have h := h.1 c4
    refine pw_aload_n eX3_change_30 rfl rfl ?_
    refine pw_ldc (n := (-1000001)) eX3_change_31 ⟨by decide, by decide⟩ kc_RX3_48 ?_
    obtain ⟨v5, m6, hc7, h⟩ := h
    refine pw_cV (z := mX3_finding) (av := [Iq (-1000001)]) (st := []) eX3_change_33 lk_RX3_49 rfl (by decide) (by decide) sh0 rfl rfl (Nat.le_of_ble_eq_true rfl) rfl hc7 ?_
    show PW S mX3_change Q 36 [some (Aq 0), some (Iq x1), some (Iq x2), some (Iq x3), none] [Iq v5] m6
    exact pw_iret eX3_change_36 h
  · have h := h.2 c4
    refine pw_iload_n eX3_change_11 rfl rfl ?_
    refine pw_iconst eX3_change_12 ⟨by decide, by decide⟩ ?_
    refine pw_iconst eX3_change_13 ⟨by decide, by decide⟩ ?_
    obtain ⟨v8, m9, hc10, h⟩ := h
    refine pw_cS (z := mX3_within) (av := [Iq x2, Iq 0, Iq 5]) (st := []) eX3_change_14 lk_RX3_44 rfl (by decide) (by decide) (Nat.le_of_ble_eq_true rfl) rfl hc10 ?_
    show PW S mX3_change Q 17 [some (Aq 0), some (Iq x1), some (Iq x2), some (Iq x3), none] [Iq v8] m9
    refine pw_if_eq eX3_change_17 (fun c11 => ?_) (fun c11 => ?_)
    · have h := h.1 c11
      refine pw_aload_n eX3_change_30 rfl rfl ?_
      refine pw_ldc (n := (-1000001)) eX3_change_31 ⟨by decide, by decide⟩ kc_RX3_48 ?_
      obtain ⟨v12, m13, hc14, h⟩ := h
      refine pw_cV (z := mX3_finding) (av := [Iq (-1000001)]) (st := []) eX3_change_33 lk_RX3_49 rfl (by decide) (by decide) sh0 rfl rfl (Nat.le_of_ble_eq_true rfl) rfl hc14 ?_
      show PW S mX3_change Q 36 [some (Aq 0), some (Iq x1), some (Iq x2), some (Iq x3), none] [Iq v12] m13
      exact pw_iret eX3_change_36 h
    · have h := h.2 c11
      refine pw_aload_n eX3_change_20 rfl rfl ?_
      refine pw_iload_n eX3_change_21 rfl rfl ?_
      refine pw_iload_n eX3_change_22 rfl rfl ?_
      refine pw_iload_n eX3_change_23 rfl rfl ?_
      obtain ⟨v15, m16, hc17, h⟩ := h
      refine pw_cV (z := mX3_canBecome) (av := [Iq x1, Iq x2, Iq x3]) (st := []) eX3_change_24 lk_RX3_84 rfl (by decide) (by decide) sh0 rfl rfl (Nat.le_of_ble_eq_true rfl) rfl hc17 ?_
      show PW S mX3_change Q 27 [some (Aq 0), some (Iq x1), some (Iq x2), some (Iq x3), none] [Iq v15] m16
      refine pw_if_ne eX3_change_27 (fun c18 => ?_) (fun c18 => ?_)
      · have h := h.1 c18
        refine pw_aload_n eX3_change_37 rfl rfl ?_
        refine gf_RX3_10 rfl eX3_change_38 sh0 ?_
        refine pw_iload_n eX3_change_41 rfl rfl ?_
        refine pw_iload_n eX3_change_42 rfl rfl ?_
        obtain ⟨v19, m20, hc21, h⟩ := h
        refine pw_cV (z := mX0_fact) (av := [Iq x1, Iq x2]) (st := []) eX3_change_43 lk_RX3_81 rfl (by decide) (by decide) (shR isR1) rfl rfl (Nat.le_of_ble_eq_true rfl) rfl hc21 ?_
        show PW S mX3_change Q 46 [some (Aq 0), some (Iq x1), some (Iq x2), some (Iq x3), none] [Iq v19] m20
        refine pw_istore (ls2 := [some (Aq 0), some (Iq x1), some (Iq x2), some (Iq x3), some (Iq v19)]) eX3_change_46 (by decide) rfl ?_
        refine pw_aload_n eX3_change_48 rfl rfl ?_
        refine gf_RX3_10 rfl eX3_change_49 sh0 ?_
        refine pw_iload_n eX3_change_52 rfl rfl ?_
        refine pw_iload_n eX3_change_53 rfl rfl ?_
        refine pw_iload_n eX3_change_54 rfl rfl ?_
        obtain ⟨m23, hc24, h⟩ := h
        refine pw_cV (z := mX0_setFact) (av := [Iq x1, Iq x2, Iq x3]) (st := []) eX3_change_55 lk_RX3_87 rfl (by decide) (by decide) (shR isR1) rfl rfl (Nat.le_of_ble_eq_true rfl) rfl hc24 ?_
        show PW S mX3_change Q 58 [some (Aq 0), some (Iq x1), some (Iq x2), some (Iq x3), some (Iq v19)] [] m23
        refine pw_iload eX3_change_58 rfl ?_
        exact pw_iret eX3_change_60 h
      · have h := h.2 c18
        refine pw_aload_n eX3_change_30 rfl rfl ?_
        refine pw_ldc (n := (-1000001)) eX3_change_31 ⟨by decide, by decide⟩ kc_RX3_48 ?_
        obtain ⟨v25, m26, hc27, h⟩ := h
        refine pw_cV (z := mX3_finding) (av := [Iq (-1000001)]) (st := []) eX3_change_33 lk_RX3_49 rfl (by decide) (by decide) sh0 rfl rfl (Nat.le_of_ble_eq_true rfl) rfl hc27 ?_
        show PW S mX3_change Q 36 [some (Aq 0), some (Iq x1), some (Iq x2), some (Iq x3), none] [Iq v25] m26
        exact pw_iret eX3_change_36 h
set_option maxRecDepth 100000 in
theorem rg_X3_answer_0 {S : Sx} {Q : Option PV → Zm → Prop} {mem : Zm}   {x1 x2 : Int} 
    (h : (∃ (v1 : Int) (m2 : Zm), Ct1 S mX0_has [Aq 1, Iq x1] mem (some (Iq v1)) m2 ∧ ((((v1 = 0) → ((∃ (v5 : Int) (m6 : Zm), Ct1 S mX3_finding [Aq 0, Iq (-1000001)] m2 (some (Iq v5)) m6 ∧ (Q (some (Iq v5)) m6)))) ∧ (¬ (v1 = 0) → ((∃ (v8 : Int) (m9 : Zm), Ct1 S mX3_within [Iq x2, Iq 0, Iq 7] m2 (some (Iq v8)) m9 ∧ ((((¬ v8 = 0) → ((∃ (v12 : Int) (m13 : Zm), Ct1 S mX0_answerOf [Aq 1, Iq x1, Iq x2] m9 (some (Iq v12)) m13 ∧ (Q (some (Iq v12)) m13)))) ∧ (¬ (¬ v8 = 0) → ((∃ (v15 : Int) (m16 : Zm), Ct1 S mX3_finding [Aq 0, Iq (-1000001)] m9 (some (Iq v15)) m16 ∧ (Q (some (Iq v15)) m16))))))))))))) :
    PW S mX3_answer Q 0 [some (Aq 0), some (Iq x1), some (Iq x2)] [] mem := by
  refine pw_aload_n eX3_answer_0 rfl rfl ?_
  refine gf_RX3_10 rfl eX3_answer_1 sh0 ?_
  refine pw_iload_n eX3_answer_4 rfl rfl ?_
  obtain ⟨v1, m2, hc3, h⟩ := h
  refine pw_cV (z := mX0_has) (av := [Iq x1]) (st := []) eX3_answer_5 lk_RX3_68 rfl (by decide) (by decide) (shR isR1) rfl rfl (Nat.le_of_ble_eq_true rfl) rfl hc3 ?_
  show PW S mX3_answer Q 8 [some (Aq 0), some (Iq x1), some (Iq x2)] [Iq v1] m2
  refine pw_if_eq eX3_answer_8 (fun c4 => ?_) (fun c4 => ?_)
  · have h := h.1 c4
    refine pw_aload_n eX3_answer_21 rfl rfl ?_
    refine pw_ldc (n := (-1000001)) eX3_answer_22 ⟨by decide, by decide⟩ kc_RX3_48 ?_
    obtain ⟨v5, m6, hc7, h⟩ := h
    refine pw_cV (z := mX3_finding) (av := [Iq (-1000001)]) (st := []) eX3_answer_24 lk_RX3_49 rfl (by decide) (by decide) sh0 rfl rfl (Nat.le_of_ble_eq_true rfl) rfl hc7 ?_
    show PW S mX3_answer Q 27 [some (Aq 0), some (Iq x1), some (Iq x2)] [Iq v5] m6
    exact pw_iret eX3_answer_27 h
  · have h := h.2 c4
    refine pw_iload_n eX3_answer_11 rfl rfl ?_
    refine pw_iconst eX3_answer_12 ⟨by decide, by decide⟩ ?_
    refine pw_bipush eX3_answer_13 ⟨by decide, by decide⟩ (by decide) ?_
    obtain ⟨v8, m9, hc10, h⟩ := h
    refine pw_cS (z := mX3_within) (av := [Iq x2, Iq 0, Iq 7]) (st := []) eX3_answer_15 lk_RX3_44 rfl (by decide) (by decide) (Nat.le_of_ble_eq_true rfl) rfl hc10 ?_
    show PW S mX3_answer Q 18 [some (Aq 0), some (Iq x1), some (Iq x2)] [Iq v8] m9
    refine pw_if_ne eX3_answer_18 (fun c11 => ?_) (fun c11 => ?_)
    · have h := h.1 c11
      refine pw_aload_n eX3_answer_28 rfl rfl ?_
      refine gf_RX3_10 rfl eX3_answer_29 sh0 ?_
      refine pw_iload_n eX3_answer_32 rfl rfl ?_
      refine pw_iload_n eX3_answer_33 rfl rfl ?_
      obtain ⟨v12, m13, hc14, h⟩ := h
      refine pw_cV (z := mX0_answerOf) (av := [Iq x1, Iq x2]) (st := []) eX3_answer_34 lk_RX3_91 rfl (by decide) (by decide) (shR isR1) rfl rfl (Nat.le_of_ble_eq_true rfl) rfl hc14 ?_
      show PW S mX3_answer Q 37 [some (Aq 0), some (Iq x1), some (Iq x2)] [Iq v12] m13
      exact pw_iret eX3_answer_37 h
    · have h := h.2 c11
      refine pw_aload_n eX3_answer_21 rfl rfl ?_
      refine pw_ldc (n := (-1000001)) eX3_answer_22 ⟨by decide, by decide⟩ kc_RX3_48 ?_
      obtain ⟨v15, m16, hc17, h⟩ := h
      refine pw_cV (z := mX3_finding) (av := [Iq (-1000001)]) (st := []) eX3_answer_24 lk_RX3_49 rfl (by decide) (by decide) sh0 rfl rfl (Nat.le_of_ble_eq_true rfl) rfl hc17 ?_
      show PW S mX3_answer Q 27 [some (Aq 0), some (Iq x1), some (Iq x2)] [Iq v15] m16
      exact pw_iret eX3_answer_27 h
set_option maxRecDepth 100000 in
theorem rg_X3_slips_0 {S : Sx} {Q : Option PV → Zm → Prop} {mem : Zm}   {x1 x2 x3 : Int} 
    (h : (∃ (v1 : Int) (m2 : Zm), Ct1 S mX0_has [Aq 1, Iq x1] mem (some (Iq v1)) m2 ∧ ((((v1 = 0) → ((∃ (v5 : Int) (m6 : Zm), Ct1 S mX3_finding [Aq 0, Iq (-1000001)] m2 (some (Iq v5)) m6 ∧ (Q (some (Iq v5)) m6)))) ∧ (¬ (v1 = 0) → ((∃ (v8 : Int) (m9 : Zm), Ct1 S mX3_within [Iq x2, Iq 0, Iq 7] m2 (some (Iq v8)) m9 ∧ ((((v8 = 0) → ((∃ (v12 : Int) (m13 : Zm), Ct1 S mX3_finding [Aq 0, Iq (-1000001)] m9 (some (Iq v12)) m13 ∧ (Q (some (Iq v12)) m13)))) ∧ (¬ (v8 = 0) → ((∃ (v15 : Int) (m16 : Zm), Ct1 S mX3_within [Iq x3, Iq (-1), Iq 99] m9 (some (Iq v15)) m16 ∧ ((((¬ v15 = 0) → ((∃ (v19 : Int) (m20 : Zm), Ct1 S mX0_slipOf [Aq 1, Iq x1, Iq x2, Iq x3] m16 (some (Iq v19)) m20 ∧ (Q (some (Iq v19)) m20)))) ∧ (¬ (¬ v15 = 0) → ((∃ (v22 : Int) (m23 : Zm), Ct1 S mX3_finding [Aq 0, Iq (-1000001)] m16 (some (Iq v22)) m23 ∧ (Q (some (Iq v22)) m23)))))))))))))))))) :
    PW S mX3_slips Q 0 [some (Aq 0), some (Iq x1), some (Iq x2), some (Iq x3)] [] mem := by
  refine pw_aload_n eX3_slips_0 rfl rfl ?_
  refine gf_RX3_10 rfl eX3_slips_1 sh0 ?_
  refine pw_iload_n eX3_slips_4 rfl rfl ?_
  obtain ⟨v1, m2, hc3, h⟩ := h
  refine pw_cV (z := mX0_has) (av := [Iq x1]) (st := []) eX3_slips_5 lk_RX3_68 rfl (by decide) (by decide) (shR isR1) rfl rfl (Nat.le_of_ble_eq_true rfl) rfl hc3 ?_
  show PW S mX3_slips Q 8 [some (Aq 0), some (Iq x1), some (Iq x2), some (Iq x3)] [Iq v1] m2
  refine pw_if_eq eX3_slips_8 (fun c4 => ?_) (fun c4 => ?_)
  · have h := h.1 c4
    refine pw_aload_n eX3_slips_31 rfl rfl ?_
    refine pw_ldc (n := (-1000001)) eX3_slips_32 ⟨by decide, by decide⟩ kc_RX3_48 ?_
    obtain ⟨v5, m6, hc7, h⟩ := h
    refine pw_cV (z := mX3_finding) (av := [Iq (-1000001)]) (st := []) eX3_slips_34 lk_RX3_49 rfl (by decide) (by decide) sh0 rfl rfl (Nat.le_of_ble_eq_true rfl) rfl hc7 ?_
    show PW S mX3_slips Q 37 [some (Aq 0), some (Iq x1), some (Iq x2), some (Iq x3)] [Iq v5] m6
    exact pw_iret eX3_slips_37 h
  · have h := h.2 c4
    refine pw_iload_n eX3_slips_11 rfl rfl ?_
    refine pw_iconst eX3_slips_12 ⟨by decide, by decide⟩ ?_
    refine pw_bipush eX3_slips_13 ⟨by decide, by decide⟩ (by decide) ?_
    obtain ⟨v8, m9, hc10, h⟩ := h
    refine pw_cS (z := mX3_within) (av := [Iq x2, Iq 0, Iq 7]) (st := []) eX3_slips_15 lk_RX3_44 rfl (by decide) (by decide) (Nat.le_of_ble_eq_true rfl) rfl hc10 ?_
    show PW S mX3_slips Q 18 [some (Aq 0), some (Iq x1), some (Iq x2), some (Iq x3)] [Iq v8] m9
    refine pw_if_eq eX3_slips_18 (fun c11 => ?_) (fun c11 => ?_)
    · have h := h.1 c11
      refine pw_aload_n eX3_slips_31 rfl rfl ?_
      refine pw_ldc (n := (-1000001)) eX3_slips_32 ⟨by decide, by decide⟩ kc_RX3_48 ?_
      obtain ⟨v12, m13, hc14, h⟩ := h
      refine pw_cV (z := mX3_finding) (av := [Iq (-1000001)]) (st := []) eX3_slips_34 lk_RX3_49 rfl (by decide) (by decide) sh0 rfl rfl (Nat.le_of_ble_eq_true rfl) rfl hc14 ?_
      show PW S mX3_slips Q 37 [some (Aq 0), some (Iq x1), some (Iq x2), some (Iq x3)] [Iq v12] m13
      exact pw_iret eX3_slips_37 h
    · have h := h.2 c11
      refine pw_iload_n eX3_slips_21 rfl rfl ?_
      refine pw_iconst eX3_slips_22 ⟨by decide, by decide⟩ ?_
      refine pw_bipush eX3_slips_23 ⟨by decide, by decide⟩ (by decide) ?_
      obtain ⟨v15, m16, hc17, h⟩ := h
      refine pw_cS (z := mX3_within) (av := [Iq x3, Iq (-1), Iq 99]) (st := []) eX3_slips_25 lk_RX3_44 rfl (by decide) (by decide) (Nat.le_of_ble_eq_true rfl) rfl hc17 ?_
      show PW S mX3_slips Q 28 [some (Aq 0), some (Iq x1), some (Iq x2), some (Iq x3)] [Iq v15] m16
      refine pw_if_ne eX3_slips_28 (fun c18 => ?_) (fun c18 => ?_)
      · have h := h.1 c18
        refine pw_aload_n eX3_slips_38 rfl rfl ?_
        refine gf_RX3_10 rfl eX3_slips_39 sh0 ?_
        refine pw_iload_n eX3_slips_42 rfl rfl ?_
        refine pw_iload_n eX3_slips_43 rfl rfl ?_
        refine pw_iload_n eX3_slips_44 rfl rfl ?_
        obtain ⟨v19, m20, hc21, h⟩ := h
        refine pw_cV (z := mX0_slipOf) (av := [Iq x1, Iq x2, Iq x3]) (st := []) eX3_slips_45 lk_RX3_94 rfl (by decide) (by decide) (shR isR1) rfl rfl (Nat.le_of_ble_eq_true rfl) rfl hc21 ?_
        show PW S mX3_slips Q 48 [some (Aq 0), some (Iq x1), some (Iq x2), some (Iq x3)] [Iq v19] m20
        exact pw_iret eX3_slips_48 h
      · have h := h.2 c18
        refine pw_aload_n eX3_slips_31 rfl rfl ?_
        refine pw_ldc (n := (-1000001)) eX3_slips_32 ⟨by decide, by decide⟩ kc_RX3_48 ?_
        obtain ⟨v22, m23, hc24, h⟩ := h
        refine pw_cV (z := mX3_finding) (av := [Iq (-1000001)]) (st := []) eX3_slips_34 lk_RX3_49 rfl (by decide) (by decide) sh0 rfl rfl (Nat.le_of_ble_eq_true rfl) rfl hc24 ?_
        show PW S mX3_slips Q 37 [some (Aq 0), some (Iq x1), some (Iq x2), some (Iq x3)] [Iq v22] m23
        exact pw_iret eX3_slips_37 h
set_option maxRecDepth 100000 in
theorem rg_X3_alike_0 {S : Sx} {Q : Option PV → Zm → Prop} {mem : Zm}   {x1 x2 : Int} 
    (h : (∃ (v1 : Int) (m2 : Zm), Ct1 S mX0_has [Aq 1, Iq x1] mem (some (Iq v1)) m2 ∧ ((((v1 = 0) → ((∃ (v5 : Int) (m6 : Zm), Ct1 S mX3_finding [Aq 0, Iq (-1000001)] m2 (some (Iq v5)) m6 ∧ (Q (some (Iq v5)) m6)))) ∧ (¬ (v1 = 0) → ((∃ (v8 : Int) (m9 : Zm), Ct1 S mX0_has [Aq 1, Iq x2] m2 (some (Iq v8)) m9 ∧ ((((v8 = 0) → ((∃ (v12 : Int) (m13 : Zm), Ct1 S mX3_finding [Aq 0, Iq (-1000001)] m9 (some (Iq v12)) m13 ∧ (Q (some (Iq v12)) m13)))) ∧ (¬ (v8 = 0) → ((((¬ x1 = x2) → ((∃ (v16 : Int) (m17 : Zm), Ct1 S mX0_alikeSums [Aq 1, Iq x1, Iq x2] m9 (some (Iq v16)) m17 ∧ (Q (some (Iq v16)) m17)))) ∧ (¬ (¬ x1 = x2) → ((∃ (v19 : Int) (m20 : Zm), Ct1 S mX3_finding [Aq 0, Iq (-1000001)] m9 (some (Iq v19)) m20 ∧ (Q (some (Iq v19)) m20)))))))))))))))) :
    PW S mX3_alike Q 0 [some (Aq 0), some (Iq x1), some (Iq x2)] [] mem := by
  refine pw_aload_n eX3_alike_0 rfl rfl ?_
  refine gf_RX3_10 rfl eX3_alike_1 sh0 ?_
  refine pw_iload_n eX3_alike_4 rfl rfl ?_
  obtain ⟨v1, m2, hc3, h⟩ := h
  refine pw_cV (z := mX0_has) (av := [Iq x1]) (st := []) eX3_alike_5 lk_RX3_68 rfl (by decide) (by decide) (shR isR1) rfl rfl (Nat.le_of_ble_eq_true rfl) rfl hc3 ?_
  show PW S mX3_alike Q 8 [some (Aq 0), some (Iq x1), some (Iq x2)] [Iq v1] m2
  refine pw_if_eq eX3_alike_8 (fun c4 => ?_) (fun c4 => ?_)
  · have h := h.1 c4
    refine pw_aload_n eX3_alike_27 rfl rfl ?_
    refine pw_ldc (n := (-1000001)) eX3_alike_28 ⟨by decide, by decide⟩ kc_RX3_48 ?_
    obtain ⟨v5, m6, hc7, h⟩ := h
    refine pw_cV (z := mX3_finding) (av := [Iq (-1000001)]) (st := []) eX3_alike_30 lk_RX3_49 rfl (by decide) (by decide) sh0 rfl rfl (Nat.le_of_ble_eq_true rfl) rfl hc7 ?_
    show PW S mX3_alike Q 33 [some (Aq 0), some (Iq x1), some (Iq x2)] [Iq v5] m6
    exact pw_iret eX3_alike_33 h
  · have h := h.2 c4
    refine pw_aload_n eX3_alike_11 rfl rfl ?_
    refine gf_RX3_10 rfl eX3_alike_12 sh0 ?_
    refine pw_iload_n eX3_alike_15 rfl rfl ?_
    obtain ⟨v8, m9, hc10, h⟩ := h
    refine pw_cV (z := mX0_has) (av := [Iq x2]) (st := []) eX3_alike_16 lk_RX3_68 rfl (by decide) (by decide) (shR isR1) rfl rfl (Nat.le_of_ble_eq_true rfl) rfl hc10 ?_
    show PW S mX3_alike Q 19 [some (Aq 0), some (Iq x1), some (Iq x2)] [Iq v8] m9
    refine pw_if_eq eX3_alike_19 (fun c11 => ?_) (fun c11 => ?_)
    · have h := h.1 c11
      refine pw_aload_n eX3_alike_27 rfl rfl ?_
      refine pw_ldc (n := (-1000001)) eX3_alike_28 ⟨by decide, by decide⟩ kc_RX3_48 ?_
      obtain ⟨v12, m13, hc14, h⟩ := h
      refine pw_cV (z := mX3_finding) (av := [Iq (-1000001)]) (st := []) eX3_alike_30 lk_RX3_49 rfl (by decide) (by decide) sh0 rfl rfl (Nat.le_of_ble_eq_true rfl) rfl hc14 ?_
      show PW S mX3_alike Q 33 [some (Aq 0), some (Iq x1), some (Iq x2)] [Iq v12] m13
      exact pw_iret eX3_alike_33 h
    · have h := h.2 c11
      refine pw_iload_n eX3_alike_22 rfl rfl ?_
      refine pw_iload_n eX3_alike_23 rfl rfl ?_
      refine pw_icmp_ne eX3_alike_24 (fun c15 => ?_) (fun c15 => ?_)
      · have h := h.1 c15
        refine pw_aload_n eX3_alike_34 rfl rfl ?_
        refine gf_RX3_10 rfl eX3_alike_35 sh0 ?_
        refine pw_iload_n eX3_alike_38 rfl rfl ?_
        refine pw_iload_n eX3_alike_39 rfl rfl ?_
        obtain ⟨v16, m17, hc18, h⟩ := h
        refine pw_cV (z := mX0_alikeSums) (av := [Iq x1, Iq x2]) (st := []) eX3_alike_40 lk_RX3_98 rfl (by decide) (by decide) (shR isR1) rfl rfl (Nat.le_of_ble_eq_true rfl) rfl hc18 ?_
        show PW S mX3_alike Q 43 [some (Aq 0), some (Iq x1), some (Iq x2)] [Iq v16] m17
        exact pw_iret eX3_alike_43 h
      · have h := h.2 c15
        refine pw_aload_n eX3_alike_27 rfl rfl ?_
        refine pw_ldc (n := (-1000001)) eX3_alike_28 ⟨by decide, by decide⟩ kc_RX3_48 ?_
        obtain ⟨v19, m20, hc21, h⟩ := h
        refine pw_cV (z := mX3_finding) (av := [Iq (-1000001)]) (st := []) eX3_alike_30 lk_RX3_49 rfl (by decide) (by decide) sh0 rfl rfl (Nat.le_of_ble_eq_true rfl) rfl hc21 ?_
        show PW S mX3_alike Q 33 [some (Aq 0), some (Iq x1), some (Iq x2)] [Iq v19] m20
        exact pw_iret eX3_alike_33 h
set_option maxRecDepth 100000 in
theorem rg_X3_go_0 {S : Sx} {Q : Option PV → Zm → Prop} {mem : Zm}   {x1 : Int} 
    (h : (∃ (v1 : Int) (m2 : Zm), Ct1 S mX3_within [Iq x1, Iq 1, Iq 60] mem (some (Iq v1)) m2 ∧ ((((¬ v1 = 0) → ((in32 ((m2 1 8) + x1)) ∧ ((((m2 1 8) + x1 ≤ 99999) → ((∃ (m8 : Zm), Ct1 S mX0_passDays [Aq 1, Iq x1] m2 none m8 ∧ ((∃ (v10 : Int) (m11 : Zm), Ct1 S mX0_total [Aq 1, Iq 3] m8 (some (Iq v10)) m11 ∧ (Q (some (Iq v10)) m11)))))) ∧ (¬ ((m2 1 8) + x1 ≤ 99999) → ((∃ (v13 : Int) (m14 : Zm), Ct1 S mX3_finding [Aq 0, Iq (-1000005)] m2 (some (Iq v13)) m14 ∧ (Q (some (Iq v13)) m14))))))) ∧ (¬ (¬ v1 = 0) → ((∃ (v16 : Int) (m17 : Zm), Ct1 S mX3_finding [Aq 0, Iq (-1000001)] m2 (some (Iq v16)) m17 ∧ (Q (some (Iq v16)) m17)))))))) :
    PW S mX3_go Q 0 [some (Aq 0), some (Iq x1)] [] mem := by
  refine pw_iload_n eX3_go_0 rfl rfl ?_
  refine pw_iconst eX3_go_1 ⟨by decide, by decide⟩ ?_
  refine pw_bipush eX3_go_2 ⟨by decide, by decide⟩ (by decide) ?_
  obtain ⟨v1, m2, hc3, h⟩ := h
  refine pw_cS (z := mX3_within) (av := [Iq x1, Iq 1, Iq 60]) (st := []) eX3_go_4 lk_RX3_44 rfl (by decide) (by decide) (Nat.le_of_ble_eq_true rfl) rfl hc3 ?_
  show PW S mX3_go Q 7 [some (Aq 0), some (Iq x1)] [Iq v1] m2
  refine pw_if_ne eX3_go_7 (fun c4 => ?_) (fun c4 => ?_)
  · have h := h.1 c4
    refine pw_aload_n eX3_go_17 rfl rfl ?_
    refine gf_RX3_10 rfl eX3_go_18 sh0 ?_
    refine gf_RX3_101 rfl eX3_go_21 (shR isR1) ?_
    refine pw_iload_n eX3_go_24 rfl rfl ?_
    obtain ⟨o5, h⟩ := h
    refine pw_iadd eX3_go_25 o5 ?_
    refine pw_ldc (n := 99999) eX3_go_26 ⟨by decide, by decide⟩ kc_RX3_104 ?_
    refine pw_icmp_le eX3_go_28 (fun c6 => ?_) (fun c6 => ?_)
    · have h := h.1 c6
      refine pw_aload_n eX3_go_38 rfl rfl ?_
      refine gf_RX3_10 rfl eX3_go_39 sh0 ?_
      refine pw_iload_n eX3_go_42 rfl rfl ?_
      obtain ⟨m8, hc9, h⟩ := h
      refine pw_cV (z := mX0_passDays) (av := [Iq x1]) (st := []) eX3_go_43 lk_RX3_106 rfl (by decide) (by decide) (shR isR1) rfl rfl (Nat.le_of_ble_eq_true rfl) rfl hc9 ?_
      show PW S mX3_go Q 46 [some (Aq 0), some (Iq x1)] [] m8
      refine pw_aload_n eX3_go_46 rfl rfl ?_
      refine gf_RX3_10 rfl eX3_go_47 sh0 ?_
      refine pw_iconst eX3_go_50 ⟨by decide, by decide⟩ ?_
      obtain ⟨v10, m11, hc12, h⟩ := h
      refine pw_cV (z := mX0_total) (av := [Iq 3]) (st := []) eX3_go_51 lk_RX3_110 rfl (by decide) (by decide) (shR isR1) rfl rfl (Nat.le_of_ble_eq_true rfl) rfl hc12 ?_
      show PW S mX3_go Q 54 [some (Aq 0), some (Iq x1)] [Iq v10] m11
      exact pw_iret eX3_go_54 h
    · have h := h.2 c6
      refine pw_aload_n eX3_go_31 rfl rfl ?_
      refine pw_ldc (n := (-1000005)) eX3_go_32 ⟨by decide, by decide⟩ kc_RX3_105 ?_
      obtain ⟨v13, m14, hc15, h⟩ := h
      refine pw_cV (z := mX3_finding) (av := [Iq (-1000005)]) (st := []) eX3_go_34 lk_RX3_49 rfl (by decide) (by decide) sh0 rfl rfl (Nat.le_of_ble_eq_true rfl) rfl hc15 ?_
      show PW S mX3_go Q 37 [some (Aq 0), some (Iq x1)] [Iq v13] m14
      exact pw_iret eX3_go_37 h
  · have h := h.2 c4
    refine pw_aload_n eX3_go_10 rfl rfl ?_
    refine pw_ldc (n := (-1000001)) eX3_go_11 ⟨by decide, by decide⟩ kc_RX3_48 ?_
    obtain ⟨v16, m17, hc18, h⟩ := h
    refine pw_cV (z := mX3_finding) (av := [Iq (-1000001)]) (st := []) eX3_go_13 lk_RX3_49 rfl (by decide) (by decide) sh0 rfl rfl (Nat.le_of_ble_eq_true rfl) rfl hc18 ?_
    show PW S mX3_go Q 16 [some (Aq 0), some (Iq x1)] [Iq v16] m17
    exact pw_iret eX3_go_16 h
set_option maxRecDepth 100000 in
theorem rg_X3_now_0 {S : Sx} {Q : Option PV → Zm → Prop} {mem : Zm}   {x1 : Int} 
    (h : (((x1 = 0) → (Q (some (Iq (mem 1 8))) mem)) ∧ ((x1 = 1) → ((∃ (v2 : Int) (m3 : Zm), Ct1 S mX0_total [Aq 1, Iq 3] mem (some (Iq v2)) m3 ∧ (Q (some (Iq v2)) m3)))) ∧ ((x1 = 2) → ((∃ (v5 : Int) (m6 : Zm), Ct1 S mX0_total [Aq 1, Iq 5] mem (some (Iq v5)) m6 ∧ (Q (some (Iq v5)) m6)))) ∧ ((x1 = 3) → ((∃ (v8 : Int) (m9 : Zm), Ct1 S mX0_total [Aq 1, Iq 4] mem (some (Iq v8)) m9 ∧ (Q (some (Iq v8)) m9)))) ∧ ((x1 = 4) → ((∃ (v11 : Int) (m12 : Zm), Ct1 S mX0_copiedChildren [Aq 1] mem (some (Iq v11)) m12 ∧ (Q (some (Iq v11)) m12)))) ∧ ((x1 = 5) → ((∃ (v14 : Int) (m15 : Zm), Ct1 S mX0_bestChildren [Aq 1] mem (some (Iq v14)) m15 ∧ (Q (some (Iq v14)) m15)))) ∧ ((x1 = 6) → ((∃ (v17 : Int) (m18 : Zm), Ct1 S mX0_unknownSums [Aq 1] mem (some (Iq v17)) m18 ∧ (Q (some (Iq v17)) m18)))) ∧ ((x1 < 0 ∨ 6 < x1) → ((∃ (v20 : Int) (m21 : Zm), Ct1 S mX3_finding [Aq 0, Iq (-1000001)] mem (some (Iq v20)) m21 ∧ (Q (some (Iq v20)) m21)))))) :
    PW S mX3_now Q 0 [some (Aq 0), some (Iq x1)] [] mem := by
  refine pw_iload_n eX3_now_0 rfl rfl ?_
  obtain ⟨hk0, hk1, hk2, hk3, hk4, hk5, hk6, hkd⟩ := h
  refine pw_tsw (ps := [(0, 44), (1, 52), (2, 61), (3, 70), (4, 79), (5, 87), (6, 95)]) (td := 103) eX3_now_1 rfl (by decide) (by decide) rfl ⟨fun c1 => ?_, fun c1 => ?_, fun c1 => ?_, fun c1 => ?_, fun c1 => ?_, fun c1 => ?_, fun c1 => ?_, trivial⟩ (fun c1 => ?_)
  · have h := hk0 c1
    refine pw_aload_n eX3_now_44 rfl rfl ?_
    refine gf_RX3_10 rfl eX3_now_45 sh0 ?_
    refine gf_RX3_101 rfl eX3_now_48 (shR isR1) ?_
    exact pw_iret eX3_now_51 h
  · have h := hk1 c1
    refine pw_aload_n eX3_now_52 rfl rfl ?_
    refine gf_RX3_10 rfl eX3_now_53 sh0 ?_
    refine pw_iconst eX3_now_56 ⟨by decide, by decide⟩ ?_
    obtain ⟨v2, m3, hc4, h⟩ := h
    refine pw_cV (z := mX0_total) (av := [Iq 3]) (st := []) eX3_now_57 lk_RX3_110 rfl (by decide) (by decide) (shR isR1) rfl rfl (Nat.le_of_ble_eq_true rfl) rfl hc4 ?_
    show PW S mX3_now Q 60 [some (Aq 0), some (Iq x1)] [Iq v2] m3
    exact pw_iret eX3_now_60 h
  · have h := hk2 c1
    refine pw_aload_n eX3_now_61 rfl rfl ?_
    refine gf_RX3_10 rfl eX3_now_62 sh0 ?_
    refine pw_iconst eX3_now_65 ⟨by decide, by decide⟩ ?_
    obtain ⟨v5, m6, hc7, h⟩ := h
    refine pw_cV (z := mX0_total) (av := [Iq 5]) (st := []) eX3_now_66 lk_RX3_110 rfl (by decide) (by decide) (shR isR1) rfl rfl (Nat.le_of_ble_eq_true rfl) rfl hc7 ?_
    show PW S mX3_now Q 69 [some (Aq 0), some (Iq x1)] [Iq v5] m6
    exact pw_iret eX3_now_69 h
  · have h := hk3 c1
    refine pw_aload_n eX3_now_70 rfl rfl ?_
    refine gf_RX3_10 rfl eX3_now_71 sh0 ?_
    refine pw_iconst eX3_now_74 ⟨by decide, by decide⟩ ?_
    obtain ⟨v8, m9, hc10, h⟩ := h
    refine pw_cV (z := mX0_total) (av := [Iq 4]) (st := []) eX3_now_75 lk_RX3_110 rfl (by decide) (by decide) (shR isR1) rfl rfl (Nat.le_of_ble_eq_true rfl) rfl hc10 ?_
    show PW S mX3_now Q 78 [some (Aq 0), some (Iq x1)] [Iq v8] m9
    exact pw_iret eX3_now_78 h
  · have h := hk4 c1
    refine pw_aload_n eX3_now_79 rfl rfl ?_
    refine gf_RX3_10 rfl eX3_now_80 sh0 ?_
    obtain ⟨v11, m12, hc13, h⟩ := h
    refine pw_cV (z := mX0_copiedChildren) (av := []) (st := []) eX3_now_83 lk_RX3_113 rfl (by decide) (by decide) (shR isR1) rfl rfl (Nat.le_of_ble_eq_true rfl) rfl hc13 ?_
    show PW S mX3_now Q 86 [some (Aq 0), some (Iq x1)] [Iq v11] m12
    exact pw_iret eX3_now_86 h
  · have h := hk5 c1
    refine pw_aload_n eX3_now_87 rfl rfl ?_
    refine gf_RX3_10 rfl eX3_now_88 sh0 ?_
    obtain ⟨v14, m15, hc16, h⟩ := h
    refine pw_cV (z := mX0_bestChildren) (av := []) (st := []) eX3_now_91 lk_RX3_117 rfl (by decide) (by decide) (shR isR1) rfl rfl (Nat.le_of_ble_eq_true rfl) rfl hc16 ?_
    show PW S mX3_now Q 94 [some (Aq 0), some (Iq x1)] [Iq v14] m15
    exact pw_iret eX3_now_94 h
  · have h := hk6 c1
    refine pw_aload_n eX3_now_95 rfl rfl ?_
    refine gf_RX3_10 rfl eX3_now_96 sh0 ?_
    obtain ⟨v17, m18, hc19, h⟩ := h
    refine pw_cV (z := mX0_unknownSums) (av := []) (st := []) eX3_now_99 lk_RX3_120 rfl (by decide) (by decide) (shR isR1) rfl rfl (Nat.le_of_ble_eq_true rfl) rfl hc19 ?_
    show PW S mX3_now Q 102 [some (Aq 0), some (Iq x1)] [Iq v17] m18
    exact pw_iret eX3_now_102 h
  · have h := hkd c1
    refine pw_aload_n eX3_now_103 rfl rfl ?_
    refine pw_ldc (n := (-1000001)) eX3_now_104 ⟨by decide, by decide⟩ kc_RX3_48 ?_
    obtain ⟨v20, m21, hc22, h⟩ := h
    refine pw_cV (z := mX3_finding) (av := [Iq (-1000001)]) (st := []) eX3_now_106 lk_RX3_49 rfl (by decide) (by decide) sh0 rfl rfl (Nat.le_of_ble_eq_true rfl) rfl hc22 ?_
    show PW S mX3_now Q 109 [some (Aq 0), some (Iq x1)] [Iq v20] m21
    exact pw_iret eX3_now_109 h
set_option maxRecDepth 100000 in
theorem rg_X3_chain_0 {S : Sx} {Q : Option PV → Zm → Prop} {mem : Zm}   {x1 : Int} 
    (h : (∃ (v1 : Int) (m2 : Zm), Ct1 S mX0_has [Aq 1, Iq x1] mem (some (Iq v1)) m2 ∧ ((((¬ v1 = 0) → ((∃ (v5 : Int) (m6 : Zm), Ct1 S mX0_chainLength [Aq 1, Iq x1] m2 (some (Iq v5)) m6 ∧ (Q (some (Iq v5)) m6)))) ∧ (¬ (¬ v1 = 0) → ((∃ (v8 : Int) (m9 : Zm), Ct1 S mX3_finding [Aq 0, Iq (-1000001)] m2 (some (Iq v8)) m9 ∧ (Q (some (Iq v8)) m9)))))))) :
    PW S mX3_chain Q 0 [some (Aq 0), some (Iq x1)] [] mem := by
  refine pw_aload_n eX3_chain_0 rfl rfl ?_
  refine gf_RX3_10 rfl eX3_chain_1 sh0 ?_
  refine pw_iload_n eX3_chain_4 rfl rfl ?_
  obtain ⟨v1, m2, hc3, h⟩ := h
  refine pw_cV (z := mX0_has) (av := [Iq x1]) (st := []) eX3_chain_5 lk_RX3_68 rfl (by decide) (by decide) (shR isR1) rfl rfl (Nat.le_of_ble_eq_true rfl) rfl hc3 ?_
  show PW S mX3_chain Q 8 [some (Aq 0), some (Iq x1)] [Iq v1] m2
  refine pw_if_ne eX3_chain_8 (fun c4 => ?_) (fun c4 => ?_)
  · have h := h.1 c4
    refine pw_aload_n eX3_chain_18 rfl rfl ?_
    refine gf_RX3_10 rfl eX3_chain_19 sh0 ?_
    refine pw_iload_n eX3_chain_22 rfl rfl ?_
    obtain ⟨v5, m6, hc7, h⟩ := h
    refine pw_cV (z := mX0_chainLength) (av := [Iq x1]) (st := []) eX3_chain_23 lk_RX3_123 rfl (by decide) (by decide) (shR isR1) rfl rfl (Nat.le_of_ble_eq_true rfl) rfl hc7 ?_
    show PW S mX3_chain Q 26 [some (Aq 0), some (Iq x1)] [Iq v5] m6
    exact pw_iret eX3_chain_26 h
  · have h := h.2 c4
    refine pw_aload_n eX3_chain_11 rfl rfl ?_
    refine pw_ldc (n := (-1000001)) eX3_chain_12 ⟨by decide, by decide⟩ kc_RX3_48 ?_
    obtain ⟨v8, m9, hc10, h⟩ := h
    refine pw_cV (z := mX3_finding) (av := [Iq (-1000001)]) (st := []) eX3_chain_14 lk_RX3_49 rfl (by decide) (by decide) sh0 rfl rfl (Nat.le_of_ble_eq_true rfl) rfl hc10 ?_
    show PW S mX3_chain Q 17 [some (Aq 0), some (Iq x1)] [Iq v8] m9
    exact pw_iret eX3_chain_17 h
set_option maxRecDepth 100000 in
theorem rg_X3_ahead_0 {S : Sx} {Q : Option PV → Zm → Prop} {mem : Zm}   {x1 x2 x3 : Int} 
    (h : (((x2 = 1) → ((∃ (v2 : Int) (m3 : Zm), Ct1 S mX0_has [Aq 1, Iq x1] mem (some (Iq v2)) m3 ∧ ((((v2 = 0) → ((∃ (v6 : Int) (m7 : Zm), Ct1 S mX3_finding [Aq 0, Iq (-1000001)] m3 (some (Iq v6)) m7 ∧ (Q (some (Iq v6)) m7)))) ∧ (¬ (v2 = 0) → ((∃ (v10 : Int) (m11 : Zm), Ct1 S mX3_within [Iq x3, Iq 0, Iq 60] m3 (some (Iq v10)) m11 ∧ ((((¬ v10 = 0) → ((∃ (m15 : Zm), Ct1 S mX0_become [Aq 8, Aq 1] m11 none m15 ∧ ((∃ (m18 : Zm), Ct1 S mX0_passDays [Aq 8, Iq x3] m15 none m18 ∧ ((∃ (v20 : Int) (m21 : Zm), Ct1 S mX0_fact [Aq 8, Iq x1, Iq x2] m18 (some (Iq v20)) m21 ∧ (Q (some (Iq v20)) m21)))))))) ∧ (¬ (¬ v10 = 0) → ((∃ (v23 : Int) (m24 : Zm), Ct1 S mX3_finding [Aq 0, Iq (-1000001)] m11 (some (Iq v23)) m24 ∧ (Q (some (Iq v23)) m24)))))))))))))) ∧ (¬ (x2 = 1) → ((((x2 = 3) → ((∃ (v27 : Int) (m28 : Zm), Ct1 S mX0_has [Aq 1, Iq x1] mem (some (Iq v27)) m28 ∧ ((((v27 = 0) → ((∃ (v31 : Int) (m32 : Zm), Ct1 S mX3_finding [Aq 0, Iq (-1000001)] m28 (some (Iq v31)) m32 ∧ (Q (some (Iq v31)) m32)))) ∧ (¬ (v27 = 0) → ((∃ (v35 : Int) (m36 : Zm), Ct1 S mX3_within [Iq x3, Iq 0, Iq 60] m28 (some (Iq v35)) m36 ∧ ((((¬ v35 = 0) → ((∃ (m40 : Zm), Ct1 S mX0_become [Aq 8, Aq 1] m36 none m40 ∧ ((∃ (m43 : Zm), Ct1 S mX0_passDays [Aq 8, Iq x3] m40 none m43 ∧ ((∃ (v45 : Int) (m46 : Zm), Ct1 S mX0_fact [Aq 8, Iq x1, Iq x2] m43 (some (Iq v45)) m46 ∧ (Q (some (Iq v45)) m46)))))))) ∧ (¬ (¬ v35 = 0) → ((∃ (v48 : Int) (m49 : Zm), Ct1 S mX3_finding [Aq 0, Iq (-1000001)] m36 (some (Iq v48)) m49 ∧ (Q (some (Iq v48)) m49)))))))))))))) ∧ (¬ (x2 = 3) → ((((x2 = 4) → ((∃ (v52 : Int) (m53 : Zm), Ct1 S mX0_has [Aq 1, Iq x1] mem (some (Iq v52)) m53 ∧ ((((v52 = 0) → ((∃ (v56 : Int) (m57 : Zm), Ct1 S mX3_finding [Aq 0, Iq (-1000001)] m53 (some (Iq v56)) m57 ∧ (Q (some (Iq v56)) m57)))) ∧ (¬ (v52 = 0) → ((∃ (v60 : Int) (m61 : Zm), Ct1 S mX3_within [Iq x3, Iq 0, Iq 60] m53 (some (Iq v60)) m61 ∧ ((((¬ v60 = 0) → ((∃ (m65 : Zm), Ct1 S mX0_become [Aq 8, Aq 1] m61 none m65 ∧ ((∃ (m68 : Zm), Ct1 S mX0_passDays [Aq 8, Iq x3] m65 none m68 ∧ ((∃ (v70 : Int) (m71 : Zm), Ct1 S mX0_fact [Aq 8, Iq x1, Iq x2] m68 (some (Iq v70)) m71 ∧ (Q (some (Iq v70)) m71)))))))) ∧ (¬ (¬ v60 = 0) → ((∃ (v73 : Int) (m74 : Zm), Ct1 S mX3_finding [Aq 0, Iq (-1000001)] m61 (some (Iq v73)) m74 ∧ (Q (some (Iq v73)) m74)))))))))))))) ∧ (¬ (x2 = 4) → ((((¬ x2 = 5) → ((∃ (v77 : Int) (m78 : Zm), Ct1 S mX0_has [Aq 1, Iq x1] mem (some (Iq v77)) m78 ∧ ((((v77 = 0) → ((∃ (v81 : Int) (m82 : Zm), Ct1 S mX3_finding [Aq 0, Iq (-1000001)] m78 (some (Iq v81)) m82 ∧ (Q (some (Iq v81)) m82)))) ∧ (¬ (v77 = 0) → ((∃ (v85 : Int) (m86 : Zm), Ct1 S mX3_finding [Aq 0, Iq (-1000001)] m78 (some (Iq v85)) m86 ∧ (Q (some (Iq v85)) m86))))))))) ∧ (¬ (¬ x2 = 5) → ((∃ (v88 : Int) (m89 : Zm), Ct1 S mX0_has [Aq 1, Iq x1] mem (some (Iq v88)) m89 ∧ ((((v88 = 0) → ((∃ (v92 : Int) (m93 : Zm), Ct1 S mX3_finding [Aq 0, Iq (-1000001)] m89 (some (Iq v92)) m93 ∧ (Q (some (Iq v92)) m93)))) ∧ (¬ (v88 = 0) → ((∃ (v96 : Int) (m97 : Zm), Ct1 S mX3_within [Iq x3, Iq 0, Iq 60] m89 (some (Iq v96)) m97 ∧ ((((¬ v96 = 0) → ((∃ (m101 : Zm), Ct1 S mX0_become [Aq 8, Aq 1] m97 none m101 ∧ ((∃ (m104 : Zm), Ct1 S mX0_passDays [Aq 8, Iq x3] m101 none m104 ∧ ((∃ (v106 : Int) (m107 : Zm), Ct1 S mX0_fact [Aq 8, Iq x1, Iq x2] m104 (some (Iq v106)) m107 ∧ (Q (some (Iq v106)) m107)))))))) ∧ (¬ (¬ v96 = 0) → ((∃ (v109 : Int) (m110 : Zm), Ct1 S mX3_finding [Aq 0, Iq (-1000001)] m97 (some (Iq v109)) m110 ∧ (Q (some (Iq v109)) m110))))))))))))))))))))))))) :
    PW S mX3_ahead Q 0 [some (Aq 0), some (Iq x1), some (Iq x2), some (Iq x3), none] [] mem := by
  refine pw_iload_n eX3_ahead_0 rfl rfl ?_
  refine pw_iconst eX3_ahead_1 ⟨by decide, by decide⟩ ?_
  refine pw_icmp_eq eX3_ahead_2 (fun c1 => ?_) (fun c1 => ?_)
  · have h := h.1 c1
    refine pw_iconst eX3_ahead_20 ⟨by decide, by decide⟩ ?_
    refine pw_goto eX3_ahead_21 ?_
    refine pw_istore (ls2 := [some (Aq 0), some (Iq x1), some (Iq x2), some (Iq x3), some (Iq 1)]) eX3_ahead_25 (by decide) rfl ?_
    refine pw_aload_n eX3_ahead_27 rfl rfl ?_
    refine gf_RX3_10 rfl eX3_ahead_28 sh0 ?_
    refine pw_iload_n eX3_ahead_31 rfl rfl ?_
    obtain ⟨v2, m3, hc4, h⟩ := h
    refine pw_cV (z := mX0_has) (av := [Iq x1]) (st := []) eX3_ahead_32 lk_RX3_68 rfl (by decide) (by decide) (shR isR1) rfl rfl (Nat.le_of_ble_eq_true rfl) rfl hc4 ?_
    show PW S mX3_ahead Q 35 [some (Aq 0), some (Iq x1), some (Iq x2), some (Iq x3), some (Iq 1)] [Iq v2] m3
    refine pw_if_eq eX3_ahead_35 (fun c5 => ?_) (fun c5 => ?_)
    · have h := h.1 c5
      refine pw_aload_n eX3_ahead_53 rfl rfl ?_
      refine pw_ldc (n := (-1000001)) eX3_ahead_54 ⟨by decide, by decide⟩ kc_RX3_48 ?_
      obtain ⟨v6, m7, hc8, h⟩ := h
      refine pw_cV (z := mX3_finding) (av := [Iq (-1000001)]) (st := []) eX3_ahead_56 lk_RX3_49 rfl (by decide) (by decide) sh0 rfl rfl (Nat.le_of_ble_eq_true rfl) rfl hc8 ?_
      show PW S mX3_ahead Q 59 [some (Aq 0), some (Iq x1), some (Iq x2), some (Iq x3), some (Iq 1)] [Iq v6] m7
      exact pw_iret eX3_ahead_59 h
    · have h := h.2 c5
      refine pw_iload eX3_ahead_38 rfl ?_
      refine pw_if_eq eX3_ahead_40 (fun c9 => ?_) (fun c9 => ?_)
      · exact absurd c9 (by decide)
      · skip
        refine pw_iload_n eX3_ahead_43 rfl rfl ?_
        refine pw_iconst eX3_ahead_44 ⟨by decide, by decide⟩ ?_
        refine pw_bipush eX3_ahead_45 ⟨by decide, by decide⟩ (by decide) ?_
        obtain ⟨v10, m11, hc12, h⟩ := h
        refine pw_cS (z := mX3_within) (av := [Iq x3, Iq 0, Iq 60]) (st := []) eX3_ahead_47 lk_RX3_44 rfl (by decide) (by decide) (Nat.le_of_ble_eq_true rfl) rfl hc12 ?_
        show PW S mX3_ahead Q 50 [some (Aq 0), some (Iq x1), some (Iq x2), some (Iq x3), some (Iq 1)] [Iq v10] m11
        refine pw_if_ne eX3_ahead_50 (fun c13 => ?_) (fun c13 => ?_)
        · have h := h.1 c13
          refine pw_aload_n eX3_ahead_60 rfl rfl ?_
          refine gf_RX3_16 rfl eX3_ahead_61 sh0 ?_
          refine pw_aload_n eX3_ahead_64 rfl rfl ?_
          refine gf_RX3_10 rfl eX3_ahead_65 sh0 ?_
          obtain ⟨m15, hc16, h⟩ := h
          refine pw_cV (z := mX0_become) (av := [Aq 1]) (st := []) eX3_ahead_68 lk_RX3_126 rfl (by decide) (by decide) (shR isR8) rfl rfl (Nat.le_of_ble_eq_true rfl) rfl hc16 ?_
          show PW S mX3_ahead Q 71 [some (Aq 0), some (Iq x1), some (Iq x2), some (Iq x3), some (Iq 1)] [] m15
          refine pw_aload_n eX3_ahead_71 rfl rfl ?_
          refine gf_RX3_16 rfl eX3_ahead_72 sh0 ?_
          refine pw_iload_n eX3_ahead_75 rfl rfl ?_
          obtain ⟨m18, hc19, h⟩ := h
          refine pw_cV (z := mX0_passDays) (av := [Iq x3]) (st := []) eX3_ahead_76 lk_RX3_106 rfl (by decide) (by decide) (shR isR8) rfl rfl (Nat.le_of_ble_eq_true rfl) rfl hc19 ?_
          show PW S mX3_ahead Q 79 [some (Aq 0), some (Iq x1), some (Iq x2), some (Iq x3), some (Iq 1)] [] m18
          refine pw_aload_n eX3_ahead_79 rfl rfl ?_
          refine gf_RX3_16 rfl eX3_ahead_80 sh0 ?_
          refine pw_iload_n eX3_ahead_83 rfl rfl ?_
          refine pw_iload_n eX3_ahead_84 rfl rfl ?_
          obtain ⟨v20, m21, hc22, h⟩ := h
          refine pw_cV (z := mX0_fact) (av := [Iq x1, Iq x2]) (st := []) eX3_ahead_85 lk_RX3_81 rfl (by decide) (by decide) (shR isR8) rfl rfl (Nat.le_of_ble_eq_true rfl) rfl hc22 ?_
          show PW S mX3_ahead Q 88 [some (Aq 0), some (Iq x1), some (Iq x2), some (Iq x3), some (Iq 1)] [Iq v20] m21
          exact pw_iret eX3_ahead_88 h
        · have h := h.2 c13
          refine pw_aload_n eX3_ahead_53 rfl rfl ?_
          refine pw_ldc (n := (-1000001)) eX3_ahead_54 ⟨by decide, by decide⟩ kc_RX3_48 ?_
          obtain ⟨v23, m24, hc25, h⟩ := h
          refine pw_cV (z := mX3_finding) (av := [Iq (-1000001)]) (st := []) eX3_ahead_56 lk_RX3_49 rfl (by decide) (by decide) sh0 rfl rfl (Nat.le_of_ble_eq_true rfl) rfl hc25 ?_
          show PW S mX3_ahead Q 59 [some (Aq 0), some (Iq x1), some (Iq x2), some (Iq x3), some (Iq 1)] [Iq v23] m24
          exact pw_iret eX3_ahead_59 h
  · have h := h.2 c1
    refine pw_iload_n eX3_ahead_5 rfl rfl ?_
    refine pw_iconst eX3_ahead_6 ⟨by decide, by decide⟩ ?_
    refine pw_icmp_eq eX3_ahead_7 (fun c26 => ?_) (fun c26 => ?_)
    · have h := h.1 c26
      refine pw_iconst eX3_ahead_20 ⟨by decide, by decide⟩ ?_
      refine pw_goto eX3_ahead_21 ?_
      refine pw_istore (ls2 := [some (Aq 0), some (Iq x1), some (Iq x2), some (Iq x3), some (Iq 1)]) eX3_ahead_25 (by decide) rfl ?_
      refine pw_aload_n eX3_ahead_27 rfl rfl ?_
      refine gf_RX3_10 rfl eX3_ahead_28 sh0 ?_
      refine pw_iload_n eX3_ahead_31 rfl rfl ?_
      obtain ⟨v27, m28, hc29, h⟩ := h
      refine pw_cV (z := mX0_has) (av := [Iq x1]) (st := []) eX3_ahead_32 lk_RX3_68 rfl (by decide) (by decide) (shR isR1) rfl rfl (Nat.le_of_ble_eq_true rfl) rfl hc29 ?_
      show PW S mX3_ahead Q 35 [some (Aq 0), some (Iq x1), some (Iq x2), some (Iq x3), some (Iq 1)] [Iq v27] m28
      refine pw_if_eq eX3_ahead_35 (fun c30 => ?_) (fun c30 => ?_)
      · have h := h.1 c30
        refine pw_aload_n eX3_ahead_53 rfl rfl ?_
        refine pw_ldc (n := (-1000001)) eX3_ahead_54 ⟨by decide, by decide⟩ kc_RX3_48 ?_
        obtain ⟨v31, m32, hc33, h⟩ := h
        refine pw_cV (z := mX3_finding) (av := [Iq (-1000001)]) (st := []) eX3_ahead_56 lk_RX3_49 rfl (by decide) (by decide) sh0 rfl rfl (Nat.le_of_ble_eq_true rfl) rfl hc33 ?_
        show PW S mX3_ahead Q 59 [some (Aq 0), some (Iq x1), some (Iq x2), some (Iq x3), some (Iq 1)] [Iq v31] m32
        exact pw_iret eX3_ahead_59 h
      · have h := h.2 c30
        refine pw_iload eX3_ahead_38 rfl ?_
        refine pw_if_eq eX3_ahead_40 (fun c34 => ?_) (fun c34 => ?_)
        · exact absurd c34 (by decide)
        · skip
          refine pw_iload_n eX3_ahead_43 rfl rfl ?_
          refine pw_iconst eX3_ahead_44 ⟨by decide, by decide⟩ ?_
          refine pw_bipush eX3_ahead_45 ⟨by decide, by decide⟩ (by decide) ?_
          obtain ⟨v35, m36, hc37, h⟩ := h
          refine pw_cS (z := mX3_within) (av := [Iq x3, Iq 0, Iq 60]) (st := []) eX3_ahead_47 lk_RX3_44 rfl (by decide) (by decide) (Nat.le_of_ble_eq_true rfl) rfl hc37 ?_
          show PW S mX3_ahead Q 50 [some (Aq 0), some (Iq x1), some (Iq x2), some (Iq x3), some (Iq 1)] [Iq v35] m36
          refine pw_if_ne eX3_ahead_50 (fun c38 => ?_) (fun c38 => ?_)
          · have h := h.1 c38
            refine pw_aload_n eX3_ahead_60 rfl rfl ?_
            refine gf_RX3_16 rfl eX3_ahead_61 sh0 ?_
            refine pw_aload_n eX3_ahead_64 rfl rfl ?_
            refine gf_RX3_10 rfl eX3_ahead_65 sh0 ?_
            obtain ⟨m40, hc41, h⟩ := h
            refine pw_cV (z := mX0_become) (av := [Aq 1]) (st := []) eX3_ahead_68 lk_RX3_126 rfl (by decide) (by decide) (shR isR8) rfl rfl (Nat.le_of_ble_eq_true rfl) rfl hc41 ?_
            show PW S mX3_ahead Q 71 [some (Aq 0), some (Iq x1), some (Iq x2), some (Iq x3), some (Iq 1)] [] m40
            refine pw_aload_n eX3_ahead_71 rfl rfl ?_
            refine gf_RX3_16 rfl eX3_ahead_72 sh0 ?_
            refine pw_iload_n eX3_ahead_75 rfl rfl ?_
            obtain ⟨m43, hc44, h⟩ := h
            refine pw_cV (z := mX0_passDays) (av := [Iq x3]) (st := []) eX3_ahead_76 lk_RX3_106 rfl (by decide) (by decide) (shR isR8) rfl rfl (Nat.le_of_ble_eq_true rfl) rfl hc44 ?_
            show PW S mX3_ahead Q 79 [some (Aq 0), some (Iq x1), some (Iq x2), some (Iq x3), some (Iq 1)] [] m43
            refine pw_aload_n eX3_ahead_79 rfl rfl ?_
            refine gf_RX3_16 rfl eX3_ahead_80 sh0 ?_
            refine pw_iload_n eX3_ahead_83 rfl rfl ?_
            refine pw_iload_n eX3_ahead_84 rfl rfl ?_
            obtain ⟨v45, m46, hc47, h⟩ := h
            refine pw_cV (z := mX0_fact) (av := [Iq x1, Iq x2]) (st := []) eX3_ahead_85 lk_RX3_81 rfl (by decide) (by decide) (shR isR8) rfl rfl (Nat.le_of_ble_eq_true rfl) rfl hc47 ?_
            show PW S mX3_ahead Q 88 [some (Aq 0), some (Iq x1), some (Iq x2), some (Iq x3), some (Iq 1)] [Iq v45] m46
            exact pw_iret eX3_ahead_88 h
          · have h := h.2 c38
            refine pw_aload_n eX3_ahead_53 rfl rfl ?_
            refine pw_ldc (n := (-1000001)) eX3_ahead_54 ⟨by decide, by decide⟩ kc_RX3_48 ?_
            obtain ⟨v48, m49, hc50, h⟩ := h
            refine pw_cV (z := mX3_finding) (av := [Iq (-1000001)]) (st := []) eX3_ahead_56 lk_RX3_49 rfl (by decide) (by decide) sh0 rfl rfl (Nat.le_of_ble_eq_true rfl) rfl hc50 ?_
            show PW S mX3_ahead Q 59 [some (Aq 0), some (Iq x1), some (Iq x2), some (Iq x3), some (Iq 1)] [Iq v48] m49
            exact pw_iret eX3_ahead_59 h
    · have h := h.2 c26
      refine pw_iload_n eX3_ahead_10 rfl rfl ?_
      refine pw_iconst eX3_ahead_11 ⟨by decide, by decide⟩ ?_
      refine pw_icmp_eq eX3_ahead_12 (fun c51 => ?_) (fun c51 => ?_)
      · have h := h.1 c51
        refine pw_iconst eX3_ahead_20 ⟨by decide, by decide⟩ ?_
        refine pw_goto eX3_ahead_21 ?_
        refine pw_istore (ls2 := [some (Aq 0), some (Iq x1), some (Iq x2), some (Iq x3), some (Iq 1)]) eX3_ahead_25 (by decide) rfl ?_
        refine pw_aload_n eX3_ahead_27 rfl rfl ?_
        refine gf_RX3_10 rfl eX3_ahead_28 sh0 ?_
        refine pw_iload_n eX3_ahead_31 rfl rfl ?_
        obtain ⟨v52, m53, hc54, h⟩ := h
        refine pw_cV (z := mX0_has) (av := [Iq x1]) (st := []) eX3_ahead_32 lk_RX3_68 rfl (by decide) (by decide) (shR isR1) rfl rfl (Nat.le_of_ble_eq_true rfl) rfl hc54 ?_
        show PW S mX3_ahead Q 35 [some (Aq 0), some (Iq x1), some (Iq x2), some (Iq x3), some (Iq 1)] [Iq v52] m53
        refine pw_if_eq eX3_ahead_35 (fun c55 => ?_) (fun c55 => ?_)
        · have h := h.1 c55
          refine pw_aload_n eX3_ahead_53 rfl rfl ?_
          refine pw_ldc (n := (-1000001)) eX3_ahead_54 ⟨by decide, by decide⟩ kc_RX3_48 ?_
          obtain ⟨v56, m57, hc58, h⟩ := h
          refine pw_cV (z := mX3_finding) (av := [Iq (-1000001)]) (st := []) eX3_ahead_56 lk_RX3_49 rfl (by decide) (by decide) sh0 rfl rfl (Nat.le_of_ble_eq_true rfl) rfl hc58 ?_
          show PW S mX3_ahead Q 59 [some (Aq 0), some (Iq x1), some (Iq x2), some (Iq x3), some (Iq 1)] [Iq v56] m57
          exact pw_iret eX3_ahead_59 h
        · have h := h.2 c55
          refine pw_iload eX3_ahead_38 rfl ?_
          refine pw_if_eq eX3_ahead_40 (fun c59 => ?_) (fun c59 => ?_)
          · exact absurd c59 (by decide)
          · skip
            refine pw_iload_n eX3_ahead_43 rfl rfl ?_
            refine pw_iconst eX3_ahead_44 ⟨by decide, by decide⟩ ?_
            refine pw_bipush eX3_ahead_45 ⟨by decide, by decide⟩ (by decide) ?_
            obtain ⟨v60, m61, hc62, h⟩ := h
            refine pw_cS (z := mX3_within) (av := [Iq x3, Iq 0, Iq 60]) (st := []) eX3_ahead_47 lk_RX3_44 rfl (by decide) (by decide) (Nat.le_of_ble_eq_true rfl) rfl hc62 ?_
            show PW S mX3_ahead Q 50 [some (Aq 0), some (Iq x1), some (Iq x2), some (Iq x3), some (Iq 1)] [Iq v60] m61
            refine pw_if_ne eX3_ahead_50 (fun c63 => ?_) (fun c63 => ?_)
            · have h := h.1 c63
              refine pw_aload_n eX3_ahead_60 rfl rfl ?_
              refine gf_RX3_16 rfl eX3_ahead_61 sh0 ?_
              refine pw_aload_n eX3_ahead_64 rfl rfl ?_
              refine gf_RX3_10 rfl eX3_ahead_65 sh0 ?_
              obtain ⟨m65, hc66, h⟩ := h
              refine pw_cV (z := mX0_become) (av := [Aq 1]) (st := []) eX3_ahead_68 lk_RX3_126 rfl (by decide) (by decide) (shR isR8) rfl rfl (Nat.le_of_ble_eq_true rfl) rfl hc66 ?_
              show PW S mX3_ahead Q 71 [some (Aq 0), some (Iq x1), some (Iq x2), some (Iq x3), some (Iq 1)] [] m65
              refine pw_aload_n eX3_ahead_71 rfl rfl ?_
              refine gf_RX3_16 rfl eX3_ahead_72 sh0 ?_
              refine pw_iload_n eX3_ahead_75 rfl rfl ?_
              obtain ⟨m68, hc69, h⟩ := h
              refine pw_cV (z := mX0_passDays) (av := [Iq x3]) (st := []) eX3_ahead_76 lk_RX3_106 rfl (by decide) (by decide) (shR isR8) rfl rfl (Nat.le_of_ble_eq_true rfl) rfl hc69 ?_
              show PW S mX3_ahead Q 79 [some (Aq 0), some (Iq x1), some (Iq x2), some (Iq x3), some (Iq 1)] [] m68
              refine pw_aload_n eX3_ahead_79 rfl rfl ?_
              refine gf_RX3_16 rfl eX3_ahead_80 sh0 ?_
              refine pw_iload_n eX3_ahead_83 rfl rfl ?_
              refine pw_iload_n eX3_ahead_84 rfl rfl ?_
              obtain ⟨v70, m71, hc72, h⟩ := h
              refine pw_cV (z := mX0_fact) (av := [Iq x1, Iq x2]) (st := []) eX3_ahead_85 lk_RX3_81 rfl (by decide) (by decide) (shR isR8) rfl rfl (Nat.le_of_ble_eq_true rfl) rfl hc72 ?_
              show PW S mX3_ahead Q 88 [some (Aq 0), some (Iq x1), some (Iq x2), some (Iq x3), some (Iq 1)] [Iq v70] m71
              exact pw_iret eX3_ahead_88 h
            · have h := h.2 c63
              refine pw_aload_n eX3_ahead_53 rfl rfl ?_
              refine pw_ldc (n := (-1000001)) eX3_ahead_54 ⟨by decide, by decide⟩ kc_RX3_48 ?_
              obtain ⟨v73, m74, hc75, h⟩ := h
              refine pw_cV (z := mX3_finding) (av := [Iq (-1000001)]) (st := []) eX3_ahead_56 lk_RX3_49 rfl (by decide) (by decide) sh0 rfl rfl (Nat.le_of_ble_eq_true rfl) rfl hc75 ?_
              show PW S mX3_ahead Q 59 [some (Aq 0), some (Iq x1), some (Iq x2), some (Iq x3), some (Iq 1)] [Iq v73] m74
              exact pw_iret eX3_ahead_59 h
      · have h := h.2 c51
        refine pw_iload_n eX3_ahead_15 rfl rfl ?_
        refine pw_iconst eX3_ahead_16 ⟨by decide, by decide⟩ ?_
        refine pw_icmp_ne eX3_ahead_17 (fun c76 => ?_) (fun c76 => ?_)
        · have h := h.1 c76
          refine pw_iconst eX3_ahead_24 ⟨by decide, by decide⟩ ?_
          refine pw_istore (ls2 := [some (Aq 0), some (Iq x1), some (Iq x2), some (Iq x3), some (Iq 0)]) eX3_ahead_25 (by decide) rfl ?_
          refine pw_aload_n eX3_ahead_27 rfl rfl ?_
          refine gf_RX3_10 rfl eX3_ahead_28 sh0 ?_
          refine pw_iload_n eX3_ahead_31 rfl rfl ?_
          obtain ⟨v77, m78, hc79, h⟩ := h
          refine pw_cV (z := mX0_has) (av := [Iq x1]) (st := []) eX3_ahead_32 lk_RX3_68 rfl (by decide) (by decide) (shR isR1) rfl rfl (Nat.le_of_ble_eq_true rfl) rfl hc79 ?_
          show PW S mX3_ahead Q 35 [some (Aq 0), some (Iq x1), some (Iq x2), some (Iq x3), some (Iq 0)] [Iq v77] m78
          refine pw_if_eq eX3_ahead_35 (fun c80 => ?_) (fun c80 => ?_)
          · have h := h.1 c80
            refine pw_aload_n eX3_ahead_53 rfl rfl ?_
            refine pw_ldc (n := (-1000001)) eX3_ahead_54 ⟨by decide, by decide⟩ kc_RX3_48 ?_
            obtain ⟨v81, m82, hc83, h⟩ := h
            refine pw_cV (z := mX3_finding) (av := [Iq (-1000001)]) (st := []) eX3_ahead_56 lk_RX3_49 rfl (by decide) (by decide) sh0 rfl rfl (Nat.le_of_ble_eq_true rfl) rfl hc83 ?_
            show PW S mX3_ahead Q 59 [some (Aq 0), some (Iq x1), some (Iq x2), some (Iq x3), some (Iq 0)] [Iq v81] m82
            exact pw_iret eX3_ahead_59 h
          · have h := h.2 c80
            refine pw_iload eX3_ahead_38 rfl ?_
            refine pw_if_eq eX3_ahead_40 (fun c84 => ?_) (fun c84 => ?_)
            · skip
              refine pw_aload_n eX3_ahead_53 rfl rfl ?_
              refine pw_ldc (n := (-1000001)) eX3_ahead_54 ⟨by decide, by decide⟩ kc_RX3_48 ?_
              obtain ⟨v85, m86, hc87, h⟩ := h
              refine pw_cV (z := mX3_finding) (av := [Iq (-1000001)]) (st := []) eX3_ahead_56 lk_RX3_49 rfl (by decide) (by decide) sh0 rfl rfl (Nat.le_of_ble_eq_true rfl) rfl hc87 ?_
              show PW S mX3_ahead Q 59 [some (Aq 0), some (Iq x1), some (Iq x2), some (Iq x3), some (Iq 0)] [Iq v85] m86
              exact pw_iret eX3_ahead_59 h
            · exact absurd (by decide) c84
        · have h := h.2 c76
          refine pw_iconst eX3_ahead_20 ⟨by decide, by decide⟩ ?_
          refine pw_goto eX3_ahead_21 ?_
          refine pw_istore (ls2 := [some (Aq 0), some (Iq x1), some (Iq x2), some (Iq x3), some (Iq 1)]) eX3_ahead_25 (by decide) rfl ?_
          refine pw_aload_n eX3_ahead_27 rfl rfl ?_
          refine gf_RX3_10 rfl eX3_ahead_28 sh0 ?_
          refine pw_iload_n eX3_ahead_31 rfl rfl ?_
          obtain ⟨v88, m89, hc90, h⟩ := h
          refine pw_cV (z := mX0_has) (av := [Iq x1]) (st := []) eX3_ahead_32 lk_RX3_68 rfl (by decide) (by decide) (shR isR1) rfl rfl (Nat.le_of_ble_eq_true rfl) rfl hc90 ?_
          show PW S mX3_ahead Q 35 [some (Aq 0), some (Iq x1), some (Iq x2), some (Iq x3), some (Iq 1)] [Iq v88] m89
          refine pw_if_eq eX3_ahead_35 (fun c91 => ?_) (fun c91 => ?_)
          · have h := h.1 c91
            refine pw_aload_n eX3_ahead_53 rfl rfl ?_
            refine pw_ldc (n := (-1000001)) eX3_ahead_54 ⟨by decide, by decide⟩ kc_RX3_48 ?_
            obtain ⟨v92, m93, hc94, h⟩ := h
            refine pw_cV (z := mX3_finding) (av := [Iq (-1000001)]) (st := []) eX3_ahead_56 lk_RX3_49 rfl (by decide) (by decide) sh0 rfl rfl (Nat.le_of_ble_eq_true rfl) rfl hc94 ?_
            show PW S mX3_ahead Q 59 [some (Aq 0), some (Iq x1), some (Iq x2), some (Iq x3), some (Iq 1)] [Iq v92] m93
            exact pw_iret eX3_ahead_59 h
          · have h := h.2 c91
            refine pw_iload eX3_ahead_38 rfl ?_
            refine pw_if_eq eX3_ahead_40 (fun c95 => ?_) (fun c95 => ?_)
            · exact absurd c95 (by decide)
            · skip
              refine pw_iload_n eX3_ahead_43 rfl rfl ?_
              refine pw_iconst eX3_ahead_44 ⟨by decide, by decide⟩ ?_
              refine pw_bipush eX3_ahead_45 ⟨by decide, by decide⟩ (by decide) ?_
              obtain ⟨v96, m97, hc98, h⟩ := h
              refine pw_cS (z := mX3_within) (av := [Iq x3, Iq 0, Iq 60]) (st := []) eX3_ahead_47 lk_RX3_44 rfl (by decide) (by decide) (Nat.le_of_ble_eq_true rfl) rfl hc98 ?_
              show PW S mX3_ahead Q 50 [some (Aq 0), some (Iq x1), some (Iq x2), some (Iq x3), some (Iq 1)] [Iq v96] m97
              refine pw_if_ne eX3_ahead_50 (fun c99 => ?_) (fun c99 => ?_)
              · have h := h.1 c99
                refine pw_aload_n eX3_ahead_60 rfl rfl ?_
                refine gf_RX3_16 rfl eX3_ahead_61 sh0 ?_
                refine pw_aload_n eX3_ahead_64 rfl rfl ?_
                refine gf_RX3_10 rfl eX3_ahead_65 sh0 ?_
                obtain ⟨m101, hc102, h⟩ := h
                refine pw_cV (z := mX0_become) (av := [Aq 1]) (st := []) eX3_ahead_68 lk_RX3_126 rfl (by decide) (by decide) (shR isR8) rfl rfl (Nat.le_of_ble_eq_true rfl) rfl hc102 ?_
                show PW S mX3_ahead Q 71 [some (Aq 0), some (Iq x1), some (Iq x2), some (Iq x3), some (Iq 1)] [] m101
                refine pw_aload_n eX3_ahead_71 rfl rfl ?_
                refine gf_RX3_16 rfl eX3_ahead_72 sh0 ?_
                refine pw_iload_n eX3_ahead_75 rfl rfl ?_
                obtain ⟨m104, hc105, h⟩ := h
                refine pw_cV (z := mX0_passDays) (av := [Iq x3]) (st := []) eX3_ahead_76 lk_RX3_106 rfl (by decide) (by decide) (shR isR8) rfl rfl (Nat.le_of_ble_eq_true rfl) rfl hc105 ?_
                show PW S mX3_ahead Q 79 [some (Aq 0), some (Iq x1), some (Iq x2), some (Iq x3), some (Iq 1)] [] m104
                refine pw_aload_n eX3_ahead_79 rfl rfl ?_
                refine gf_RX3_16 rfl eX3_ahead_80 sh0 ?_
                refine pw_iload_n eX3_ahead_83 rfl rfl ?_
                refine pw_iload_n eX3_ahead_84 rfl rfl ?_
                obtain ⟨v106, m107, hc108, h⟩ := h
                refine pw_cV (z := mX0_fact) (av := [Iq x1, Iq x2]) (st := []) eX3_ahead_85 lk_RX3_81 rfl (by decide) (by decide) (shR isR8) rfl rfl (Nat.le_of_ble_eq_true rfl) rfl hc108 ?_
                show PW S mX3_ahead Q 88 [some (Aq 0), some (Iq x1), some (Iq x2), some (Iq x3), some (Iq 1)] [Iq v106] m107
                exact pw_iret eX3_ahead_88 h
              · have h := h.2 c99
                refine pw_aload_n eX3_ahead_53 rfl rfl ?_
                refine pw_ldc (n := (-1000001)) eX3_ahead_54 ⟨by decide, by decide⟩ kc_RX3_48 ?_
                obtain ⟨v109, m110, hc111, h⟩ := h
                refine pw_cV (z := mX3_finding) (av := [Iq (-1000001)]) (st := []) eX3_ahead_56 lk_RX3_49 rfl (by decide) (by decide) sh0 rfl rfl (Nat.le_of_ble_eq_true rfl) rfl hc111 ?_
                show PW S mX3_ahead Q 59 [some (Aq 0), some (Iq x1), some (Iq x2), some (Iq x3), some (Iq 1)] [Iq v109] m110
                exact pw_iret eX3_ahead_59 h
set_option maxRecDepth 100000 in
theorem rg_X3_writes_0 {S : Sx} {Q : Option PV → Zm → Prop} {mem : Zm}   {x1 x2 x3 : Int} 
    (h : (∃ (v1 : Int) (m2 : Zm), Ct1 S mX0_has [Aq 1, Iq x1] mem (some (Iq v1)) m2 ∧ ((((v1 = 0) → ((∃ (v5 : Int) (m6 : Zm), Ct1 S mX3_finding [Aq 0, Iq (-1000001)] m2 (some (Iq v5)) m6 ∧ (Q (some (Iq v5)) m6)))) ∧ (¬ (v1 = 0) → ((∃ (v8 : Int) (m9 : Zm), Ct1 S mX3_within [Iq x2, Iq 0, Iq 7] m2 (some (Iq v8)) m9 ∧ ((((v8 = 0) → ((∃ (v12 : Int) (m13 : Zm), Ct1 S mX3_finding [Aq 0, Iq (-1000001)] m9 (some (Iq v12)) m13 ∧ (Q (some (Iq v12)) m13)))) ∧ (¬ (v8 = 0) → ((∃ (v15 : Int) (m16 : Zm), Ct1 S mX3_within [Iq x3, Iq 0, Iq 60] m9 (some (Iq v15)) m16 ∧ ((((¬ v15 = 0) → ((∃ (m20 : Zm), Ct1 S mX0_become [Aq 8, Aq 1] m16 none m20 ∧ ((∃ (m23 : Zm), Ct1 S mX0_passDays [Aq 8, Iq x3] m20 none m23 ∧ ((∃ (v25 : Int) (m26 : Zm), Ct1 S mX0_answerOf [Aq 8, Iq x1, Iq x2] m23 (some (Iq v25)) m26 ∧ (Q (some (Iq v25)) m26)))))))) ∧ (¬ (¬ v15 = 0) → ((∃ (v28 : Int) (m29 : Zm), Ct1 S mX3_finding [Aq 0, Iq (-1000001)] m16 (some (Iq v28)) m29 ∧ (Q (some (Iq v28)) m29)))))))))))))))))) :
    PW S mX3_writes Q 0 [some (Aq 0), some (Iq x1), some (Iq x2), some (Iq x3)] [] mem := by
  refine pw_aload_n eX3_writes_0 rfl rfl ?_
  refine gf_RX3_10 rfl eX3_writes_1 sh0 ?_
  refine pw_iload_n eX3_writes_4 rfl rfl ?_
  obtain ⟨v1, m2, hc3, h⟩ := h
  refine pw_cV (z := mX0_has) (av := [Iq x1]) (st := []) eX3_writes_5 lk_RX3_68 rfl (by decide) (by decide) (shR isR1) rfl rfl (Nat.le_of_ble_eq_true rfl) rfl hc3 ?_
  show PW S mX3_writes Q 8 [some (Aq 0), some (Iq x1), some (Iq x2), some (Iq x3)] [Iq v1] m2
  refine pw_if_eq eX3_writes_8 (fun c4 => ?_) (fun c4 => ?_)
  · have h := h.1 c4
    refine pw_aload_n eX3_writes_31 rfl rfl ?_
    refine pw_ldc (n := (-1000001)) eX3_writes_32 ⟨by decide, by decide⟩ kc_RX3_48 ?_
    obtain ⟨v5, m6, hc7, h⟩ := h
    refine pw_cV (z := mX3_finding) (av := [Iq (-1000001)]) (st := []) eX3_writes_34 lk_RX3_49 rfl (by decide) (by decide) sh0 rfl rfl (Nat.le_of_ble_eq_true rfl) rfl hc7 ?_
    show PW S mX3_writes Q 37 [some (Aq 0), some (Iq x1), some (Iq x2), some (Iq x3)] [Iq v5] m6
    exact pw_iret eX3_writes_37 h
  · have h := h.2 c4
    refine pw_iload_n eX3_writes_11 rfl rfl ?_
    refine pw_iconst eX3_writes_12 ⟨by decide, by decide⟩ ?_
    refine pw_bipush eX3_writes_13 ⟨by decide, by decide⟩ (by decide) ?_
    obtain ⟨v8, m9, hc10, h⟩ := h
    refine pw_cS (z := mX3_within) (av := [Iq x2, Iq 0, Iq 7]) (st := []) eX3_writes_15 lk_RX3_44 rfl (by decide) (by decide) (Nat.le_of_ble_eq_true rfl) rfl hc10 ?_
    show PW S mX3_writes Q 18 [some (Aq 0), some (Iq x1), some (Iq x2), some (Iq x3)] [Iq v8] m9
    refine pw_if_eq eX3_writes_18 (fun c11 => ?_) (fun c11 => ?_)
    · have h := h.1 c11
      refine pw_aload_n eX3_writes_31 rfl rfl ?_
      refine pw_ldc (n := (-1000001)) eX3_writes_32 ⟨by decide, by decide⟩ kc_RX3_48 ?_
      obtain ⟨v12, m13, hc14, h⟩ := h
      refine pw_cV (z := mX3_finding) (av := [Iq (-1000001)]) (st := []) eX3_writes_34 lk_RX3_49 rfl (by decide) (by decide) sh0 rfl rfl (Nat.le_of_ble_eq_true rfl) rfl hc14 ?_
      show PW S mX3_writes Q 37 [some (Aq 0), some (Iq x1), some (Iq x2), some (Iq x3)] [Iq v12] m13
      exact pw_iret eX3_writes_37 h
    · have h := h.2 c11
      refine pw_iload_n eX3_writes_21 rfl rfl ?_
      refine pw_iconst eX3_writes_22 ⟨by decide, by decide⟩ ?_
      refine pw_bipush eX3_writes_23 ⟨by decide, by decide⟩ (by decide) ?_
      obtain ⟨v15, m16, hc17, h⟩ := h
      refine pw_cS (z := mX3_within) (av := [Iq x3, Iq 0, Iq 60]) (st := []) eX3_writes_25 lk_RX3_44 rfl (by decide) (by decide) (Nat.le_of_ble_eq_true rfl) rfl hc17 ?_
      show PW S mX3_writes Q 28 [some (Aq 0), some (Iq x1), some (Iq x2), some (Iq x3)] [Iq v15] m16
      refine pw_if_ne eX3_writes_28 (fun c18 => ?_) (fun c18 => ?_)
      · have h := h.1 c18
        refine pw_aload_n eX3_writes_38 rfl rfl ?_
        refine gf_RX3_16 rfl eX3_writes_39 sh0 ?_
        refine pw_aload_n eX3_writes_42 rfl rfl ?_
        refine gf_RX3_10 rfl eX3_writes_43 sh0 ?_
        obtain ⟨m20, hc21, h⟩ := h
        refine pw_cV (z := mX0_become) (av := [Aq 1]) (st := []) eX3_writes_46 lk_RX3_126 rfl (by decide) (by decide) (shR isR8) rfl rfl (Nat.le_of_ble_eq_true rfl) rfl hc21 ?_
        show PW S mX3_writes Q 49 [some (Aq 0), some (Iq x1), some (Iq x2), some (Iq x3)] [] m20
        refine pw_aload_n eX3_writes_49 rfl rfl ?_
        refine gf_RX3_16 rfl eX3_writes_50 sh0 ?_
        refine pw_iload_n eX3_writes_53 rfl rfl ?_
        obtain ⟨m23, hc24, h⟩ := h
        refine pw_cV (z := mX0_passDays) (av := [Iq x3]) (st := []) eX3_writes_54 lk_RX3_106 rfl (by decide) (by decide) (shR isR8) rfl rfl (Nat.le_of_ble_eq_true rfl) rfl hc24 ?_
        show PW S mX3_writes Q 57 [some (Aq 0), some (Iq x1), some (Iq x2), some (Iq x3)] [] m23
        refine pw_aload_n eX3_writes_57 rfl rfl ?_
        refine gf_RX3_16 rfl eX3_writes_58 sh0 ?_
        refine pw_iload_n eX3_writes_61 rfl rfl ?_
        refine pw_iload_n eX3_writes_62 rfl rfl ?_
        obtain ⟨v25, m26, hc27, h⟩ := h
        refine pw_cV (z := mX0_answerOf) (av := [Iq x1, Iq x2]) (st := []) eX3_writes_63 lk_RX3_91 rfl (by decide) (by decide) (shR isR8) rfl rfl (Nat.le_of_ble_eq_true rfl) rfl hc27 ?_
        show PW S mX3_writes Q 66 [some (Aq 0), some (Iq x1), some (Iq x2), some (Iq x3)] [Iq v25] m26
        exact pw_iret eX3_writes_66 h
      · have h := h.2 c18
        refine pw_aload_n eX3_writes_31 rfl rfl ?_
        refine pw_ldc (n := (-1000001)) eX3_writes_32 ⟨by decide, by decide⟩ kc_RX3_48 ?_
        obtain ⟨v28, m29, hc30, h⟩ := h
        refine pw_cV (z := mX3_finding) (av := [Iq (-1000001)]) (st := []) eX3_writes_34 lk_RX3_49 rfl (by decide) (by decide) sh0 rfl rfl (Nat.le_of_ble_eq_true rfl) rfl hc30 ?_
        show PW S mX3_writes Q 37 [some (Aq 0), some (Iq x1), some (Iq x2), some (Iq x3)] [Iq v28] m29
        exact pw_iret eX3_writes_37 h
set_option maxRecDepth 100000 in
theorem rg_X3_caught_0 {S : Sx} {Q : Option PV → Zm → Prop} {mem : Zm}   {x1 : Int} 
    (h : (∃ (v1 : Int) (m2 : Zm), Ct1 S mX0_has [Aq 1, Iq x1] mem (some (Iq v1)) m2 ∧ ((((¬ v1 = 0) → ((∃ (v5 : Int) (m6 : Zm), Ct1 S mX0_fact [Aq 1, Iq x1, Iq 5] m2 (some (Iq v5)) m6 ∧ ((in32 (v5 + 1)) ∧ (∃ (v9 : Int) (m10 : Zm), Ct1 S mX3_daysUntil [Aq 0, Iq x1, Iq 5, Iq (v5 + 1)] m6 (some (Iq v9)) m10 ∧ ((((¬ v9 = -1000004) → (Q (some (Iq v9)) m10)) ∧ (¬ (¬ v9 = -1000004) → ((∃ (v13 : Int) (m14 : Zm), Ct1 S mX3_finding [Aq 0, Iq (-1000004)] m10 (some (Iq v13)) m14 ∧ (Q (some (Iq v13)) m14))))))))))) ∧ (¬ (¬ v1 = 0) → ((∃ (v16 : Int) (m17 : Zm), Ct1 S mX3_finding [Aq 0, Iq (-1000001)] m2 (some (Iq v16)) m17 ∧ (Q (some (Iq v16)) m17)))))))) :
    PW S mX3_caught Q 0 [some (Aq 0), some (Iq x1), none] [] mem := by
  refine pw_aload_n eX3_caught_0 rfl rfl ?_
  refine gf_RX3_10 rfl eX3_caught_1 sh0 ?_
  refine pw_iload_n eX3_caught_4 rfl rfl ?_
  obtain ⟨v1, m2, hc3, h⟩ := h
  refine pw_cV (z := mX0_has) (av := [Iq x1]) (st := []) eX3_caught_5 lk_RX3_68 rfl (by decide) (by decide) (shR isR1) rfl rfl (Nat.le_of_ble_eq_true rfl) rfl hc3 ?_
  show PW S mX3_caught Q 8 [some (Aq 0), some (Iq x1), none] [Iq v1] m2
  refine pw_if_ne eX3_caught_8 (fun c4 => ?_) (fun c4 => ?_)
  · have h := h.1 c4
    refine pw_aload_n eX3_caught_18 rfl rfl ?_
    refine pw_iload_n eX3_caught_19 rfl rfl ?_
    refine pw_iconst eX3_caught_20 ⟨by decide, by decide⟩ ?_
    refine pw_aload_n eX3_caught_21 rfl rfl ?_
    refine gf_RX3_10 rfl eX3_caught_22 sh0 ?_
    refine pw_iload_n eX3_caught_25 rfl rfl ?_
    refine pw_iconst eX3_caught_26 ⟨by decide, by decide⟩ ?_
    obtain ⟨v5, m6, hc7, h⟩ := h
    refine pw_cV (z := mX0_fact) (av := [Iq x1, Iq 5]) (st := [Iq 5, Iq x1, Aq 0]) eX3_caught_27 lk_RX3_81 rfl (by decide) (by decide) (shR isR1) rfl rfl (Nat.le_of_ble_eq_true rfl) rfl hc7 ?_
    show PW S mX3_caught Q 30 [some (Aq 0), some (Iq x1), none] [Iq v5, Iq 5, Iq x1, Aq 0] m6
    refine pw_iconst eX3_caught_30 ⟨by decide, by decide⟩ ?_
    obtain ⟨o8, h⟩ := h
    refine pw_iadd eX3_caught_31 o8 ?_
    obtain ⟨v9, m10, hc11, h⟩ := h
    refine pw_cV (z := mX3_daysUntil) (av := [Iq x1, Iq 5, Iq (v5 + 1)]) (st := []) eX3_caught_32 lk_RX3_130 rfl (by decide) (by decide) sh0 rfl rfl (Nat.le_of_ble_eq_true rfl) rfl hc11 ?_
    show PW S mX3_caught Q 35 [some (Aq 0), some (Iq x1), none] [Iq v9] m10
    refine pw_istore_n (ls2 := [some (Aq 0), some (Iq x1), some (Iq v9)]) eX3_caught_35 rfl (by decide) rfl ?_
    refine pw_iload_n eX3_caught_36 rfl rfl ?_
    refine pw_ldc (n := (-1000004)) eX3_caught_37 ⟨by decide, by decide⟩ kc_RX3_133 ?_
    refine pw_icmp_ne eX3_caught_39 (fun c12 => ?_) (fun c12 => ?_)
    · have h := h.1 c12
      refine pw_iload_n eX3_caught_51 rfl rfl ?_
      exact pw_iret eX3_caught_52 h
    · have h := h.2 c12
      refine pw_aload_n eX3_caught_42 rfl rfl ?_
      refine pw_ldc (n := (-1000004)) eX3_caught_43 ⟨by decide, by decide⟩ kc_RX3_133 ?_
      obtain ⟨v13, m14, hc15, h⟩ := h
      refine pw_cV (z := mX3_finding) (av := [Iq (-1000004)]) (st := []) eX3_caught_45 lk_RX3_49 rfl (by decide) (by decide) sh0 rfl rfl (Nat.le_of_ble_eq_true rfl) rfl hc15 ?_
      show PW S mX3_caught Q 48 [some (Aq 0), some (Iq x1), some (Iq v9)] [Iq v13] m14
      refine pw_goto eX3_caught_48 ?_
      exact pw_iret eX3_caught_52 h
  · have h := h.2 c4
    refine pw_aload_n eX3_caught_11 rfl rfl ?_
    refine pw_ldc (n := (-1000001)) eX3_caught_12 ⟨by decide, by decide⟩ kc_RX3_48 ?_
    obtain ⟨v16, m17, hc18, h⟩ := h
    refine pw_cV (z := mX3_finding) (av := [Iq (-1000001)]) (st := []) eX3_caught_14 lk_RX3_49 rfl (by decide) (by decide) sh0 rfl rfl (Nat.le_of_ble_eq_true rfl) rfl hc18 ?_
    show PW S mX3_caught Q 17 [some (Aq 0), some (Iq x1), none] [Iq v16] m17
    exact pw_iret eX3_caught_17 h
set_option maxRecDepth 100000 in
theorem rg_X3_when_0 {S : Sx} {Q : Option PV → Zm → Prop} {mem : Zm}   {x1 x2 : Int} 
    (h : (∃ (v1 : Int) (m2 : Zm), Ct1 S mX0_has [Aq 1, Iq x1] mem (some (Iq v1)) m2 ∧ ((((v1 = 0) → ((∃ (v5 : Int) (m6 : Zm), Ct1 S mX3_finding [Aq 0, Iq (-1000001)] m2 (some (Iq v5)) m6 ∧ (Q (some (Iq v5)) m6)))) ∧ (¬ (v1 = 0) → ((∃ (v8 : Int) (m9 : Zm), Ct1 S mX3_within [Iq x2, Iq 0, Iq 9999] m2 (some (Iq v8)) m9 ∧ ((((¬ v8 = 0) → ((∃ (v12 : Int) (m13 : Zm), Ct1 S mX3_daysUntil [Aq 0, Iq x1, Iq 3, Iq x2] m9 (some (Iq v12)) m13 ∧ ((((¬ v12 = -1000004) → (Q (some (Iq v12)) m13)) ∧ (¬ (¬ v12 = -1000004) → ((∃ (v16 : Int) (m17 : Zm), Ct1 S mX3_finding [Aq 0, Iq (-1000004)] m13 (some (Iq v16)) m17 ∧ (Q (some (Iq v16)) m17))))))))) ∧ (¬ (¬ v8 = 0) → ((∃ (v19 : Int) (m20 : Zm), Ct1 S mX3_finding [Aq 0, Iq (-1000001)] m9 (some (Iq v19)) m20 ∧ (Q (some (Iq v19)) m20))))))))))))) :
    PW S mX3_when Q 0 [some (Aq 0), some (Iq x1), some (Iq x2), none] [] mem := by
  refine pw_aload_n eX3_when_0 rfl rfl ?_
  refine gf_RX3_10 rfl eX3_when_1 sh0 ?_
  refine pw_iload_n eX3_when_4 rfl rfl ?_
  obtain ⟨v1, m2, hc3, h⟩ := h
  refine pw_cV (z := mX0_has) (av := [Iq x1]) (st := []) eX3_when_5 lk_RX3_68 rfl (by decide) (by decide) (shR isR1) rfl rfl (Nat.le_of_ble_eq_true rfl) rfl hc3 ?_
  show PW S mX3_when Q 8 [some (Aq 0), some (Iq x1), some (Iq x2), none] [Iq v1] m2
  refine pw_if_eq eX3_when_8 (fun c4 => ?_) (fun c4 => ?_)
  · have h := h.1 c4
    refine pw_aload_n eX3_when_22 rfl rfl ?_
    refine pw_ldc (n := (-1000001)) eX3_when_23 ⟨by decide, by decide⟩ kc_RX3_48 ?_
    obtain ⟨v5, m6, hc7, h⟩ := h
    refine pw_cV (z := mX3_finding) (av := [Iq (-1000001)]) (st := []) eX3_when_25 lk_RX3_49 rfl (by decide) (by decide) sh0 rfl rfl (Nat.le_of_ble_eq_true rfl) rfl hc7 ?_
    show PW S mX3_when Q 28 [some (Aq 0), some (Iq x1), some (Iq x2), none] [Iq v5] m6
    exact pw_iret eX3_when_28 h
  · have h := h.2 c4
    refine pw_iload_n eX3_when_11 rfl rfl ?_
    refine pw_iconst eX3_when_12 ⟨by decide, by decide⟩ ?_
    refine pw_sipush eX3_when_13 ⟨by decide, by decide⟩ (by decide) ?_
    obtain ⟨v8, m9, hc10, h⟩ := h
    refine pw_cS (z := mX3_within) (av := [Iq x2, Iq 0, Iq 9999]) (st := []) eX3_when_16 lk_RX3_44 rfl (by decide) (by decide) (Nat.le_of_ble_eq_true rfl) rfl hc10 ?_
    show PW S mX3_when Q 19 [some (Aq 0), some (Iq x1), some (Iq x2), none] [Iq v8] m9
    refine pw_if_ne eX3_when_19 (fun c11 => ?_) (fun c11 => ?_)
    · have h := h.1 c11
      refine pw_aload_n eX3_when_29 rfl rfl ?_
      refine pw_iload_n eX3_when_30 rfl rfl ?_
      refine pw_iconst eX3_when_31 ⟨by decide, by decide⟩ ?_
      refine pw_iload_n eX3_when_32 rfl rfl ?_
      obtain ⟨v12, m13, hc14, h⟩ := h
      refine pw_cV (z := mX3_daysUntil) (av := [Iq x1, Iq 3, Iq x2]) (st := []) eX3_when_33 lk_RX3_130 rfl (by decide) (by decide) sh0 rfl rfl (Nat.le_of_ble_eq_true rfl) rfl hc14 ?_
      show PW S mX3_when Q 36 [some (Aq 0), some (Iq x1), some (Iq x2), none] [Iq v12] m13
      refine pw_istore_n (ls2 := [some (Aq 0), some (Iq x1), some (Iq x2), some (Iq v12)]) eX3_when_36 rfl (by decide) rfl ?_
      refine pw_iload_n eX3_when_37 rfl rfl ?_
      refine pw_ldc (n := (-1000004)) eX3_when_38 ⟨by decide, by decide⟩ kc_RX3_133 ?_
      refine pw_icmp_ne eX3_when_40 (fun c15 => ?_) (fun c15 => ?_)
      · have h := h.1 c15
        refine pw_iload_n eX3_when_52 rfl rfl ?_
        exact pw_iret eX3_when_53 h
      · have h := h.2 c15
        refine pw_aload_n eX3_when_43 rfl rfl ?_
        refine pw_ldc (n := (-1000004)) eX3_when_44 ⟨by decide, by decide⟩ kc_RX3_133 ?_
        obtain ⟨v16, m17, hc18, h⟩ := h
        refine pw_cV (z := mX3_finding) (av := [Iq (-1000004)]) (st := []) eX3_when_46 lk_RX3_49 rfl (by decide) (by decide) sh0 rfl rfl (Nat.le_of_ble_eq_true rfl) rfl hc18 ?_
        show PW S mX3_when Q 49 [some (Aq 0), some (Iq x1), some (Iq x2), some (Iq v12)] [Iq v16] m17
        refine pw_goto eX3_when_49 ?_
        exact pw_iret eX3_when_53 h
    · have h := h.2 c11
      refine pw_aload_n eX3_when_22 rfl rfl ?_
      refine pw_ldc (n := (-1000001)) eX3_when_23 ⟨by decide, by decide⟩ kc_RX3_48 ?_
      obtain ⟨v19, m20, hc21, h⟩ := h
      refine pw_cV (z := mX3_finding) (av := [Iq (-1000001)]) (st := []) eX3_when_25 lk_RX3_49 rfl (by decide) (by decide) sh0 rfl rfl (Nat.le_of_ble_eq_true rfl) rfl hc21 ?_
      show PW S mX3_when Q 28 [some (Aq 0), some (Iq x1), some (Iq x2), none] [Iq v19] m20
      exact pw_iret eX3_when_28 h
set_option maxRecDepth 100000 in
theorem rg_X3_copyFrom_0 {S : Sx} {Q : Option PV → Zm → Prop} {mem : Zm}   {x1 x2 : Int} 
    (h : (∃ (v1 : Int) (m2 : Zm), Ct1 S mX0_has [Aq 1, Iq x1] mem (some (Iq v1)) m2 ∧ ((((v1 = 0) → ((∃ (v5 : Int) (m6 : Zm), Ct1 S mX3_finding [Aq 0, Iq (-1000001)] m2 (some (Iq v5)) m6 ∧ (Q (some (Iq v5)) m6)))) ∧ (¬ (v1 = 0) → ((∃ (v8 : Int) (m9 : Zm), Ct1 S mX3_within [Iq x2, Iq 0, Iq 20] m2 (some (Iq v8)) m9 ∧ ((((¬ v8 = 0) → (PW S mX3_copyFrom Q 36 [some (Aq 0), some (Iq x1), some (Iq x2), some (Iq (-1)), some (Iq (-1)), some (Iq 0), none] [] m9)) ∧ (¬ (¬ v8 = 0) → ((∃ (v12 : Int) (m13 : Zm), Ct1 S mX3_finding [Aq 0, Iq (-1000001)] m9 (some (Iq v12)) m13 ∧ (Q (some (Iq v12)) m13))))))))))))) :
    PW S mX3_copyFrom Q 0 [some (Aq 0), some (Iq x1), some (Iq x2), none, none, none, none] [] mem := by
  refine pw_aload_n eX3_copyFrom_0 rfl rfl ?_
  refine gf_RX3_10 rfl eX3_copyFrom_1 sh0 ?_
  refine pw_iload_n eX3_copyFrom_4 rfl rfl ?_
  obtain ⟨v1, m2, hc3, h⟩ := h
  refine pw_cV (z := mX0_has) (av := [Iq x1]) (st := []) eX3_copyFrom_5 lk_RX3_68 rfl (by decide) (by decide) (shR isR1) rfl rfl (Nat.le_of_ble_eq_true rfl) rfl hc3 ?_
  show PW S mX3_copyFrom Q 8 [some (Aq 0), some (Iq x1), some (Iq x2), none, none, none, none] [Iq v1] m2
  refine pw_if_eq eX3_copyFrom_8 (fun c4 => ?_) (fun c4 => ?_)
  · have h := h.1 c4
    refine pw_aload_n eX3_copyFrom_21 rfl rfl ?_
    refine pw_ldc (n := (-1000001)) eX3_copyFrom_22 ⟨by decide, by decide⟩ kc_RX3_48 ?_
    obtain ⟨v5, m6, hc7, h⟩ := h
    refine pw_cV (z := mX3_finding) (av := [Iq (-1000001)]) (st := []) eX3_copyFrom_24 lk_RX3_49 rfl (by decide) (by decide) sh0 rfl rfl (Nat.le_of_ble_eq_true rfl) rfl hc7 ?_
    show PW S mX3_copyFrom Q 27 [some (Aq 0), some (Iq x1), some (Iq x2), none, none, none, none] [Iq v5] m6
    exact pw_iret eX3_copyFrom_27 h
  · have h := h.2 c4
    refine pw_iload_n eX3_copyFrom_11 rfl rfl ?_
    refine pw_iconst eX3_copyFrom_12 ⟨by decide, by decide⟩ ?_
    refine pw_bipush eX3_copyFrom_13 ⟨by decide, by decide⟩ (by decide) ?_
    obtain ⟨v8, m9, hc10, h⟩ := h
    refine pw_cS (z := mX3_within) (av := [Iq x2, Iq 0, Iq 20]) (st := []) eX3_copyFrom_15 lk_RX3_44 rfl (by decide) (by decide) (Nat.le_of_ble_eq_true rfl) rfl hc10 ?_
    show PW S mX3_copyFrom Q 18 [some (Aq 0), some (Iq x1), some (Iq x2), none, none, none, none] [Iq v8] m9
    refine pw_if_ne eX3_copyFrom_18 (fun c11 => ?_) (fun c11 => ?_)
    · have h := h.1 c11
      refine pw_iconst eX3_copyFrom_28 ⟨by decide, by decide⟩ ?_
      refine pw_istore_n (ls2 := [some (Aq 0), some (Iq x1), some (Iq x2), some (Iq (-1)), none, none, none]) eX3_copyFrom_29 rfl (by decide) rfl ?_
      refine pw_iconst eX3_copyFrom_30 ⟨by decide, by decide⟩ ?_
      refine pw_istore (ls2 := [some (Aq 0), some (Iq x1), some (Iq x2), some (Iq (-1)), some (Iq (-1)), none, none]) eX3_copyFrom_31 (by decide) rfl ?_
      refine pw_iconst eX3_copyFrom_33 ⟨by decide, by decide⟩ ?_
      refine pw_istore (ls2 := [some (Aq 0), some (Iq x1), some (Iq x2), some (Iq (-1)), some (Iq (-1)), some (Iq 0), none]) eX3_copyFrom_34 (by decide) rfl ?_
      exact h
    · have h := h.2 c11
      refine pw_aload_n eX3_copyFrom_21 rfl rfl ?_
      refine pw_ldc (n := (-1000001)) eX3_copyFrom_22 ⟨by decide, by decide⟩ kc_RX3_48 ?_
      obtain ⟨v12, m13, hc14, h⟩ := h
      refine pw_cV (z := mX3_finding) (av := [Iq (-1000001)]) (st := []) eX3_copyFrom_24 lk_RX3_49 rfl (by decide) (by decide) sh0 rfl rfl (Nat.le_of_ble_eq_true rfl) rfl hc14 ?_
      show PW S mX3_copyFrom Q 27 [some (Aq 0), some (Iq x1), some (Iq x2), none, none, none, none] [Iq v12] m13
      exact pw_iret eX3_copyFrom_27 h

set_option maxRecDepth 100000 in
theorem rg_X3_copyFrom_36 {S : Sx} {Q : Option PV → Zm → Prop} {mem : Zm}   {x1 x2 x3 x4 x5 : Int} 
    (h : (((mem 1 7 ≤ x5) → ((∃ (v2 : Int) (m3 : Zm), Ct1 S mX3_marksWith [Aq 0, Iq x1, Iq 2, Iq (-1), Iq x2] mem (some (Iq v2)) m3 ∧ ((((v2 ≤ x4) → (Q (some (Iq x3)) m3)) ∧ (¬ (v2 ≤ x4) → (Q (some (Iq (-1))) m3))))))) ∧ (¬ (mem 1 7 ≤ x5) → ((((¬ x5 = x1) → ((∃ (v7 : Int) (m8 : Zm), Ct1 S mX3_marksWith [Aq 0, Iq x1, Iq 2, Iq x5, Iq x2] mem (some (Iq v7)) m8 ∧ ((((v7 ≤ x4) → ((in32 (x5 + 1)) ∧ PW S mX3_copyFrom Q 36 [some (Aq 0), some (Iq x1), some (Iq x2), some (Iq x3), some (Iq x4), some (Iq (x5 + 1)), none] [] m8)) ∧ (¬ (v7 ≤ x4) → ((in32 (x5 + 1)) ∧ PW S mX3_copyFrom Q 36 [some (Aq 0), some (Iq x1), some (Iq x2), some (Iq x5), some (Iq v7), some (Iq (x5 + 1)), none] [] m8))))))) ∧ (¬ (¬ x5 = x1) → ((((-1 ≤ x4) → ((in32 (x5 + 1)) ∧ PW S mX3_copyFrom Q 36 [some (Aq 0), some (Iq x1), some (Iq x2), some (Iq x3), some (Iq x4), some (Iq (x5 + 1)), none] [] mem)) ∧ (¬ (-1 ≤ x4) → ((in32 (x5 + 1)) ∧ PW S mX3_copyFrom Q 36 [some (Aq 0), some (Iq x1), some (Iq x2), some (Iq x5), some (Iq (-1)), some (Iq (x5 + 1)), none] [] mem)))))))))) :
    PW S mX3_copyFrom Q 36 [some (Aq 0), some (Iq x1), some (Iq x2), some (Iq x3), some (Iq x4), some (Iq x5), none] [] mem := by
  refine pw_iload eX3_copyFrom_36 rfl ?_
  refine pw_aload_n eX3_copyFrom_38 rfl rfl ?_
  refine gf_RX3_10 rfl eX3_copyFrom_39 sh0 ?_
  refine gf_RX3_60 rfl eX3_copyFrom_42 (shR isR1) ?_
  refine pw_icmp_ge eX3_copyFrom_45 (fun c1 => ?_) (fun c1 => ?_)
  · have h := h.1 c1
    refine pw_aload_n eX3_copyFrom_89 rfl rfl ?_
    refine pw_iload_n eX3_copyFrom_90 rfl rfl ?_
    refine pw_iconst eX3_copyFrom_91 ⟨by decide, by decide⟩ ?_
    refine pw_iconst eX3_copyFrom_92 ⟨by decide, by decide⟩ ?_
    refine pw_iload_n eX3_copyFrom_93 rfl rfl ?_
    obtain ⟨v2, m3, hc4, h⟩ := h
    refine pw_cV (z := mX3_marksWith) (av := [Iq x1, Iq 2, Iq (-1), Iq x2]) (st := []) eX3_copyFrom_94 lk_RX3_134 rfl (by decide) (by decide) sh0 rfl rfl (Nat.le_of_ble_eq_true rfl) rfl hc4 ?_
    show PW S mX3_copyFrom Q 97 [some (Aq 0), some (Iq x1), some (Iq x2), some (Iq x3), some (Iq x4), some (Iq x5), none] [Iq v2] m3
    refine pw_iload eX3_copyFrom_97 rfl ?_
    refine pw_icmp_le eX3_copyFrom_99 (fun c5 => ?_) (fun c5 => ?_)
    · have h := h.1 c5
      refine pw_iload_n eX3_copyFrom_106 rfl rfl ?_
      exact pw_iret eX3_copyFrom_107 h
    · have h := h.2 c5
      refine pw_iconst eX3_copyFrom_102 ⟨by decide, by decide⟩ ?_
      refine pw_goto eX3_copyFrom_103 ?_
      exact pw_iret eX3_copyFrom_107 h
  · have h := h.2 c1
    refine pw_iload eX3_copyFrom_48 rfl ?_
    refine pw_iload_n eX3_copyFrom_50 rfl rfl ?_
    refine pw_icmp_ne eX3_copyFrom_51 (fun c6 => ?_) (fun c6 => ?_)
    · have h := h.1 c6
      refine pw_aload_n eX3_copyFrom_58 rfl rfl ?_
      refine pw_iload_n eX3_copyFrom_59 rfl rfl ?_
      refine pw_iconst eX3_copyFrom_60 ⟨by decide, by decide⟩ ?_
      refine pw_iload eX3_copyFrom_61 rfl ?_
      refine pw_iload_n eX3_copyFrom_63 rfl rfl ?_
      obtain ⟨v7, m8, hc9, h⟩ := h
      refine pw_cV (z := mX3_marksWith) (av := [Iq x1, Iq 2, Iq x5, Iq x2]) (st := []) eX3_copyFrom_64 lk_RX3_134 rfl (by decide) (by decide) sh0 rfl rfl (Nat.le_of_ble_eq_true rfl) rfl hc9 ?_
      show PW S mX3_copyFrom Q 67 [some (Aq 0), some (Iq x1), some (Iq x2), some (Iq x3), some (Iq x4), some (Iq x5), none] [Iq v7] m8
      refine pw_istore (ls2 := [some (Aq 0), some (Iq x1), some (Iq x2), some (Iq x3), some (Iq x4), some (Iq x5), some (Iq v7)]) eX3_copyFrom_67 (by decide) rfl ?_
      refine pw_iload eX3_copyFrom_69 rfl ?_
      refine pw_iload eX3_copyFrom_71 rfl ?_
      refine pw_icmp_le eX3_copyFrom_73 (fun c10 => ?_) (fun c10 => ?_)
      · have h := h.1 c10
        obtain ⟨o11, h⟩ := h
        refine pw_iinc (ls2 := [some (Aq 0), some (Iq x1), some (Iq x2), some (Iq x3), some (Iq x4), some (Iq (x5 + 1)), some (Iq v7)]) eX3_copyFrom_83 rfl o11 rfl ?_
        refine pw_goto eX3_copyFrom_86 ?_
        exact pw_drop (bs := [true, true, true, true, true, true, false]) h
      · have h := h.2 c10
        refine pw_iload eX3_copyFrom_76 rfl ?_
        refine pw_istore (ls2 := [some (Aq 0), some (Iq x1), some (Iq x2), some (Iq x3), some (Iq v7), some (Iq x5), some (Iq v7)]) eX3_copyFrom_78 (by decide) rfl ?_
        refine pw_iload eX3_copyFrom_80 rfl ?_
        refine pw_istore_n (ls2 := [some (Aq 0), some (Iq x1), some (Iq x2), some (Iq x5), some (Iq v7), some (Iq x5), some (Iq v7)]) eX3_copyFrom_82 rfl (by decide) rfl ?_
        obtain ⟨o12, h⟩ := h
        refine pw_iinc (ls2 := [some (Aq 0), some (Iq x1), some (Iq x2), some (Iq x5), some (Iq v7), some (Iq (x5 + 1)), some (Iq v7)]) eX3_copyFrom_83 rfl o12 rfl ?_
        refine pw_goto eX3_copyFrom_86 ?_
        exact pw_drop (bs := [true, true, true, true, true, true, false]) h
    · have h := h.2 c6
      refine pw_iconst eX3_copyFrom_54 ⟨by decide, by decide⟩ ?_
      refine pw_goto eX3_copyFrom_55 ?_
      refine pw_istore (ls2 := [some (Aq 0), some (Iq x1), some (Iq x2), some (Iq x3), some (Iq x4), some (Iq x5), some (Iq (-1))]) eX3_copyFrom_67 (by decide) rfl ?_
      refine pw_iload eX3_copyFrom_69 rfl ?_
      refine pw_iload eX3_copyFrom_71 rfl ?_
      refine pw_icmp_le eX3_copyFrom_73 (fun c13 => ?_) (fun c13 => ?_)
      · have h := h.1 c13
        obtain ⟨o14, h⟩ := h
        refine pw_iinc (ls2 := [some (Aq 0), some (Iq x1), some (Iq x2), some (Iq x3), some (Iq x4), some (Iq (x5 + 1)), some (Iq (-1))]) eX3_copyFrom_83 rfl o14 rfl ?_
        refine pw_goto eX3_copyFrom_86 ?_
        exact pw_drop (bs := [true, true, true, true, true, true, false]) h
      · have h := h.2 c13
        refine pw_iload eX3_copyFrom_76 rfl ?_
        refine pw_istore (ls2 := [some (Aq 0), some (Iq x1), some (Iq x2), some (Iq x3), some (Iq (-1)), some (Iq x5), some (Iq (-1))]) eX3_copyFrom_78 (by decide) rfl ?_
        refine pw_iload eX3_copyFrom_80 rfl ?_
        refine pw_istore_n (ls2 := [some (Aq 0), some (Iq x1), some (Iq x2), some (Iq x5), some (Iq (-1)), some (Iq x5), some (Iq (-1))]) eX3_copyFrom_82 rfl (by decide) rfl ?_
        obtain ⟨o15, h⟩ := h
        refine pw_iinc (ls2 := [some (Aq 0), some (Iq x1), some (Iq x2), some (Iq x5), some (Iq (-1)), some (Iq (x5 + 1)), some (Iq (-1))]) eX3_copyFrom_83 rfl o15 rfl ?_
        refine pw_goto eX3_copyFrom_86 ?_
        exact pw_drop (bs := [true, true, true, true, true, true, false]) h
set_option maxRecDepth 100000 in
theorem rg_X3_kindFor_0 {S : Sx} {Q : Option PV → Zm → Prop} {mem : Zm}   {x1 x2 : Int} 
    (h : (∃ (v1 : Int) (m2 : Zm), Ct1 S mX0_has [Aq 1, Iq x1] mem (some (Iq v1)) m2 ∧ ((((v1 = 0) → ((∃ (v5 : Int) (m6 : Zm), Ct1 S mX3_finding [Aq 0, Iq (-1000001)] m2 (some (Iq v5)) m6 ∧ (Q (some (Iq v5)) m6)))) ∧ (¬ (v1 = 0) → ((∃ (v8 : Int) (m9 : Zm), Ct1 S mX3_within [Iq x2, Iq 0, Iq 20] m2 (some (Iq v8)) m9 ∧ ((((¬ v8 = 0) → (PW S mX3_kindFor Q 36 [some (Aq 0), some (Iq x1), some (Iq x2), some (Iq 0), some (Iq (-1)), some (Iq 0), none] [] m9)) ∧ (¬ (¬ v8 = 0) → ((∃ (v12 : Int) (m13 : Zm), Ct1 S mX3_finding [Aq 0, Iq (-1000001)] m9 (some (Iq v12)) m13 ∧ (Q (some (Iq v12)) m13))))))))))))) :
    PW S mX3_kindFor Q 0 [some (Aq 0), some (Iq x1), some (Iq x2), none, none, none, none] [] mem := by
  refine pw_aload_n eX3_kindFor_0 rfl rfl ?_
  refine gf_RX3_10 rfl eX3_kindFor_1 sh0 ?_
  refine pw_iload_n eX3_kindFor_4 rfl rfl ?_
  obtain ⟨v1, m2, hc3, h⟩ := h
  refine pw_cV (z := mX0_has) (av := [Iq x1]) (st := []) eX3_kindFor_5 lk_RX3_68 rfl (by decide) (by decide) (shR isR1) rfl rfl (Nat.le_of_ble_eq_true rfl) rfl hc3 ?_
  show PW S mX3_kindFor Q 8 [some (Aq 0), some (Iq x1), some (Iq x2), none, none, none, none] [Iq v1] m2
  refine pw_if_eq eX3_kindFor_8 (fun c4 => ?_) (fun c4 => ?_)
  · have h := h.1 c4
    refine pw_aload_n eX3_kindFor_21 rfl rfl ?_
    refine pw_ldc (n := (-1000001)) eX3_kindFor_22 ⟨by decide, by decide⟩ kc_RX3_48 ?_
    obtain ⟨v5, m6, hc7, h⟩ := h
    refine pw_cV (z := mX3_finding) (av := [Iq (-1000001)]) (st := []) eX3_kindFor_24 lk_RX3_49 rfl (by decide) (by decide) sh0 rfl rfl (Nat.le_of_ble_eq_true rfl) rfl hc7 ?_
    show PW S mX3_kindFor Q 27 [some (Aq 0), some (Iq x1), some (Iq x2), none, none, none, none] [Iq v5] m6
    exact pw_iret eX3_kindFor_27 h
  · have h := h.2 c4
    refine pw_iload_n eX3_kindFor_11 rfl rfl ?_
    refine pw_iconst eX3_kindFor_12 ⟨by decide, by decide⟩ ?_
    refine pw_bipush eX3_kindFor_13 ⟨by decide, by decide⟩ (by decide) ?_
    obtain ⟨v8, m9, hc10, h⟩ := h
    refine pw_cS (z := mX3_within) (av := [Iq x2, Iq 0, Iq 20]) (st := []) eX3_kindFor_15 lk_RX3_44 rfl (by decide) (by decide) (Nat.le_of_ble_eq_true rfl) rfl hc10 ?_
    show PW S mX3_kindFor Q 18 [some (Aq 0), some (Iq x1), some (Iq x2), none, none, none, none] [Iq v8] m9
    refine pw_if_ne eX3_kindFor_18 (fun c11 => ?_) (fun c11 => ?_)
    · have h := h.1 c11
      refine pw_iconst eX3_kindFor_28 ⟨by decide, by decide⟩ ?_
      refine pw_istore_n (ls2 := [some (Aq 0), some (Iq x1), some (Iq x2), some (Iq 0), none, none, none]) eX3_kindFor_29 rfl (by decide) rfl ?_
      refine pw_iconst eX3_kindFor_30 ⟨by decide, by decide⟩ ?_
      refine pw_istore (ls2 := [some (Aq 0), some (Iq x1), some (Iq x2), some (Iq 0), some (Iq (-1)), none, none]) eX3_kindFor_31 (by decide) rfl ?_
      refine pw_iconst eX3_kindFor_33 ⟨by decide, by decide⟩ ?_
      refine pw_istore (ls2 := [some (Aq 0), some (Iq x1), some (Iq x2), some (Iq 0), some (Iq (-1)), some (Iq 0), none]) eX3_kindFor_34 (by decide) rfl ?_
      exact h
    · have h := h.2 c11
      refine pw_aload_n eX3_kindFor_21 rfl rfl ?_
      refine pw_ldc (n := (-1000001)) eX3_kindFor_22 ⟨by decide, by decide⟩ kc_RX3_48 ?_
      obtain ⟨v12, m13, hc14, h⟩ := h
      refine pw_cV (z := mX3_finding) (av := [Iq (-1000001)]) (st := []) eX3_kindFor_24 lk_RX3_49 rfl (by decide) (by decide) sh0 rfl rfl (Nat.le_of_ble_eq_true rfl) rfl hc14 ?_
      show PW S mX3_kindFor Q 27 [some (Aq 0), some (Iq x1), some (Iq x2), none, none, none, none] [Iq v12] m13
      exact pw_iret eX3_kindFor_27 h

set_option maxRecDepth 100000 in
theorem rg_X3_kindFor_36 {S : Sx} {Q : Option PV → Zm → Prop} {mem : Zm}   {x1 x2 x3 x4 x5 : Int} 
    (h : (((7 ≤ x5) → (Q (some (Iq x3)) mem)) ∧ (¬ (7 ≤ x5) → ((∃ (v2 : Int) (m3 : Zm), Ct1 S mX3_marksWith [Aq 0, Iq x1, Iq 0, Iq x5, Iq x2] mem (some (Iq v2)) m3 ∧ ((((v2 ≤ x4) → ((in32 (x5 + 1)) ∧ PW S mX3_kindFor Q 36 [some (Aq 0), some (Iq x1), some (Iq x2), some (Iq x3), some (Iq x4), some (Iq (x5 + 1)), none] [] m3)) ∧ (¬ (v2 ≤ x4) → ((in32 (x5 + 1)) ∧ PW S mX3_kindFor Q 36 [some (Aq 0), some (Iq x1), some (Iq x2), some (Iq x5), some (Iq v2), some (Iq (x5 + 1)), none] [] m3))))))))) :
    PW S mX3_kindFor Q 36 [some (Aq 0), some (Iq x1), some (Iq x2), some (Iq x3), some (Iq x4), some (Iq x5), none] [] mem := by
  refine pw_iload eX3_kindFor_36 rfl ?_
  refine pw_bipush eX3_kindFor_38 ⟨by decide, by decide⟩ (by decide) ?_
  refine pw_icmp_ge eX3_kindFor_40 (fun c1 => ?_) (fun c1 => ?_)
  · have h := h.1 c1
    refine pw_iload_n eX3_kindFor_74 rfl rfl ?_
    exact pw_iret eX3_kindFor_75 h
  · have h := h.2 c1
    refine pw_aload_n eX3_kindFor_43 rfl rfl ?_
    refine pw_iload_n eX3_kindFor_44 rfl rfl ?_
    refine pw_iconst eX3_kindFor_45 ⟨by decide, by decide⟩ ?_
    refine pw_iload eX3_kindFor_46 rfl ?_
    refine pw_iload_n eX3_kindFor_48 rfl rfl ?_
    obtain ⟨v2, m3, hc4, h⟩ := h
    refine pw_cV (z := mX3_marksWith) (av := [Iq x1, Iq 0, Iq x5, Iq x2]) (st := []) eX3_kindFor_49 lk_RX3_134 rfl (by decide) (by decide) sh0 rfl rfl (Nat.le_of_ble_eq_true rfl) rfl hc4 ?_
    show PW S mX3_kindFor Q 52 [some (Aq 0), some (Iq x1), some (Iq x2), some (Iq x3), some (Iq x4), some (Iq x5), none] [Iq v2] m3
    refine pw_istore (ls2 := [some (Aq 0), some (Iq x1), some (Iq x2), some (Iq x3), some (Iq x4), some (Iq x5), some (Iq v2)]) eX3_kindFor_52 (by decide) rfl ?_
    refine pw_iload eX3_kindFor_54 rfl ?_
    refine pw_iload eX3_kindFor_56 rfl ?_
    refine pw_icmp_le eX3_kindFor_58 (fun c5 => ?_) (fun c5 => ?_)
    · have h := h.1 c5
      obtain ⟨o6, h⟩ := h
      refine pw_iinc (ls2 := [some (Aq 0), some (Iq x1), some (Iq x2), some (Iq x3), some (Iq x4), some (Iq (x5 + 1)), some (Iq v2)]) eX3_kindFor_68 rfl o6 rfl ?_
      refine pw_goto eX3_kindFor_71 ?_
      exact pw_drop (bs := [true, true, true, true, true, true, false]) h
    · have h := h.2 c5
      refine pw_iload eX3_kindFor_61 rfl ?_
      refine pw_istore (ls2 := [some (Aq 0), some (Iq x1), some (Iq x2), some (Iq x3), some (Iq v2), some (Iq x5), some (Iq v2)]) eX3_kindFor_63 (by decide) rfl ?_
      refine pw_iload eX3_kindFor_65 rfl ?_
      refine pw_istore_n (ls2 := [some (Aq 0), some (Iq x1), some (Iq x2), some (Iq x5), some (Iq v2), some (Iq x5), some (Iq v2)]) eX3_kindFor_67 rfl (by decide) rfl ?_
      obtain ⟨o7, h⟩ := h
      refine pw_iinc (ls2 := [some (Aq 0), some (Iq x1), some (Iq x2), some (Iq x5), some (Iq v2), some (Iq (x5 + 1)), some (Iq v2)]) eX3_kindFor_68 rfl o7 rfl ?_
      refine pw_goto eX3_kindFor_71 ?_
      exact pw_drop (bs := [true, true, true, true, true, true, false]) h
set_option maxRecDepth 100000 in
theorem rg_X3_learn_0 {S : Sx} {Q : Option PV → Zm → Prop} {mem : Zm}   {x1 x2 : Int} 
    (h : (∃ (v1 : Int) (m2 : Zm), Ct1 S mX0_has [Aq 1, Iq x1] mem (some (Iq v1)) m2 ∧ ((((v1 = 0) → ((∃ (v5 : Int) (m6 : Zm), Ct1 S mX3_finding [Aq 0, Iq (-1000001)] m2 (some (Iq v5)) m6 ∧ (Q (some (Iq v5)) m6)))) ∧ (¬ (v1 = 0) → ((∃ (v8 : Int) (m9 : Zm), Ct1 S mX3_within [Iq x2, Iq 0, Iq 20] m2 (some (Iq v8)) m9 ∧ ((((¬ v8 = 0) → ((∃ (v12 : Int) (m13 : Zm), Ct1 S mX0_fact [Aq 1, Iq x1, Iq 1] m9 (some (Iq v12)) m13 ∧ (PW S mX3_learn Q 47 [some (Aq 0), some (Iq x1), some (Iq x2), some (Iq v12), some (Iq 0), some (Iq (-1)), some (Iq 0), none] [] m13)))) ∧ (¬ (¬ v8 = 0) → ((∃ (v15 : Int) (m16 : Zm), Ct1 S mX3_finding [Aq 0, Iq (-1000001)] m9 (some (Iq v15)) m16 ∧ (Q (some (Iq v15)) m16))))))))))))) :
    PW S mX3_learn Q 0 [some (Aq 0), some (Iq x1), some (Iq x2), none, none, none, none, none] [] mem := by
  refine pw_aload_n eX3_learn_0 rfl rfl ?_
  refine gf_RX3_10 rfl eX3_learn_1 sh0 ?_
  refine pw_iload_n eX3_learn_4 rfl rfl ?_
  obtain ⟨v1, m2, hc3, h⟩ := h
  refine pw_cV (z := mX0_has) (av := [Iq x1]) (st := []) eX3_learn_5 lk_RX3_68 rfl (by decide) (by decide) (shR isR1) rfl rfl (Nat.le_of_ble_eq_true rfl) rfl hc3 ?_
  show PW S mX3_learn Q 8 [some (Aq 0), some (Iq x1), some (Iq x2), none, none, none, none, none] [Iq v1] m2
  refine pw_if_eq eX3_learn_8 (fun c4 => ?_) (fun c4 => ?_)
  · have h := h.1 c4
    refine pw_aload_n eX3_learn_21 rfl rfl ?_
    refine pw_ldc (n := (-1000001)) eX3_learn_22 ⟨by decide, by decide⟩ kc_RX3_48 ?_
    obtain ⟨v5, m6, hc7, h⟩ := h
    refine pw_cV (z := mX3_finding) (av := [Iq (-1000001)]) (st := []) eX3_learn_24 lk_RX3_49 rfl (by decide) (by decide) sh0 rfl rfl (Nat.le_of_ble_eq_true rfl) rfl hc7 ?_
    show PW S mX3_learn Q 27 [some (Aq 0), some (Iq x1), some (Iq x2), none, none, none, none, none] [Iq v5] m6
    exact pw_iret eX3_learn_27 h
  · have h := h.2 c4
    refine pw_iload_n eX3_learn_11 rfl rfl ?_
    refine pw_iconst eX3_learn_12 ⟨by decide, by decide⟩ ?_
    refine pw_bipush eX3_learn_13 ⟨by decide, by decide⟩ (by decide) ?_
    obtain ⟨v8, m9, hc10, h⟩ := h
    refine pw_cS (z := mX3_within) (av := [Iq x2, Iq 0, Iq 20]) (st := []) eX3_learn_15 lk_RX3_44 rfl (by decide) (by decide) (Nat.le_of_ble_eq_true rfl) rfl hc10 ?_
    show PW S mX3_learn Q 18 [some (Aq 0), some (Iq x1), some (Iq x2), none, none, none, none, none] [Iq v8] m9
    refine pw_if_ne eX3_learn_18 (fun c11 => ?_) (fun c11 => ?_)
    · have h := h.1 c11
      refine pw_aload_n eX3_learn_28 rfl rfl ?_
      refine gf_RX3_10 rfl eX3_learn_29 sh0 ?_
      refine pw_iload_n eX3_learn_32 rfl rfl ?_
      refine pw_iconst eX3_learn_33 ⟨by decide, by decide⟩ ?_
      obtain ⟨v12, m13, hc14, h⟩ := h
      refine pw_cV (z := mX0_fact) (av := [Iq x1, Iq 1]) (st := []) eX3_learn_34 lk_RX3_81 rfl (by decide) (by decide) (shR isR1) rfl rfl (Nat.le_of_ble_eq_true rfl) rfl hc14 ?_
      show PW S mX3_learn Q 37 [some (Aq 0), some (Iq x1), some (Iq x2), none, none, none, none, none] [Iq v12] m13
      refine pw_istore_n (ls2 := [some (Aq 0), some (Iq x1), some (Iq x2), some (Iq v12), none, none, none, none]) eX3_learn_37 rfl (by decide) rfl ?_
      refine pw_iconst eX3_learn_38 ⟨by decide, by decide⟩ ?_
      refine pw_istore (ls2 := [some (Aq 0), some (Iq x1), some (Iq x2), some (Iq v12), some (Iq 0), none, none, none]) eX3_learn_39 (by decide) rfl ?_
      refine pw_iconst eX3_learn_41 ⟨by decide, by decide⟩ ?_
      refine pw_istore (ls2 := [some (Aq 0), some (Iq x1), some (Iq x2), some (Iq v12), some (Iq 0), some (Iq (-1)), none, none]) eX3_learn_42 (by decide) rfl ?_
      refine pw_iconst eX3_learn_44 ⟨by decide, by decide⟩ ?_
      refine pw_istore (ls2 := [some (Aq 0), some (Iq x1), some (Iq x2), some (Iq v12), some (Iq 0), some (Iq (-1)), some (Iq 0), none]) eX3_learn_45 (by decide) rfl ?_
      exact h
    · have h := h.2 c11
      refine pw_aload_n eX3_learn_21 rfl rfl ?_
      refine pw_ldc (n := (-1000001)) eX3_learn_22 ⟨by decide, by decide⟩ kc_RX3_48 ?_
      obtain ⟨v15, m16, hc17, h⟩ := h
      refine pw_cV (z := mX3_finding) (av := [Iq (-1000001)]) (st := []) eX3_learn_24 lk_RX3_49 rfl (by decide) (by decide) sh0 rfl rfl (Nat.le_of_ble_eq_true rfl) rfl hc17 ?_
      show PW S mX3_learn Q 27 [some (Aq 0), some (Iq x1), some (Iq x2), none, none, none, none, none] [Iq v15] m16
      exact pw_iret eX3_learn_27 h

set_option maxRecDepth 100000 in
theorem rg_X3_learn_47 {S : Sx} {Q : Option PV → Zm → Prop} {mem : Zm}   {x1 x2 x3 x4 x5 x6 : Int} 
    (h : (((8 ≤ x6) → (Q (some (Iq x4)) mem)) ∧ (¬ (8 ≤ x6) → ((∃ (v2 : Int) (m3 : Zm), Ct1 S mX3_marksWith [Aq 0, Iq x1, Iq 1, Iq (bOr x3 (bShl 1 x6)), Iq x2] mem (some (Iq v2)) m3 ∧ ((((v2 ≤ x5) → ((in32 (x6 + 1)) ∧ PW S mX3_learn Q 47 [some (Aq 0), some (Iq x1), some (Iq x2), some (Iq x3), some (Iq x4), some (Iq x5), some (Iq (x6 + 1)), none] [] m3)) ∧ (¬ (v2 ≤ x5) → ((in32 (x6 + 1)) ∧ PW S mX3_learn Q 47 [some (Aq 0), some (Iq x1), some (Iq x2), some (Iq x3), some (Iq x6), some (Iq v2), some (Iq (x6 + 1)), none] [] m3))))))))) :
    PW S mX3_learn Q 47 [some (Aq 0), some (Iq x1), some (Iq x2), some (Iq x3), some (Iq x4), some (Iq x5), some (Iq x6), none] [] mem := by
  refine pw_iload eX3_learn_47 rfl ?_
  refine pw_bipush eX3_learn_49 ⟨by decide, by decide⟩ (by decide) ?_
  refine pw_icmp_ge eX3_learn_51 (fun c1 => ?_) (fun c1 => ?_)
  · have h := h.1 c1
    refine pw_iload eX3_learn_90 rfl ?_
    exact pw_iret eX3_learn_92 h
  · have h := h.2 c1
    refine pw_aload_n eX3_learn_54 rfl rfl ?_
    refine pw_iload_n eX3_learn_55 rfl rfl ?_
    refine pw_iconst eX3_learn_56 ⟨by decide, by decide⟩ ?_
    refine pw_iload_n eX3_learn_57 rfl rfl ?_
    refine pw_iconst eX3_learn_58 ⟨by decide, by decide⟩ ?_
    refine pw_iload eX3_learn_59 rfl ?_
    refine pw_ishl eX3_learn_61 ?_
    refine pw_ior eX3_learn_62 ?_
    refine pw_iload_n eX3_learn_63 rfl rfl ?_
    obtain ⟨v2, m3, hc4, h⟩ := h
    refine pw_cV (z := mX3_marksWith) (av := [Iq x1, Iq 1, Iq (bOr x3 (bShl 1 x6)), Iq x2]) (st := []) eX3_learn_64 lk_RX3_134 rfl (by decide) (by decide) sh0 rfl rfl (Nat.le_of_ble_eq_true rfl) rfl hc4 ?_
    show PW S mX3_learn Q 67 [some (Aq 0), some (Iq x1), some (Iq x2), some (Iq x3), some (Iq x4), some (Iq x5), some (Iq x6), none] [Iq v2] m3
    refine pw_istore (ls2 := [some (Aq 0), some (Iq x1), some (Iq x2), some (Iq x3), some (Iq x4), some (Iq x5), some (Iq x6), some (Iq v2)]) eX3_learn_67 (by decide) rfl ?_
    refine pw_iload eX3_learn_69 rfl ?_
    refine pw_iload eX3_learn_71 rfl ?_
    refine pw_icmp_le eX3_learn_73 (fun c5 => ?_) (fun c5 => ?_)
    · have h := h.1 c5
      obtain ⟨o6, h⟩ := h
      refine pw_iinc (ls2 := [some (Aq 0), some (Iq x1), some (Iq x2), some (Iq x3), some (Iq x4), some (Iq x5), some (Iq (x6 + 1)), some (Iq v2)]) eX3_learn_84 rfl o6 rfl ?_
      refine pw_goto eX3_learn_87 ?_
      exact pw_drop (bs := [true, true, true, true, true, true, true, false]) h
    · have h := h.2 c5
      refine pw_iload eX3_learn_76 rfl ?_
      refine pw_istore (ls2 := [some (Aq 0), some (Iq x1), some (Iq x2), some (Iq x3), some (Iq x4), some (Iq v2), some (Iq x6), some (Iq v2)]) eX3_learn_78 (by decide) rfl ?_
      refine pw_iload eX3_learn_80 rfl ?_
      refine pw_istore (ls2 := [some (Aq 0), some (Iq x1), some (Iq x2), some (Iq x3), some (Iq x6), some (Iq v2), some (Iq x6), some (Iq v2)]) eX3_learn_82 (by decide) rfl ?_
      obtain ⟨o7, h⟩ := h
      refine pw_iinc (ls2 := [some (Aq 0), some (Iq x1), some (Iq x2), some (Iq x3), some (Iq x6), some (Iq v2), some (Iq (x6 + 1)), some (Iq v2)]) eX3_learn_84 rfl o7 rfl ?_
      refine pw_goto eX3_learn_87 ?_
      exact pw_drop (bs := [true, true, true, true, true, true, true, false]) h
set_option maxRecDepth 100000 in
theorem rg_X3_limitFor_0 {S : Sx} {Q : Option PV → Zm → Prop} {mem : Zm}   {x1 : Int} 
    (h : (∃ (v1 : Int) (m2 : Zm), Ct1 S mX3_within [Iq x1, Iq 0, Iq 20] mem (some (Iq v1)) m2 ∧ ((((¬ v1 = 0) → (PW S mX3_limitFor Q 19 [some (Aq 0), some (Iq x1), some (Iq 1)] [] m2)) ∧ (¬ (¬ v1 = 0) → ((∃ (v5 : Int) (m6 : Zm), Ct1 S mX3_finding [Aq 0, Iq (-1000001)] m2 (some (Iq v5)) m6 ∧ (Q (some (Iq v5)) m6)))))))) :
    PW S mX3_limitFor Q 0 [some (Aq 0), some (Iq x1), none] [] mem := by
  refine pw_iload_n eX3_limitFor_0 rfl rfl ?_
  refine pw_iconst eX3_limitFor_1 ⟨by decide, by decide⟩ ?_
  refine pw_bipush eX3_limitFor_2 ⟨by decide, by decide⟩ (by decide) ?_
  obtain ⟨v1, m2, hc3, h⟩ := h
  refine pw_cS (z := mX3_within) (av := [Iq x1, Iq 0, Iq 20]) (st := []) eX3_limitFor_4 lk_RX3_44 rfl (by decide) (by decide) (Nat.le_of_ble_eq_true rfl) rfl hc3 ?_
  show PW S mX3_limitFor Q 7 [some (Aq 0), some (Iq x1), none] [Iq v1] m2
  refine pw_if_ne eX3_limitFor_7 (fun c4 => ?_) (fun c4 => ?_)
  · have h := h.1 c4
    refine pw_iconst eX3_limitFor_17 ⟨by decide, by decide⟩ ?_
    refine pw_istore_n (ls2 := [some (Aq 0), some (Iq x1), some (Iq 1)]) eX3_limitFor_18 rfl (by decide) rfl ?_
    exact h
  · have h := h.2 c4
    refine pw_aload_n eX3_limitFor_10 rfl rfl ?_
    refine pw_ldc (n := (-1000001)) eX3_limitFor_11 ⟨by decide, by decide⟩ kc_RX3_48 ?_
    obtain ⟨v5, m6, hc7, h⟩ := h
    refine pw_cV (z := mX3_finding) (av := [Iq (-1000001)]) (st := []) eX3_limitFor_13 lk_RX3_49 rfl (by decide) (by decide) sh0 rfl rfl (Nat.le_of_ble_eq_true rfl) rfl hc7 ?_
    show PW S mX3_limitFor Q 16 [some (Aq 0), some (Iq x1), none] [Iq v5] m6
    exact pw_iret eX3_limitFor_16 h

set_option maxRecDepth 100000 in
theorem rg_X3_limitFor_19 {S : Sx} {Q : Option PV → Zm → Prop} {mem : Zm}   {x1 x2 : Int} 
    (h : (((9 < x2) → ((∃ (v2 : Int) (m3 : Zm), Ct1 S mX3_finding [Aq 0, Iq (-1000004)] mem (some (Iq v2)) m3 ∧ (Q (some (Iq v2)) m3)))) ∧ (¬ (9 < x2) → ((∃ (m6 : Zm), Ct1 S mX0_become [Aq 8, Aq 1] mem none m6 ∧ ((∃ (v8 : Int) (m9 : Zm), Ct1 S mX3_nobodyIsCaughtInTrial [Aq 0, Iq x1] (mup m6 8 6 x2) (some (Iq v8)) m9 ∧ ((((v8 = 0) → ((in32 (x2 + 1)) ∧ PW S mX3_limitFor Q 19 [some (Aq 0), some (Iq x1), some (Iq (x2 + 1))] [] m9)) ∧ (¬ (v8 = 0) → (Q (some (Iq x2)) m9))))))))))) :
    PW S mX3_limitFor Q 19 [some (Aq 0), some (Iq x1), some (Iq x2)] [] mem := by
  refine pw_iload_n eX3_limitFor_19 rfl rfl ?_
  refine pw_bipush eX3_limitFor_20 ⟨by decide, by decide⟩ (by decide) ?_
  refine pw_icmp_gt eX3_limitFor_22 (fun c1 => ?_) (fun c1 => ?_)
  · have h := h.1 c1
    refine pw_aload_n eX3_limitFor_60 rfl rfl ?_
    refine pw_ldc (n := (-1000004)) eX3_limitFor_61 ⟨by decide, by decide⟩ kc_RX3_133 ?_
    obtain ⟨v2, m3, hc4, h⟩ := h
    refine pw_cV (z := mX3_finding) (av := [Iq (-1000004)]) (st := []) eX3_limitFor_63 lk_RX3_49 rfl (by decide) (by decide) sh0 rfl rfl (Nat.le_of_ble_eq_true rfl) rfl hc4 ?_
    show PW S mX3_limitFor Q 66 [some (Aq 0), some (Iq x1), some (Iq x2)] [Iq v2] m3
    exact pw_iret eX3_limitFor_66 h
  · have h := h.2 c1
    refine pw_aload_n eX3_limitFor_25 rfl rfl ?_
    refine gf_RX3_16 rfl eX3_limitFor_26 sh0 ?_
    refine pw_aload_n eX3_limitFor_29 rfl rfl ?_
    refine gf_RX3_10 rfl eX3_limitFor_30 sh0 ?_
    obtain ⟨m6, hc7, h⟩ := h
    refine pw_cV (z := mX0_become) (av := [Aq 1]) (st := []) eX3_limitFor_33 lk_RX3_126 rfl (by decide) (by decide) (shR isR8) rfl rfl (Nat.le_of_ble_eq_true rfl) rfl hc7 ?_
    show PW S mX3_limitFor Q 36 [some (Aq 0), some (Iq x1), some (Iq x2)] [] m6
    refine pw_aload_n eX3_limitFor_36 rfl rfl ?_
    refine gf_RX3_16 rfl eX3_limitFor_37 sh0 ?_
    refine pw_iload_n eX3_limitFor_40 rfl rfl ?_
    refine pf_RX3_56 rfl eX3_limitFor_41 (shR isR8) ?_
    refine pw_aload_n eX3_limitFor_44 rfl rfl ?_
    refine pw_iload_n eX3_limitFor_45 rfl rfl ?_
    obtain ⟨v8, m9, hc10, h⟩ := h
    refine pw_cV (z := mX3_nobodyIsCaughtInTrial) (av := [Iq x1]) (st := []) eX3_limitFor_46 lk_RX3_138 rfl (by decide) (by decide) sh0 rfl rfl (Nat.le_of_ble_eq_true rfl) rfl hc10 ?_
    show PW S mX3_limitFor Q 49 [some (Aq 0), some (Iq x1), some (Iq x2)] [Iq v8] m9
    refine pw_if_eq eX3_limitFor_49 (fun c11 => ?_) (fun c11 => ?_)
    · have h := h.1 c11
      obtain ⟨o12, h⟩ := h
      refine pw_iinc (ls2 := [some (Aq 0), some (Iq x1), some (Iq (x2 + 1))]) eX3_limitFor_54 rfl o12 rfl ?_
      refine pw_goto eX3_limitFor_57 ?_
      exact h
    · have h := h.2 c11
      refine pw_iload_n eX3_limitFor_52 rfl rfl ?_
      exact pw_iret eX3_limitFor_53 h
set_option maxRecDepth 100000 in
theorem rg_X3_forbid_0 {S : Sx} {Q : Option PV → Zm → Prop} {mem : Zm}   {x1 : Int} 
    (h : (∃ (v1 : Int) (m2 : Zm), Ct1 S mX3_within [Iq x1, Iq 0, Iq 12] mem (some (Iq v1)) m2 ∧ ((((¬ v1 = 0) → ((∃ (v5 : Int) (m6 : Zm), Ct1 S mX0_copiedChildren [Aq 1] m2 (some (Iq v5)) m6 ∧ (PW S mX3_forbid Q 27 [some (Aq 0), some (Iq x1), some (Iq v5), some (Iq 0), none] [] m6)))) ∧ (¬ (¬ v1 = 0) → ((∃ (v8 : Int) (m9 : Zm), Ct1 S mX3_finding [Aq 0, Iq (-1000001)] m2 (some (Iq v8)) m9 ∧ (Q (some (Iq v8)) m9)))))))) :
    PW S mX3_forbid Q 0 [some (Aq 0), some (Iq x1), none, none, none] [] mem := by
  refine pw_iload_n eX3_forbid_0 rfl rfl ?_
  refine pw_iconst eX3_forbid_1 ⟨by decide, by decide⟩ ?_
  refine pw_bipush eX3_forbid_2 ⟨by decide, by decide⟩ (by decide) ?_
  obtain ⟨v1, m2, hc3, h⟩ := h
  refine pw_cS (z := mX3_within) (av := [Iq x1, Iq 0, Iq 12]) (st := []) eX3_forbid_4 lk_RX3_44 rfl (by decide) (by decide) (Nat.le_of_ble_eq_true rfl) rfl hc3 ?_
  show PW S mX3_forbid Q 7 [some (Aq 0), some (Iq x1), none, none, none] [Iq v1] m2
  refine pw_if_ne eX3_forbid_7 (fun c4 => ?_) (fun c4 => ?_)
  · have h := h.1 c4
    refine pw_aload_n eX3_forbid_17 rfl rfl ?_
    refine gf_RX3_10 rfl eX3_forbid_18 sh0 ?_
    obtain ⟨v5, m6, hc7, h⟩ := h
    refine pw_cV (z := mX0_copiedChildren) (av := []) (st := []) eX3_forbid_21 lk_RX3_113 rfl (by decide) (by decide) (shR isR1) rfl rfl (Nat.le_of_ble_eq_true rfl) rfl hc7 ?_
    show PW S mX3_forbid Q 24 [some (Aq 0), some (Iq x1), none, none, none] [Iq v5] m6
    refine pw_istore_n (ls2 := [some (Aq 0), some (Iq x1), some (Iq v5), none, none]) eX3_forbid_24 rfl (by decide) rfl ?_
    refine pw_iconst eX3_forbid_25 ⟨by decide, by decide⟩ ?_
    refine pw_istore_n (ls2 := [some (Aq 0), some (Iq x1), some (Iq v5), some (Iq 0), none]) eX3_forbid_26 rfl (by decide) rfl ?_
    exact h
  · have h := h.2 c4
    refine pw_aload_n eX3_forbid_10 rfl rfl ?_
    refine pw_ldc (n := (-1000001)) eX3_forbid_11 ⟨by decide, by decide⟩ kc_RX3_48 ?_
    obtain ⟨v8, m9, hc10, h⟩ := h
    refine pw_cV (z := mX3_finding) (av := [Iq (-1000001)]) (st := []) eX3_forbid_13 lk_RX3_49 rfl (by decide) (by decide) sh0 rfl rfl (Nat.le_of_ble_eq_true rfl) rfl hc10 ?_
    show PW S mX3_forbid Q 16 [some (Aq 0), some (Iq x1), none, none, none] [Iq v8] m9
    exact pw_iret eX3_forbid_16 h

set_option maxRecDepth 100000 in
theorem rg_X3_forbid_27 {S : Sx} {Q : Option PV → Zm → Prop} {mem : Zm}   {x1 x2 x3 : Int} 
    (h : (((8 ≤ x3) → (Q (some (Iq x2)) mem)) ∧ (¬ (8 ≤ x3) → (PW S mX3_forbid Q 36 [some (Aq 0), some (Iq x1), some (Iq x2), some (Iq x3), some (Iq 0)] [] mem)))) :
    PW S mX3_forbid Q 27 [some (Aq 0), some (Iq x1), some (Iq x2), some (Iq x3), none] [] mem := by
  refine pw_iload_n eX3_forbid_27 rfl rfl ?_
  refine pw_bipush eX3_forbid_28 ⟨by decide, by decide⟩ (by decide) ?_
  refine pw_icmp_ge eX3_forbid_30 (fun c1 => ?_) (fun c1 => ?_)
  · have h := h.1 c1
    refine pw_iload_n eX3_forbid_89 rfl rfl ?_
    exact pw_iret eX3_forbid_90 h
  · have h := h.2 c1
    refine pw_iconst eX3_forbid_33 ⟨by decide, by decide⟩ ?_
    refine pw_istore (ls2 := [some (Aq 0), some (Iq x1), some (Iq x2), some (Iq x3), some (Iq 0)]) eX3_forbid_34 (by decide) rfl ?_
    exact h

set_option maxRecDepth 100000 in
theorem rg_X3_forbid_36 {S : Sx} {Q : Option PV → Zm → Prop} {mem : Zm}   {x1 x2 x3 x4 : Int} 
    (h : (((x2 < x4) → ((in32 (x3 + 1)) ∧ PW S mX3_forbid Q 27 [some (Aq 0), some (Iq x1), some (Iq x2), some (Iq (x3 + 1)), none] [] mem)) ∧ (¬ (x2 < x4) → ((((¬ bAnd x4 (bXor x2 (-1)) = 0) → ((in32 (x4 + 1)) ∧ PW S mX3_forbid Q 36 [some (Aq 0), some (Iq x1), some (Iq x2), some (Iq x3), some (Iq (x4 + 1))] [] mem)) ∧ (¬ (¬ bAnd x4 (bXor x2 (-1)) = 0) → ((∃ (v5 : Int) (m6 : Zm), Ct1 S mJ6_bitCount_0f7a4 [Iq x4] mem (some (Iq v5)) m6 ∧ ((((¬ v5 = x3) → ((in32 (x4 + 1)) ∧ PW S mX3_forbid Q 36 [some (Aq 0), some (Iq x1), some (Iq x2), some (Iq x3), some (Iq (x4 + 1))] [] m6)) ∧ (¬ (¬ v5 = x3) → ((∃ (m11 : Zm), Ct1 S mX3_tryWithoutCopiesFrom [Aq 0, Iq x4] m6 none m11 ∧ ((∃ (v13 : Int) (m14 : Zm), Ct1 S mX3_nobodyIsCaughtInTrial [Aq 0, Iq x1] m11 (some (Iq v13)) m14 ∧ ((((v13 = 0) → ((in32 (x4 + 1)) ∧ PW S mX3_forbid Q 36 [some (Aq 0), some (Iq x1), some (Iq x2), some (Iq x3), some (Iq (x4 + 1))] [] m14)) ∧ (¬ (v13 = 0) → (Q (some (Iq x4)) m14))))))))))))))))))) :
    PW S mX3_forbid Q 36 [some (Aq 0), some (Iq x1), some (Iq x2), some (Iq x3), some (Iq x4)] [] mem := by
  refine pw_iload eX3_forbid_36 rfl ?_
  refine pw_iload_n eX3_forbid_38 rfl rfl ?_
  refine pw_icmp_gt eX3_forbid_39 (fun c1 => ?_) (fun c1 => ?_)
  · have h := h.1 c1
    obtain ⟨o2, h⟩ := h
    refine pw_iinc (ls2 := [some (Aq 0), some (Iq x1), some (Iq x2), some (Iq (x3 + 1)), some (Iq x4)]) eX3_forbid_83 rfl o2 rfl ?_
    refine pw_goto eX3_forbid_86 ?_
    exact pw_drop (bs := [true, true, true, true, false]) h
  · have h := h.2 c1
    refine pw_iload eX3_forbid_42 rfl ?_
    refine pw_iload_n eX3_forbid_44 rfl rfl ?_
    refine pw_iconst eX3_forbid_45 ⟨by decide, by decide⟩ ?_
    refine pw_ixor eX3_forbid_46 ?_
    refine pw_iand eX3_forbid_47 ?_
    refine pw_if_ne eX3_forbid_48 (fun c3 => ?_) (fun c3 => ?_)
    · have h := h.1 c3
      obtain ⟨o4, h⟩ := h
      refine pw_iinc (ls2 := [some (Aq 0), some (Iq x1), some (Iq x2), some (Iq x3), some (Iq (x4 + 1))]) eX3_forbid_77 rfl o4 rfl ?_
      refine pw_goto eX3_forbid_80 ?_
      exact h
    · have h := h.2 c3
      refine pw_iload eX3_forbid_51 rfl ?_
      obtain ⟨v5, m6, hc7, h⟩ := h
      refine pw_cS (z := mJ6_bitCount_0f7a4) (av := [Iq x4]) (st := []) eX3_forbid_53 lk_RX3_141 rfl (by decide) (by decide) (Nat.le_of_ble_eq_true rfl) rfl hc7 ?_
      show PW S mX3_forbid Q 56 [some (Aq 0), some (Iq x1), some (Iq x2), some (Iq x3), some (Iq x4)] [Iq v5] m6
      refine pw_iload_n eX3_forbid_56 rfl rfl ?_
      refine pw_icmp_ne eX3_forbid_57 (fun c8 => ?_) (fun c8 => ?_)
      · have h := h.1 c8
        obtain ⟨o9, h⟩ := h
        refine pw_iinc (ls2 := [some (Aq 0), some (Iq x1), some (Iq x2), some (Iq x3), some (Iq (x4 + 1))]) eX3_forbid_77 rfl o9 rfl ?_
        refine pw_goto eX3_forbid_80 ?_
        exact h
      · have h := h.2 c8
        refine pw_aload_n eX3_forbid_60 rfl rfl ?_
        refine pw_iload eX3_forbid_61 rfl ?_
        obtain ⟨m11, hc12, h⟩ := h
        refine pw_cV (z := mX3_tryWithoutCopiesFrom) (av := [Iq x4]) (st := []) eX3_forbid_63 lk_RX3_146 rfl (by decide) (by decide) sh0 rfl rfl (Nat.le_of_ble_eq_true rfl) rfl hc12 ?_
        show PW S mX3_forbid Q 66 [some (Aq 0), some (Iq x1), some (Iq x2), some (Iq x3), some (Iq x4)] [] m11
        refine pw_aload_n eX3_forbid_66 rfl rfl ?_
        refine pw_iload_n eX3_forbid_67 rfl rfl ?_
        obtain ⟨v13, m14, hc15, h⟩ := h
        refine pw_cV (z := mX3_nobodyIsCaughtInTrial) (av := [Iq x1]) (st := []) eX3_forbid_68 lk_RX3_138 rfl (by decide) (by decide) sh0 rfl rfl (Nat.le_of_ble_eq_true rfl) rfl hc15 ?_
        show PW S mX3_forbid Q 71 [some (Aq 0), some (Iq x1), some (Iq x2), some (Iq x3), some (Iq x4)] [Iq v13] m14
        refine pw_if_eq eX3_forbid_71 (fun c16 => ?_) (fun c16 => ?_)
        · have h := h.1 c16
          obtain ⟨o17, h⟩ := h
          refine pw_iinc (ls2 := [some (Aq 0), some (Iq x1), some (Iq x2), some (Iq x3), some (Iq (x4 + 1))]) eX3_forbid_77 rfl o17 rfl ?_
          refine pw_goto eX3_forbid_80 ?_
          exact h
        · have h := h.2 c16
          refine pw_iload eX3_forbid_74 rfl ?_
          exact pw_iret eX3_forbid_76 h
set_option maxRecDepth 100000 in
theorem rg_X3_biscuitsFor_0 {S : Sx} {Q : Option PV → Zm → Prop} {mem : Zm}   {x1 x2 : Int} 
    (h : (∃ (v1 : Int) (m2 : Zm), Ct1 S mX0_has [Aq 1, Iq x1] mem (some (Iq v1)) m2 ∧ ((((v1 = 0) → ((∃ (v5 : Int) (m6 : Zm), Ct1 S mX3_finding [Aq 0, Iq (-1000001)] m2 (some (Iq v5)) m6 ∧ (Q (some (Iq v5)) m6)))) ∧ (¬ (v1 = 0) → ((∃ (v8 : Int) (m9 : Zm), Ct1 S mX3_within [Iq x2, Iq 0, Iq 20] m2 (some (Iq v8)) m9 ∧ ((((¬ v8 = 0) → ((∃ (v12 : Int) (m13 : Zm), Ct1 S mX3_marksWith [Aq 0, Iq x1, Iq 4, Iq 99, Iq x2] m9 (some (Iq v12)) m13 ∧ (PW S mX3_biscuitsFor Q 41 [some (Aq 0), some (Iq x1), some (Iq x2), some (Iq v12), some (Iq 0)] [] m13)))) ∧ (¬ (¬ v8 = 0) → ((∃ (v15 : Int) (m16 : Zm), Ct1 S mX3_finding [Aq 0, Iq (-1000001)] m9 (some (Iq v15)) m16 ∧ (Q (some (Iq v15)) m16))))))))))))) :
    PW S mX3_biscuitsFor Q 0 [some (Aq 0), some (Iq x1), some (Iq x2), none, none] [] mem := by
  refine pw_aload_n eX3_biscuitsFor_0 rfl rfl ?_
  refine gf_RX3_10 rfl eX3_biscuitsFor_1 sh0 ?_
  refine pw_iload_n eX3_biscuitsFor_4 rfl rfl ?_
  obtain ⟨v1, m2, hc3, h⟩ := h
  refine pw_cV (z := mX0_has) (av := [Iq x1]) (st := []) eX3_biscuitsFor_5 lk_RX3_68 rfl (by decide) (by decide) (shR isR1) rfl rfl (Nat.le_of_ble_eq_true rfl) rfl hc3 ?_
  show PW S mX3_biscuitsFor Q 8 [some (Aq 0), some (Iq x1), some (Iq x2), none, none] [Iq v1] m2
  refine pw_if_eq eX3_biscuitsFor_8 (fun c4 => ?_) (fun c4 => ?_)
  · have h := h.1 c4
    refine pw_aload_n eX3_biscuitsFor_21 rfl rfl ?_
    refine pw_ldc (n := (-1000001)) eX3_biscuitsFor_22 ⟨by decide, by decide⟩ kc_RX3_48 ?_
    obtain ⟨v5, m6, hc7, h⟩ := h
    refine pw_cV (z := mX3_finding) (av := [Iq (-1000001)]) (st := []) eX3_biscuitsFor_24 lk_RX3_49 rfl (by decide) (by decide) sh0 rfl rfl (Nat.le_of_ble_eq_true rfl) rfl hc7 ?_
    show PW S mX3_biscuitsFor Q 27 [some (Aq 0), some (Iq x1), some (Iq x2), none, none] [Iq v5] m6
    exact pw_iret eX3_biscuitsFor_27 h
  · have h := h.2 c4
    refine pw_iload_n eX3_biscuitsFor_11 rfl rfl ?_
    refine pw_iconst eX3_biscuitsFor_12 ⟨by decide, by decide⟩ ?_
    refine pw_bipush eX3_biscuitsFor_13 ⟨by decide, by decide⟩ (by decide) ?_
    obtain ⟨v8, m9, hc10, h⟩ := h
    refine pw_cS (z := mX3_within) (av := [Iq x2, Iq 0, Iq 20]) (st := []) eX3_biscuitsFor_15 lk_RX3_44 rfl (by decide) (by decide) (Nat.le_of_ble_eq_true rfl) rfl hc10 ?_
    show PW S mX3_biscuitsFor Q 18 [some (Aq 0), some (Iq x1), some (Iq x2), none, none] [Iq v8] m9
    refine pw_if_ne eX3_biscuitsFor_18 (fun c11 => ?_) (fun c11 => ?_)
    · have h := h.1 c11
      refine pw_aload_n eX3_biscuitsFor_28 rfl rfl ?_
      refine pw_iload_n eX3_biscuitsFor_29 rfl rfl ?_
      refine pw_iconst eX3_biscuitsFor_30 ⟨by decide, by decide⟩ ?_
      refine pw_bipush eX3_biscuitsFor_31 ⟨by decide, by decide⟩ (by decide) ?_
      refine pw_iload_n eX3_biscuitsFor_33 rfl rfl ?_
      obtain ⟨v12, m13, hc14, h⟩ := h
      refine pw_cV (z := mX3_marksWith) (av := [Iq x1, Iq 4, Iq 99, Iq x2]) (st := []) eX3_biscuitsFor_34 lk_RX3_134 rfl (by decide) (by decide) sh0 rfl rfl (Nat.le_of_ble_eq_true rfl) rfl hc14 ?_
      show PW S mX3_biscuitsFor Q 37 [some (Aq 0), some (Iq x1), some (Iq x2), none, none] [Iq v12] m13
      refine pw_istore_n (ls2 := [some (Aq 0), some (Iq x1), some (Iq x2), some (Iq v12), none]) eX3_biscuitsFor_37 rfl (by decide) rfl ?_
      refine pw_iconst eX3_biscuitsFor_38 ⟨by decide, by decide⟩ ?_
      refine pw_istore (ls2 := [some (Aq 0), some (Iq x1), some (Iq x2), some (Iq v12), some (Iq 0)]) eX3_biscuitsFor_39 (by decide) rfl ?_
      exact h
    · have h := h.2 c11
      refine pw_aload_n eX3_biscuitsFor_21 rfl rfl ?_
      refine pw_ldc (n := (-1000001)) eX3_biscuitsFor_22 ⟨by decide, by decide⟩ kc_RX3_48 ?_
      obtain ⟨v15, m16, hc17, h⟩ := h
      refine pw_cV (z := mX3_finding) (av := [Iq (-1000001)]) (st := []) eX3_biscuitsFor_24 lk_RX3_49 rfl (by decide) (by decide) sh0 rfl rfl (Nat.le_of_ble_eq_true rfl) rfl hc17 ?_
      show PW S mX3_biscuitsFor Q 27 [some (Aq 0), some (Iq x1), some (Iq x2), none, none] [Iq v15] m16
      exact pw_iret eX3_biscuitsFor_27 h

set_option maxRecDepth 100000 in
theorem rg_X3_biscuitsFor_41 {S : Sx} {Q : Option PV → Zm → Prop} {mem : Zm}   {x1 x2 x3 x4 : Int} 
    (h : (((99 ≤ x4) → (Q (some (Iq 99)) mem)) ∧ (¬ (99 ≤ x4) → ((∃ (v2 : Int) (m3 : Zm), Ct1 S mX3_marksWith [Aq 0, Iq x1, Iq 4, Iq x4, Iq x2] mem (some (Iq v2)) m3 ∧ ((((¬ v2 = x3) → ((in32 (x4 + 1)) ∧ PW S mX3_biscuitsFor Q 41 [some (Aq 0), some (Iq x1), some (Iq x2), some (Iq x3), some (Iq (x4 + 1))] [] m3)) ∧ (¬ (¬ v2 = x3) → (Q (some (Iq x4)) m3))))))))) :
    PW S mX3_biscuitsFor Q 41 [some (Aq 0), some (Iq x1), some (Iq x2), some (Iq x3), some (Iq x4)] [] mem := by
  refine pw_iload eX3_biscuitsFor_41 rfl ?_
  refine pw_bipush eX3_biscuitsFor_43 ⟨by decide, by decide⟩ (by decide) ?_
  refine pw_icmp_ge eX3_biscuitsFor_45 (fun c1 => ?_) (fun c1 => ?_)
  · have h := h.1 c1
    refine pw_bipush eX3_biscuitsFor_70 ⟨by decide, by decide⟩ (by decide) ?_
    exact pw_iret eX3_biscuitsFor_72 h
  · have h := h.2 c1
    refine pw_aload_n eX3_biscuitsFor_48 rfl rfl ?_
    refine pw_iload_n eX3_biscuitsFor_49 rfl rfl ?_
    refine pw_iconst eX3_biscuitsFor_50 ⟨by decide, by decide⟩ ?_
    refine pw_iload eX3_biscuitsFor_51 rfl ?_
    refine pw_iload_n eX3_biscuitsFor_53 rfl rfl ?_
    obtain ⟨v2, m3, hc4, h⟩ := h
    refine pw_cV (z := mX3_marksWith) (av := [Iq x1, Iq 4, Iq x4, Iq x2]) (st := []) eX3_biscuitsFor_54 lk_RX3_134 rfl (by decide) (by decide) sh0 rfl rfl (Nat.le_of_ble_eq_true rfl) rfl hc4 ?_
    show PW S mX3_biscuitsFor Q 57 [some (Aq 0), some (Iq x1), some (Iq x2), some (Iq x3), some (Iq x4)] [Iq v2] m3
    refine pw_iload_n eX3_biscuitsFor_57 rfl rfl ?_
    refine pw_icmp_ne eX3_biscuitsFor_58 (fun c5 => ?_) (fun c5 => ?_)
    · have h := h.1 c5
      obtain ⟨o6, h⟩ := h
      refine pw_iinc (ls2 := [some (Aq 0), some (Iq x1), some (Iq x2), some (Iq x3), some (Iq (x4 + 1))]) eX3_biscuitsFor_64 rfl o6 rfl ?_
      refine pw_goto eX3_biscuitsFor_67 ?_
      exact h
    · have h := h.2 c5
      refine pw_iload eX3_biscuitsFor_61 rfl ?_
      exact pw_iret eX3_biscuitsFor_63 h
set_option maxRecDepth 100000 in
theorem rg_X3_sources_0 {S : Sx} {Q : Option PV → Zm → Prop} {mem : Zm}   {x1 x2 : Int} 
    (h : (∃ (v1 : Int) (m2 : Zm), Ct1 S mX3_sheetAndChildCheck [Aq 0, Iq x1, Iq x2] mem (some (Iq v1)) m2 ∧ ((((v1 = 0) → (PW S mX3_sources Q 23 [some (Aq 0), some (Iq x1), some (Iq x2), some (Iq v1), some (Iq 0), some (Iq 0)] [] m2)) ∧ (¬ (v1 = 0) → ((∃ (v5 : Int) (m6 : Zm), Ct1 S mX3_finding [Aq 0, Iq v1] m2 (some (Iq v5)) m6 ∧ (Q (some (Iq v5)) m6)))))))) :
    PW S mX3_sources Q 0 [some (Aq 0), some (Iq x1), some (Iq x2), none, none, none] [] mem := by
  refine pw_aload_n eX3_sources_0 rfl rfl ?_
  refine pw_iload_n eX3_sources_1 rfl rfl ?_
  refine pw_iload_n eX3_sources_2 rfl rfl ?_
  obtain ⟨v1, m2, hc3, h⟩ := h
  refine pw_cV (z := mX3_sheetAndChildCheck) (av := [Iq x1, Iq x2]) (st := []) eX3_sources_3 lk_RX3_149 rfl (by decide) (by decide) sh0 rfl rfl (Nat.le_of_ble_eq_true rfl) rfl hc3 ?_
  show PW S mX3_sources Q 6 [some (Aq 0), some (Iq x1), some (Iq x2), none, none, none] [Iq v1] m2
  refine pw_istore_n (ls2 := [some (Aq 0), some (Iq x1), some (Iq x2), some (Iq v1), none, none]) eX3_sources_6 rfl (by decide) rfl ?_
  refine pw_iload_n eX3_sources_7 rfl rfl ?_
  refine pw_if_eq eX3_sources_8 (fun c4 => ?_) (fun c4 => ?_)
  · have h := h.1 c4
    refine pw_iconst eX3_sources_17 ⟨by decide, by decide⟩ ?_
    refine pw_istore (ls2 := [some (Aq 0), some (Iq x1), some (Iq x2), some (Iq v1), some (Iq 0), none]) eX3_sources_18 (by decide) rfl ?_
    refine pw_iconst eX3_sources_20 ⟨by decide, by decide⟩ ?_
    refine pw_istore (ls2 := [some (Aq 0), some (Iq x1), some (Iq x2), some (Iq v1), some (Iq 0), some (Iq 0)]) eX3_sources_21 (by decide) rfl ?_
    exact h
  · have h := h.2 c4
    refine pw_aload_n eX3_sources_11 rfl rfl ?_
    refine pw_iload_n eX3_sources_12 rfl rfl ?_
    obtain ⟨v5, m6, hc7, h⟩ := h
    refine pw_cV (z := mX3_finding) (av := [Iq v1]) (st := []) eX3_sources_13 lk_RX3_49 rfl (by decide) (by decide) sh0 rfl rfl (Nat.le_of_ble_eq_true rfl) rfl hc7 ?_
    show PW S mX3_sources Q 16 [some (Aq 0), some (Iq x1), some (Iq x2), some (Iq v1), none, none] [Iq v5] m6
    exact pw_iret eX3_sources_16 h

set_option maxRecDepth 100000 in
theorem rg_X3_sources_23 {S : Sx} {Q : Option PV → Zm → Prop} {mem : Zm}   {x1 x2 x3 x4 x5 : Int} 
    (h : (((mem 1 7 ≤ x5) → (Q (some (Iq x4)) mem)) ∧ (¬ (mem 1 7 ≤ x5) → ((((x5 = x2) → ((in32 (x5 + 1)) ∧ PW S mX3_sources Q 23 [some (Aq 0), some (Iq x1), some (Iq x2), some (Iq x3), some (Iq x4), some (Iq (x5 + 1))] [] mem)) ∧ (¬ (x5 = x2) → ((0 ≤ x1 ∧ x1 < 4) ∧ (∃ (v5 : Int) (m6 : Zm), Ct1 S mX3_writesAsAsked [Aq 0, Aq (25 + 2 * (x1).toNat), Iq x2, Iq 2, Iq x5] mem (some (Iq v5)) m6 ∧ ((((v5 = 0) → ((in32 (x5 + 1)) ∧ PW S mX3_sources Q 23 [some (Aq 0), some (Iq x1), some (Iq x2), some (Iq x3), some (Iq x4), some (Iq (x5 + 1))] [] m6)) ∧ (¬ (v5 = 0) → ((in32 (x5 + 1)) ∧ PW S mX3_sources Q 23 [some (Aq 0), some (Iq x1), some (Iq x2), some (Iq x3), some (Iq (bOr x4 (bShl 1 x5))), some (Iq (x5 + 1))] [] m6)))))))))))) :
    PW S mX3_sources Q 23 [some (Aq 0), some (Iq x1), some (Iq x2), some (Iq x3), some (Iq x4), some (Iq x5)] [] mem := by
  refine pw_iload eX3_sources_23 rfl ?_
  refine pw_aload_n eX3_sources_25 rfl rfl ?_
  refine gf_RX3_10 rfl eX3_sources_26 sh0 ?_
  refine gf_RX3_60 rfl eX3_sources_29 (shR isR1) ?_
  refine pw_icmp_ge eX3_sources_32 (fun c1 => ?_) (fun c1 => ?_)
  · have h := h.1 c1
    refine pw_iload eX3_sources_73 rfl ?_
    exact pw_iret eX3_sources_75 h
  · have h := h.2 c1
    refine pw_iload eX3_sources_35 rfl ?_
    refine pw_iload_n eX3_sources_37 rfl rfl ?_
    refine pw_icmp_eq eX3_sources_38 (fun c2 => ?_) (fun c2 => ?_)
    · have h := h.1 c2
      obtain ⟨o3, h⟩ := h
      refine pw_iinc (ls2 := [some (Aq 0), some (Iq x1), some (Iq x2), some (Iq x3), some (Iq x4), some (Iq (x5 + 1))]) eX3_sources_67 rfl o3 rfl ?_
      refine pw_goto eX3_sources_70 ?_
      exact h
    · have h := h.2 c2
      refine pw_aload_n eX3_sources_41 rfl rfl ?_
      refine pw_aload_n eX3_sources_42 rfl rfl ?_
      refine gf_RX3_35 rfl eX3_sources_43 sh0 ?_
      refine pw_iload_n eX3_sources_46 rfl rfl ?_
      obtain ⟨o4, h⟩ := h
      refine pw_aald eX3_sources_47 sh24 o4 ?_
      refine pw_iload_n eX3_sources_48 rfl rfl ?_
      refine pw_iconst eX3_sources_49 ⟨by decide, by decide⟩ ?_
      refine pw_iload eX3_sources_50 rfl ?_
      obtain ⟨v5, m6, hc7, h⟩ := h
      refine pw_cV (z := mX3_writesAsAsked) (av := [Aq (25 + 2 * (x1).toNat), Iq x2, Iq 2, Iq x5]) (st := []) eX3_sources_52 lk_RX3_152 rfl (by decide) (by decide) sh0 rfl rfl (Nat.le_of_ble_eq_true rfl) rfl hc7 ?_
      show PW S mX3_sources Q 55 [some (Aq 0), some (Iq x1), some (Iq x2), some (Iq x3), some (Iq x4), some (Iq x5)] [Iq v5] m6
      refine pw_if_eq eX3_sources_55 (fun c8 => ?_) (fun c8 => ?_)
      · have h := h.1 c8
        obtain ⟨o9, h⟩ := h
        refine pw_iinc (ls2 := [some (Aq 0), some (Iq x1), some (Iq x2), some (Iq x3), some (Iq x4), some (Iq (x5 + 1))]) eX3_sources_67 rfl o9 rfl ?_
        refine pw_goto eX3_sources_70 ?_
        exact h
      · have h := h.2 c8
        refine pw_iload eX3_sources_58 rfl ?_
        refine pw_iconst eX3_sources_60 ⟨by decide, by decide⟩ ?_
        refine pw_iload eX3_sources_61 rfl ?_
        refine pw_ishl eX3_sources_63 ?_
        refine pw_ior eX3_sources_64 ?_
        refine pw_istore (ls2 := [some (Aq 0), some (Iq x1), some (Iq x2), some (Iq x3), some (Iq (bOr x4 (bShl 1 x5))), some (Iq x5)]) eX3_sources_65 (by decide) rfl ?_
        obtain ⟨o10, h⟩ := h
        refine pw_iinc (ls2 := [some (Aq 0), some (Iq x1), some (Iq x2), some (Iq x3), some (Iq (bOr x4 (bShl 1 x5))), some (Iq (x5 + 1))]) eX3_sources_67 rfl o10 rfl ?_
        refine pw_goto eX3_sources_70 ?_
        exact h
set_option maxRecDepth 100000 in
theorem rg_X3_fits_0 {S : Sx} {Q : Option PV → Zm → Prop} {mem : Zm}   {x1 x2 : Int} 
    (h : (∃ (v1 : Int) (m2 : Zm), Ct1 S mX3_sheetAndChildCheck [Aq 0, Iq x1, Iq x2] mem (some (Iq v1)) m2 ∧ ((((v1 = 0) → ((∃ (m6 : Zm), Ct1 S mX3_tryDayKnowingNothing [Aq 0, Iq x2] m2 none m6 ∧ (PW S mX3_fits Q 28 [some (Aq 0), some (Iq x1), some (Iq x2), some (Iq v1), some (Iq 1), some (Iq 0), none] [] m6)))) ∧ (¬ (v1 = 0) → ((∃ (v8 : Int) (m9 : Zm), Ct1 S mX3_finding [Aq 0, Iq v1] m2 (some (Iq v8)) m9 ∧ (Q (some (Iq v8)) m9)))))))) :
    PW S mX3_fits Q 0 [some (Aq 0), some (Iq x1), some (Iq x2), none, none, none, none] [] mem := by
  refine pw_aload_n eX3_fits_0 rfl rfl ?_
  refine pw_iload_n eX3_fits_1 rfl rfl ?_
  refine pw_iload_n eX3_fits_2 rfl rfl ?_
  obtain ⟨v1, m2, hc3, h⟩ := h
  refine pw_cV (z := mX3_sheetAndChildCheck) (av := [Iq x1, Iq x2]) (st := []) eX3_fits_3 lk_RX3_149 rfl (by decide) (by decide) sh0 rfl rfl (Nat.le_of_ble_eq_true rfl) rfl hc3 ?_
  show PW S mX3_fits Q 6 [some (Aq 0), some (Iq x1), some (Iq x2), none, none, none, none] [Iq v1] m2
  refine pw_istore_n (ls2 := [some (Aq 0), some (Iq x1), some (Iq x2), some (Iq v1), none, none, none]) eX3_fits_6 rfl (by decide) rfl ?_
  refine pw_iload_n eX3_fits_7 rfl rfl ?_
  refine pw_if_eq eX3_fits_8 (fun c4 => ?_) (fun c4 => ?_)
  · have h := h.1 c4
    refine pw_aload_n eX3_fits_17 rfl rfl ?_
    refine pw_iload_n eX3_fits_18 rfl rfl ?_
    obtain ⟨m6, hc7, h⟩ := h
    refine pw_cV (z := mX3_tryDayKnowingNothing) (av := [Iq x2]) (st := []) eX3_fits_19 lk_RX3_156 rfl (by decide) (by decide) sh0 rfl rfl (Nat.le_of_ble_eq_true rfl) rfl hc7 ?_
    show PW S mX3_fits Q 22 [some (Aq 0), some (Iq x1), some (Iq x2), some (Iq v1), none, none, none] [] m6
    refine pw_iconst eX3_fits_22 ⟨by decide, by decide⟩ ?_
    refine pw_istore (ls2 := [some (Aq 0), some (Iq x1), some (Iq x2), some (Iq v1), some (Iq 1), none, none]) eX3_fits_23 (by decide) rfl ?_
    refine pw_iconst eX3_fits_25 ⟨by decide, by decide⟩ ?_
    refine pw_istore (ls2 := [some (Aq 0), some (Iq x1), some (Iq x2), some (Iq v1), some (Iq 1), some (Iq 0), none]) eX3_fits_26 (by decide) rfl ?_
    exact h
  · have h := h.2 c4
    refine pw_aload_n eX3_fits_11 rfl rfl ?_
    refine pw_iload_n eX3_fits_12 rfl rfl ?_
    obtain ⟨v8, m9, hc10, h⟩ := h
    refine pw_cV (z := mX3_finding) (av := [Iq v1]) (st := []) eX3_fits_13 lk_RX3_49 rfl (by decide) (by decide) sh0 rfl rfl (Nat.le_of_ble_eq_true rfl) rfl hc10 ?_
    show PW S mX3_fits Q 16 [some (Aq 0), some (Iq x1), some (Iq x2), some (Iq v1), none, none, none] [Iq v8] m9
    exact pw_iret eX3_fits_16 h

set_option maxRecDepth 100000 in
theorem rg_X3_fits_28 {S : Sx} {Q : Option PV → Zm → Prop} {mem : Zm}   {x1 x2 x3 x4 x5 : Int} 
    (h : (((8 ≤ x5) → (Q (some (Iq x4)) mem)) ∧ (¬ (8 ≤ x5) → ((0 ≤ x1 ∧ x1 < 4) ∧ (∃ (v3 : Int) (m4 : Zm), Ct1 S mX3_fitsUnknown [Aq 0, Aq (25 + 2 * (x1).toNat), Iq x2, Iq x5] mem (some (Iq v3)) m4 ∧ ((((v3 = 0) → ((0 ≤ x1 ∧ x1 < 4) ∧ (∃ (v8 : Int) (m9 : Zm), Ct1 S mX3_fitsKnown [Aq 0, Aq (25 + 2 * (x1).toNat), Iq x5] m4 (some (Iq v8)) m9 ∧ ((((v8 = 0) → ((in32 (x4 * 0)) ∧ (in32 (x5 + 1)) ∧ PW S mX3_fits Q 28 [some (Aq 0), some (Iq x1), some (Iq x2), some (Iq x3), some (Iq (x4 * 0)), some (Iq (x5 + 1)), none] [] m9)) ∧ (¬ (v8 = 0) → ((in32 (x4 * (0 + 1))) ∧ (in32 (x5 + 1)) ∧ PW S mX3_fits Q 28 [some (Aq 0), some (Iq x1), some (Iq x2), some (Iq x3), some (Iq (x4 * (0 + 1))), some (Iq (x5 + 1)), none] [] m9))))))) ∧ (¬ (v3 = 0) → ((0 ≤ x1 ∧ x1 < 4) ∧ (∃ (v17 : Int) (m18 : Zm), Ct1 S mX3_fitsKnown [Aq 0, Aq (25 + 2 * (x1).toNat), Iq x5] m4 (some (Iq v17)) m18 ∧ ((((v17 = 0) → ((in32 (x4 * (0 + 1))) ∧ (in32 (x5 + 1)) ∧ PW S mX3_fits Q 28 [some (Aq 0), some (Iq x1), some (Iq x2), some (Iq x3), some (Iq (x4 * (0 + 1))), some (Iq (x5 + 1)), none] [] m18)) ∧ (¬ (v17 = 0) → ((in32 (x4 * ((0 + 1) + 1))) ∧ (in32 (x5 + 1)) ∧ PW S mX3_fits Q 28 [some (Aq 0), some (Iq x1), some (Iq x2), some (Iq x3), some (Iq (x4 * ((0 + 1) + 1))), some (Iq (x5 + 1)), none] [] m18)))))))))))))) :
    PW S mX3_fits Q 28 [some (Aq 0), some (Iq x1), some (Iq x2), some (Iq x3), some (Iq x4), some (Iq x5), none] [] mem := by
  refine pw_iload eX3_fits_28 rfl ?_
  refine pw_bipush eX3_fits_30 ⟨by decide, by decide⟩ (by decide) ?_
  refine pw_icmp_ge eX3_fits_32 (fun c1 => ?_) (fun c1 => ?_)
  · have h := h.1 c1
    refine pw_iload eX3_fits_88 rfl ?_
    exact pw_iret eX3_fits_90 h
  · have h := h.2 c1
    refine pw_iconst eX3_fits_35 ⟨by decide, by decide⟩ ?_
    refine pw_istore (ls2 := [some (Aq 0), some (Iq x1), some (Iq x2), some (Iq x3), some (Iq x4), some (Iq x5), some (Iq 0)]) eX3_fits_36 (by decide) rfl ?_
    refine pw_aload_n eX3_fits_38 rfl rfl ?_
    refine pw_aload_n eX3_fits_39 rfl rfl ?_
    refine gf_RX3_35 rfl eX3_fits_40 sh0 ?_
    refine pw_iload_n eX3_fits_43 rfl rfl ?_
    obtain ⟨o2, h⟩ := h
    refine pw_aald eX3_fits_44 sh24 o2 ?_
    refine pw_iload_n eX3_fits_45 rfl rfl ?_
    refine pw_iload eX3_fits_46 rfl ?_
    obtain ⟨v3, m4, hc5, h⟩ := h
    refine pw_cV (z := mX3_fitsUnknown) (av := [Aq (25 + 2 * (x1).toNat), Iq x2, Iq x5]) (st := []) eX3_fits_48 lk_RX3_159 rfl (by decide) (by decide) sh0 rfl rfl (Nat.le_of_ble_eq_true rfl) rfl hc5 ?_
    show PW S mX3_fits Q 51 [some (Aq 0), some (Iq x1), some (Iq x2), some (Iq x3), some (Iq x4), some (Iq x5), some (Iq 0)] [Iq v3] m4
    refine pw_if_eq eX3_fits_51 (fun c6 => ?_) (fun c6 => ?_)
    · have h := h.1 c6
      refine pw_aload_n eX3_fits_57 rfl rfl ?_
      refine pw_aload_n eX3_fits_58 rfl rfl ?_
      refine gf_RX3_35 rfl eX3_fits_59 sh0 ?_
      refine pw_iload_n eX3_fits_62 rfl rfl ?_
      obtain ⟨o7, h⟩ := h
      refine pw_aald eX3_fits_63 sh24 o7 ?_
      refine pw_iload eX3_fits_64 rfl ?_
      obtain ⟨v8, m9, hc10, h⟩ := h
      refine pw_cV (z := mX3_fitsKnown) (av := [Aq (25 + 2 * (x1).toNat), Iq x5]) (st := []) eX3_fits_66 lk_RX3_163 rfl (by decide) (by decide) sh0 rfl rfl (Nat.le_of_ble_eq_true rfl) rfl hc10 ?_
      show PW S mX3_fits Q 69 [some (Aq 0), some (Iq x1), some (Iq x2), some (Iq x3), some (Iq x4), some (Iq x5), some (Iq 0)] [Iq v8] m9
      refine pw_if_eq eX3_fits_69 (fun c11 => ?_) (fun c11 => ?_)
      · have h := h.1 c11
        refine pw_iload eX3_fits_75 rfl ?_
        refine pw_iload eX3_fits_77 rfl ?_
        obtain ⟨o12, h⟩ := h
        refine pw_imul eX3_fits_79 o12 ?_
        refine pw_istore (ls2 := [some (Aq 0), some (Iq x1), some (Iq x2), some (Iq x3), some (Iq (x4 * 0)), some (Iq x5), some (Iq 0)]) eX3_fits_80 (by decide) rfl ?_
        obtain ⟨o13, h⟩ := h
        refine pw_iinc (ls2 := [some (Aq 0), some (Iq x1), some (Iq x2), some (Iq x3), some (Iq (x4 * 0)), some (Iq (x5 + 1)), some (Iq 0)]) eX3_fits_82 rfl o13 rfl ?_
        refine pw_goto eX3_fits_85 ?_
        exact pw_drop (bs := [true, true, true, true, true, true, false]) h
      · have h := h.2 c11
        refine pw_iinc (ls2 := [some (Aq 0), some (Iq x1), some (Iq x2), some (Iq x3), some (Iq x4), some (Iq x5), some (Iq (0 + 1))]) eX3_fits_72 rfl (by decide) rfl ?_
        refine pw_iload eX3_fits_75 rfl ?_
        refine pw_iload eX3_fits_77 rfl ?_
        obtain ⟨o14, h⟩ := h
        refine pw_imul eX3_fits_79 o14 ?_
        refine pw_istore (ls2 := [some (Aq 0), some (Iq x1), some (Iq x2), some (Iq x3), some (Iq (x4 * (0 + 1))), some (Iq x5), some (Iq (0 + 1))]) eX3_fits_80 (by decide) rfl ?_
        obtain ⟨o15, h⟩ := h
        refine pw_iinc (ls2 := [some (Aq 0), some (Iq x1), some (Iq x2), some (Iq x3), some (Iq (x4 * (0 + 1))), some (Iq (x5 + 1)), some (Iq (0 + 1))]) eX3_fits_82 rfl o15 rfl ?_
        refine pw_goto eX3_fits_85 ?_
        exact pw_drop (bs := [true, true, true, true, true, true, false]) h
    · have h := h.2 c6
      refine pw_iinc (ls2 := [some (Aq 0), some (Iq x1), some (Iq x2), some (Iq x3), some (Iq x4), some (Iq x5), some (Iq (0 + 1))]) eX3_fits_54 rfl (by decide) rfl ?_
      refine pw_aload_n eX3_fits_57 rfl rfl ?_
      refine pw_aload_n eX3_fits_58 rfl rfl ?_
      refine gf_RX3_35 rfl eX3_fits_59 sh0 ?_
      refine pw_iload_n eX3_fits_62 rfl rfl ?_
      obtain ⟨o16, h⟩ := h
      refine pw_aald eX3_fits_63 sh24 o16 ?_
      refine pw_iload eX3_fits_64 rfl ?_
      obtain ⟨v17, m18, hc19, h⟩ := h
      refine pw_cV (z := mX3_fitsKnown) (av := [Aq (25 + 2 * (x1).toNat), Iq x5]) (st := []) eX3_fits_66 lk_RX3_163 rfl (by decide) (by decide) sh0 rfl rfl (Nat.le_of_ble_eq_true rfl) rfl hc19 ?_
      show PW S mX3_fits Q 69 [some (Aq 0), some (Iq x1), some (Iq x2), some (Iq x3), some (Iq x4), some (Iq x5), some (Iq (0 + 1))] [Iq v17] m18
      refine pw_if_eq eX3_fits_69 (fun c20 => ?_) (fun c20 => ?_)
      · have h := h.1 c20
        refine pw_iload eX3_fits_75 rfl ?_
        refine pw_iload eX3_fits_77 rfl ?_
        obtain ⟨o21, h⟩ := h
        refine pw_imul eX3_fits_79 o21 ?_
        refine pw_istore (ls2 := [some (Aq 0), some (Iq x1), some (Iq x2), some (Iq x3), some (Iq (x4 * (0 + 1))), some (Iq x5), some (Iq (0 + 1))]) eX3_fits_80 (by decide) rfl ?_
        obtain ⟨o22, h⟩ := h
        refine pw_iinc (ls2 := [some (Aq 0), some (Iq x1), some (Iq x2), some (Iq x3), some (Iq (x4 * (0 + 1))), some (Iq (x5 + 1)), some (Iq (0 + 1))]) eX3_fits_82 rfl o22 rfl ?_
        refine pw_goto eX3_fits_85 ?_
        exact pw_drop (bs := [true, true, true, true, true, true, false]) h
      · have h := h.2 c20
        refine pw_iinc (ls2 := [some (Aq 0), some (Iq x1), some (Iq x2), some (Iq x3), some (Iq x4), some (Iq x5), some (Iq ((0 + 1) + 1))]) eX3_fits_72 rfl (by decide) rfl ?_
        refine pw_iload eX3_fits_75 rfl ?_
        refine pw_iload eX3_fits_77 rfl ?_
        obtain ⟨o23, h⟩ := h
        refine pw_imul eX3_fits_79 o23 ?_
        refine pw_istore (ls2 := [some (Aq 0), some (Iq x1), some (Iq x2), some (Iq x3), some (Iq (x4 * ((0 + 1) + 1))), some (Iq x5), some (Iq ((0 + 1) + 1))]) eX3_fits_80 (by decide) rfl ?_
        obtain ⟨o24, h⟩ := h
        refine pw_iinc (ls2 := [some (Aq 0), some (Iq x1), some (Iq x2), some (Iq x3), some (Iq (x4 * ((0 + 1) + 1))), some (Iq (x5 + 1)), some (Iq ((0 + 1) + 1))]) eX3_fits_82 rfl o24 rfl ?_
        refine pw_goto eX3_fits_85 ?_
        exact pw_drop (bs := [true, true, true, true, true, true, false]) h
set_option maxRecDepth 100000 in
theorem rg_X3_knew_0 {S : Sx} {Q : Option PV → Zm → Prop} {mem : Zm}   {x1 x2 : Int} 
    (h : (∃ (v1 : Int) (m2 : Zm), Ct1 S mX3_sheetAndChildCheck [Aq 0, Iq x1, Iq x2] mem (some (Iq v1)) m2 ∧ ((((v1 = 0) → ((∃ (m6 : Zm), Ct1 S mX3_tryDayKnowingNothing [Aq 0, Iq x2] m2 none m6 ∧ (PW S mX3_knew Q 28 [some (Aq 0), some (Iq x1), some (Iq x2), some (Iq v1), some (Iq 0), some (Iq 0)] [] m6)))) ∧ (¬ (v1 = 0) → ((∃ (v8 : Int) (m9 : Zm), Ct1 S mX3_finding [Aq 0, Iq v1] m2 (some (Iq v8)) m9 ∧ (Q (some (Iq v8)) m9)))))))) :
    PW S mX3_knew Q 0 [some (Aq 0), some (Iq x1), some (Iq x2), none, none, none] [] mem := by
  refine pw_aload_n eX3_knew_0 rfl rfl ?_
  refine pw_iload_n eX3_knew_1 rfl rfl ?_
  refine pw_iload_n eX3_knew_2 rfl rfl ?_
  obtain ⟨v1, m2, hc3, h⟩ := h
  refine pw_cV (z := mX3_sheetAndChildCheck) (av := [Iq x1, Iq x2]) (st := []) eX3_knew_3 lk_RX3_149 rfl (by decide) (by decide) sh0 rfl rfl (Nat.le_of_ble_eq_true rfl) rfl hc3 ?_
  show PW S mX3_knew Q 6 [some (Aq 0), some (Iq x1), some (Iq x2), none, none, none] [Iq v1] m2
  refine pw_istore_n (ls2 := [some (Aq 0), some (Iq x1), some (Iq x2), some (Iq v1), none, none]) eX3_knew_6 rfl (by decide) rfl ?_
  refine pw_iload_n eX3_knew_7 rfl rfl ?_
  refine pw_if_eq eX3_knew_8 (fun c4 => ?_) (fun c4 => ?_)
  · have h := h.1 c4
    refine pw_aload_n eX3_knew_17 rfl rfl ?_
    refine pw_iload_n eX3_knew_18 rfl rfl ?_
    obtain ⟨m6, hc7, h⟩ := h
    refine pw_cV (z := mX3_tryDayKnowingNothing) (av := [Iq x2]) (st := []) eX3_knew_19 lk_RX3_156 rfl (by decide) (by decide) sh0 rfl rfl (Nat.le_of_ble_eq_true rfl) rfl hc7 ?_
    show PW S mX3_knew Q 22 [some (Aq 0), some (Iq x1), some (Iq x2), some (Iq v1), none, none] [] m6
    refine pw_iconst eX3_knew_22 ⟨by decide, by decide⟩ ?_
    refine pw_istore (ls2 := [some (Aq 0), some (Iq x1), some (Iq x2), some (Iq v1), some (Iq 0), none]) eX3_knew_23 (by decide) rfl ?_
    refine pw_iconst eX3_knew_25 ⟨by decide, by decide⟩ ?_
    refine pw_istore (ls2 := [some (Aq 0), some (Iq x1), some (Iq x2), some (Iq v1), some (Iq 0), some (Iq 0)]) eX3_knew_26 (by decide) rfl ?_
    exact h
  · have h := h.2 c4
    refine pw_aload_n eX3_knew_11 rfl rfl ?_
    refine pw_iload_n eX3_knew_12 rfl rfl ?_
    obtain ⟨v8, m9, hc10, h⟩ := h
    refine pw_cV (z := mX3_finding) (av := [Iq v1]) (st := []) eX3_knew_13 lk_RX3_49 rfl (by decide) (by decide) sh0 rfl rfl (Nat.le_of_ble_eq_true rfl) rfl hc10 ?_
    show PW S mX3_knew Q 16 [some (Aq 0), some (Iq x1), some (Iq x2), some (Iq v1), none, none] [Iq v8] m9
    exact pw_iret eX3_knew_16 h

set_option maxRecDepth 100000 in
theorem rg_X3_knew_28 {S : Sx} {Q : Option PV → Zm → Prop} {mem : Zm}   {x1 x2 x3 x4 x5 : Int} 
    (h : (((8 ≤ x5) → (Q (some (Iq x4)) mem)) ∧ (¬ (8 ≤ x5) → ((0 ≤ x1 ∧ x1 < 4) ∧ (∃ (v3 : Int) (m4 : Zm), Ct1 S mX3_fitsUnknown [Aq 0, Aq (25 + 2 * (x1).toNat), Iq x2, Iq x5] mem (some (Iq v3)) m4 ∧ ((((¬ v3 = 0) → ((in32 (x5 + 1)) ∧ PW S mX3_knew Q 28 [some (Aq 0), some (Iq x1), some (Iq x2), some (Iq x3), some (Iq x4), some (Iq (x5 + 1))] [] m4)) ∧ (¬ (¬ v3 = 0) → ((0 ≤ x1 ∧ x1 < 4) ∧ (∃ (v9 : Int) (m10 : Zm), Ct1 S mX3_fitsKnown [Aq 0, Aq (25 + 2 * (x1).toNat), Iq x5] m4 (some (Iq v9)) m10 ∧ ((((¬ v9 = 0) → ((in32 (x5 + 1)) ∧ PW S mX3_knew Q 28 [some (Aq 0), some (Iq x1), some (Iq x2), some (Iq x3), some (Iq (bOr x4 (bShl 1 x5))), some (Iq (x5 + 1))] [] m10)) ∧ (¬ (¬ v9 = 0) → ((∃ (v14 : Int) (m15 : Zm), Ct1 S mX3_finding [Aq 0, Iq (-1000004)] m10 (some (Iq v14)) m15 ∧ (Q (some (Iq v14)) m15)))))))))))))))) :
    PW S mX3_knew Q 28 [some (Aq 0), some (Iq x1), some (Iq x2), some (Iq x3), some (Iq x4), some (Iq x5)] [] mem := by
  refine pw_iload eX3_knew_28 rfl ?_
  refine pw_bipush eX3_knew_30 ⟨by decide, by decide⟩ (by decide) ?_
  refine pw_icmp_ge eX3_knew_32 (fun c1 => ?_) (fun c1 => ?_)
  · have h := h.1 c1
    refine pw_iload eX3_knew_88 rfl ?_
    exact pw_iret eX3_knew_90 h
  · have h := h.2 c1
    refine pw_aload_n eX3_knew_35 rfl rfl ?_
    refine pw_aload_n eX3_knew_36 rfl rfl ?_
    refine gf_RX3_35 rfl eX3_knew_37 sh0 ?_
    refine pw_iload_n eX3_knew_40 rfl rfl ?_
    obtain ⟨o2, h⟩ := h
    refine pw_aald eX3_knew_41 sh24 o2 ?_
    refine pw_iload_n eX3_knew_42 rfl rfl ?_
    refine pw_iload eX3_knew_43 rfl ?_
    obtain ⟨v3, m4, hc5, h⟩ := h
    refine pw_cV (z := mX3_fitsUnknown) (av := [Aq (25 + 2 * (x1).toNat), Iq x2, Iq x5]) (st := []) eX3_knew_45 lk_RX3_159 rfl (by decide) (by decide) sh0 rfl rfl (Nat.le_of_ble_eq_true rfl) rfl hc5 ?_
    show PW S mX3_knew Q 48 [some (Aq 0), some (Iq x1), some (Iq x2), some (Iq x3), some (Iq x4), some (Iq x5)] [Iq v3] m4
    refine pw_if_ne eX3_knew_48 (fun c6 => ?_) (fun c6 => ?_)
    · have h := h.1 c6
      obtain ⟨o7, h⟩ := h
      refine pw_iinc (ls2 := [some (Aq 0), some (Iq x1), some (Iq x2), some (Iq x3), some (Iq x4), some (Iq (x5 + 1))]) eX3_knew_82 rfl o7 rfl ?_
      refine pw_goto eX3_knew_85 ?_
      exact h
    · have h := h.2 c6
      refine pw_aload_n eX3_knew_51 rfl rfl ?_
      refine pw_aload_n eX3_knew_52 rfl rfl ?_
      refine gf_RX3_35 rfl eX3_knew_53 sh0 ?_
      refine pw_iload_n eX3_knew_56 rfl rfl ?_
      obtain ⟨o8, h⟩ := h
      refine pw_aald eX3_knew_57 sh24 o8 ?_
      refine pw_iload eX3_knew_58 rfl ?_
      obtain ⟨v9, m10, hc11, h⟩ := h
      refine pw_cV (z := mX3_fitsKnown) (av := [Aq (25 + 2 * (x1).toNat), Iq x5]) (st := []) eX3_knew_60 lk_RX3_163 rfl (by decide) (by decide) sh0 rfl rfl (Nat.le_of_ble_eq_true rfl) rfl hc11 ?_
      show PW S mX3_knew Q 63 [some (Aq 0), some (Iq x1), some (Iq x2), some (Iq x3), some (Iq x4), some (Iq x5)] [Iq v9] m10
      refine pw_if_ne eX3_knew_63 (fun c12 => ?_) (fun c12 => ?_)
      · have h := h.1 c12
        refine pw_iload eX3_knew_73 rfl ?_
        refine pw_iconst eX3_knew_75 ⟨by decide, by decide⟩ ?_
        refine pw_iload eX3_knew_76 rfl ?_
        refine pw_ishl eX3_knew_78 ?_
        refine pw_ior eX3_knew_79 ?_
        refine pw_istore (ls2 := [some (Aq 0), some (Iq x1), some (Iq x2), some (Iq x3), some (Iq (bOr x4 (bShl 1 x5))), some (Iq x5)]) eX3_knew_80 (by decide) rfl ?_
        obtain ⟨o13, h⟩ := h
        refine pw_iinc (ls2 := [some (Aq 0), some (Iq x1), some (Iq x2), some (Iq x3), some (Iq (bOr x4 (bShl 1 x5))), some (Iq (x5 + 1))]) eX3_knew_82 rfl o13 rfl ?_
        refine pw_goto eX3_knew_85 ?_
        exact h
      · have h := h.2 c12
        refine pw_aload_n eX3_knew_66 rfl rfl ?_
        refine pw_ldc (n := (-1000004)) eX3_knew_67 ⟨by decide, by decide⟩ kc_RX3_133 ?_
        obtain ⟨v14, m15, hc16, h⟩ := h
        refine pw_cV (z := mX3_finding) (av := [Iq (-1000004)]) (st := []) eX3_knew_69 lk_RX3_49 rfl (by decide) (by decide) sh0 rfl rfl (Nat.le_of_ble_eq_true rfl) rfl hc16 ?_
        show PW S mX3_knew Q 72 [some (Aq 0), some (Iq x1), some (Iq x2), some (Iq x3), some (Iq x4), some (Iq x5)] [Iq v14] m15
        exact pw_iret eX3_knew_72 h
set_option maxRecDepth 100000 in
theorem rg_X3_kinds_0 {S : Sx} {Q : Option PV → Zm → Prop} {mem : Zm}   {x1 x2 : Int} 
    (h : (∃ (v1 : Int) (m2 : Zm), Ct1 S mX3_sheetAndChildCheck [Aq 0, Iq x1, Iq x2] mem (some (Iq v1)) m2 ∧ ((((v1 = 0) → (PW S mX3_kinds Q 23 [some (Aq 0), some (Iq x1), some (Iq x2), some (Iq v1), some (Iq 0), some (Iq 0)] [] m2)) ∧ (¬ (v1 = 0) → ((∃ (v5 : Int) (m6 : Zm), Ct1 S mX3_finding [Aq 0, Iq v1] m2 (some (Iq v5)) m6 ∧ (Q (some (Iq v5)) m6)))))))) :
    PW S mX3_kinds Q 0 [some (Aq 0), some (Iq x1), some (Iq x2), none, none, none] [] mem := by
  refine pw_aload_n eX3_kinds_0 rfl rfl ?_
  refine pw_iload_n eX3_kinds_1 rfl rfl ?_
  refine pw_iload_n eX3_kinds_2 rfl rfl ?_
  obtain ⟨v1, m2, hc3, h⟩ := h
  refine pw_cV (z := mX3_sheetAndChildCheck) (av := [Iq x1, Iq x2]) (st := []) eX3_kinds_3 lk_RX3_149 rfl (by decide) (by decide) sh0 rfl rfl (Nat.le_of_ble_eq_true rfl) rfl hc3 ?_
  show PW S mX3_kinds Q 6 [some (Aq 0), some (Iq x1), some (Iq x2), none, none, none] [Iq v1] m2
  refine pw_istore_n (ls2 := [some (Aq 0), some (Iq x1), some (Iq x2), some (Iq v1), none, none]) eX3_kinds_6 rfl (by decide) rfl ?_
  refine pw_iload_n eX3_kinds_7 rfl rfl ?_
  refine pw_if_eq eX3_kinds_8 (fun c4 => ?_) (fun c4 => ?_)
  · have h := h.1 c4
    refine pw_iconst eX3_kinds_17 ⟨by decide, by decide⟩ ?_
    refine pw_istore (ls2 := [some (Aq 0), some (Iq x1), some (Iq x2), some (Iq v1), some (Iq 0), none]) eX3_kinds_18 (by decide) rfl ?_
    refine pw_iconst eX3_kinds_20 ⟨by decide, by decide⟩ ?_
    refine pw_istore (ls2 := [some (Aq 0), some (Iq x1), some (Iq x2), some (Iq v1), some (Iq 0), some (Iq 0)]) eX3_kinds_21 (by decide) rfl ?_
    exact h
  · have h := h.2 c4
    refine pw_aload_n eX3_kinds_11 rfl rfl ?_
    refine pw_iload_n eX3_kinds_12 rfl rfl ?_
    obtain ⟨v5, m6, hc7, h⟩ := h
    refine pw_cV (z := mX3_finding) (av := [Iq v1]) (st := []) eX3_kinds_13 lk_RX3_49 rfl (by decide) (by decide) sh0 rfl rfl (Nat.le_of_ble_eq_true rfl) rfl hc7 ?_
    show PW S mX3_kinds Q 16 [some (Aq 0), some (Iq x1), some (Iq x2), some (Iq v1), none, none] [Iq v5] m6
    exact pw_iret eX3_kinds_16 h

set_option maxRecDepth 100000 in
theorem rg_X3_kinds_23 {S : Sx} {Q : Option PV → Zm → Prop} {mem : Zm}   {x1 x2 x3 x4 x5 : Int} 
    (h : (((7 ≤ x5) → (Q (some (Iq x4)) mem)) ∧ (¬ (7 ≤ x5) → ((0 ≤ x1 ∧ x1 < 4) ∧ (∃ (v3 : Int) (m4 : Zm), Ct1 S mX3_writesAsAsked [Aq 0, Aq (25 + 2 * (x1).toNat), Iq x2, Iq 0, Iq x5] mem (some (Iq v3)) m4 ∧ ((((v3 = 0) → ((in32 (x5 + 1)) ∧ PW S mX3_kinds Q 23 [some (Aq 0), some (Iq x1), some (Iq x2), some (Iq x3), some (Iq x4), some (Iq (x5 + 1))] [] m4)) ∧ (¬ (v3 = 0) → ((in32 (x5 + 1)) ∧ PW S mX3_kinds Q 23 [some (Aq 0), some (Iq x1), some (Iq x2), some (Iq x3), some (Iq (bOr x4 (bShl 1 x5))), some (Iq (x5 + 1))] [] m4))))))))) :
    PW S mX3_kinds Q 23 [some (Aq 0), some (Iq x1), some (Iq x2), some (Iq x3), some (Iq x4), some (Iq x5)] [] mem := by
  refine pw_iload eX3_kinds_23 rfl ?_
  refine pw_bipush eX3_kinds_25 ⟨by decide, by decide⟩ (by decide) ?_
  refine pw_icmp_ge eX3_kinds_27 (fun c1 => ?_) (fun c1 => ?_)
  · have h := h.1 c1
    refine pw_iload eX3_kinds_62 rfl ?_
    exact pw_iret eX3_kinds_64 h
  · have h := h.2 c1
    refine pw_aload_n eX3_kinds_30 rfl rfl ?_
    refine pw_aload_n eX3_kinds_31 rfl rfl ?_
    refine gf_RX3_35 rfl eX3_kinds_32 sh0 ?_
    refine pw_iload_n eX3_kinds_35 rfl rfl ?_
    obtain ⟨o2, h⟩ := h
    refine pw_aald eX3_kinds_36 sh24 o2 ?_
    refine pw_iload_n eX3_kinds_37 rfl rfl ?_
    refine pw_iconst eX3_kinds_38 ⟨by decide, by decide⟩ ?_
    refine pw_iload eX3_kinds_39 rfl ?_
    obtain ⟨v3, m4, hc5, h⟩ := h
    refine pw_cV (z := mX3_writesAsAsked) (av := [Aq (25 + 2 * (x1).toNat), Iq x2, Iq 0, Iq x5]) (st := []) eX3_kinds_41 lk_RX3_152 rfl (by decide) (by decide) sh0 rfl rfl (Nat.le_of_ble_eq_true rfl) rfl hc5 ?_
    show PW S mX3_kinds Q 44 [some (Aq 0), some (Iq x1), some (Iq x2), some (Iq x3), some (Iq x4), some (Iq x5)] [Iq v3] m4
    refine pw_if_eq eX3_kinds_44 (fun c6 => ?_) (fun c6 => ?_)
    · have h := h.1 c6
      obtain ⟨o7, h⟩ := h
      refine pw_iinc (ls2 := [some (Aq 0), some (Iq x1), some (Iq x2), some (Iq x3), some (Iq x4), some (Iq (x5 + 1))]) eX3_kinds_56 rfl o7 rfl ?_
      refine pw_goto eX3_kinds_59 ?_
      exact h
    · have h := h.2 c6
      refine pw_iload eX3_kinds_47 rfl ?_
      refine pw_iconst eX3_kinds_49 ⟨by decide, by decide⟩ ?_
      refine pw_iload eX3_kinds_50 rfl ?_
      refine pw_ishl eX3_kinds_52 ?_
      refine pw_ior eX3_kinds_53 ?_
      refine pw_istore (ls2 := [some (Aq 0), some (Iq x1), some (Iq x2), some (Iq x3), some (Iq (bOr x4 (bShl 1 x5))), some (Iq x5)]) eX3_kinds_54 (by decide) rfl ?_
      obtain ⟨o8, h⟩ := h
      refine pw_iinc (ls2 := [some (Aq 0), some (Iq x1), some (Iq x2), some (Iq x3), some (Iq (bOr x4 (bShl 1 x5))), some (Iq (x5 + 1))]) eX3_kinds_56 rfl o8 rfl ?_
      refine pw_goto eX3_kinds_59 ?_
      exact h
set_option maxRecDepth 100000 in
theorem rg_X3_seats_0 {S : Sx} {Q : Option PV → Zm → Prop} {mem : Zm}   {x1 : Int} 
    (h : (∃ (v1 : Int) (m2 : Zm), Ct1 S mX3_within [Iq x1, Iq 1, Iq 20] mem (some (Iq v1)) m2 ∧ ((((¬ v1 = 0) → ((in32 ((m2 1 8) + x1)) ∧ ((((m2 1 8) + x1 ≤ 99999) → (PW S mX3_seats Q 40 [some (Aq 0), some (Iq x1), some (Iq 0), none, none] [] m2)) ∧ (¬ ((m2 1 8) + x1 ≤ 99999) → ((∃ (v7 : Int) (m8 : Zm), Ct1 S mX3_finding [Aq 0, Iq (-1000005)] m2 (some (Iq v7)) m8 ∧ (Q (some (Iq v7)) m8))))))) ∧ (¬ (¬ v1 = 0) → ((∃ (v10 : Int) (m11 : Zm), Ct1 S mX3_finding [Aq 0, Iq (-1000001)] m2 (some (Iq v10)) m11 ∧ (Q (some (Iq v10)) m11)))))))) :
    PW S mX3_seats Q 0 [some (Aq 0), some (Iq x1), none, none, none] [] mem := by
  refine pw_iload_n eX3_seats_0 rfl rfl ?_
  refine pw_iconst eX3_seats_1 ⟨by decide, by decide⟩ ?_
  refine pw_bipush eX3_seats_2 ⟨by decide, by decide⟩ (by decide) ?_
  obtain ⟨v1, m2, hc3, h⟩ := h
  refine pw_cS (z := mX3_within) (av := [Iq x1, Iq 1, Iq 20]) (st := []) eX3_seats_4 lk_RX3_44 rfl (by decide) (by decide) (Nat.le_of_ble_eq_true rfl) rfl hc3 ?_
  show PW S mX3_seats Q 7 [some (Aq 0), some (Iq x1), none, none, none] [Iq v1] m2
  refine pw_if_ne eX3_seats_7 (fun c4 => ?_) (fun c4 => ?_)
  · have h := h.1 c4
    refine pw_aload_n eX3_seats_17 rfl rfl ?_
    refine gf_RX3_10 rfl eX3_seats_18 sh0 ?_
    refine gf_RX3_101 rfl eX3_seats_21 (shR isR1) ?_
    refine pw_iload_n eX3_seats_24 rfl rfl ?_
    obtain ⟨o5, h⟩ := h
    refine pw_iadd eX3_seats_25 o5 ?_
    refine pw_ldc (n := 99999) eX3_seats_26 ⟨by decide, by decide⟩ kc_RX3_104 ?_
    refine pw_icmp_le eX3_seats_28 (fun c6 => ?_) (fun c6 => ?_)
    · have h := h.1 c6
      refine pw_iconst eX3_seats_38 ⟨by decide, by decide⟩ ?_
      refine pw_istore_n (ls2 := [some (Aq 0), some (Iq x1), some (Iq 0), none, none]) eX3_seats_39 rfl (by decide) rfl ?_
      exact h
    · have h := h.2 c6
      refine pw_aload_n eX3_seats_31 rfl rfl ?_
      refine pw_ldc (n := (-1000005)) eX3_seats_32 ⟨by decide, by decide⟩ kc_RX3_105 ?_
      obtain ⟨v7, m8, hc9, h⟩ := h
      refine pw_cV (z := mX3_finding) (av := [Iq (-1000005)]) (st := []) eX3_seats_34 lk_RX3_49 rfl (by decide) (by decide) sh0 rfl rfl (Nat.le_of_ble_eq_true rfl) rfl hc9 ?_
      show PW S mX3_seats Q 37 [some (Aq 0), some (Iq x1), none, none, none] [Iq v7] m8
      exact pw_iret eX3_seats_37 h
  · have h := h.2 c4
    refine pw_aload_n eX3_seats_10 rfl rfl ?_
    refine pw_ldc (n := (-1000001)) eX3_seats_11 ⟨by decide, by decide⟩ kc_RX3_48 ?_
    obtain ⟨v10, m11, hc12, h⟩ := h
    refine pw_cV (z := mX3_finding) (av := [Iq (-1000001)]) (st := []) eX3_seats_13 lk_RX3_49 rfl (by decide) (by decide) sh0 rfl rfl (Nat.le_of_ble_eq_true rfl) rfl hc12 ?_
    show PW S mX3_seats Q 16 [some (Aq 0), some (Iq x1), none, none, none] [Iq v10] m11
    exact pw_iret eX3_seats_16 h

set_option maxRecDepth 100000 in
theorem rg_X3_seats_40 {S : Sx} {Q : Option PV → Zm → Prop} {mem : Zm}   {x1 x2 : Int} 
    (h : (((x1 ≤ x2) → ((∃ (v2 : Int) (m3 : Zm), Ct1 S mX0_total [Aq 1, Iq 3] mem (some (Iq v2)) m3 ∧ (Q (some (Iq v2)) m3)))) ∧ (¬ (x1 ≤ x2) → ((∃ (v5 : Int) (m6 : Zm), Ct1 S mX0_draw [Aq 1] mem (some (Iq v5)) m6 ∧ ((0 ≤ v5) ∧ (∃ (v9 : Int) (m10 : Zm), Ct1 S mX0_draw [Aq 1] m6 (some (Iq v9)) m10 ∧ ((0 ≤ v9) ∧ (∃ (v13 : Int) (m14 : Zm), Ct1 S mX0_has [Aq 1, Iq (v5 % 8)] m10 (some (Iq v13)) m14 ∧ ((((v13 = 0) → ((∃ (m18 : Zm), Ct1 S mX0_passDays [Aq 1, Iq 1] m14 none m18 ∧ ((in32 (x2 + 1)) ∧ PW S mX3_seats Q 40 [some (Aq 0), some (Iq x1), some (Iq (x2 + 1)), none, none] [] m18)))) ∧ (¬ (v13 = 0) → ((∃ (v21 : Int) (m22 : Zm), Ct1 S mX0_has [Aq 1, Iq (v9 % 8)] m14 (some (Iq v21)) m22 ∧ ((((v21 = 0) → ((∃ (m26 : Zm), Ct1 S mX0_passDays [Aq 1, Iq 1] m22 none m26 ∧ ((in32 (x2 + 1)) ∧ PW S mX3_seats Q 40 [some (Aq 0), some (Iq x1), some (Iq (x2 + 1)), none, none] [] m26)))) ∧ (¬ (v21 = 0) → ((((v5 % 8 = v9 % 8) → ((∃ (m31 : Zm), Ct1 S mX0_passDays [Aq 1, Iq 1] m22 none m31 ∧ ((in32 (x2 + 1)) ∧ PW S mX3_seats Q 40 [some (Aq 0), some (Iq x1), some (Iq (x2 + 1)), none, none] [] m31)))) ∧ (¬ (v5 % 8 = v9 % 8) → ((∃ (m35 : Zm), Ct1 S mX0_setFact [Aq 1, Iq (v5 % 8), Iq 2, Iq (v9 % 8)] m22 none m35 ∧ ((∃ (m38 : Zm), Ct1 S mX0_passDays [Aq 1, Iq 1] m35 none m38 ∧ ((in32 (x2 + 1)) ∧ PW S mX3_seats Q 40 [some (Aq 0), some (Iq x1), some (Iq (x2 + 1)), none, none] [] m38))))))))))))))))))))))))) :
    PW S mX3_seats Q 40 [some (Aq 0), some (Iq x1), some (Iq x2), none, none] [] mem := by
  refine pw_iload_n eX3_seats_40 rfl rfl ?_
  refine pw_iload_n eX3_seats_41 rfl rfl ?_
  refine pw_icmp_ge eX3_seats_42 (fun c1 => ?_) (fun c1 => ?_)
  · have h := h.1 c1
    refine pw_aload_n eX3_seats_122 rfl rfl ?_
    refine gf_RX3_10 rfl eX3_seats_123 sh0 ?_
    refine pw_iconst eX3_seats_126 ⟨by decide, by decide⟩ ?_
    obtain ⟨v2, m3, hc4, h⟩ := h
    refine pw_cV (z := mX0_total) (av := [Iq 3]) (st := []) eX3_seats_127 lk_RX3_110 rfl (by decide) (by decide) (shR isR1) rfl rfl (Nat.le_of_ble_eq_true rfl) rfl hc4 ?_
    show PW S mX3_seats Q 130 [some (Aq 0), some (Iq x1), some (Iq x2), none, none] [Iq v2] m3
    exact pw_iret eX3_seats_130 h
  · have h := h.2 c1
    refine pw_aload_n eX3_seats_45 rfl rfl ?_
    refine gf_RX3_10 rfl eX3_seats_46 sh0 ?_
    obtain ⟨v5, m6, hc7, h⟩ := h
    refine pw_cV (z := mX0_draw) (av := []) (st := []) eX3_seats_49 lk_RX3_167 rfl (by decide) (by decide) (shR isR1) rfl rfl (Nat.le_of_ble_eq_true rfl) rfl hc7 ?_
    show PW S mX3_seats Q 52 [some (Aq 0), some (Iq x1), some (Iq x2), none, none] [Iq v5] m6
    refine pw_bipush eX3_seats_52 ⟨by decide, by decide⟩ (by decide) ?_
    obtain ⟨o8, h⟩ := h
    refine pw_irem eX3_seats_54 o8 (by decide) ?_
    refine pw_istore_n (ls2 := [some (Aq 0), some (Iq x1), some (Iq x2), some (Iq (v5 % 8)), none]) eX3_seats_55 rfl (by decide) rfl ?_
    refine pw_aload_n eX3_seats_56 rfl rfl ?_
    refine gf_RX3_10 rfl eX3_seats_57 sh0 ?_
    obtain ⟨v9, m10, hc11, h⟩ := h
    refine pw_cV (z := mX0_draw) (av := []) (st := []) eX3_seats_60 lk_RX3_167 rfl (by decide) (by decide) (shR isR1) rfl rfl (Nat.le_of_ble_eq_true rfl) rfl hc11 ?_
    show PW S mX3_seats Q 63 [some (Aq 0), some (Iq x1), some (Iq x2), some (Iq (v5 % 8)), none] [Iq v9] m10
    refine pw_bipush eX3_seats_63 ⟨by decide, by decide⟩ (by decide) ?_
    obtain ⟨o12, h⟩ := h
    refine pw_irem eX3_seats_65 o12 (by decide) ?_
    refine pw_istore (ls2 := [some (Aq 0), some (Iq x1), some (Iq x2), some (Iq (v5 % 8)), some (Iq (v9 % 8))]) eX3_seats_66 (by decide) rfl ?_
    refine pw_aload_n eX3_seats_68 rfl rfl ?_
    refine gf_RX3_10 rfl eX3_seats_69 sh0 ?_
    refine pw_iload_n eX3_seats_72 rfl rfl ?_
    obtain ⟨v13, m14, hc15, h⟩ := h
    refine pw_cV (z := mX0_has) (av := [Iq (v5 % 8)]) (st := []) eX3_seats_73 lk_RX3_68 rfl (by decide) (by decide) (shR isR1) rfl rfl (Nat.le_of_ble_eq_true rfl) rfl hc15 ?_
    show PW S mX3_seats Q 76 [some (Aq 0), some (Iq x1), some (Iq x2), some (Iq (v5 % 8)), some (Iq (v9 % 8))] [Iq v13] m14
    refine pw_if_eq eX3_seats_76 (fun c16 => ?_) (fun c16 => ?_)
    · have h := h.1 c16
      refine pw_aload_n eX3_seats_108 rfl rfl ?_
      refine gf_RX3_10 rfl eX3_seats_109 sh0 ?_
      refine pw_iconst eX3_seats_112 ⟨by decide, by decide⟩ ?_
      obtain ⟨m18, hc19, h⟩ := h
      refine pw_cV (z := mX0_passDays) (av := [Iq 1]) (st := []) eX3_seats_113 lk_RX3_106 rfl (by decide) (by decide) (shR isR1) rfl rfl (Nat.le_of_ble_eq_true rfl) rfl hc19 ?_
      show PW S mX3_seats Q 116 [some (Aq 0), some (Iq x1), some (Iq x2), some (Iq (v5 % 8)), some (Iq (v9 % 8))] [] m18
      obtain ⟨o20, h⟩ := h
      refine pw_iinc (ls2 := [some (Aq 0), some (Iq x1), some (Iq (x2 + 1)), some (Iq (v5 % 8)), some (Iq (v9 % 8))]) eX3_seats_116 rfl o20 rfl ?_
      refine pw_goto eX3_seats_119 ?_
      exact pw_drop (bs := [true, true, true, false, false]) h
    · have h := h.2 c16
      refine pw_aload_n eX3_seats_79 rfl rfl ?_
      refine gf_RX3_10 rfl eX3_seats_80 sh0 ?_
      refine pw_iload eX3_seats_83 rfl ?_
      obtain ⟨v21, m22, hc23, h⟩ := h
      refine pw_cV (z := mX0_has) (av := [Iq (v9 % 8)]) (st := []) eX3_seats_85 lk_RX3_68 rfl (by decide) (by decide) (shR isR1) rfl rfl (Nat.le_of_ble_eq_true rfl) rfl hc23 ?_
      show PW S mX3_seats Q 88 [some (Aq 0), some (Iq x1), some (Iq x2), some (Iq (v5 % 8)), some (Iq (v9 % 8))] [Iq v21] m22
      refine pw_if_eq eX3_seats_88 (fun c24 => ?_) (fun c24 => ?_)
      · have h := h.1 c24
        refine pw_aload_n eX3_seats_108 rfl rfl ?_
        refine gf_RX3_10 rfl eX3_seats_109 sh0 ?_
        refine pw_iconst eX3_seats_112 ⟨by decide, by decide⟩ ?_
        obtain ⟨m26, hc27, h⟩ := h
        refine pw_cV (z := mX0_passDays) (av := [Iq 1]) (st := []) eX3_seats_113 lk_RX3_106 rfl (by decide) (by decide) (shR isR1) rfl rfl (Nat.le_of_ble_eq_true rfl) rfl hc27 ?_
        show PW S mX3_seats Q 116 [some (Aq 0), some (Iq x1), some (Iq x2), some (Iq (v5 % 8)), some (Iq (v9 % 8))] [] m26
        obtain ⟨o28, h⟩ := h
        refine pw_iinc (ls2 := [some (Aq 0), some (Iq x1), some (Iq (x2 + 1)), some (Iq (v5 % 8)), some (Iq (v9 % 8))]) eX3_seats_116 rfl o28 rfl ?_
        refine pw_goto eX3_seats_119 ?_
        exact pw_drop (bs := [true, true, true, false, false]) h
      · have h := h.2 c24
        refine pw_iload_n eX3_seats_91 rfl rfl ?_
        refine pw_iload eX3_seats_92 rfl ?_
        refine pw_icmp_eq eX3_seats_94 (fun c29 => ?_) (fun c29 => ?_)
        · have h := h.1 c29
          refine pw_aload_n eX3_seats_108 rfl rfl ?_
          refine gf_RX3_10 rfl eX3_seats_109 sh0 ?_
          refine pw_iconst eX3_seats_112 ⟨by decide, by decide⟩ ?_
          obtain ⟨m31, hc32, h⟩ := h
          refine pw_cV (z := mX0_passDays) (av := [Iq 1]) (st := []) eX3_seats_113 lk_RX3_106 rfl (by decide) (by decide) (shR isR1) rfl rfl (Nat.le_of_ble_eq_true rfl) rfl hc32 ?_
          show PW S mX3_seats Q 116 [some (Aq 0), some (Iq x1), some (Iq x2), some (Iq (v5 % 8)), some (Iq (v9 % 8))] [] m31
          obtain ⟨o33, h⟩ := h
          refine pw_iinc (ls2 := [some (Aq 0), some (Iq x1), some (Iq (x2 + 1)), some (Iq (v5 % 8)), some (Iq (v9 % 8))]) eX3_seats_116 rfl o33 rfl ?_
          refine pw_goto eX3_seats_119 ?_
          exact pw_drop (bs := [true, true, true, false, false]) h
        · have h := h.2 c29
          refine pw_aload_n eX3_seats_97 rfl rfl ?_
          refine gf_RX3_10 rfl eX3_seats_98 sh0 ?_
          refine pw_iload_n eX3_seats_101 rfl rfl ?_
          refine pw_iconst eX3_seats_102 ⟨by decide, by decide⟩ ?_
          refine pw_iload eX3_seats_103 rfl ?_
          obtain ⟨m35, hc36, h⟩ := h
          refine pw_cV (z := mX0_setFact) (av := [Iq (v5 % 8), Iq 2, Iq (v9 % 8)]) (st := []) eX3_seats_105 lk_RX3_87 rfl (by decide) (by decide) (shR isR1) rfl rfl (Nat.le_of_ble_eq_true rfl) rfl hc36 ?_
          show PW S mX3_seats Q 108 [some (Aq 0), some (Iq x1), some (Iq x2), some (Iq (v5 % 8)), some (Iq (v9 % 8))] [] m35
          refine pw_aload_n eX3_seats_108 rfl rfl ?_
          refine gf_RX3_10 rfl eX3_seats_109 sh0 ?_
          refine pw_iconst eX3_seats_112 ⟨by decide, by decide⟩ ?_
          obtain ⟨m38, hc39, h⟩ := h
          refine pw_cV (z := mX0_passDays) (av := [Iq 1]) (st := []) eX3_seats_113 lk_RX3_106 rfl (by decide) (by decide) (shR isR1) rfl rfl (Nat.le_of_ble_eq_true rfl) rfl hc39 ?_
          show PW S mX3_seats Q 116 [some (Aq 0), some (Iq x1), some (Iq x2), some (Iq (v5 % 8)), some (Iq (v9 % 8))] [] m38
          obtain ⟨o40, h⟩ := h
          refine pw_iinc (ls2 := [some (Aq 0), some (Iq x1), some (Iq (x2 + 1)), some (Iq (v5 % 8)), some (Iq (v9 % 8))]) eX3_seats_116 rfl o40 rfl ?_
          refine pw_goto eX3_seats_119 ?_
          exact pw_drop (bs := [true, true, true, false, false]) h
set_option maxRecDepth 100000 in
theorem rg_X3_odds_0 {S : Sx} {Q : Option PV → Zm → Prop} {mem : Zm}   {x1 x2 x3 : Int} 
    (h : (∃ (v1 : Int) (m2 : Zm), Ct1 S mX0_has [Aq 1, Iq x1] mem (some (Iq v1)) m2 ∧ ((((v1 = 0) → ((∃ (v5 : Int) (m6 : Zm), Ct1 S mX3_finding [Aq 0, Iq (-1000001)] m2 (some (Iq v5)) m6 ∧ (Q (some (Jq v5)) m6)))) ∧ (¬ (v1 = 0) → ((∃ (v8 : Int) (m9 : Zm), Ct1 S mX3_within [Iq x2, Iq 0, Iq 20] m2 (some (Iq v8)) m9 ∧ ((((v8 = 0) → ((∃ (v12 : Int) (m13 : Zm), Ct1 S mX3_finding [Aq 0, Iq (-1000001)] m9 (some (Iq v12)) m13 ∧ (Q (some (Jq v12)) m13)))) ∧ (¬ (v8 = 0) → ((∃ (v15 : Int) (m16 : Zm), Ct1 S mX3_within [Iq x3, Iq 0, Iq 1] m9 (some (Iq v15)) m16 ∧ ((((¬ v15 = 0) → ((∃ (v19 : Int) (m20 : Zm), Ct1 S mX0_fact [Aq 1, Iq x1, Iq 1] m16 (some (Iq v19)) m20 ∧ ((∃ (v22 : Int) (m23 : Zm), Ct1 S mJ6_bitCount_0f7a4 [Iq v19] m20 (some (Iq v22)) m23 ∧ (PW S mX3_odds Q 56 [some (Aq 0), some (Iq x1), some (Iq x2), some (Iq x3), some (Iq v22), some (Iq 8)] [] m23)))))) ∧ (¬ (¬ v15 = 0) → ((∃ (v25 : Int) (m26 : Zm), Ct1 S mX3_finding [Aq 0, Iq (-1000001)] m16 (some (Iq v25)) m26 ∧ (Q (some (Jq v25)) m26)))))))))))))))))) :
    PW S mX3_odds Q 0 [some (Aq 0), some (Iq x1), some (Iq x2), some (Iq x3), none, none] [] mem := by
  refine pw_aload_n eX3_odds_0 rfl rfl ?_
  refine gf_RX3_10 rfl eX3_odds_1 sh0 ?_
  refine pw_iload_n eX3_odds_4 rfl rfl ?_
  obtain ⟨v1, m2, hc3, h⟩ := h
  refine pw_cV (z := mX0_has) (av := [Iq x1]) (st := []) eX3_odds_5 lk_RX3_68 rfl (by decide) (by decide) (shR isR1) rfl rfl (Nat.le_of_ble_eq_true rfl) rfl hc3 ?_
  show PW S mX3_odds Q 8 [some (Aq 0), some (Iq x1), some (Iq x2), some (Iq x3), none, none] [Iq v1] m2
  refine pw_if_eq eX3_odds_8 (fun c4 => ?_) (fun c4 => ?_)
  · have h := h.1 c4
    refine pw_aload_n eX3_odds_30 rfl rfl ?_
    refine pw_ldc (n := (-1000001)) eX3_odds_31 ⟨by decide, by decide⟩ kc_RX3_48 ?_
    obtain ⟨v5, m6, hc7, h⟩ := h
    refine pw_cV (z := mX3_finding) (av := [Iq (-1000001)]) (st := []) eX3_odds_33 lk_RX3_49 rfl (by decide) (by decide) sh0 rfl rfl (Nat.le_of_ble_eq_true rfl) rfl hc7 ?_
    show PW S mX3_odds Q 36 [some (Aq 0), some (Iq x1), some (Iq x2), some (Iq x3), none, none] [Iq v5] m6
    refine pw_i2l eX3_odds_36 ?_
    exact pw_lret eX3_odds_37 h
  · have h := h.2 c4
    refine pw_iload_n eX3_odds_11 rfl rfl ?_
    refine pw_iconst eX3_odds_12 ⟨by decide, by decide⟩ ?_
    refine pw_bipush eX3_odds_13 ⟨by decide, by decide⟩ (by decide) ?_
    obtain ⟨v8, m9, hc10, h⟩ := h
    refine pw_cS (z := mX3_within) (av := [Iq x2, Iq 0, Iq 20]) (st := []) eX3_odds_15 lk_RX3_44 rfl (by decide) (by decide) (Nat.le_of_ble_eq_true rfl) rfl hc10 ?_
    show PW S mX3_odds Q 18 [some (Aq 0), some (Iq x1), some (Iq x2), some (Iq x3), none, none] [Iq v8] m9
    refine pw_if_eq eX3_odds_18 (fun c11 => ?_) (fun c11 => ?_)
    · have h := h.1 c11
      refine pw_aload_n eX3_odds_30 rfl rfl ?_
      refine pw_ldc (n := (-1000001)) eX3_odds_31 ⟨by decide, by decide⟩ kc_RX3_48 ?_
      obtain ⟨v12, m13, hc14, h⟩ := h
      refine pw_cV (z := mX3_finding) (av := [Iq (-1000001)]) (st := []) eX3_odds_33 lk_RX3_49 rfl (by decide) (by decide) sh0 rfl rfl (Nat.le_of_ble_eq_true rfl) rfl hc14 ?_
      show PW S mX3_odds Q 36 [some (Aq 0), some (Iq x1), some (Iq x2), some (Iq x3), none, none] [Iq v12] m13
      refine pw_i2l eX3_odds_36 ?_
      exact pw_lret eX3_odds_37 h
    · have h := h.2 c11
      refine pw_iload_n eX3_odds_21 rfl rfl ?_
      refine pw_iconst eX3_odds_22 ⟨by decide, by decide⟩ ?_
      refine pw_iconst eX3_odds_23 ⟨by decide, by decide⟩ ?_
      obtain ⟨v15, m16, hc17, h⟩ := h
      refine pw_cS (z := mX3_within) (av := [Iq x3, Iq 0, Iq 1]) (st := []) eX3_odds_24 lk_RX3_44 rfl (by decide) (by decide) (Nat.le_of_ble_eq_true rfl) rfl hc17 ?_
      show PW S mX3_odds Q 27 [some (Aq 0), some (Iq x1), some (Iq x2), some (Iq x3), none, none] [Iq v15] m16
      refine pw_if_ne eX3_odds_27 (fun c18 => ?_) (fun c18 => ?_)
      · have h := h.1 c18
        refine pw_aload_n eX3_odds_38 rfl rfl ?_
        refine gf_RX3_10 rfl eX3_odds_39 sh0 ?_
        refine pw_iload_n eX3_odds_42 rfl rfl ?_
        refine pw_iconst eX3_odds_43 ⟨by decide, by decide⟩ ?_
        obtain ⟨v19, m20, hc21, h⟩ := h
        refine pw_cV (z := mX0_fact) (av := [Iq x1, Iq 1]) (st := []) eX3_odds_44 lk_RX3_81 rfl (by decide) (by decide) (shR isR1) rfl rfl (Nat.le_of_ble_eq_true rfl) rfl hc21 ?_
        show PW S mX3_odds Q 47 [some (Aq 0), some (Iq x1), some (Iq x2), some (Iq x3), none, none] [Iq v19] m20
        obtain ⟨v22, m23, hc24, h⟩ := h
        refine pw_cS (z := mJ6_bitCount_0f7a4) (av := [Iq v19]) (st := []) eX3_odds_47 lk_RX3_141 rfl (by decide) (by decide) (Nat.le_of_ble_eq_true rfl) rfl hc24 ?_
        show PW S mX3_odds Q 50 [some (Aq 0), some (Iq x1), some (Iq x2), some (Iq x3), none, none] [Iq v22] m23
        refine pw_istore (ls2 := [some (Aq 0), some (Iq x1), some (Iq x2), some (Iq x3), some (Iq v22), none]) eX3_odds_50 (by decide) rfl ?_
        refine pw_bipush eX3_odds_52 ⟨by decide, by decide⟩ (by decide) ?_
        refine pw_istore (ls2 := [some (Aq 0), some (Iq x1), some (Iq x2), some (Iq x3), some (Iq v22), some (Iq 8)]) eX3_odds_54 (by decide) rfl ?_
        exact h
      · have h := h.2 c18
        refine pw_aload_n eX3_odds_30 rfl rfl ?_
        refine pw_ldc (n := (-1000001)) eX3_odds_31 ⟨by decide, by decide⟩ kc_RX3_48 ?_
        obtain ⟨v25, m26, hc27, h⟩ := h
        refine pw_cV (z := mX3_finding) (av := [Iq (-1000001)]) (st := []) eX3_odds_33 lk_RX3_49 rfl (by decide) (by decide) sh0 rfl rfl (Nat.le_of_ble_eq_true rfl) rfl hc27 ?_
        show PW S mX3_odds Q 36 [some (Aq 0), some (Iq x1), some (Iq x2), some (Iq x3), none, none] [Iq v25] m26
        refine pw_i2l eX3_odds_36 ?_
        exact pw_lret eX3_odds_37 h

set_option maxRecDepth 100000 in
theorem rg_X3_odds_56 {S : Sx} {Q : Option PV → Zm → Prop} {mem : Zm}   {x1 x2 x3 x4 x5 : Int} 
    (h : (((x5 ≤ 1) → ((((¬ x3 = 0) → ((∃ (v3 : Int) (m4 : Zm), Ct1 S mX3_power [Iq x5, Iq x2] mem (some (Jq v3)) m4 ∧ (Q (some (Jq v3)) m4)))) ∧ (¬ (¬ x3 = 0) → ((∃ (v6 : Int) (m7 : Zm), Ct1 S mX3_power [Iq x4, Iq x2] mem (some (Jq v6)) m7 ∧ (Q (some (Jq v6)) m7))))))) ∧ (¬ (x5 ≤ 1) → ((0 ≤ x4) ∧ (((¬ x4 % 2 = 0) → ((((¬ x3 = 0) → ((∃ (v12 : Int) (m13 : Zm), Ct1 S mX3_power [Iq x5, Iq x2] mem (some (Jq v12)) m13 ∧ (Q (some (Jq v12)) m13)))) ∧ (¬ (¬ x3 = 0) → ((∃ (v15 : Int) (m16 : Zm), Ct1 S mX3_power [Iq x4, Iq x2] mem (some (Jq v15)) m16 ∧ (Q (some (Jq v15)) m16))))))) ∧ (¬ (¬ x4 % 2 = 0) → ((0 ≤ x4) ∧ (0 ≤ x5) ∧ PW S mX3_odds Q 56 [some (Aq 0), some (Iq x1), some (Iq x2), some (Iq x3), some (Iq (x4 / 2)), some (Iq (x5 / 2))] [] mem))))))) :
    PW S mX3_odds Q 56 [some (Aq 0), some (Iq x1), some (Iq x2), some (Iq x3), some (Iq x4), some (Iq x5)] [] mem := by
  refine pw_iload eX3_odds_56 rfl ?_
  refine pw_iconst eX3_odds_58 ⟨by decide, by decide⟩ ?_
  refine pw_icmp_le eX3_odds_59 (fun c1 => ?_) (fun c1 => ?_)
  · have h := h.1 c1
    refine pw_iload_n eX3_odds_84 rfl rfl ?_
    refine pw_if_ne eX3_odds_85 (fun c2 => ?_) (fun c2 => ?_)
    · have h := h.1 c2
      refine pw_iload eX3_odds_93 rfl ?_
      refine pw_iload_n eX3_odds_95 rfl rfl ?_
      obtain ⟨v3, m4, hc5, h⟩ := h
      refine pw_cS (z := mX3_power) (av := [Iq x5, Iq x2]) (st := []) eX3_odds_96 lk_RX3_170 rfl (by decide) (by decide) (Nat.le_of_ble_eq_true rfl) rfl hc5 ?_
      show PW S mX3_odds Q 99 [some (Aq 0), some (Iq x1), some (Iq x2), some (Iq x3), some (Iq x4), some (Iq x5)] [Jq v3] m4
      exact pw_lret eX3_odds_99 h
    · have h := h.2 c2
      refine pw_iload eX3_odds_88 rfl ?_
      refine pw_goto eX3_odds_90 ?_
      refine pw_iload_n eX3_odds_95 rfl rfl ?_
      obtain ⟨v6, m7, hc8, h⟩ := h
      refine pw_cS (z := mX3_power) (av := [Iq x4, Iq x2]) (st := []) eX3_odds_96 lk_RX3_170 rfl (by decide) (by decide) (Nat.le_of_ble_eq_true rfl) rfl hc8 ?_
      show PW S mX3_odds Q 99 [some (Aq 0), some (Iq x1), some (Iq x2), some (Iq x3), some (Iq x4), some (Iq x5)] [Jq v6] m7
      exact pw_lret eX3_odds_99 h
  · have h := h.2 c1
    refine pw_iload eX3_odds_62 rfl ?_
    refine pw_iconst eX3_odds_64 ⟨by decide, by decide⟩ ?_
    obtain ⟨o9, h⟩ := h
    refine pw_irem eX3_odds_65 o9 (by decide) ?_
    refine pw_if_ne eX3_odds_66 (fun c10 => ?_) (fun c10 => ?_)
    · have h := h.1 c10
      refine pw_iload_n eX3_odds_84 rfl rfl ?_
      refine pw_if_ne eX3_odds_85 (fun c11 => ?_) (fun c11 => ?_)
      · have h := h.1 c11
        refine pw_iload eX3_odds_93 rfl ?_
        refine pw_iload_n eX3_odds_95 rfl rfl ?_
        obtain ⟨v12, m13, hc14, h⟩ := h
        refine pw_cS (z := mX3_power) (av := [Iq x5, Iq x2]) (st := []) eX3_odds_96 lk_RX3_170 rfl (by decide) (by decide) (Nat.le_of_ble_eq_true rfl) rfl hc14 ?_
        show PW S mX3_odds Q 99 [some (Aq 0), some (Iq x1), some (Iq x2), some (Iq x3), some (Iq x4), some (Iq x5)] [Jq v12] m13
        exact pw_lret eX3_odds_99 h
      · have h := h.2 c11
        refine pw_iload eX3_odds_88 rfl ?_
        refine pw_goto eX3_odds_90 ?_
        refine pw_iload_n eX3_odds_95 rfl rfl ?_
        obtain ⟨v15, m16, hc17, h⟩ := h
        refine pw_cS (z := mX3_power) (av := [Iq x4, Iq x2]) (st := []) eX3_odds_96 lk_RX3_170 rfl (by decide) (by decide) (Nat.le_of_ble_eq_true rfl) rfl hc17 ?_
        show PW S mX3_odds Q 99 [some (Aq 0), some (Iq x1), some (Iq x2), some (Iq x3), some (Iq x4), some (Iq x5)] [Jq v15] m16
        exact pw_lret eX3_odds_99 h
    · have h := h.2 c10
      refine pw_iload eX3_odds_69 rfl ?_
      refine pw_iconst eX3_odds_71 ⟨by decide, by decide⟩ ?_
      obtain ⟨o18, h⟩ := h
      refine pw_idiv eX3_odds_72 o18 (by decide) ?_
      refine pw_istore (ls2 := [some (Aq 0), some (Iq x1), some (Iq x2), some (Iq x3), some (Iq (x4 / 2)), some (Iq x5)]) eX3_odds_73 (by decide) rfl ?_
      refine pw_iload eX3_odds_75 rfl ?_
      refine pw_iconst eX3_odds_77 ⟨by decide, by decide⟩ ?_
      obtain ⟨o19, h⟩ := h
      refine pw_idiv eX3_odds_78 o19 (by decide) ?_
      refine pw_istore (ls2 := [some (Aq 0), some (Iq x1), some (Iq x2), some (Iq x3), some (Iq (x4 / 2)), some (Iq (x5 / 2))]) eX3_odds_79 (by decide) rfl ?_
      refine pw_goto eX3_odds_81 ?_
      exact h
set_option maxRecDepth 100000 in
theorem rg_X3_seed_0 {S : Sx} {Q : Option PV → Zm → Prop} {mem : Zm}   {x1 : Int} 
    (h : Q (some (Iq (mem 1 9))) (mup mem 1 9 x1)) :
    PW S mX3_seed Q 0 [some (Aq 0), some (Iq x1), none] [] mem := by
  refine pw_aload_n eX3_seed_0 rfl rfl ?_
  refine gf_RX3_10 rfl eX3_seed_1 sh0 ?_
  refine gf_RX3_174 rfl eX3_seed_4 (shR isR1) ?_
  refine pw_istore_n (ls2 := [some (Aq 0), some (Iq x1), some (Iq (mem 1 9))]) eX3_seed_7 rfl (by decide) rfl ?_
  refine pw_aload_n eX3_seed_8 rfl rfl ?_
  refine gf_RX3_10 rfl eX3_seed_9 sh0 ?_
  refine pw_iload_n eX3_seed_12 rfl rfl ?_
  refine pf_RX3_174 rfl eX3_seed_13 (shR isR1) ?_
  refine pw_iload_n eX3_seed_16 rfl rfl ?_
  exact pw_iret eX3_seed_17 h
set_option maxRecDepth 100000 in
theorem rg_X3_feed_0 {S : Sx} {Q : Option PV → Zm → Prop} {mem : Zm}   {x1 x2 : Int} 
    (h : (∃ (v1 : Int) (m2 : Zm), Ct1 S mX3_within [Iq x2, Iq 1, Iq 4] mem (some (Iq v1)) m2 ∧ ((((¬ v1 = 0) → ((in32 ((m2 22 1) + x2)) ∧ ((((m2 22 1) + x2 ≤ 120) → ((in32 (x2 - 1)) ∧ PW S mX3_feed Q 41 [some (Aq 0), some (Iq x1), some (Iq x2), some (Iq (x2 - 1))] [] m2)) ∧ (¬ ((m2 22 1) + x2 ≤ 120) → ((∃ (v8 : Int) (m9 : Zm), Ct1 S mX3_finding [Aq 0, Iq (-1000002)] m2 (some (Iq v8)) m9 ∧ (Q (some (Iq v8)) m9))))))) ∧ (¬ (¬ v1 = 0) → ((∃ (v11 : Int) (m12 : Zm), Ct1 S mX3_finding [Aq 0, Iq (-1000001)] m2 (some (Iq v11)) m12 ∧ (Q (some (Iq v11)) m12)))))))) :
    PW S mX3_feed Q 0 [some (Aq 0), some (Iq x1), some (Iq x2), none] [] mem := by
  refine pw_iload_n eX3_feed_0 rfl rfl ?_
  refine pw_iconst eX3_feed_1 ⟨by decide, by decide⟩ ?_
  refine pw_iconst eX3_feed_2 ⟨by decide, by decide⟩ ?_
  obtain ⟨v1, m2, hc3, h⟩ := h
  refine pw_cS (z := mX3_within) (av := [Iq x2, Iq 1, Iq 4]) (st := []) eX3_feed_3 lk_RX3_44 rfl (by decide) (by decide) (Nat.le_of_ble_eq_true rfl) rfl hc3 ?_
  show PW S mX3_feed Q 6 [some (Aq 0), some (Iq x1), some (Iq x2), none] [Iq v1] m2
  refine pw_if_ne eX3_feed_6 (fun c4 => ?_) (fun c4 => ?_)
  · have h := h.1 c4
    refine pw_aload_n eX3_feed_16 rfl rfl ?_
    refine gf_RX3_29 rfl eX3_feed_17 sh0 ?_
    refine gf_RX3_177 rfl eX3_feed_20 sh22 ?_
    refine pw_iload_n eX3_feed_23 rfl rfl ?_
    obtain ⟨o5, h⟩ := h
    refine pw_iadd eX3_feed_24 o5 ?_
    refine pw_bipush eX3_feed_25 ⟨by decide, by decide⟩ (by decide) ?_
    refine pw_icmp_le eX3_feed_27 (fun c6 => ?_) (fun c6 => ?_)
    · have h := h.1 c6
      refine pw_iload_n eX3_feed_37 rfl rfl ?_
      refine pw_iconst eX3_feed_38 ⟨by decide, by decide⟩ ?_
      obtain ⟨o7, h⟩ := h
      refine pw_isub eX3_feed_39 o7 ?_
      refine pw_istore_n (ls2 := [some (Aq 0), some (Iq x1), some (Iq x2), some (Iq (x2 - 1))]) eX3_feed_40 rfl (by decide) rfl ?_
      exact h
    · have h := h.2 c6
      refine pw_aload_n eX3_feed_30 rfl rfl ?_
      refine pw_ldc (n := (-1000002)) eX3_feed_31 ⟨by decide, by decide⟩ kc_RX3_63 ?_
      obtain ⟨v8, m9, hc10, h⟩ := h
      refine pw_cV (z := mX3_finding) (av := [Iq (-1000002)]) (st := []) eX3_feed_33 lk_RX3_49 rfl (by decide) (by decide) sh0 rfl rfl (Nat.le_of_ble_eq_true rfl) rfl hc10 ?_
      show PW S mX3_feed Q 36 [some (Aq 0), some (Iq x1), some (Iq x2), none] [Iq v8] m9
      exact pw_iret eX3_feed_36 h
  · have h := h.2 c4
    refine pw_aload_n eX3_feed_9 rfl rfl ?_
    refine pw_ldc (n := (-1000001)) eX3_feed_10 ⟨by decide, by decide⟩ kc_RX3_48 ?_
    obtain ⟨v11, m12, hc13, h⟩ := h
    refine pw_cV (z := mX3_finding) (av := [Iq (-1000001)]) (st := []) eX3_feed_12 lk_RX3_49 rfl (by decide) (by decide) sh0 rfl rfl (Nat.le_of_ble_eq_true rfl) rfl hc13 ?_
    show PW S mX3_feed Q 15 [some (Aq 0), some (Iq x1), some (Iq x2), none] [Iq v11] m12
    exact pw_iret eX3_feed_15 h

set_option maxRecDepth 100000 in
theorem rg_X3_feed_41 {S : Sx} {Q : Option PV → Zm → Prop} {mem : Zm}   {x1 x2 x3 : Int} 
    (h : (((x3 < 0) → (Q (some (Iq (mem 22 1))) mem)) ∧ (¬ (x3 < 0) → ((in32 (8 * x3)) ∧ (∃ (m4 : Zm), Ct1 S mX2_append [Aq 22, Iq (bShr x1 (8 * x3))] mem none m4 ∧ ((in32 (x3 + (-1))) ∧ PW S mX3_feed Q 41 [some (Aq 0), some (Iq x1), some (Iq x2), some (Iq (x3 + (-1)))] [] m4)))))) :
    PW S mX3_feed Q 41 [some (Aq 0), some (Iq x1), some (Iq x2), some (Iq x3)] [] mem := by
  refine pw_iload_n eX3_feed_41 rfl rfl ?_
  refine pw_if_lt eX3_feed_42 (fun c1 => ?_) (fun c1 => ?_)
  · have h := h.1 c1
    refine pw_aload_n eX3_feed_64 rfl rfl ?_
    refine gf_RX3_29 rfl eX3_feed_65 sh0 ?_
    refine gf_RX3_177 rfl eX3_feed_68 sh22 ?_
    exact pw_iret eX3_feed_71 h
  · have h := h.2 c1
    refine pw_aload_n eX3_feed_45 rfl rfl ?_
    refine gf_RX3_29 rfl eX3_feed_46 sh0 ?_
    refine pw_iload_n eX3_feed_49 rfl rfl ?_
    refine pw_bipush eX3_feed_50 ⟨by decide, by decide⟩ (by decide) ?_
    refine pw_iload_n eX3_feed_52 rfl rfl ?_
    obtain ⟨o2, h⟩ := h
    refine pw_imul eX3_feed_53 o2 ?_
    refine pw_ishr eX3_feed_54 ?_
    obtain ⟨m4, hc5, h⟩ := h
    refine pw_cV (z := mX2_append) (av := [Iq (bShr x1 (8 * x3))]) (st := []) eX3_feed_55 lk_RX3_180 rfl (by decide) (by decide) sh22 rfl rfl (Nat.le_of_ble_eq_true rfl) rfl hc5 ?_
    show PW S mX3_feed Q 58 [some (Aq 0), some (Iq x1), some (Iq x2), some (Iq x3)] [] m4
    obtain ⟨o6, h⟩ := h
    refine pw_iinc (ls2 := [some (Aq 0), some (Iq x1), some (Iq x2), some (Iq (x3 + (-1)))]) eX3_feed_58 rfl o6 rfl ?_
    refine pw_goto eX3_feed_61 ?_
    exact h
end RG

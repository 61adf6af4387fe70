section RG
set_option maxRecDepth 100000 in
theorem rg_X4_caughtThen_0 {S : Sx} {Q : Option PV → Zm → Prop} {mem : Zm}   {x1 : Int} 
    (h : (∃ (m2 : Zm), Ct1 S mX4_goes [Aq 34, Iq x1] mem none m2 ∧ ((∃ (v4 : Int) (m5 : Zm), Ct1 S mX4_sumOf [Aq 34, Iq 5] m2 (some (Iq v4)) m5 ∧ (Q (some (Iq v4)) m5))))) :
    PW S mX4_caughtThen Q 0 [some (Aq 34), some (Iq x1)] [] mem := by
  refine pw_aload_n eX4_caughtThen_0 rfl rfl ?_
  refine pw_iload_n eX4_caughtThen_1 rfl rfl ?_
  obtain ⟨m2, hc3, h⟩ := h
  refine pw_cV (z := mX4_goes) (av := [Iq x1]) (st := []) eX4_caughtThen_2 lk_RX4_131 rfl (by decide) (by decide) sh34 rfl rfl (Nat.le_of_ble_eq_true rfl) rfl hc3 ?_
  show PW S mX4_caughtThen Q 5 [some (Aq 34), some (Iq x1)] [] m2
  refine pw_aload_n eX4_caughtThen_5 rfl rfl ?_
  refine pw_iconst eX4_caughtThen_6 ⟨by decide, by decide⟩ ?_
  obtain ⟨v4, m5, hc6, h⟩ := h
  refine pw_cV (z := mX4_sumOf) (av := [Iq 5]) (st := []) eX4_caughtThen_7 lk_RX4_134 rfl (by decide) (by decide) sh34 rfl rfl (Nat.le_of_ble_eq_true rfl) rfl hc6 ?_
  show PW S mX4_caughtThen Q 10 [some (Aq 34), some (Iq x1)] [Iq v4] m5
  exact pw_iret eX4_caughtThen_10 h
set_option maxRecDepth 100000 in
theorem rg_X4_limitFor_0 {S : Sx} {Q : Option PV → Zm → Prop} {mem : Zm}   {x1 : Int} 
    (h : (∃ (v1 : Int) (m2 : Zm), Ct1 S mX4_isIn [Jq x1, Jq 0, Jq 20] mem (some (Iq v1)) m2 ∧ ((((¬ v1 = 0) → ((∃ (v5 : Int) (m6 : Zm), Ct1 S mX4_sumOf [Aq 34, Iq 5] m2 (some (Iq v5)) m6 ∧ ((∃ (m9 : Zm), Ct1 S mX4_copyRow [Aq 35, Aq 38] m6 none m9 ∧ (PW S mX4_limitFor Q 41 [some (Aq 34), some (Iq x1), some (Iq v5), some (Iq (-1)), some (Iq 1)] [] m9)))))) ∧ (¬ (¬ v1 = 0) → ((∃ (v11 : Int) (m12 : Zm), Ct1 S mX4_finds [Aq 34, Iq (-1000001)] m2 (some (Iq v11)) m12 ∧ (Q (some (Iq v11)) m12)))))))) :
    PW S mX4_limitFor Q 0 [some (Aq 34), some (Iq x1), none, none, none] [] mem := by
  refine pw_iload_n eX4_limitFor_0 rfl rfl ?_
  refine pw_i2l eX4_limitFor_1 ?_
  refine pw_lconst (v := 0) eX4_limitFor_2 ⟨by decide, by decide⟩ rfl ?_
  refine pw_ldc2 (n := 20) eX4_limitFor_3 ⟨by decide, by decide⟩ kc_RX4_161 ?_
  obtain ⟨v1, m2, hc3, h⟩ := h
  refine pw_cS (z := mX4_isIn) (av := [Jq x1, Jq 0, Jq 20]) (st := []) eX4_limitFor_6 lk_RX4_49 rfl (by decide) (by decide) (Nat.le_of_ble_eq_true rfl) rfl hc3 ?_
  show PW S mX4_limitFor Q 9 [some (Aq 34), some (Iq x1), none, none, none] [Iq v1] m2
  refine pw_if_ne eX4_limitFor_9 (fun c4 => ?_) (fun c4 => ?_)
  · have h := h.1 c4
    refine pw_aload_n eX4_limitFor_19 rfl rfl ?_
    refine pw_iconst eX4_limitFor_20 ⟨by decide, by decide⟩ ?_
    obtain ⟨v5, m6, hc7, h⟩ := h
    refine pw_cV (z := mX4_sumOf) (av := [Iq 5]) (st := []) eX4_limitFor_21 lk_RX4_134 rfl (by decide) (by decide) sh34 rfl rfl (Nat.le_of_ble_eq_true rfl) rfl hc7 ?_
    show PW S mX4_limitFor Q 24 [some (Aq 34), some (Iq x1), none, none, none] [Iq v5] m6
    refine pw_istore_n (ls2 := [some (Aq 34), some (Iq x1), some (Iq v5), none, none]) eX4_limitFor_24 rfl (by decide) rfl ?_
    refine pw_iconst eX4_limitFor_25 ⟨by decide, by decide⟩ ?_
    refine pw_istore_n (ls2 := [some (Aq 34), some (Iq x1), some (Iq v5), some (Iq (-1)), none]) eX4_limitFor_26 rfl (by decide) rfl ?_
    refine pw_aload_n eX4_limitFor_27 rfl rfl ?_
    refine gf_RX4_7 rfl eX4_limitFor_28 sh34 ?_
    refine pw_aload_n eX4_limitFor_31 rfl rfl ?_
    refine gf_RX4_19 rfl eX4_limitFor_32 sh34 ?_
    obtain ⟨m9, hc10, h⟩ := h
    refine pw_cS (z := mX4_copyRow) (av := [Aq 35, Aq 38]) (st := []) eX4_limitFor_35 lk_RX4_150 rfl (by decide) (by decide) (Nat.le_of_ble_eq_true rfl) rfl hc10 ?_
    show PW S mX4_limitFor Q 38 [some (Aq 34), some (Iq x1), some (Iq v5), some (Iq (-1)), none] [] m9
    refine pw_iconst eX4_limitFor_38 ⟨by decide, by decide⟩ ?_
    refine pw_istore (ls2 := [some (Aq 34), some (Iq x1), some (Iq v5), some (Iq (-1)), some (Iq 1)]) eX4_limitFor_39 (by decide) rfl ?_
    exact h
  · have h := h.2 c4
    refine pw_aload_n eX4_limitFor_12 rfl rfl ?_
    refine pw_ldc (n := (-1000001)) eX4_limitFor_13 ⟨by decide, by decide⟩ kc_RX4_37 ?_
    obtain ⟨v11, m12, hc13, h⟩ := h
    refine pw_cV (z := mX4_finds) (av := [Iq (-1000001)]) (st := []) eX4_limitFor_15 lk_RX4_39 rfl (by decide) (by decide) sh34 rfl rfl (Nat.le_of_ble_eq_true rfl) rfl hc13 ?_
    show PW S mX4_limitFor Q 18 [some (Aq 34), some (Iq x1), none, none, none] [Iq v11] m12
    exact pw_iret eX4_limitFor_18 h

set_option maxRecDepth 100000 in
theorem rg_X4_limitFor_41 {S : Sx} {Q : Option PV → Zm → Prop} {mem : Zm}   {x1 x2 x3 x4 : Int} 
    (h : (((9 < x4) → ((∃ (v2 : Int) (m3 : Zm), Ct1 S mX4_orNone [Aq 34, Iq x3] mem (some (Iq v2)) m3 ∧ (Q (some (Iq v2)) m3)))) ∧ (¬ (9 < x4) → ((((0 ≤ x3) → ((∃ (v6 : Int) (m7 : Zm), Ct1 S mX4_orNone [Aq 34, Iq x3] mem (some (Iq v6)) m7 ∧ (Q (some (Iq v6)) m7)))) ∧ (¬ (0 ≤ x3) → ((∃ (v9 : Int) (m10 : Zm), Ct1 S mX4_caughtThen [Aq 34, Iq x1] (mup mem 35 3 x4) (some (Iq v9)) m10 ∧ ((((¬ v9 = x2) → ((∃ (m14 : Zm), Ct1 S mX4_copyRow [Aq 38, Aq 35] m10 none m14 ∧ ((in32 (x4 + 1)) ∧ PW S mX4_limitFor Q 41 [some (Aq 34), some (Iq x1), some (Iq x2), some (Iq (-1)), some (Iq (x4 + 1))] [] m14)))) ∧ (¬ (¬ v9 = x2) → ((∃ (m18 : Zm), Ct1 S mX4_copyRow [Aq 38, Aq 35] m10 none m18 ∧ ((in32 (x4 + 1)) ∧ PW S mX4_limitFor Q 41 [some (Aq 34), some (Iq x1), some (Iq x2), some (Iq x4), some (Iq (x4 + 1))] [] m18)))))))))))))) :
    PW S mX4_limitFor Q 41 [some (Aq 34), some (Iq x1), some (Iq x2), some (Iq x3), some (Iq x4)] [] mem := by
  refine pw_iload eX4_limitFor_41 rfl ?_
  refine pw_bipush eX4_limitFor_43 ⟨by decide, by decide⟩ (by decide) ?_
  refine pw_icmp_gt eX4_limitFor_45 (fun c1 => ?_) (fun c1 => ?_)
  · have h := h.1 c1
    refine pw_aload_n eX4_limitFor_93 rfl rfl ?_
    refine pw_iload_n eX4_limitFor_94 rfl rfl ?_
    obtain ⟨v2, m3, hc4, h⟩ := h
    refine pw_cV (z := mX4_orNone) (av := [Iq x3]) (st := []) eX4_limitFor_95 lk_RX4_170 rfl (by decide) (by decide) sh34 rfl rfl (Nat.le_of_ble_eq_true rfl) rfl hc4 ?_
    show PW S mX4_limitFor Q 98 [some (Aq 34), some (Iq x1), some (Iq x2), some (Iq x3), some (Iq x4)] [Iq v2] m3
    exact pw_iret eX4_limitFor_98 h
  · have h := h.2 c1
    refine pw_iload_n eX4_limitFor_48 rfl rfl ?_
    refine pw_if_ge eX4_limitFor_49 (fun c5 => ?_) (fun c5 => ?_)
    · have h := h.1 c5
      refine pw_aload_n eX4_limitFor_93 rfl rfl ?_
      refine pw_iload_n eX4_limitFor_94 rfl rfl ?_
      obtain ⟨v6, m7, hc8, h⟩ := h
      refine pw_cV (z := mX4_orNone) (av := [Iq x3]) (st := []) eX4_limitFor_95 lk_RX4_170 rfl (by decide) (by decide) sh34 rfl rfl (Nat.le_of_ble_eq_true rfl) rfl hc8 ?_
      show PW S mX4_limitFor Q 98 [some (Aq 34), some (Iq x1), some (Iq x2), some (Iq x3), some (Iq x4)] [Iq v6] m7
      exact pw_iret eX4_limitFor_98 h
    · have h := h.2 c5
      refine pw_aload_n eX4_limitFor_52 rfl rfl ?_
      refine gf_RX4_7 rfl eX4_limitFor_53 sh34 ?_
      refine pw_iconst eX4_limitFor_56 ⟨by decide, by decide⟩ ?_
      refine pw_iload eX4_limitFor_57 rfl ?_
      refine pw_iast eX4_limitFor_59 sh35 (by decide) ?_
      refine pw_aload_n eX4_limitFor_60 rfl rfl ?_
      refine pw_iload_n eX4_limitFor_61 rfl rfl ?_
      obtain ⟨v9, m10, hc11, h⟩ := h
      refine pw_cV (z := mX4_caughtThen) (av := [Iq x1]) (st := []) eX4_limitFor_62 lk_RX4_167 rfl (by decide) (by decide) sh34 rfl rfl (Nat.le_of_ble_eq_true rfl) rfl hc11 ?_
      show PW S mX4_limitFor Q 65 [some (Aq 34), some (Iq x1), some (Iq x2), some (Iq x3), some (Iq x4)] [Iq v9] m10
      refine pw_iload_n eX4_limitFor_65 rfl rfl ?_
      refine pw_icmp_ne eX4_limitFor_66 (fun c12 => ?_) (fun c12 => ?_)
      · have h := h.1 c12
        refine pw_iconst eX4_limitFor_74 ⟨by decide, by decide⟩ ?_
        refine pw_istore_n (ls2 := [some (Aq 34), some (Iq x1), some (Iq x2), some (Iq (-1)), some (Iq x4)]) eX4_limitFor_75 rfl (by decide) rfl ?_
        refine pw_aload_n eX4_limitFor_76 rfl rfl ?_
        refine gf_RX4_19 rfl eX4_limitFor_77 sh34 ?_
        refine pw_aload_n eX4_limitFor_80 rfl rfl ?_
        refine gf_RX4_7 rfl eX4_limitFor_81 sh34 ?_
        obtain ⟨m14, hc15, h⟩ := h
        refine pw_cS (z := mX4_copyRow) (av := [Aq 38, Aq 35]) (st := []) eX4_limitFor_84 lk_RX4_150 rfl (by decide) (by decide) (Nat.le_of_ble_eq_true rfl) rfl hc15 ?_
        show PW S mX4_limitFor Q 87 [some (Aq 34), some (Iq x1), some (Iq x2), some (Iq (-1)), some (Iq x4)] [] m14
        obtain ⟨o16, h⟩ := h
        refine pw_iinc (ls2 := [some (Aq 34), some (Iq x1), some (Iq x2), some (Iq (-1)), some (Iq (x4 + 1))]) eX4_limitFor_87 rfl o16 rfl ?_
        refine pw_goto eX4_limitFor_90 ?_
        exact h
      · have h := h.2 c12
        refine pw_iload eX4_limitFor_69 rfl ?_
        refine pw_goto eX4_limitFor_71 ?_
        refine pw_istore_n (ls2 := [some (Aq 34), some (Iq x1), some (Iq x2), some (Iq x4), some (Iq x4)]) eX4_limitFor_75 rfl (by decide) rfl ?_
        refine pw_aload_n eX4_limitFor_76 rfl rfl ?_
        refine gf_RX4_19 rfl eX4_limitFor_77 sh34 ?_
        refine pw_aload_n eX4_limitFor_80 rfl rfl ?_
        refine gf_RX4_7 rfl eX4_limitFor_81 sh34 ?_
        obtain ⟨m18, hc19, h⟩ := h
        refine pw_cS (z := mX4_copyRow) (av := [Aq 38, Aq 35]) (st := []) eX4_limitFor_84 lk_RX4_150 rfl (by decide) (by decide) (Nat.le_of_ble_eq_true rfl) rfl hc19 ?_
        show PW S mX4_limitFor Q 87 [some (Aq 34), some (Iq x1), some (Iq x2), some (Iq x4), some (Iq x4)] [] m18
        obtain ⟨o20, h⟩ := h
        refine pw_iinc (ls2 := [some (Aq 34), some (Iq x1), some (Iq x2), some (Iq x4), some (Iq (x4 + 1))]) eX4_limitFor_87 rfl o20 rfl ?_
        refine pw_goto eX4_limitFor_90 ?_
        exact h
set_option maxRecDepth 100000 in
theorem rg_X4_forbid_0 {S : Sx} {Q : Option PV → Zm → Prop} {mem : Zm}   {x1 : Int} 
    (h : (∃ (v1 : Int) (m2 : Zm), Ct1 S mX4_isIn [Jq x1, Jq 0, Jq 12] mem (some (Iq v1)) m2 ∧ ((((¬ v1 = 0) → ((∃ (v5 : Int) (m6 : Zm), Ct1 S mX4_sumOf [Aq 34, Iq 5] m2 (some (Iq v5)) m6 ∧ ((∃ (m9 : Zm), Ct1 S mX4_copyRow [Aq 35, Aq 38] m6 none m9 ∧ (PW S mX4_forbid Q 41 [some (Aq 34), some (Iq x1), some (Iq v5), some (Iq (-1)), some (Iq 0), none, none] [] m9)))))) ∧ (¬ (¬ v1 = 0) → ((∃ (v11 : Int) (m12 : Zm), Ct1 S mX4_finds [Aq 34, Iq (-1000001)] m2 (some (Iq v11)) m12 ∧ (Q (some (Iq v11)) m12)))))))) :
    PW S mX4_forbid Q 0 [some (Aq 34), some (Iq x1), none, none, none, none, none] [] mem := by
  refine pw_iload_n eX4_forbid_0 rfl rfl ?_
  refine pw_i2l eX4_forbid_1 ?_
  refine pw_lconst (v := 0) eX4_forbid_2 ⟨by decide, by decide⟩ rfl ?_
  refine pw_ldc2 (n := 12) eX4_forbid_3 ⟨by decide, by decide⟩ kc_RX4_173 ?_
  obtain ⟨v1, m2, hc3, h⟩ := h
  refine pw_cS (z := mX4_isIn) (av := [Jq x1, Jq 0, Jq 12]) (st := []) eX4_forbid_6 lk_RX4_49 rfl (by decide) (by decide) (Nat.le_of_ble_eq_true rfl) rfl hc3 ?_
  show PW S mX4_forbid Q 9 [some (Aq 34), some (Iq x1), none, none, none, none, none] [Iq v1] m2
  refine pw_if_ne eX4_forbid_9 (fun c4 => ?_) (fun c4 => ?_)
  · have h := h.1 c4
    refine pw_aload_n eX4_forbid_19 rfl rfl ?_
    refine pw_iconst eX4_forbid_20 ⟨by decide, by decide⟩ ?_
    obtain ⟨v5, m6, hc7, h⟩ := h
    refine pw_cV (z := mX4_sumOf) (av := [Iq 5]) (st := []) eX4_forbid_21 lk_RX4_134 rfl (by decide) (by decide) sh34 rfl rfl (Nat.le_of_ble_eq_true rfl) rfl hc7 ?_
    show PW S mX4_forbid Q 24 [some (Aq 34), some (Iq x1), none, none, none, none, none] [Iq v5] m6
    refine pw_istore_n (ls2 := [some (Aq 34), some (Iq x1), some (Iq v5), none, none, none, none]) eX4_forbid_24 rfl (by decide) rfl ?_
    refine pw_iconst eX4_forbid_25 ⟨by decide, by decide⟩ ?_
    refine pw_istore_n (ls2 := [some (Aq 34), some (Iq x1), some (Iq v5), some (Iq (-1)), none, none, none]) eX4_forbid_26 rfl (by decide) rfl ?_
    refine pw_aload_n eX4_forbid_27 rfl rfl ?_
    refine gf_RX4_7 rfl eX4_forbid_28 sh34 ?_
    refine pw_aload_n eX4_forbid_31 rfl rfl ?_
    refine gf_RX4_19 rfl eX4_forbid_32 sh34 ?_
    obtain ⟨m9, hc10, h⟩ := h
    refine pw_cS (z := mX4_copyRow) (av := [Aq 35, Aq 38]) (st := []) eX4_forbid_35 lk_RX4_150 rfl (by decide) (by decide) (Nat.le_of_ble_eq_true rfl) rfl hc10 ?_
    show PW S mX4_forbid Q 38 [some (Aq 34), some (Iq x1), some (Iq v5), some (Iq (-1)), none, none, none] [] m9
    refine pw_iconst eX4_forbid_38 ⟨by decide, by decide⟩ ?_
    refine pw_istore (ls2 := [some (Aq 34), some (Iq x1), some (Iq v5), some (Iq (-1)), some (Iq 0), none, none]) eX4_forbid_39 (by decide) rfl ?_
    exact h
  · have h := h.2 c4
    refine pw_aload_n eX4_forbid_12 rfl rfl ?_
    refine pw_ldc (n := (-1000001)) eX4_forbid_13 ⟨by decide, by decide⟩ kc_RX4_37 ?_
    obtain ⟨v11, m12, hc13, h⟩ := h
    refine pw_cV (z := mX4_finds) (av := [Iq (-1000001)]) (st := []) eX4_forbid_15 lk_RX4_39 rfl (by decide) (by decide) sh34 rfl rfl (Nat.le_of_ble_eq_true rfl) rfl hc13 ?_
    show PW S mX4_forbid Q 18 [some (Aq 34), some (Iq x1), none, none, none, none, none] [Iq v11] m12
    exact pw_iret eX4_forbid_18 h

set_option maxRecDepth 100000 in
theorem rg_X4_forbid_41 {S : Sx} {Q : Option PV → Zm → Prop} {mem : Zm}   {x1 x2 x3 x4 : Int} 
    (h : (((bShl 1 (mem 35 0) ≤ x4) → (Q (some (Iq x3)) mem)) ∧ (¬ (bShl 1 (mem 35 0) ≤ x4) → ((((x3 < 0) → (PW S mX4_forbid Q 73 [some (Aq 34), some (Iq x1), some (Iq x2), some (Iq x3), some (Iq x4), some (Iq 0), none] [] mem)) ∧ (¬ (x3 < 0) → ((∃ (v3 : Int) (m4 : Zm), Ct1 S mX4_many [Iq x4] mem (some (Iq v3)) m4 ∧ ((∃ (v6 : Int) (m7 : Zm), Ct1 S mX4_many [Iq x3] m4 (some (Iq v6)) m7 ∧ ((((v6 ≤ v3) → ((in32 (x4 + 1)) ∧ PW S mX4_forbid Q 41 [some (Aq 34), some (Iq x1), some (Iq x2), some (Iq x3), some (Iq (x4 + 1)), none, none] [] m7)) ∧ (¬ (v6 ≤ v3) → (PW S mX4_forbid Q 73 [some (Aq 34), some (Iq x1), some (Iq x2), some (Iq x3), some (Iq x4), some (Iq 0), none] [] m7)))))))))))))) :
    PW S mX4_forbid Q 41 [some (Aq 34), some (Iq x1), some (Iq x2), some (Iq x3), some (Iq x4), none, none] [] mem := by
  refine pw_iload eX4_forbid_41 rfl ?_
  refine pw_iconst eX4_forbid_43 ⟨by decide, by decide⟩ ?_
  refine pw_aload_n eX4_forbid_44 rfl rfl ?_
  refine gf_RX4_7 rfl eX4_forbid_45 sh34 ?_
  refine pw_iconst eX4_forbid_48 ⟨by decide, by decide⟩ ?_
  refine pw_iald eX4_forbid_49 sh35 (by decide) ?_
  refine pw_ishl eX4_forbid_50 ?_
  refine pw_icmp_ge eX4_forbid_51 (fun c1 => ?_) (fun c1 => ?_)
  · have h := h.1 c1
    refine pw_iload_n eX4_forbid_165 rfl rfl ?_
    exact pw_iret eX4_forbid_166 h
  · have h := h.2 c1
    refine pw_iload_n eX4_forbid_54 rfl rfl ?_
    refine pw_if_lt eX4_forbid_55 (fun c2 => ?_) (fun c2 => ?_)
    · have h := h.1 c2
      refine pw_iconst eX4_forbid_70 ⟨by decide, by decide⟩ ?_
      refine pw_istore (ls2 := [some (Aq 34), some (Iq x1), some (Iq x2), some (Iq x3), some (Iq x4), some (Iq 0), none]) eX4_forbid_71 (by decide) rfl ?_
      exact h
    · have h := h.2 c2
      refine pw_iload eX4_forbid_58 rfl ?_
      obtain ⟨v3, m4, hc5, h⟩ := h
      refine pw_cS (z := mX4_many) (av := [Iq x4]) (st := []) eX4_forbid_60 lk_RX4_111 rfl (by decide) (by decide) (Nat.le_of_ble_eq_true rfl) rfl hc5 ?_
      show PW S mX4_forbid Q 63 [some (Aq 34), some (Iq x1), some (Iq x2), some (Iq x3), some (Iq x4), none, none] [Iq v3] m4
      refine pw_iload_n eX4_forbid_63 rfl rfl ?_
      obtain ⟨v6, m7, hc8, h⟩ := h
      refine pw_cS (z := mX4_many) (av := [Iq x3]) (st := [Iq v3]) eX4_forbid_64 lk_RX4_111 rfl (by decide) (by decide) (Nat.le_of_ble_eq_true rfl) rfl hc8 ?_
      show PW S mX4_forbid Q 67 [some (Aq 34), some (Iq x1), some (Iq x2), some (Iq x3), some (Iq x4), none, none] [Iq v6, Iq v3] m7
      refine pw_icmp_ge eX4_forbid_67 (fun c9 => ?_) (fun c9 => ?_)
      · have h := h.1 c9
        obtain ⟨o10, h⟩ := h
        refine pw_iinc (ls2 := [some (Aq 34), some (Iq x1), some (Iq x2), some (Iq x3), some (Iq (x4 + 1)), none, none]) eX4_forbid_159 rfl o10 rfl ?_
        refine pw_goto eX4_forbid_162 ?_
        exact h
      · have h := h.2 c9
        refine pw_iconst eX4_forbid_70 ⟨by decide, by decide⟩ ?_
        refine pw_istore (ls2 := [some (Aq 34), some (Iq x1), some (Iq x2), some (Iq x3), some (Iq x4), some (Iq 0), none]) eX4_forbid_71 (by decide) rfl ?_
        exact h

set_option maxRecDepth 100000 in
theorem rg_X4_forbid_73 {S : Sx} {Q : Option PV → Zm → Prop} {mem : Zm}   {x1 x2 x3 x4 x5 : Int} 
    (h : (((mem 35 0 ≤ x5) → ((∃ (v2 : Int) (m3 : Zm), Ct1 S mX4_caughtThen [Aq 34, Iq x1] mem (some (Iq v2)) m3 ∧ ((((¬ v2 = x2) → ((∃ (m7 : Zm), Ct1 S mX4_copyRow [Aq 38, Aq 35] m3 none m7 ∧ ((in32 (x4 + 1)) ∧ PW S mX4_forbid Q 41 [some (Aq 34), some (Iq x1), some (Iq x2), some (Iq x3), some (Iq (x4 + 1)), none, none] [] m7)))) ∧ (¬ (¬ v2 = x2) → ((∃ (m11 : Zm), Ct1 S mX4_copyRow [Aq 38, Aq 35] m3 none m11 ∧ ((in32 (x4 + 1)) ∧ PW S mX4_forbid Q 41 [some (Aq 34), some (Iq x1), some (Iq x2), some (Iq x4), some (Iq (x4 + 1)), none, none] [] m11))))))))) ∧ (¬ (mem 35 0 ≤ x5) → ((∃ (v14 : Int) (m15 : Zm), Ct1 S mX4_its [Aq 34, Iq x5, Iq 2] mem (some (Iq v14)) m15 ∧ ((∃ (v17 : Int) (m18 : Zm), Ct1 S mX4_at [Iq x5, Iq 2] m15 (some (Iq v17)) m18 ∧ ((((v14 < 0) → ((0 ≤ v17 ∧ v17 < 134) ∧ (in32 (x5 + 1)) ∧ PW S mX4_forbid Q 73 [some (Aq 34), some (Iq x1), some (Iq x2), some (Iq x3), some (Iq x4), some (Iq (x5 + 1)), none] [] (mup m18 35 (v17).toNat v14))) ∧ (¬ (v14 < 0) → ((((¬ bAnd (bShr x4 v14) 1 = 1) → ((0 ≤ v17 ∧ v17 < 134) ∧ (in32 (x5 + 1)) ∧ PW S mX4_forbid Q 73 [some (Aq 34), some (Iq x1), some (Iq x2), some (Iq x3), some (Iq x4), some (Iq (x5 + 1)), none] [] (mup m18 35 (v17).toNat v14))) ∧ (¬ (¬ bAnd (bShr x4 v14) 1 = 1) → ((0 ≤ v17 ∧ v17 < 134) ∧ (in32 (x5 + 1)) ∧ PW S mX4_forbid Q 73 [some (Aq 34), some (Iq x1), some (Iq x2), some (Iq x3), some (Iq x4), some (Iq (x5 + 1)), none] [] (mup m18 35 (v17).toNat (-1)))))))))))))))) :
    PW S mX4_forbid Q 73 [some (Aq 34), some (Iq x1), some (Iq x2), some (Iq x3), some (Iq x4), some (Iq x5), none] [] mem := by
  refine pw_iload eX4_forbid_73 rfl ?_
  refine pw_aload_n eX4_forbid_75 rfl rfl ?_
  refine gf_RX4_7 rfl eX4_forbid_76 sh34 ?_
  refine pw_iconst eX4_forbid_79 ⟨by decide, by decide⟩ ?_
  refine pw_iald eX4_forbid_80 sh35 (by decide) ?_
  refine pw_icmp_ge eX4_forbid_81 (fun c1 => ?_) (fun c1 => ?_)
  · have h := h.1 c1
    refine pw_aload_n eX4_forbid_132 rfl rfl ?_
    refine pw_iload_n eX4_forbid_133 rfl rfl ?_
    obtain ⟨v2, m3, hc4, h⟩ := h
    refine pw_cV (z := mX4_caughtThen) (av := [Iq x1]) (st := []) eX4_forbid_134 lk_RX4_167 rfl (by decide) (by decide) sh34 rfl rfl (Nat.le_of_ble_eq_true rfl) rfl hc4 ?_
    show PW S mX4_forbid Q 137 [some (Aq 34), some (Iq x1), some (Iq x2), some (Iq x3), some (Iq x4), some (Iq x5), none] [Iq v2] m3
    refine pw_iload_n eX4_forbid_137 rfl rfl ?_
    refine pw_icmp_ne eX4_forbid_138 (fun c5 => ?_) (fun c5 => ?_)
    · have h := h.1 c5
      refine pw_iload_n eX4_forbid_146 rfl rfl ?_
      refine pw_istore_n (ls2 := [some (Aq 34), some (Iq x1), some (Iq x2), some (Iq x3), some (Iq x4), some (Iq x5), none]) eX4_forbid_147 rfl (by decide) rfl ?_
      refine pw_aload_n eX4_forbid_148 rfl rfl ?_
      refine gf_RX4_19 rfl eX4_forbid_149 sh34 ?_
      refine pw_aload_n eX4_forbid_152 rfl rfl ?_
      refine gf_RX4_7 rfl eX4_forbid_153 sh34 ?_
      obtain ⟨m7, hc8, h⟩ := h
      refine pw_cS (z := mX4_copyRow) (av := [Aq 38, Aq 35]) (st := []) eX4_forbid_156 lk_RX4_150 rfl (by decide) (by decide) (Nat.le_of_ble_eq_true rfl) rfl hc8 ?_
      show PW S mX4_forbid Q 159 [some (Aq 34), some (Iq x1), some (Iq x2), some (Iq x3), some (Iq x4), some (Iq x5), none] [] m7
      obtain ⟨o9, h⟩ := h
      refine pw_iinc (ls2 := [some (Aq 34), some (Iq x1), some (Iq x2), some (Iq x3), some (Iq (x4 + 1)), some (Iq x5), none]) eX4_forbid_159 rfl o9 rfl ?_
      refine pw_goto eX4_forbid_162 ?_
      exact pw_drop (bs := [true, true, true, true, true, false, false]) h
    · have h := h.2 c5
      refine pw_iload eX4_forbid_141 rfl ?_
      refine pw_goto eX4_forbid_143 ?_
      refine pw_istore_n (ls2 := [some (Aq 34), some (Iq x1), some (Iq x2), some (Iq x4), some (Iq x4), some (Iq x5), none]) eX4_forbid_147 rfl (by decide) rfl ?_
      refine pw_aload_n eX4_forbid_148 rfl rfl ?_
      refine gf_RX4_19 rfl eX4_forbid_149 sh34 ?_
      refine pw_aload_n eX4_forbid_152 rfl rfl ?_
      refine gf_RX4_7 rfl eX4_forbid_153 sh34 ?_
      obtain ⟨m11, hc12, h⟩ := h
      refine pw_cS (z := mX4_copyRow) (av := [Aq 38, Aq 35]) (st := []) eX4_forbid_156 lk_RX4_150 rfl (by decide) (by decide) (Nat.le_of_ble_eq_true rfl) rfl hc12 ?_
      show PW S mX4_forbid Q 159 [some (Aq 34), some (Iq x1), some (Iq x2), some (Iq x4), some (Iq x4), some (Iq x5), none] [] m11
      obtain ⟨o13, h⟩ := h
      refine pw_iinc (ls2 := [some (Aq 34), some (Iq x1), some (Iq x2), some (Iq x4), some (Iq (x4 + 1)), some (Iq x5), none]) eX4_forbid_159 rfl o13 rfl ?_
      refine pw_goto eX4_forbid_162 ?_
      exact pw_drop (bs := [true, true, true, true, true, false, false]) h
  · have h := h.2 c1
    refine pw_aload_n eX4_forbid_84 rfl rfl ?_
    refine pw_iload eX4_forbid_85 rfl ?_
    refine pw_iconst eX4_forbid_87 ⟨by decide, by decide⟩ ?_
    obtain ⟨v14, m15, hc16, h⟩ := h
    refine pw_cV (z := mX4_its) (av := [Iq x5, Iq 2]) (st := []) eX4_forbid_88 lk_RX4_71 rfl (by decide) (by decide) sh34 rfl rfl (Nat.le_of_ble_eq_true rfl) rfl hc16 ?_
    show PW S mX4_forbid Q 91 [some (Aq 34), some (Iq x1), some (Iq x2), some (Iq x3), some (Iq x4), some (Iq x5), none] [Iq v14] m15
    refine pw_istore (ls2 := [some (Aq 34), some (Iq x1), some (Iq x2), some (Iq x3), some (Iq x4), some (Iq x5), some (Iq v14)]) eX4_forbid_91 (by decide) rfl ?_
    refine pw_aload_n eX4_forbid_93 rfl rfl ?_
    refine gf_RX4_7 rfl eX4_forbid_94 sh34 ?_
    refine pw_iload eX4_forbid_97 rfl ?_
    refine pw_iconst eX4_forbid_99 ⟨by decide, by decide⟩ ?_
    obtain ⟨v17, m18, hc19, h⟩ := h
    refine pw_cS (z := mX4_at) (av := [Iq x5, Iq 2]) (st := [Aq 35]) eX4_forbid_100 lk_RX4_59 rfl (by decide) (by decide) (Nat.le_of_ble_eq_true rfl) rfl hc19 ?_
    show PW S mX4_forbid Q 103 [some (Aq 34), some (Iq x1), some (Iq x2), some (Iq x3), some (Iq x4), some (Iq x5), some (Iq v14)] [Iq v17, Aq 35] m18
    refine pw_iload eX4_forbid_103 rfl ?_
    refine pw_if_lt eX4_forbid_105 (fun c20 => ?_) (fun c20 => ?_)
    · have h := h.1 c20
      refine pw_iload eX4_forbid_123 rfl ?_
      obtain ⟨o21, h⟩ := h
      refine pw_iast eX4_forbid_125 sh35 o21 ?_
      obtain ⟨o22, h⟩ := h
      refine pw_iinc (ls2 := [some (Aq 34), some (Iq x1), some (Iq x2), some (Iq x3), some (Iq x4), some (Iq (x5 + 1)), some (Iq v14)]) eX4_forbid_126 rfl o22 rfl ?_
      refine pw_goto eX4_forbid_129 ?_
      exact pw_drop (bs := [true, true, true, true, true, true, false]) h
    · have h := h.2 c20
      refine pw_iload eX4_forbid_108 rfl ?_
      refine pw_iload eX4_forbid_110 rfl ?_
      refine pw_ishr eX4_forbid_112 ?_
      refine pw_iconst eX4_forbid_113 ⟨by decide, by decide⟩ ?_
      refine pw_iand eX4_forbid_114 ?_
      refine pw_iconst eX4_forbid_115 ⟨by decide, by decide⟩ ?_
      refine pw_icmp_ne eX4_forbid_116 (fun c23 => ?_) (fun c23 => ?_)
      · have h := h.1 c23
        refine pw_iload eX4_forbid_123 rfl ?_
        obtain ⟨o24, h⟩ := h
        refine pw_iast eX4_forbid_125 sh35 o24 ?_
        obtain ⟨o25, h⟩ := h
        refine pw_iinc (ls2 := [some (Aq 34), some (Iq x1), some (Iq x2), some (Iq x3), some (Iq x4), some (Iq (x5 + 1)), some (Iq v14)]) eX4_forbid_126 rfl o25 rfl ?_
        refine pw_goto eX4_forbid_129 ?_
        exact pw_drop (bs := [true, true, true, true, true, true, false]) h
      · have h := h.2 c23
        refine pw_iconst eX4_forbid_119 ⟨by decide, by decide⟩ ?_
        refine pw_goto eX4_forbid_120 ?_
        obtain ⟨o26, h⟩ := h
        refine pw_iast eX4_forbid_125 sh35 o26 ?_
        obtain ⟨o27, h⟩ := h
        refine pw_iinc (ls2 := [some (Aq 34), some (Iq x1), some (Iq x2), some (Iq x3), some (Iq x4), some (Iq (x5 + 1)), some (Iq v14)]) eX4_forbid_126 rfl o27 rfl ?_
        refine pw_goto eX4_forbid_129 ?_
        exact pw_drop (bs := [true, true, true, true, true, true, false]) h
set_option maxRecDepth 100000 in
theorem rg_X4_biscuitsFor_0 {S : Sx} {Q : Option PV → Zm → Prop} {mem : Zm}   {x1 x2 : Int} 
    (h : (∃ (v1 : Int) (m2 : Zm), Ct1 S mX4_isAsked [Aq 34, Iq x1, Iq x2] mem (some (Iq v1)) m2 ∧ ((((¬ v1 = 0) → ((∃ (v5 : Int) (m6 : Zm), Ct1 S mX4_at [Iq x1, Iq 4] m2 (some (Iq v5)) m6 ∧ ((∃ (v8 : Int) (m9 : Zm), Ct1 S mX4_becomes [Aq 34, Iq v5, Iq 99] m6 (some (Iq v8)) m9 ∧ ((∃ (v11 : Int) (m12 : Zm), Ct1 S mX4_at [Iq x1, Iq 3] m9 (some (Iq v11)) m12 ∧ ((∃ (v14 : Int) (m15 : Zm), Ct1 S mX4_thenAt [Aq 34, Iq v11, Iq x2] m12 (some (Iq v14)) m15 ∧ (PW S mX4_biscuitsFor Q 46 [some (Aq 34), some (Iq x1), some (Iq x2), some (Iq v8), some (Iq v14), some (Iq (-1)), some (Iq 0)] [] m15)))))))))) ∧ (¬ (¬ v1 = 0) → ((∃ (v17 : Int) (m18 : Zm), Ct1 S mX4_finds [Aq 34, Iq (-1000001)] m2 (some (Iq v17)) m18 ∧ (Q (some (Iq v17)) m18)))))))) :
    PW S mX4_biscuitsFor Q 0 [some (Aq 34), some (Iq x1), some (Iq x2), none, none, none, none] [] mem := by
  refine pw_aload_n eX4_biscuitsFor_0 rfl rfl ?_
  refine pw_iload_n eX4_biscuitsFor_1 rfl rfl ?_
  refine pw_iload_n eX4_biscuitsFor_2 rfl rfl ?_
  obtain ⟨v1, m2, hc3, h⟩ := h
  refine pw_cV (z := mX4_isAsked) (av := [Iq x1, Iq x2]) (st := []) eX4_biscuitsFor_3 lk_RX4_163 rfl (by decide) (by decide) sh34 rfl rfl (Nat.le_of_ble_eq_true rfl) rfl hc3 ?_
  show PW S mX4_biscuitsFor Q 6 [some (Aq 34), some (Iq x1), some (Iq x2), none, none, none, none] [Iq v1] m2
  refine pw_if_ne eX4_biscuitsFor_6 (fun c4 => ?_) (fun c4 => ?_)
  · have h := h.1 c4
    refine pw_aload_n eX4_biscuitsFor_16 rfl rfl ?_
    refine pw_iload_n eX4_biscuitsFor_17 rfl rfl ?_
    refine pw_iconst eX4_biscuitsFor_18 ⟨by decide, by decide⟩ ?_
    obtain ⟨v5, m6, hc7, h⟩ := h
    refine pw_cS (z := mX4_at) (av := [Iq x1, Iq 4]) (st := [Aq 34]) eX4_biscuitsFor_19 lk_RX4_59 rfl (by decide) (by decide) (Nat.le_of_ble_eq_true rfl) rfl hc7 ?_
    show PW S mX4_biscuitsFor Q 22 [some (Aq 34), some (Iq x1), some (Iq x2), none, none, none, none] [Iq v5, Aq 34] m6
    refine pw_bipush eX4_biscuitsFor_22 ⟨by decide, by decide⟩ (by decide) ?_
    obtain ⟨v8, m9, hc10, h⟩ := h
    refine pw_cV (z := mX4_becomes) (av := [Iq v5, Iq 99]) (st := []) eX4_biscuitsFor_24 lk_RX4_53 rfl (by decide) (by decide) sh34 rfl rfl (Nat.le_of_ble_eq_true rfl) rfl hc10 ?_
    show PW S mX4_biscuitsFor Q 27 [some (Aq 34), some (Iq x1), some (Iq x2), none, none, none, none] [Iq v8] m9
    refine pw_istore_n (ls2 := [some (Aq 34), some (Iq x1), some (Iq x2), some (Iq v8), none, none, none]) eX4_biscuitsFor_27 rfl (by decide) rfl ?_
    refine pw_aload_n eX4_biscuitsFor_28 rfl rfl ?_
    refine pw_iload_n eX4_biscuitsFor_29 rfl rfl ?_
    refine pw_iconst eX4_biscuitsFor_30 ⟨by decide, by decide⟩ ?_
    obtain ⟨v11, m12, hc13, h⟩ := h
    refine pw_cS (z := mX4_at) (av := [Iq x1, Iq 3]) (st := [Aq 34]) eX4_biscuitsFor_31 lk_RX4_59 rfl (by decide) (by decide) (Nat.le_of_ble_eq_true rfl) rfl hc13 ?_
    show PW S mX4_biscuitsFor Q 34 [some (Aq 34), some (Iq x1), some (Iq x2), some (Iq v8), none, none, none] [Iq v11, Aq 34] m12
    refine pw_iload_n eX4_biscuitsFor_34 rfl rfl ?_
    obtain ⟨v14, m15, hc16, h⟩ := h
    refine pw_cV (z := mX4_thenAt) (av := [Iq v11, Iq x2]) (st := []) eX4_biscuitsFor_35 lk_RX4_158 rfl (by decide) (by decide) sh34 rfl rfl (Nat.le_of_ble_eq_true rfl) rfl hc16 ?_
    show PW S mX4_biscuitsFor Q 38 [some (Aq 34), some (Iq x1), some (Iq x2), some (Iq v8), none, none, none] [Iq v14] m15
    refine pw_istore (ls2 := [some (Aq 34), some (Iq x1), some (Iq x2), some (Iq v8), some (Iq v14), none, none]) eX4_biscuitsFor_38 (by decide) rfl ?_
    refine pw_iconst eX4_biscuitsFor_40 ⟨by decide, by decide⟩ ?_
    refine pw_istore (ls2 := [some (Aq 34), some (Iq x1), some (Iq x2), some (Iq v8), some (Iq v14), some (Iq (-1)), none]) eX4_biscuitsFor_41 (by decide) rfl ?_
    refine pw_iconst eX4_biscuitsFor_43 ⟨by decide, by decide⟩ ?_
    refine pw_istore (ls2 := [some (Aq 34), some (Iq x1), some (Iq x2), some (Iq v8), some (Iq v14), some (Iq (-1)), some (Iq 0)]) eX4_biscuitsFor_44 (by decide) rfl ?_
    exact h
  · have h := h.2 c4
    refine pw_aload_n eX4_biscuitsFor_9 rfl rfl ?_
    refine pw_ldc (n := (-1000001)) eX4_biscuitsFor_10 ⟨by decide, by decide⟩ kc_RX4_37 ?_
    obtain ⟨v17, m18, hc19, h⟩ := h
    refine pw_cV (z := mX4_finds) (av := [Iq (-1000001)]) (st := []) eX4_biscuitsFor_12 lk_RX4_39 rfl (by decide) (by decide) sh34 rfl rfl (Nat.le_of_ble_eq_true rfl) rfl hc19 ?_
    show PW S mX4_biscuitsFor Q 15 [some (Aq 34), some (Iq x1), some (Iq x2), none, none, none, none] [Iq v17] m18
    exact pw_iret eX4_biscuitsFor_15 h

set_option maxRecDepth 100000 in
theorem rg_X4_biscuitsFor_46 {S : Sx} {Q : Option PV → Zm → Prop} {mem : Zm}   {x1 x2 x3 x4 x5 x6 : Int} 
    (h : (((99 < x6) → ((∃ (v2 : Int) (m3 : Zm), Ct1 S mX4_at [Iq x1, Iq 4] mem (some (Iq v2)) m3 ∧ ((0 ≤ v2 ∧ v2 < 134) ∧ Q (some (Iq x5)) (mup m3 35 (v2).toNat x3))))) ∧ (¬ (99 < x6) → ((((0 ≤ x5) → ((∃ (v7 : Int) (m8 : Zm), Ct1 S mX4_at [Iq x1, Iq 4] mem (some (Iq v7)) m8 ∧ ((0 ≤ v7 ∧ v7 < 134) ∧ Q (some (Iq x5)) (mup m8 35 (v7).toNat x3))))) ∧ (¬ (0 ≤ x5) → ((∃ (v11 : Int) (m12 : Zm), Ct1 S mX4_at [Iq x1, Iq 4] mem (some (Iq v11)) m12 ∧ ((0 ≤ v11 ∧ v11 < 134) ∧ (∃ (v15 : Int) (m16 : Zm), Ct1 S mX4_at [Iq x1, Iq 3] (mup m12 35 (v11).toNat x6) (some (Iq v15)) m16 ∧ ((∃ (v18 : Int) (m19 : Zm), Ct1 S mX4_thenAt [Aq 34, Iq v15, Iq x2] m16 (some (Iq v18)) m19 ∧ ((((¬ v18 = x4) → ((in32 (x6 + 1)) ∧ PW S mX4_biscuitsFor Q 46 [some (Aq 34), some (Iq x1), some (Iq x2), some (Iq x3), some (Iq x4), some (Iq (-1)), some (Iq (x6 + 1))] [] m19)) ∧ (¬ (¬ v18 = x4) → ((in32 (x6 + 1)) ∧ PW S mX4_biscuitsFor Q 46 [some (Aq 34), some (Iq x1), some (Iq x2), some (Iq x3), some (Iq x4), some (Iq x6), some (Iq (x6 + 1))] [] m19)))))))))))))))) :
    PW S mX4_biscuitsFor Q 46 [some (Aq 34), some (Iq x1), some (Iq x2), some (Iq x3), some (Iq x4), some (Iq x5), some (Iq x6)] [] mem := by
  refine pw_iload eX4_biscuitsFor_46 rfl ?_
  refine pw_bipush eX4_biscuitsFor_48 ⟨by decide, by decide⟩ (by decide) ?_
  refine pw_icmp_gt eX4_biscuitsFor_50 (fun c1 => ?_) (fun c1 => ?_)
  · have h := h.1 c1
    refine pw_aload_n eX4_biscuitsFor_99 rfl rfl ?_
    refine gf_RX4_7 rfl eX4_biscuitsFor_100 sh34 ?_
    refine pw_iload_n eX4_biscuitsFor_103 rfl rfl ?_
    refine pw_iconst eX4_biscuitsFor_104 ⟨by decide, by decide⟩ ?_
    obtain ⟨v2, m3, hc4, h⟩ := h
    refine pw_cS (z := mX4_at) (av := [Iq x1, Iq 4]) (st := [Aq 35]) eX4_biscuitsFor_105 lk_RX4_59 rfl (by decide) (by decide) (Nat.le_of_ble_eq_true rfl) rfl hc4 ?_
    show PW S mX4_biscuitsFor Q 108 [some (Aq 34), some (Iq x1), some (Iq x2), some (Iq x3), some (Iq x4), some (Iq x5), some (Iq x6)] [Iq v2, Aq 35] m3
    refine pw_iload_n eX4_biscuitsFor_108 rfl rfl ?_
    obtain ⟨o5, h⟩ := h
    refine pw_iast eX4_biscuitsFor_109 sh35 o5 ?_
    refine pw_iload eX4_biscuitsFor_110 rfl ?_
    exact pw_iret eX4_biscuitsFor_112 h
  · have h := h.2 c1
    refine pw_iload eX4_biscuitsFor_53 rfl ?_
    refine pw_if_ge eX4_biscuitsFor_55 (fun c6 => ?_) (fun c6 => ?_)
    · have h := h.1 c6
      refine pw_aload_n eX4_biscuitsFor_99 rfl rfl ?_
      refine gf_RX4_7 rfl eX4_biscuitsFor_100 sh34 ?_
      refine pw_iload_n eX4_biscuitsFor_103 rfl rfl ?_
      refine pw_iconst eX4_biscuitsFor_104 ⟨by decide, by decide⟩ ?_
      obtain ⟨v7, m8, hc9, h⟩ := h
      refine pw_cS (z := mX4_at) (av := [Iq x1, Iq 4]) (st := [Aq 35]) eX4_biscuitsFor_105 lk_RX4_59 rfl (by decide) (by decide) (Nat.le_of_ble_eq_true rfl) rfl hc9 ?_
      show PW S mX4_biscuitsFor Q 108 [some (Aq 34), some (Iq x1), some (Iq x2), some (Iq x3), some (Iq x4), some (Iq x5), some (Iq x6)] [Iq v7, Aq 35] m8
      refine pw_iload_n eX4_biscuitsFor_108 rfl rfl ?_
      obtain ⟨o10, h⟩ := h
      refine pw_iast eX4_biscuitsFor_109 sh35 o10 ?_
      refine pw_iload eX4_biscuitsFor_110 rfl ?_
      exact pw_iret eX4_biscuitsFor_112 h
    · have h := h.2 c6
      refine pw_aload_n eX4_biscuitsFor_58 rfl rfl ?_
      refine gf_RX4_7 rfl eX4_biscuitsFor_59 sh34 ?_
      refine pw_iload_n eX4_biscuitsFor_62 rfl rfl ?_
      refine pw_iconst eX4_biscuitsFor_63 ⟨by decide, by decide⟩ ?_
      obtain ⟨v11, m12, hc13, h⟩ := h
      refine pw_cS (z := mX4_at) (av := [Iq x1, Iq 4]) (st := [Aq 35]) eX4_biscuitsFor_64 lk_RX4_59 rfl (by decide) (by decide) (Nat.le_of_ble_eq_true rfl) rfl hc13 ?_
      show PW S mX4_biscuitsFor Q 67 [some (Aq 34), some (Iq x1), some (Iq x2), some (Iq x3), some (Iq x4), some (Iq x5), some (Iq x6)] [Iq v11, Aq 35] m12
      refine pw_iload eX4_biscuitsFor_67 rfl ?_
      obtain ⟨o14, h⟩ := h
      refine pw_iast eX4_biscuitsFor_69 sh35 o14 ?_
      refine pw_aload_n eX4_biscuitsFor_70 rfl rfl ?_
      refine pw_iload_n eX4_biscuitsFor_71 rfl rfl ?_
      refine pw_iconst eX4_biscuitsFor_72 ⟨by decide, by decide⟩ ?_
      obtain ⟨v15, m16, hc17, h⟩ := h
      refine pw_cS (z := mX4_at) (av := [Iq x1, Iq 3]) (st := [Aq 34]) eX4_biscuitsFor_73 lk_RX4_59 rfl (by decide) (by decide) (Nat.le_of_ble_eq_true rfl) rfl hc17 ?_
      show PW S mX4_biscuitsFor Q 76 [some (Aq 34), some (Iq x1), some (Iq x2), some (Iq x3), some (Iq x4), some (Iq x5), some (Iq x6)] [Iq v15, Aq 34] m16
      refine pw_iload_n eX4_biscuitsFor_76 rfl rfl ?_
      obtain ⟨v18, m19, hc20, h⟩ := h
      refine pw_cV (z := mX4_thenAt) (av := [Iq v15, Iq x2]) (st := []) eX4_biscuitsFor_77 lk_RX4_158 rfl (by decide) (by decide) sh34 rfl rfl (Nat.le_of_ble_eq_true rfl) rfl hc20 ?_
      show PW S mX4_biscuitsFor Q 80 [some (Aq 34), some (Iq x1), some (Iq x2), some (Iq x3), some (Iq x4), some (Iq x5), some (Iq x6)] [Iq v18] m19
      refine pw_iload eX4_biscuitsFor_80 rfl ?_
      refine pw_icmp_ne eX4_biscuitsFor_82 (fun c21 => ?_) (fun c21 => ?_)
      · have h := h.1 c21
        refine pw_iconst eX4_biscuitsFor_90 ⟨by decide, by decide⟩ ?_
        refine pw_istore (ls2 := [some (Aq 34), some (Iq x1), some (Iq x2), some (Iq x3), some (Iq x4), some (Iq (-1)), some (Iq x6)]) eX4_biscuitsFor_91 (by decide) rfl ?_
        obtain ⟨o22, h⟩ := h
        refine pw_iinc (ls2 := [some (Aq 34), some (Iq x1), some (Iq x2), some (Iq x3), some (Iq x4), some (Iq (-1)), some (Iq (x6 + 1))]) eX4_biscuitsFor_93 rfl o22 rfl ?_
        refine pw_goto eX4_biscuitsFor_96 ?_
        exact h
      · have h := h.2 c21
        refine pw_iload eX4_biscuitsFor_85 rfl ?_
        refine pw_goto eX4_biscuitsFor_87 ?_
        refine pw_istore (ls2 := [some (Aq 34), some (Iq x1), some (Iq x2), some (Iq x3), some (Iq x4), some (Iq x6), some (Iq x6)]) eX4_biscuitsFor_91 (by decide) rfl ?_
        obtain ⟨o23, h⟩ := h
        refine pw_iinc (ls2 := [some (Aq 34), some (Iq x1), some (Iq x2), some (Iq x3), some (Iq x4), some (Iq x6), some (Iq (x6 + 1))]) eX4_biscuitsFor_93 rfl o23 rfl ?_
        refine pw_goto eX4_biscuitsFor_96 ?_
        exact h
set_option maxRecDepth 100000 in
theorem rg_X4_isTold_0 {S : Sx} {Q : Option PV → Zm → Prop} {mem : Zm}   {x1 x2 : Int} 
    (h : (∃ (m2 : Zm), Ct1 S mX4_copyRow [Aq 35, Aq 38] mem none m2 ∧ ((∃ (m5 : Zm), Ct1 S mX4_day [Aq 34] m2 none m5 ∧ (PW S mX4_isTold Q 20 [some (Aq 34), some (Iq x1), some (Iq x2), some (Iq 1), some (Iq 0), none] [] m5))))) :
    PW S mX4_isTold Q 0 [some (Aq 34), some (Iq x1), some (Iq x2), none, none, none] [] mem := by
  refine pw_aload_n eX4_isTold_0 rfl rfl ?_
  refine gf_RX4_7 rfl eX4_isTold_1 sh34 ?_
  refine pw_aload_n eX4_isTold_4 rfl rfl ?_
  refine gf_RX4_19 rfl eX4_isTold_5 sh34 ?_
  obtain ⟨m2, hc3, h⟩ := h
  refine pw_cS (z := mX4_copyRow) (av := [Aq 35, Aq 38]) (st := []) eX4_isTold_8 lk_RX4_150 rfl (by decide) (by decide) (Nat.le_of_ble_eq_true rfl) rfl hc3 ?_
  show PW S mX4_isTold Q 11 [some (Aq 34), some (Iq x1), some (Iq x2), none, none, none] [] m2
  refine pw_aload_n eX4_isTold_11 rfl rfl ?_
  obtain ⟨m5, hc6, h⟩ := h
  refine pw_cV (z := mX4_day) (av := []) (st := []) eX4_isTold_12 lk_RX4_124 rfl (by decide) (by decide) sh34 rfl rfl (Nat.le_of_ble_eq_true rfl) rfl hc6 ?_
  show PW S mX4_isTold Q 15 [some (Aq 34), some (Iq x1), some (Iq x2), none, none, none] [] m5
  refine pw_iconst eX4_isTold_15 ⟨by decide, by decide⟩ ?_
  refine pw_istore_n (ls2 := [some (Aq 34), some (Iq x1), some (Iq x2), some (Iq 1), none, none]) eX4_isTold_16 rfl (by decide) rfl ?_
  refine pw_iconst eX4_isTold_17 ⟨by decide, by decide⟩ ?_
  refine pw_istore (ls2 := [some (Aq 34), some (Iq x1), some (Iq x2), some (Iq 1), some (Iq 0), none]) eX4_isTold_18 (by decide) rfl ?_
  exact h

set_option maxRecDepth 100000 in
theorem rg_X4_isTold_20 {S : Sx} {Q : Option PV → Zm → Prop} {mem : Zm}   {x1 x2 x3 x4 : Int} 
    (h : (0 ≤ x1 ∧ x1 < 4) ∧ (((mem 42 (x1).toNat ≤ x4) → ((∃ (m4 : Zm), Ct1 S mX4_copyRow [Aq 38, Aq 35] mem none m4 ∧ (Q (some (Iq x3)) m4)))) ∧ (¬ (mem 42 (x1).toNat ≤ x4) → ((((8 ≤ x4) → ((∃ (m8 : Zm), Ct1 S mX4_copyRow [Aq 38, Aq 35] mem none m8 ∧ (Q (some (Iq x3)) m8)))) ∧ (¬ (8 ≤ x4) → ((in32 (40 * x1)) ∧ (in32 ((40 * x1) + x4)) ∧ (0 ≤ (40 * x1) + x4 ∧ (40 * x1) + x4 < 160) ∧ (((mem 43 ((40 * x1) + x4).toNat = -2) → ((in32 (x4 + 1)) ∧ PW S mX4_isTold Q 20 [some (Aq 34), some (Iq x1), some (Iq x2), some (Iq (bAnd x3 1)), some (Iq (x4 + 1)), none] [] mem)) ∧ (¬ (mem 43 ((40 * x1) + x4).toNat = -2) → ((in32 (6 + x4)) ∧ (∃ (v16 : Int) (m17 : Zm), Ct1 S mX4_its [Aq 34, Iq x2, Iq (6 + x4)] mem (some (Iq v16)) m17 ∧ ((((¬ mem 43 ((40 * x1) + x4).toNat = v16) → ((in32 (x4 + 1)) ∧ PW S mX4_isTold Q 20 [some (Aq 34), some (Iq x1), some (Iq x2), some (Iq (bAnd x3 0)), some (Iq (x4 + 1)), none] [] m17)) ∧ (¬ (¬ mem 43 ((40 * x1) + x4).toNat = v16) → ((in32 (x4 + 1)) ∧ PW S mX4_isTold Q 20 [some (Aq 34), some (Iq x1), some (Iq x2), some (Iq (bAnd x3 1)), some (Iq (x4 + 1)), none] [] m17))))))))))))))) :
    PW S mX4_isTold Q 20 [some (Aq 34), some (Iq x1), some (Iq x2), some (Iq x3), some (Iq x4), none] [] mem := by
  refine pw_iload eX4_isTold_20 rfl ?_
  refine pw_aload_n eX4_isTold_22 rfl rfl ?_
  refine gf_RX4_31 rfl eX4_isTold_23 sh34 ?_
  refine pw_iload_n eX4_isTold_26 rfl rfl ?_
  obtain ⟨o1, h⟩ := h
  refine pw_iald eX4_isTold_27 sh42 o1 ?_
  refine pw_icmp_ge eX4_isTold_28 (fun c2 => ?_) (fun c2 => ?_)
  · have h := h.1 c2
    refine pw_aload_n eX4_isTold_88 rfl rfl ?_
    refine gf_RX4_19 rfl eX4_isTold_89 sh34 ?_
    refine pw_aload_n eX4_isTold_92 rfl rfl ?_
    refine gf_RX4_7 rfl eX4_isTold_93 sh34 ?_
    obtain ⟨m4, hc5, h⟩ := h
    refine pw_cS (z := mX4_copyRow) (av := [Aq 38, Aq 35]) (st := []) eX4_isTold_96 lk_RX4_150 rfl (by decide) (by decide) (Nat.le_of_ble_eq_true rfl) rfl hc5 ?_
    show PW S mX4_isTold Q 99 [some (Aq 34), some (Iq x1), some (Iq x2), some (Iq x3), some (Iq x4), none] [] m4
    refine pw_iload_n eX4_isTold_99 rfl rfl ?_
    exact pw_iret eX4_isTold_100 h
  · have h := h.2 c2
    refine pw_iload eX4_isTold_31 rfl ?_
    refine pw_bipush eX4_isTold_33 ⟨by decide, by decide⟩ (by decide) ?_
    refine pw_icmp_ge eX4_isTold_35 (fun c6 => ?_) (fun c6 => ?_)
    · have h := h.1 c6
      refine pw_aload_n eX4_isTold_88 rfl rfl ?_
      refine gf_RX4_19 rfl eX4_isTold_89 sh34 ?_
      refine pw_aload_n eX4_isTold_92 rfl rfl ?_
      refine gf_RX4_7 rfl eX4_isTold_93 sh34 ?_
      obtain ⟨m8, hc9, h⟩ := h
      refine pw_cS (z := mX4_copyRow) (av := [Aq 38, Aq 35]) (st := []) eX4_isTold_96 lk_RX4_150 rfl (by decide) (by decide) (Nat.le_of_ble_eq_true rfl) rfl hc9 ?_
      show PW S mX4_isTold Q 99 [some (Aq 34), some (Iq x1), some (Iq x2), some (Iq x3), some (Iq x4), none] [] m8
      refine pw_iload_n eX4_isTold_99 rfl rfl ?_
      exact pw_iret eX4_isTold_100 h
    · have h := h.2 c6
      refine pw_aload_n eX4_isTold_38 rfl rfl ?_
      refine gf_RX4_34 rfl eX4_isTold_39 sh34 ?_
      refine pw_bipush eX4_isTold_42 ⟨by decide, by decide⟩ (by decide) ?_
      refine pw_iload_n eX4_isTold_44 rfl rfl ?_
      obtain ⟨o10, h⟩ := h
      refine pw_imul eX4_isTold_45 o10 ?_
      refine pw_iload eX4_isTold_46 rfl ?_
      obtain ⟨o11, h⟩ := h
      refine pw_iadd eX4_isTold_48 o11 ?_
      obtain ⟨o12, h⟩ := h
      refine pw_iald eX4_isTold_49 sh43 o12 ?_
      refine pw_istore (ls2 := [some (Aq 34), some (Iq x1), some (Iq x2), some (Iq x3), some (Iq x4), some (Iq (mem 43 ((40 * x1) + x4).toNat))]) eX4_isTold_50 (by decide) rfl ?_
      refine pw_iload_n eX4_isTold_52 rfl rfl ?_
      refine pw_iload eX4_isTold_53 rfl ?_
      refine pw_bipush eX4_isTold_55 ⟨by decide, by decide⟩ (by decide) ?_
      refine pw_icmp_eq eX4_isTold_57 (fun c13 => ?_) (fun c13 => ?_)
      · have h := h.1 c13
        refine pw_iconst eX4_isTold_75 ⟨by decide, by decide⟩ ?_
        refine pw_goto eX4_isTold_76 ?_
        refine pw_iand eX4_isTold_80 ?_
        refine pw_istore_n (ls2 := [some (Aq 34), some (Iq x1), some (Iq x2), some (Iq (bAnd x3 1)), some (Iq x4), some (Iq (mem 43 ((40 * x1) + x4).toNat))]) eX4_isTold_81 rfl (by decide) rfl ?_
        obtain ⟨o14, h⟩ := h
        refine pw_iinc (ls2 := [some (Aq 34), some (Iq x1), some (Iq x2), some (Iq (bAnd x3 1)), some (Iq (x4 + 1)), some (Iq (mem 43 ((40 * x1) + x4).toNat))]) eX4_isTold_82 rfl o14 rfl ?_
        refine pw_goto eX4_isTold_85 ?_
        exact pw_drop (bs := [true, true, true, true, true, false]) h
      · have h := h.2 c13
        refine pw_iload eX4_isTold_60 rfl ?_
        refine pw_aload_n eX4_isTold_62 rfl rfl ?_
        refine pw_iload_n eX4_isTold_63 rfl rfl ?_
        refine pw_bipush eX4_isTold_64 ⟨by decide, by decide⟩ (by decide) ?_
        refine pw_iload eX4_isTold_66 rfl ?_
        obtain ⟨o15, h⟩ := h
        refine pw_iadd eX4_isTold_68 o15 ?_
        obtain ⟨v16, m17, hc18, h⟩ := h
        refine pw_cV (z := mX4_its) (av := [Iq x2, Iq (6 + x4)]) (st := [Iq (mem 43 ((40 * x1) + x4).toNat), Iq x3]) eX4_isTold_69 lk_RX4_71 rfl (by decide) (by decide) sh34 rfl rfl (Nat.le_of_ble_eq_true rfl) rfl hc18 ?_
        show PW S mX4_isTold Q 72 [some (Aq 34), some (Iq x1), some (Iq x2), some (Iq x3), some (Iq x4), some (Iq (mem 43 ((40 * x1) + x4).toNat))] [Iq v16, Iq (mem 43 ((40 * x1) + x4).toNat), Iq x3] m17
        refine pw_icmp_ne eX4_isTold_72 (fun c19 => ?_) (fun c19 => ?_)
        · have h := h.1 c19
          refine pw_iconst eX4_isTold_79 ⟨by decide, by decide⟩ ?_
          refine pw_iand eX4_isTold_80 ?_
          refine pw_istore_n (ls2 := [some (Aq 34), some (Iq x1), some (Iq x2), some (Iq (bAnd x3 0)), some (Iq x4), some (Iq (mem 43 ((40 * x1) + x4).toNat))]) eX4_isTold_81 rfl (by decide) rfl ?_
          obtain ⟨o20, h⟩ := h
          refine pw_iinc (ls2 := [some (Aq 34), some (Iq x1), some (Iq x2), some (Iq (bAnd x3 0)), some (Iq (x4 + 1)), some (Iq (mem 43 ((40 * x1) + x4).toNat))]) eX4_isTold_82 rfl o20 rfl ?_
          refine pw_goto eX4_isTold_85 ?_
          exact pw_drop (bs := [true, true, true, true, true, false]) h
        · have h := h.2 c19
          refine pw_iconst eX4_isTold_75 ⟨by decide, by decide⟩ ?_
          refine pw_goto eX4_isTold_76 ?_
          refine pw_iand eX4_isTold_80 ?_
          refine pw_istore_n (ls2 := [some (Aq 34), some (Iq x1), some (Iq x2), some (Iq (bAnd x3 1)), some (Iq x4), some (Iq (mem 43 ((40 * x1) + x4).toNat))]) eX4_isTold_81 rfl (by decide) rfl ?_
          obtain ⟨o21, h⟩ := h
          refine pw_iinc (ls2 := [some (Aq 34), some (Iq x1), some (Iq x2), some (Iq (bAnd x3 1)), some (Iq (x4 + 1)), some (Iq (mem 43 ((40 * x1) + x4).toNat))]) eX4_isTold_82 rfl o21 rfl ?_
          refine pw_goto eX4_isTold_85 ?_
          exact pw_drop (bs := [true, true, true, true, true, false]) h
set_option maxRecDepth 100000 in
theorem rg_X4_wantsFor_0 {S : Sx} {Q : Option PV → Zm → Prop} {mem : Zm}   {x1 x2 : Int} 
    (h : (∃ (v1 : Int) (m2 : Zm), Ct1 S mX4_wants [Aq 34, Iq x1] mem (some (Iq v1)) m2 ∧ ((((v1 = 0) → ((∃ (v5 : Int) (m6 : Zm), Ct1 S mX4_isChild [Aq 34, Iq x2] m2 (some (Iq v5)) m6 ∧ ((((v5 = 0) → (Q (some (Iq (-1000001))) m6)) ∧ (¬ (v5 = 0) → (Q (some (Iq 0)) m6))))))) ∧ (¬ (v1 = 0) → ((∃ (v9 : Int) (m10 : Zm), Ct1 S mX4_wants [Aq 34, Iq x1] m2 (some (Iq v9)) m10 ∧ (Q (some (Iq v9)) m10)))))))) :
    PW S mX4_wantsFor Q 0 [some (Aq 34), some (Iq x1), some (Iq x2)] [] mem := by
  refine pw_aload_n eX4_wantsFor_0 rfl rfl ?_
  refine pw_iload_n eX4_wantsFor_1 rfl rfl ?_
  obtain ⟨v1, m2, hc3, h⟩ := h
  refine pw_cV (z := mX4_wants) (av := [Iq x1]) (st := []) eX4_wantsFor_2 lk_RX4_175 rfl (by decide) (by decide) sh34 rfl rfl (Nat.le_of_ble_eq_true rfl) rfl hc3 ?_
  show PW S mX4_wantsFor Q 5 [some (Aq 34), some (Iq x1), some (Iq x2)] [Iq v1] m2
  refine pw_if_eq eX4_wantsFor_5 (fun c4 => ?_) (fun c4 => ?_)
  · have h := h.1 c4
    refine pw_aload_n eX4_wantsFor_16 rfl rfl ?_
    refine pw_iload_n eX4_wantsFor_17 rfl rfl ?_
    obtain ⟨v5, m6, hc7, h⟩ := h
    refine pw_cV (z := mX4_isChild) (av := [Iq x2]) (st := []) eX4_wantsFor_18 lk_RX4_77 rfl (by decide) (by decide) sh34 rfl rfl (Nat.le_of_ble_eq_true rfl) rfl hc7 ?_
    show PW S mX4_wantsFor Q 21 [some (Aq 34), some (Iq x1), some (Iq x2)] [Iq v5] m6
    refine pw_if_eq eX4_wantsFor_21 (fun c8 => ?_) (fun c8 => ?_)
    · have h := h.1 c8
      refine pw_ldc (n := (-1000001)) eX4_wantsFor_28 ⟨by decide, by decide⟩ kc_RX4_37 ?_
      exact pw_iret eX4_wantsFor_30 h
    · have h := h.2 c8
      refine pw_iconst eX4_wantsFor_24 ⟨by decide, by decide⟩ ?_
      refine pw_goto eX4_wantsFor_25 ?_
      exact pw_iret eX4_wantsFor_30 h
  · have h := h.2 c4
    refine pw_aload_n eX4_wantsFor_8 rfl rfl ?_
    refine pw_iload_n eX4_wantsFor_9 rfl rfl ?_
    obtain ⟨v9, m10, hc11, h⟩ := h
    refine pw_cV (z := mX4_wants) (av := [Iq x1]) (st := []) eX4_wantsFor_10 lk_RX4_175 rfl (by decide) (by decide) sh34 rfl rfl (Nat.le_of_ble_eq_true rfl) rfl hc11 ?_
    show PW S mX4_wantsFor Q 13 [some (Aq 34), some (Iq x1), some (Iq x2)] [Iq v9] m10
    refine pw_goto eX4_wantsFor_13 ?_
    exact pw_iret eX4_wantsFor_30 h
set_option maxRecDepth 100000 in
theorem rg_X4_sources_0 {S : Sx} {Q : Option PV → Zm → Prop} {mem : Zm}   {x1 x2 : Int} 
    (h : (∃ (v1 : Int) (m2 : Zm), Ct1 S mX4_wantsFor [Aq 34, Iq x1, Iq x2] mem (some (Iq v1)) m2 ∧ ((((v1 = 0) → ((∃ (v5 : Int) (m6 : Zm), Ct1 S mX4_its [Aq 34, Iq x2, Iq 2] m2 (some (Iq v5)) m6 ∧ (PW S mX4_sources Q 31 [some (Aq 34), some (Iq x1), some (Iq x2), some (Iq v1), some (Iq v5), some (Iq 0), some (Iq 0)] [] m6)))) ∧ (¬ (v1 = 0) → ((∃ (v8 : Int) (m9 : Zm), Ct1 S mX4_finds [Aq 34, Iq v1] m2 (some (Iq v8)) m9 ∧ (Q (some (Iq v8)) m9)))))))) :
    PW S mX4_sources Q 0 [some (Aq 34), some (Iq x1), some (Iq x2), none, none, none, none] [] mem := by
  refine pw_aload_n eX4_sources_0 rfl rfl ?_
  refine pw_iload_n eX4_sources_1 rfl rfl ?_
  refine pw_iload_n eX4_sources_2 rfl rfl ?_
  obtain ⟨v1, m2, hc3, h⟩ := h
  refine pw_cV (z := mX4_wantsFor) (av := [Iq x1, Iq x2]) (st := []) eX4_sources_3 lk_RX4_178 rfl (by decide) (by decide) sh34 rfl rfl (Nat.le_of_ble_eq_true rfl) rfl hc3 ?_
  show PW S mX4_sources Q 6 [some (Aq 34), some (Iq x1), some (Iq x2), none, none, none, none] [Iq v1] m2
  refine pw_istore_n (ls2 := [some (Aq 34), some (Iq x1), some (Iq x2), some (Iq v1), none, none, none]) eX4_sources_6 rfl (by decide) rfl ?_
  refine pw_iload_n eX4_sources_7 rfl rfl ?_
  refine pw_if_eq eX4_sources_8 (fun c4 => ?_) (fun c4 => ?_)
  · have h := h.1 c4
    refine pw_aload_n eX4_sources_17 rfl rfl ?_
    refine pw_iload_n eX4_sources_18 rfl rfl ?_
    refine pw_iconst eX4_sources_19 ⟨by decide, by decide⟩ ?_
    obtain ⟨v5, m6, hc7, h⟩ := h
    refine pw_cV (z := mX4_its) (av := [Iq x2, Iq 2]) (st := []) eX4_sources_20 lk_RX4_71 rfl (by decide) (by decide) sh34 rfl rfl (Nat.le_of_ble_eq_true rfl) rfl hc7 ?_
    show PW S mX4_sources Q 23 [some (Aq 34), some (Iq x1), some (Iq x2), some (Iq v1), none, none, none] [Iq v5] m6
    refine pw_istore (ls2 := [some (Aq 34), some (Iq x1), some (Iq x2), some (Iq v1), some (Iq v5), none, none]) eX4_sources_23 (by decide) rfl ?_
    refine pw_iconst eX4_sources_25 ⟨by decide, by decide⟩ ?_
    refine pw_istore (ls2 := [some (Aq 34), some (Iq x1), some (Iq x2), some (Iq v1), some (Iq v5), some (Iq 0), none]) eX4_sources_26 (by decide) rfl ?_
    refine pw_iconst eX4_sources_28 ⟨by decide, by decide⟩ ?_
    refine pw_istore (ls2 := [some (Aq 34), some (Iq x1), some (Iq x2), some (Iq v1), some (Iq v5), some (Iq 0), some (Iq 0)]) eX4_sources_29 (by decide) rfl ?_
    exact h
  · have h := h.2 c4
    refine pw_aload_n eX4_sources_11 rfl rfl ?_
    refine pw_iload_n eX4_sources_12 rfl rfl ?_
    obtain ⟨v8, m9, hc10, h⟩ := h
    refine pw_cV (z := mX4_finds) (av := [Iq v1]) (st := []) eX4_sources_13 lk_RX4_39 rfl (by decide) (by decide) sh34 rfl rfl (Nat.le_of_ble_eq_true rfl) rfl hc10 ?_
    show PW S mX4_sources Q 16 [some (Aq 34), some (Iq x1), some (Iq x2), some (Iq v1), none, none, none] [Iq v8] m9
    exact pw_iret eX4_sources_16 h

set_option maxRecDepth 100000 in
theorem rg_X4_sources_31 {S : Sx} {Q : Option PV → Zm → Prop} {mem : Zm}   {x1 x2 x3 x4 x5 x6 : Int} 
    (h : (((mem 35 0 ≤ x6) → ((∃ (v2 : Int) (m3 : Zm), Ct1 S mX4_at [Iq x2, Iq 2] mem (some (Iq v2)) m3 ∧ ((0 ≤ v2 ∧ v2 < 134) ∧ Q (some (Iq x5)) (mup m3 35 (v2).toNat x4))))) ∧ (¬ (mem 35 0 ≤ x6) → ((((x6 = x2) → ((in32 (x6 + 1)) ∧ PW S mX4_sources Q 31 [some (Aq 34), some (Iq x1), some (Iq x2), some (Iq x3), some (Iq x4), some (Iq x5), some (Iq (x6 + 1))] [] mem)) ∧ (¬ (x6 = x2) → ((∃ (v8 : Int) (m9 : Zm), Ct1 S mX4_at [Iq x2, Iq 2] mem (some (Iq v8)) m9 ∧ ((0 ≤ v8 ∧ v8 < 134) ∧ (∃ (v12 : Int) (m13 : Zm), Ct1 S mX4_isTold [Aq 34, Iq x1, Iq x2] (mup m9 35 (v8).toNat x6) (some (Iq v12)) m13 ∧ ((((v12 = 0) → ((in32 (x6 + 1)) ∧ PW S mX4_sources Q 31 [some (Aq 34), some (Iq x1), some (Iq x2), some (Iq x3), some (Iq x4), some (Iq (bOr x5 0)), some (Iq (x6 + 1))] [] m13)) ∧ (¬ (v12 = 0) → ((in32 (x6 + 1)) ∧ PW S mX4_sources Q 31 [some (Aq 34), some (Iq x1), some (Iq x2), some (Iq x3), some (Iq x4), some (Iq (bOr x5 (bShl 1 x6))), some (Iq (x6 + 1))] [] m13)))))))))))))) :
    PW S mX4_sources Q 31 [some (Aq 34), some (Iq x1), some (Iq x2), some (Iq x3), some (Iq x4), some (Iq x5), some (Iq x6)] [] mem := by
  refine pw_iload eX4_sources_31 rfl ?_
  refine pw_aload_n eX4_sources_33 rfl rfl ?_
  refine gf_RX4_7 rfl eX4_sources_34 sh34 ?_
  refine pw_iconst eX4_sources_37 ⟨by decide, by decide⟩ ?_
  refine pw_iald eX4_sources_38 sh35 (by decide) ?_
  refine pw_icmp_ge eX4_sources_39 (fun c1 => ?_) (fun c1 => ?_)
  · have h := h.1 c1
    refine pw_aload_n eX4_sources_88 rfl rfl ?_
    refine gf_RX4_7 rfl eX4_sources_89 sh34 ?_
    refine pw_iload_n eX4_sources_92 rfl rfl ?_
    refine pw_iconst eX4_sources_93 ⟨by decide, by decide⟩ ?_
    obtain ⟨v2, m3, hc4, h⟩ := h
    refine pw_cS (z := mX4_at) (av := [Iq x2, Iq 2]) (st := [Aq 35]) eX4_sources_94 lk_RX4_59 rfl (by decide) (by decide) (Nat.le_of_ble_eq_true rfl) rfl hc4 ?_
    show PW S mX4_sources Q 97 [some (Aq 34), some (Iq x1), some (Iq x2), some (Iq x3), some (Iq x4), some (Iq x5), some (Iq x6)] [Iq v2, Aq 35] m3
    refine pw_iload eX4_sources_97 rfl ?_
    obtain ⟨o5, h⟩ := h
    refine pw_iast eX4_sources_99 sh35 o5 ?_
    refine pw_iload eX4_sources_100 rfl ?_
    exact pw_iret eX4_sources_102 h
  · have h := h.2 c1
    refine pw_iload eX4_sources_42 rfl ?_
    refine pw_iload_n eX4_sources_44 rfl rfl ?_
    refine pw_icmp_eq eX4_sources_45 (fun c6 => ?_) (fun c6 => ?_)
    · have h := h.1 c6
      obtain ⟨o7, h⟩ := h
      refine pw_iinc (ls2 := [some (Aq 34), some (Iq x1), some (Iq x2), some (Iq x3), some (Iq x4), some (Iq x5), some (Iq (x6 + 1))]) eX4_sources_82 rfl o7 rfl ?_
      refine pw_goto eX4_sources_85 ?_
      exact h
    · have h := h.2 c6
      refine pw_aload_n eX4_sources_48 rfl rfl ?_
      refine gf_RX4_7 rfl eX4_sources_49 sh34 ?_
      refine pw_iload_n eX4_sources_52 rfl rfl ?_
      refine pw_iconst eX4_sources_53 ⟨by decide, by decide⟩ ?_
      obtain ⟨v8, m9, hc10, h⟩ := h
      refine pw_cS (z := mX4_at) (av := [Iq x2, Iq 2]) (st := [Aq 35]) eX4_sources_54 lk_RX4_59 rfl (by decide) (by decide) (Nat.le_of_ble_eq_true rfl) rfl hc10 ?_
      show PW S mX4_sources Q 57 [some (Aq 34), some (Iq x1), some (Iq x2), some (Iq x3), some (Iq x4), some (Iq x5), some (Iq x6)] [Iq v8, Aq 35] m9
      refine pw_iload eX4_sources_57 rfl ?_
      obtain ⟨o11, h⟩ := h
      refine pw_iast eX4_sources_59 sh35 o11 ?_
      refine pw_iload eX4_sources_60 rfl ?_
      refine pw_aload_n eX4_sources_62 rfl rfl ?_
      refine pw_iload_n eX4_sources_63 rfl rfl ?_
      refine pw_iload_n eX4_sources_64 rfl rfl ?_
      obtain ⟨v12, m13, hc14, h⟩ := h
      refine pw_cV (z := mX4_isTold) (av := [Iq x1, Iq x2]) (st := [Iq x5]) eX4_sources_65 lk_RX4_181 rfl (by decide) (by decide) sh34 rfl rfl (Nat.le_of_ble_eq_true rfl) rfl hc14 ?_
      show PW S mX4_sources Q 68 [some (Aq 34), some (Iq x1), some (Iq x2), some (Iq x3), some (Iq x4), some (Iq x5), some (Iq x6)] [Iq v12, Iq x5] m13
      refine pw_if_eq eX4_sources_68 (fun c15 => ?_) (fun c15 => ?_)
      · have h := h.1 c15
        refine pw_iconst eX4_sources_78 ⟨by decide, by decide⟩ ?_
        refine pw_ior eX4_sources_79 ?_
        refine pw_istore (ls2 := [some (Aq 34), some (Iq x1), some (Iq x2), some (Iq x3), some (Iq x4), some (Iq (bOr x5 0)), some (Iq x6)]) eX4_sources_80 (by decide) rfl ?_
        obtain ⟨o16, h⟩ := h
        refine pw_iinc (ls2 := [some (Aq 34), some (Iq x1), some (Iq x2), some (Iq x3), some (Iq x4), some (Iq (bOr x5 0)), some (Iq (x6 + 1))]) eX4_sources_82 rfl o16 rfl ?_
        refine pw_goto eX4_sources_85 ?_
        exact h
      · have h := h.2 c15
        refine pw_iconst eX4_sources_71 ⟨by decide, by decide⟩ ?_
        refine pw_iload eX4_sources_72 rfl ?_
        refine pw_ishl eX4_sources_74 ?_
        refine pw_goto eX4_sources_75 ?_
        refine pw_ior eX4_sources_79 ?_
        refine pw_istore (ls2 := [some (Aq 34), some (Iq x1), some (Iq x2), some (Iq x3), some (Iq x4), some (Iq (bOr x5 (bShl 1 x6))), some (Iq x6)]) eX4_sources_80 (by decide) rfl ?_
        obtain ⟨o17, h⟩ := h
        refine pw_iinc (ls2 := [some (Aq 34), some (Iq x1), some (Iq x2), some (Iq x3), some (Iq x4), some (Iq (bOr x5 (bShl 1 x6))), some (Iq (x6 + 1))]) eX4_sources_82 rfl o17 rfl ?_
        refine pw_goto eX4_sources_85 ?_
        exact h
set_option maxRecDepth 100000 in
theorem rg_X4_findsFits_0 {S : Sx} {Q : Option PV → Zm → Prop} {mem : Zm}   {x1 x2 : Int} 
    (h : (∃ (v1 : Int) (m2 : Zm), Ct1 S mX4_its [Aq 34, Iq x2, Iq 1] mem (some (Iq v1)) m2 ∧ (PW S mX4_findsFits Q 17 [some (Aq 34), some (Iq x1), some (Iq x2), some (Iq v1), some (Iq 255)] [] (mup m2 34 11 0)))) :
    PW S mX4_findsFits Q 0 [some (Aq 34), some (Iq x1), some (Iq x2), none, none] [] mem := by
  refine pw_aload_n eX4_findsFits_0 rfl rfl ?_
  refine pw_iload_n eX4_findsFits_1 rfl rfl ?_
  refine pw_iconst eX4_findsFits_2 ⟨by decide, by decide⟩ ?_
  obtain ⟨v1, m2, hc3, h⟩ := h
  refine pw_cV (z := mX4_its) (av := [Iq x2, Iq 1]) (st := []) eX4_findsFits_3 lk_RX4_71 rfl (by decide) (by decide) sh34 rfl rfl (Nat.le_of_ble_eq_true rfl) rfl hc3 ?_
  show PW S mX4_findsFits Q 6 [some (Aq 34), some (Iq x1), some (Iq x2), none, none] [Iq v1] m2
  refine pw_istore_n (ls2 := [some (Aq 34), some (Iq x1), some (Iq x2), some (Iq v1), none]) eX4_findsFits_6 rfl (by decide) rfl ?_
  refine pw_aload_n eX4_findsFits_7 rfl rfl ?_
  refine pw_iconst eX4_findsFits_8 ⟨by decide, by decide⟩ ?_
  refine pf_RX4_184 rfl eX4_findsFits_9 sh34 ?_
  refine pw_sipush eX4_findsFits_12 ⟨by decide, by decide⟩ (by decide) ?_
  refine pw_istore (ls2 := [some (Aq 34), some (Iq x1), some (Iq x2), some (Iq v1), some (Iq 255)]) eX4_findsFits_15 (by decide) rfl ?_
  exact h

set_option maxRecDepth 100000 in
theorem rg_X4_findsFits_17 {S : Sx} {Q : Option PV → Zm → Prop} {mem : Zm}   {x1 x2 x3 x4 : Int} 
    (h : (((x4 < 0) → ((∃ (v2 : Int) (m3 : Zm), Ct1 S mX4_at [Iq x2, Iq 1] mem (some (Iq v2)) m3 ∧ ((0 ≤ v2 ∧ v2 < 134) ∧ Q none (mup m3 35 (v2).toNat x3))))) ∧ (¬ (x4 < 0) → ((∃ (v6 : Int) (m7 : Zm), Ct1 S mX4_at [Iq x2, Iq 1] mem (some (Iq v6)) m7 ∧ ((0 ≤ v6 ∧ v6 < 134) ∧ (∃ (v10 : Int) (m11 : Zm), Ct1 S mX4_isTold [Aq 34, Iq x1, Iq x2] (mup m7 35 (v6).toNat x4) (some (Iq v10)) m11 ∧ ((((v10 = 0) → ((in32 (x4 + (-1))) ∧ PW S mX4_findsFits Q 17 [some (Aq 34), some (Iq x1), some (Iq x2), some (Iq x3), some (Iq (x4 + (-1)))] [] m11)) ∧ (¬ (v10 = 0) → ((in32 ((m11 34 11) + 1)) ∧ (in32 (x4 + (-1))) ∧ PW S mX4_findsFits Q 17 [some (Aq 34), some (Iq x1), some (Iq x2), some (Iq x3), some (Iq (x4 + (-1)))] [] (mup (mup m11 34 11 ((m11 34 11) + 1)) 34 12 x4)))))))))))) :
    PW S mX4_findsFits Q 17 [some (Aq 34), some (Iq x1), some (Iq x2), some (Iq x3), some (Iq x4)] [] mem := by
  refine pw_iload eX4_findsFits_17 rfl ?_
  refine pw_if_lt eX4_findsFits_19 (fun c1 => ?_) (fun c1 => ?_)
  · have h := h.1 c1
    refine pw_aload_n eX4_findsFits_65 rfl rfl ?_
    refine gf_RX4_7 rfl eX4_findsFits_66 sh34 ?_
    refine pw_iload_n eX4_findsFits_69 rfl rfl ?_
    refine pw_iconst eX4_findsFits_70 ⟨by decide, by decide⟩ ?_
    obtain ⟨v2, m3, hc4, h⟩ := h
    refine pw_cS (z := mX4_at) (av := [Iq x2, Iq 1]) (st := [Aq 35]) eX4_findsFits_71 lk_RX4_59 rfl (by decide) (by decide) (Nat.le_of_ble_eq_true rfl) rfl hc4 ?_
    show PW S mX4_findsFits Q 74 [some (Aq 34), some (Iq x1), some (Iq x2), some (Iq x3), some (Iq x4)] [Iq v2, Aq 35] m3
    refine pw_iload_n eX4_findsFits_74 rfl rfl ?_
    obtain ⟨o5, h⟩ := h
    refine pw_iast eX4_findsFits_75 sh35 o5 ?_
    exact pw_vret eX4_findsFits_76 h
  · have h := h.2 c1
    refine pw_aload_n eX4_findsFits_22 rfl rfl ?_
    refine gf_RX4_7 rfl eX4_findsFits_23 sh34 ?_
    refine pw_iload_n eX4_findsFits_26 rfl rfl ?_
    refine pw_iconst eX4_findsFits_27 ⟨by decide, by decide⟩ ?_
    obtain ⟨v6, m7, hc8, h⟩ := h
    refine pw_cS (z := mX4_at) (av := [Iq x2, Iq 1]) (st := [Aq 35]) eX4_findsFits_28 lk_RX4_59 rfl (by decide) (by decide) (Nat.le_of_ble_eq_true rfl) rfl hc8 ?_
    show PW S mX4_findsFits Q 31 [some (Aq 34), some (Iq x1), some (Iq x2), some (Iq x3), some (Iq x4)] [Iq v6, Aq 35] m7
    refine pw_iload eX4_findsFits_31 rfl ?_
    obtain ⟨o9, h⟩ := h
    refine pw_iast eX4_findsFits_33 sh35 o9 ?_
    refine pw_aload_n eX4_findsFits_34 rfl rfl ?_
    refine pw_iload_n eX4_findsFits_35 rfl rfl ?_
    refine pw_iload_n eX4_findsFits_36 rfl rfl ?_
    obtain ⟨v10, m11, hc12, h⟩ := h
    refine pw_cV (z := mX4_isTold) (av := [Iq x1, Iq x2]) (st := []) eX4_findsFits_37 lk_RX4_181 rfl (by decide) (by decide) sh34 rfl rfl (Nat.le_of_ble_eq_true rfl) rfl hc12 ?_
    show PW S mX4_findsFits Q 40 [some (Aq 34), some (Iq x1), some (Iq x2), some (Iq x3), some (Iq x4)] [Iq v10] m11
    refine pw_if_eq eX4_findsFits_40 (fun c13 => ?_) (fun c13 => ?_)
    · have h := h.1 c13
      obtain ⟨o14, h⟩ := h
      refine pw_iinc (ls2 := [some (Aq 34), some (Iq x1), some (Iq x2), some (Iq x3), some (Iq (x4 + (-1)))]) eX4_findsFits_59 rfl o14 rfl ?_
      refine pw_goto eX4_findsFits_62 ?_
      exact h
    · have h := h.2 c13
      refine pw_aload_n eX4_findsFits_43 rfl rfl ?_
      refine pw_dup eX4_findsFits_44 rfl ?_
      refine gf_RX4_184 rfl eX4_findsFits_45 sh34 ?_
      refine pw_iconst eX4_findsFits_48 ⟨by decide, by decide⟩ ?_
      obtain ⟨o15, h⟩ := h
      refine pw_iadd eX4_findsFits_49 o15 ?_
      refine pf_RX4_184 rfl eX4_findsFits_50 sh34 ?_
      refine pw_aload_n eX4_findsFits_53 rfl rfl ?_
      refine pw_iload eX4_findsFits_54 rfl ?_
      refine pf_RX4_188 rfl eX4_findsFits_56 sh34 ?_
      obtain ⟨o16, h⟩ := h
      refine pw_iinc (ls2 := [some (Aq 34), some (Iq x1), some (Iq x2), some (Iq x3), some (Iq (x4 + (-1)))]) eX4_findsFits_59 rfl o16 rfl ?_
      refine pw_goto eX4_findsFits_62 ?_
      exact h
set_option maxRecDepth 100000 in
theorem rg_X4_fits_0 {S : Sx} {Q : Option PV → Zm → Prop} {mem : Zm}   {x1 x2 : Int} 
    (h : (∃ (v1 : Int) (m2 : Zm), Ct1 S mX4_wantsFor [Aq 34, Iq x1, Iq x2] mem (some (Iq v1)) m2 ∧ ((((v1 = 0) → ((∃ (m6 : Zm), Ct1 S mX4_findsFits [Aq 34, Iq x1, Iq x2] m2 none m6 ∧ (Q (some (Iq (m6 34 11))) m6)))) ∧ (¬ (v1 = 0) → ((∃ (v8 : Int) (m9 : Zm), Ct1 S mX4_finds [Aq 34, Iq v1] m2 (some (Iq v8)) m9 ∧ (Q (some (Iq v8)) m9)))))))) :
    PW S mX4_fits Q 0 [some (Aq 34), some (Iq x1), some (Iq x2), none] [] mem := by
  refine pw_aload_n eX4_fits_0 rfl rfl ?_
  refine pw_iload_n eX4_fits_1 rfl rfl ?_
  refine pw_iload_n eX4_fits_2 rfl rfl ?_
  obtain ⟨v1, m2, hc3, h⟩ := h
  refine pw_cV (z := mX4_wantsFor) (av := [Iq x1, Iq x2]) (st := []) eX4_fits_3 lk_RX4_178 rfl (by decide) (by decide) sh34 rfl rfl (Nat.le_of_ble_eq_true rfl) rfl hc3 ?_
  show PW S mX4_fits Q 6 [some (Aq 34), some (Iq x1), some (Iq x2), none] [Iq v1] m2
  refine pw_istore_n (ls2 := [some (Aq 34), some (Iq x1), some (Iq x2), some (Iq v1)]) eX4_fits_6 rfl (by decide) rfl ?_
  refine pw_iload_n eX4_fits_7 rfl rfl ?_
  refine pw_if_eq eX4_fits_8 (fun c4 => ?_) (fun c4 => ?_)
  · have h := h.1 c4
    refine pw_aload_n eX4_fits_17 rfl rfl ?_
    refine pw_iload_n eX4_fits_18 rfl rfl ?_
    refine pw_iload_n eX4_fits_19 rfl rfl ?_
    obtain ⟨m6, hc7, h⟩ := h
    refine pw_cV (z := mX4_findsFits) (av := [Iq x1, Iq x2]) (st := []) eX4_fits_20 lk_RX4_191 rfl (by decide) (by decide) sh34 rfl rfl (Nat.le_of_ble_eq_true rfl) rfl hc7 ?_
    show PW S mX4_fits Q 23 [some (Aq 34), some (Iq x1), some (Iq x2), some (Iq v1)] [] m6
    refine pw_aload_n eX4_fits_23 rfl rfl ?_
    refine gf_RX4_184 rfl eX4_fits_24 sh34 ?_
    exact pw_iret eX4_fits_27 h
  · have h := h.2 c4
    refine pw_aload_n eX4_fits_11 rfl rfl ?_
    refine pw_iload_n eX4_fits_12 rfl rfl ?_
    obtain ⟨v8, m9, hc10, h⟩ := h
    refine pw_cV (z := mX4_finds) (av := [Iq v1]) (st := []) eX4_fits_13 lk_RX4_39 rfl (by decide) (by decide) sh34 rfl rfl (Nat.le_of_ble_eq_true rfl) rfl hc10 ?_
    show PW S mX4_fits Q 16 [some (Aq 34), some (Iq x1), some (Iq x2), some (Iq v1)] [Iq v8] m9
    exact pw_iret eX4_fits_16 h
set_option maxRecDepth 100000 in
theorem rg_X4_knew_0 {S : Sx} {Q : Option PV → Zm → Prop} {mem : Zm}   {x1 x2 : Int} 
    (h : (∃ (v1 : Int) (m2 : Zm), Ct1 S mX4_wantsFor [Aq 34, Iq x1, Iq x2] mem (some (Iq v1)) m2 ∧ ((((v1 = 0) → ((∃ (m6 : Zm), Ct1 S mX4_findsFits [Aq 34, Iq x1, Iq x2] m2 none m6 ∧ ((((m6 34 11 ≤ 0) → ((∃ (v9 : Int) (m10 : Zm), Ct1 S mX4_finds [Aq 34, Iq (-1000004)] m6 (some (Iq v9)) m10 ∧ (Q (some (Iq v9)) m10)))) ∧ (¬ (m6 34 11 ≤ 0) → (Q (some (Iq (m6 34 12))) m6))))))) ∧ (¬ (v1 = 0) → ((∃ (v12 : Int) (m13 : Zm), Ct1 S mX4_finds [Aq 34, Iq v1] m2 (some (Iq v12)) m13 ∧ (Q (some (Iq v12)) m13)))))))) :
    PW S mX4_knew Q 0 [some (Aq 34), some (Iq x1), some (Iq x2), none] [] mem := by
  refine pw_aload_n eX4_knew_0 rfl rfl ?_
  refine pw_iload_n eX4_knew_1 rfl rfl ?_
  refine pw_iload_n eX4_knew_2 rfl rfl ?_
  obtain ⟨v1, m2, hc3, h⟩ := h
  refine pw_cV (z := mX4_wantsFor) (av := [Iq x1, Iq x2]) (st := []) eX4_knew_3 lk_RX4_178 rfl (by decide) (by decide) sh34 rfl rfl (Nat.le_of_ble_eq_true rfl) rfl hc3 ?_
  show PW S mX4_knew Q 6 [some (Aq 34), some (Iq x1), some (Iq x2), none] [Iq v1] m2
  refine pw_istore_n (ls2 := [some (Aq 34), some (Iq x1), some (Iq x2), some (Iq v1)]) eX4_knew_6 rfl (by decide) rfl ?_
  refine pw_iload_n eX4_knew_7 rfl rfl ?_
  refine pw_if_eq eX4_knew_8 (fun c4 => ?_) (fun c4 => ?_)
  · have h := h.1 c4
    refine pw_aload_n eX4_knew_17 rfl rfl ?_
    refine pw_iload_n eX4_knew_18 rfl rfl ?_
    refine pw_iload_n eX4_knew_19 rfl rfl ?_
    obtain ⟨m6, hc7, h⟩ := h
    refine pw_cV (z := mX4_findsFits) (av := [Iq x1, Iq x2]) (st := []) eX4_knew_20 lk_RX4_191 rfl (by decide) (by decide) sh34 rfl rfl (Nat.le_of_ble_eq_true rfl) rfl hc7 ?_
    show PW S mX4_knew Q 23 [some (Aq 34), some (Iq x1), some (Iq x2), some (Iq v1)] [] m6
    refine pw_aload_n eX4_knew_23 rfl rfl ?_
    refine gf_RX4_184 rfl eX4_knew_24 sh34 ?_
    refine pw_if_le eX4_knew_27 (fun c8 => ?_) (fun c8 => ?_)
    · have h := h.1 c8
      refine pw_aload_n eX4_knew_37 rfl rfl ?_
      refine pw_ldc (n := (-1000004)) eX4_knew_38 ⟨by decide, by decide⟩ kc_RX4_38 ?_
      obtain ⟨v9, m10, hc11, h⟩ := h
      refine pw_cV (z := mX4_finds) (av := [Iq (-1000004)]) (st := []) eX4_knew_40 lk_RX4_39 rfl (by decide) (by decide) sh34 rfl rfl (Nat.le_of_ble_eq_true rfl) rfl hc11 ?_
      show PW S mX4_knew Q 43 [some (Aq 34), some (Iq x1), some (Iq x2), some (Iq v1)] [Iq v9] m10
      exact pw_iret eX4_knew_43 h
    · have h := h.2 c8
      refine pw_aload_n eX4_knew_30 rfl rfl ?_
      refine gf_RX4_188 rfl eX4_knew_31 sh34 ?_
      refine pw_goto eX4_knew_34 ?_
      exact pw_iret eX4_knew_43 h
  · have h := h.2 c4
    refine pw_aload_n eX4_knew_11 rfl rfl ?_
    refine pw_iload_n eX4_knew_12 rfl rfl ?_
    obtain ⟨v12, m13, hc14, h⟩ := h
    refine pw_cV (z := mX4_finds) (av := [Iq v1]) (st := []) eX4_knew_13 lk_RX4_39 rfl (by decide) (by decide) sh34 rfl rfl (Nat.le_of_ble_eq_true rfl) rfl hc14 ?_
    show PW S mX4_knew Q 16 [some (Aq 34), some (Iq x1), some (Iq x2), some (Iq v1)] [Iq v12] m13
    exact pw_iret eX4_knew_16 h
set_option maxRecDepth 100000 in
theorem rg_X4_kinds_0 {S : Sx} {Q : Option PV → Zm → Prop} {mem : Zm}   {x1 x2 : Int} 
    (h : (∃ (v1 : Int) (m2 : Zm), Ct1 S mX4_wantsFor [Aq 34, Iq x1, Iq x2] mem (some (Iq v1)) m2 ∧ ((((v1 = 0) → ((∃ (v5 : Int) (m6 : Zm), Ct1 S mX4_its [Aq 34, Iq x2, Iq 0] m2 (some (Iq v5)) m6 ∧ (PW S mX4_kinds Q 31 [some (Aq 34), some (Iq x1), some (Iq x2), some (Iq v1), some (Iq v5), some (Iq 0), some (Iq 0)] [] m6)))) ∧ (¬ (v1 = 0) → ((∃ (v8 : Int) (m9 : Zm), Ct1 S mX4_finds [Aq 34, Iq v1] m2 (some (Iq v8)) m9 ∧ (Q (some (Iq v8)) m9)))))))) :
    PW S mX4_kinds Q 0 [some (Aq 34), some (Iq x1), some (Iq x2), none, none, none, none] [] mem := by
  refine pw_aload_n eX4_kinds_0 rfl rfl ?_
  refine pw_iload_n eX4_kinds_1 rfl rfl ?_
  refine pw_iload_n eX4_kinds_2 rfl rfl ?_
  obtain ⟨v1, m2, hc3, h⟩ := h
  refine pw_cV (z := mX4_wantsFor) (av := [Iq x1, Iq x2]) (st := []) eX4_kinds_3 lk_RX4_178 rfl (by decide) (by decide) sh34 rfl rfl (Nat.le_of_ble_eq_true rfl) rfl hc3 ?_
  show PW S mX4_kinds Q 6 [some (Aq 34), some (Iq x1), some (Iq x2), none, none, none, none] [Iq v1] m2
  refine pw_istore_n (ls2 := [some (Aq 34), some (Iq x1), some (Iq x2), some (Iq v1), none, none, none]) eX4_kinds_6 rfl (by decide) rfl ?_
  refine pw_iload_n eX4_kinds_7 rfl rfl ?_
  refine pw_if_eq eX4_kinds_8 (fun c4 => ?_) (fun c4 => ?_)
  · have h := h.1 c4
    refine pw_aload_n eX4_kinds_17 rfl rfl ?_
    refine pw_iload_n eX4_kinds_18 rfl rfl ?_
    refine pw_iconst eX4_kinds_19 ⟨by decide, by decide⟩ ?_
    obtain ⟨v5, m6, hc7, h⟩ := h
    refine pw_cV (z := mX4_its) (av := [Iq x2, Iq 0]) (st := []) eX4_kinds_20 lk_RX4_71 rfl (by decide) (by decide) sh34 rfl rfl (Nat.le_of_ble_eq_true rfl) rfl hc7 ?_
    show PW S mX4_kinds Q 23 [some (Aq 34), some (Iq x1), some (Iq x2), some (Iq v1), none, none, none] [Iq v5] m6
    refine pw_istore (ls2 := [some (Aq 34), some (Iq x1), some (Iq x2), some (Iq v1), some (Iq v5), none, none]) eX4_kinds_23 (by decide) rfl ?_
    refine pw_iconst eX4_kinds_25 ⟨by decide, by decide⟩ ?_
    refine pw_istore (ls2 := [some (Aq 34), some (Iq x1), some (Iq x2), some (Iq v1), some (Iq v5), some (Iq 0), none]) eX4_kinds_26 (by decide) rfl ?_
    refine pw_iconst eX4_kinds_28 ⟨by decide, by decide⟩ ?_
    refine pw_istore (ls2 := [some (Aq 34), some (Iq x1), some (Iq x2), some (Iq v1), some (Iq v5), some (Iq 0), some (Iq 0)]) eX4_kinds_29 (by decide) rfl ?_
    exact h
  · have h := h.2 c4
    refine pw_aload_n eX4_kinds_11 rfl rfl ?_
    refine pw_iload_n eX4_kinds_12 rfl rfl ?_
    obtain ⟨v8, m9, hc10, h⟩ := h
    refine pw_cV (z := mX4_finds) (av := [Iq v1]) (st := []) eX4_kinds_13 lk_RX4_39 rfl (by decide) (by decide) sh34 rfl rfl (Nat.le_of_ble_eq_true rfl) rfl hc10 ?_
    show PW S mX4_kinds Q 16 [some (Aq 34), some (Iq x1), some (Iq x2), some (Iq v1), none, none, none] [Iq v8] m9
    exact pw_iret eX4_kinds_16 h

set_option maxRecDepth 100000 in
theorem rg_X4_kinds_31 {S : Sx} {Q : Option PV → Zm → Prop} {mem : Zm}   {x1 x2 x3 x4 x5 x6 : Int} 
    (h : (((6 < x6) → ((∃ (v2 : Int) (m3 : Zm), Ct1 S mX4_at [Iq x2, Iq 0] mem (some (Iq v2)) m3 ∧ ((0 ≤ v2 ∧ v2 < 134) ∧ Q (some (Iq x5)) (mup m3 35 (v2).toNat x4))))) ∧ (¬ (6 < x6) → ((∃ (v6 : Int) (m7 : Zm), Ct1 S mX4_at [Iq x2, Iq 0] mem (some (Iq v6)) m7 ∧ ((0 ≤ v6 ∧ v6 < 134) ∧ (∃ (v10 : Int) (m11 : Zm), Ct1 S mX4_isTold [Aq 34, Iq x1, Iq x2] (mup m7 35 (v6).toNat x6) (some (Iq v10)) m11 ∧ ((((v10 = 0) → ((in32 (x6 + 1)) ∧ PW S mX4_kinds Q 31 [some (Aq 34), some (Iq x1), some (Iq x2), some (Iq x3), some (Iq x4), some (Iq (bOr x5 0)), some (Iq (x6 + 1))] [] m11)) ∧ (¬ (v10 = 0) → ((in32 (x6 + 1)) ∧ PW S mX4_kinds Q 31 [some (Aq 34), some (Iq x1), some (Iq x2), some (Iq x3), some (Iq x4), some (Iq (bOr x5 (bShl 1 x6))), some (Iq (x6 + 1))] [] m11))))))))))) :
    PW S mX4_kinds Q 31 [some (Aq 34), some (Iq x1), some (Iq x2), some (Iq x3), some (Iq x4), some (Iq x5), some (Iq x6)] [] mem := by
  refine pw_iload eX4_kinds_31 rfl ?_
  refine pw_bipush eX4_kinds_33 ⟨by decide, by decide⟩ (by decide) ?_
  refine pw_icmp_gt eX4_kinds_35 (fun c1 => ?_) (fun c1 => ?_)
  · have h := h.1 c1
    refine pw_aload_n eX4_kinds_78 rfl rfl ?_
    refine gf_RX4_7 rfl eX4_kinds_79 sh34 ?_
    refine pw_iload_n eX4_kinds_82 rfl rfl ?_
    refine pw_iconst eX4_kinds_83 ⟨by decide, by decide⟩ ?_
    obtain ⟨v2, m3, hc4, h⟩ := h
    refine pw_cS (z := mX4_at) (av := [Iq x2, Iq 0]) (st := [Aq 35]) eX4_kinds_84 lk_RX4_59 rfl (by decide) (by decide) (Nat.le_of_ble_eq_true rfl) rfl hc4 ?_
    show PW S mX4_kinds Q 87 [some (Aq 34), some (Iq x1), some (Iq x2), some (Iq x3), some (Iq x4), some (Iq x5), some (Iq x6)] [Iq v2, Aq 35] m3
    refine pw_iload eX4_kinds_87 rfl ?_
    obtain ⟨o5, h⟩ := h
    refine pw_iast eX4_kinds_89 sh35 o5 ?_
    refine pw_iload eX4_kinds_90 rfl ?_
    exact pw_iret eX4_kinds_92 h
  · have h := h.2 c1
    refine pw_aload_n eX4_kinds_38 rfl rfl ?_
    refine gf_RX4_7 rfl eX4_kinds_39 sh34 ?_
    refine pw_iload_n eX4_kinds_42 rfl rfl ?_
    refine pw_iconst eX4_kinds_43 ⟨by decide, by decide⟩ ?_
    obtain ⟨v6, m7, hc8, h⟩ := h
    refine pw_cS (z := mX4_at) (av := [Iq x2, Iq 0]) (st := [Aq 35]) eX4_kinds_44 lk_RX4_59 rfl (by decide) (by decide) (Nat.le_of_ble_eq_true rfl) rfl hc8 ?_
    show PW S mX4_kinds Q 47 [some (Aq 34), some (Iq x1), some (Iq x2), some (Iq x3), some (Iq x4), some (Iq x5), some (Iq x6)] [Iq v6, Aq 35] m7
    refine pw_iload eX4_kinds_47 rfl ?_
    obtain ⟨o9, h⟩ := h
    refine pw_iast eX4_kinds_49 sh35 o9 ?_
    refine pw_iload eX4_kinds_50 rfl ?_
    refine pw_aload_n eX4_kinds_52 rfl rfl ?_
    refine pw_iload_n eX4_kinds_53 rfl rfl ?_
    refine pw_iload_n eX4_kinds_54 rfl rfl ?_
    obtain ⟨v10, m11, hc12, h⟩ := h
    refine pw_cV (z := mX4_isTold) (av := [Iq x1, Iq x2]) (st := [Iq x5]) eX4_kinds_55 lk_RX4_181 rfl (by decide) (by decide) sh34 rfl rfl (Nat.le_of_ble_eq_true rfl) rfl hc12 ?_
    show PW S mX4_kinds Q 58 [some (Aq 34), some (Iq x1), some (Iq x2), some (Iq x3), some (Iq x4), some (Iq x5), some (Iq x6)] [Iq v10, Iq x5] m11
    refine pw_if_eq eX4_kinds_58 (fun c13 => ?_) (fun c13 => ?_)
    · have h := h.1 c13
      refine pw_iconst eX4_kinds_68 ⟨by decide, by decide⟩ ?_
      refine pw_ior eX4_kinds_69 ?_
      refine pw_istore (ls2 := [some (Aq 34), some (Iq x1), some (Iq x2), some (Iq x3), some (Iq x4), some (Iq (bOr x5 0)), some (Iq x6)]) eX4_kinds_70 (by decide) rfl ?_
      obtain ⟨o14, h⟩ := h
      refine pw_iinc (ls2 := [some (Aq 34), some (Iq x1), some (Iq x2), some (Iq x3), some (Iq x4), some (Iq (bOr x5 0)), some (Iq (x6 + 1))]) eX4_kinds_72 rfl o14 rfl ?_
      refine pw_goto eX4_kinds_75 ?_
      exact h
    · have h := h.2 c13
      refine pw_iconst eX4_kinds_61 ⟨by decide, by decide⟩ ?_
      refine pw_iload eX4_kinds_62 rfl ?_
      refine pw_ishl eX4_kinds_64 ?_
      refine pw_goto eX4_kinds_65 ?_
      refine pw_ior eX4_kinds_69 ?_
      refine pw_istore (ls2 := [some (Aq 34), some (Iq x1), some (Iq x2), some (Iq x3), some (Iq x4), some (Iq (bOr x5 (bShl 1 x6))), some (Iq x6)]) eX4_kinds_70 (by decide) rfl ?_
      obtain ⟨o15, h⟩ := h
      refine pw_iinc (ls2 := [some (Aq 34), some (Iq x1), some (Iq x2), some (Iq x3), some (Iq x4), some (Iq (bOr x5 (bShl 1 x6))), some (Iq (x6 + 1))]) eX4_kinds_72 rfl o15 rfl ?_
      refine pw_goto eX4_kinds_75 ?_
      exact h
set_option maxRecDepth 100000 in
theorem rg_X4_draw_0 {S : Sx} {Q : Option PV → Zm → Prop} {mem : Zm}   
    (h : Q (some (Iq (bUshr ((mup mem 35 2 (wr ((wr ((mem 35 2) * 1103515245)) + 12345))) 35 2) 8))) (mup mem 35 2 (wr ((wr ((mem 35 2) * 1103515245)) + 12345)))) :
    PW S mX4_draw Q 0 [some (Aq 34)] [] mem := by
  refine pw_aload_n eX4_draw_0 rfl rfl ?_
  refine gf_RX4_7 rfl eX4_draw_1 sh34 ?_
  refine pw_iconst eX4_draw_4 ⟨by decide, by decide⟩ ?_
  refine pw_aload_n eX4_draw_5 rfl rfl ?_
  refine gf_RX4_7 rfl eX4_draw_6 sh34 ?_
  refine pw_iconst eX4_draw_9 ⟨by decide, by decide⟩ ?_
  refine pw_iald eX4_draw_10 sh35 (by decide) ?_
  refine pw_ldc (n := 1103515245) eX4_draw_11 ⟨by decide, by decide⟩ kc_RX4_194 ?_
  refine pw_imulw eX4_draw_13 ?_
  refine pw_sipush eX4_draw_14 ⟨by decide, by decide⟩ (by decide) ?_
  refine pw_iaddw eX4_draw_17 ?_
  refine pw_iast eX4_draw_18 sh35 (by decide) ?_
  refine pw_aload_n eX4_draw_19 rfl rfl ?_
  refine gf_RX4_7 rfl eX4_draw_20 sh34 ?_
  refine pw_iconst eX4_draw_23 ⟨by decide, by decide⟩ ?_
  refine pw_iald eX4_draw_24 sh35 (by decide) ?_
  refine pw_bipush eX4_draw_25 ⟨by decide, by decide⟩ (by decide) ?_
  refine pw_iushr eX4_draw_27 ?_
  exact pw_iret eX4_draw_28 h
set_option maxRecDepth 100000 in
theorem rg_X4_seats_0 {S : Sx} {Q : Option PV → Zm → Prop} {mem : Zm}   {x1 : Int} 
    (h : (∃ (v1 : Int) (m2 : Zm), Ct1 S mX4_isIn [Jq x1, Jq 1, Jq 20] mem (some (Iq v1)) m2 ∧ ((((¬ v1 = 0) → ((in32 ((m2 35 1) + x1)) ∧ ((((m2 35 1) + x1 ≤ 99999) → (PW S mX4_seats Q 41 [some (Aq 34), some (Iq x1), some (Iq 0), none, none] [] m2)) ∧ (¬ ((m2 35 1) + x1 ≤ 99999) → ((∃ (v7 : Int) (m8 : Zm), Ct1 S mX4_finds [Aq 34, Iq (-1000005)] m2 (some (Iq v7)) m8 ∧ (Q (some (Iq v7)) m8))))))) ∧ (¬ (¬ v1 = 0) → ((∃ (v10 : Int) (m11 : Zm), Ct1 S mX4_finds [Aq 34, Iq (-1000001)] m2 (some (Iq v10)) m11 ∧ (Q (some (Iq v10)) m11)))))))) :
    PW S mX4_seats Q 0 [some (Aq 34), some (Iq x1), none, none, none] [] mem := by
  refine pw_iload_n eX4_seats_0 rfl rfl ?_
  refine pw_i2l eX4_seats_1 ?_
  refine pw_lconst (v := 1) eX4_seats_2 ⟨by decide, by decide⟩ rfl ?_
  refine pw_ldc2 (n := 20) eX4_seats_3 ⟨by decide, by decide⟩ kc_RX4_161 ?_
  obtain ⟨v1, m2, hc3, h⟩ := h
  refine pw_cS (z := mX4_isIn) (av := [Jq x1, Jq 1, Jq 20]) (st := []) eX4_seats_6 lk_RX4_49 rfl (by decide) (by decide) (Nat.le_of_ble_eq_true rfl) rfl hc3 ?_
  show PW S mX4_seats Q 9 [some (Aq 34), some (Iq x1), none, none, none] [Iq v1] m2
  refine pw_if_ne eX4_seats_9 (fun c4 => ?_) (fun c4 => ?_)
  · have h := h.1 c4
    refine pw_aload_n eX4_seats_19 rfl rfl ?_
    refine gf_RX4_7 rfl eX4_seats_20 sh34 ?_
    refine pw_iconst eX4_seats_23 ⟨by decide, by decide⟩ ?_
    refine pw_iald eX4_seats_24 sh35 (by decide) ?_
    refine pw_iload_n eX4_seats_25 rfl rfl ?_
    obtain ⟨o5, h⟩ := h
    refine pw_iadd eX4_seats_26 o5 ?_
    refine pw_ldc (n := 99999) eX4_seats_27 ⟨by decide, by decide⟩ kc_RX4_129 ?_
    refine pw_icmp_le eX4_seats_29 (fun c6 => ?_) (fun c6 => ?_)
    · have h := h.1 c6
      refine pw_iconst eX4_seats_39 ⟨by decide, by decide⟩ ?_
      refine pw_istore_n (ls2 := [some (Aq 34), some (Iq x1), some (Iq 0), none, none]) eX4_seats_40 rfl (by decide) rfl ?_
      exact h
    · have h := h.2 c6
      refine pw_aload_n eX4_seats_32 rfl rfl ?_
      refine pw_ldc (n := (-1000005)) eX4_seats_33 ⟨by decide, by decide⟩ kc_RX4_130 ?_
      obtain ⟨v7, m8, hc9, h⟩ := h
      refine pw_cV (z := mX4_finds) (av := [Iq (-1000005)]) (st := []) eX4_seats_35 lk_RX4_39 rfl (by decide) (by decide) sh34 rfl rfl (Nat.le_of_ble_eq_true rfl) rfl hc9 ?_
      show PW S mX4_seats Q 38 [some (Aq 34), some (Iq x1), none, none, none] [Iq v7] m8
      exact pw_iret eX4_seats_38 h
  · have h := h.2 c4
    refine pw_aload_n eX4_seats_12 rfl rfl ?_
    refine pw_ldc (n := (-1000001)) eX4_seats_13 ⟨by decide, by decide⟩ kc_RX4_37 ?_
    obtain ⟨v10, m11, hc12, h⟩ := h
    refine pw_cV (z := mX4_finds) (av := [Iq (-1000001)]) (st := []) eX4_seats_15 lk_RX4_39 rfl (by decide) (by decide) sh34 rfl rfl (Nat.le_of_ble_eq_true rfl) rfl hc12 ?_
    show PW S mX4_seats Q 18 [some (Aq 34), some (Iq x1), none, none, none] [Iq v10] m11
    exact pw_iret eX4_seats_18 h

set_option maxRecDepth 100000 in
theorem rg_X4_seats_41 {S : Sx} {Q : Option PV → Zm → Prop} {mem : Zm}   {x1 x2 : Int} 
    (h : (((x1 ≤ x2) → ((∃ (v2 : Int) (m3 : Zm), Ct1 S mX4_sumOf [Aq 34, Iq 3] mem (some (Iq v2)) m3 ∧ (Q (some (Iq v2)) m3)))) ∧ (¬ (x1 ≤ x2) → ((∃ (v5 : Int) (m6 : Zm), Ct1 S mX4_draw [Aq 34] mem (some (Iq v5)) m6 ∧ ((0 ≤ v5) ∧ (∃ (v9 : Int) (m10 : Zm), Ct1 S mX4_draw [Aq 34] m6 (some (Iq v9)) m10 ∧ ((0 ≤ v9) ∧ (∃ (v13 : Int) (m14 : Zm), Ct1 S mX4_isChild [Aq 34, Iq (v5 % 8)] m10 (some (Iq v13)) m14 ∧ ((((v13 = 0) → ((∃ (m18 : Zm), Ct1 S mX4_day [Aq 34] m14 none m18 ∧ ((in32 (x2 + 1)) ∧ PW S mX4_seats Q 41 [some (Aq 34), some (Iq x1), some (Iq (x2 + 1)), none, none] [] m18)))) ∧ (¬ (v13 = 0) → ((∃ (v21 : Int) (m22 : Zm), Ct1 S mX4_isChild [Aq 34, Iq (v9 % 8)] m14 (some (Iq v21)) m22 ∧ ((((v21 = 0) → ((∃ (m26 : Zm), Ct1 S mX4_day [Aq 34] m22 none m26 ∧ ((in32 (x2 + 1)) ∧ PW S mX4_seats Q 41 [some (Aq 34), some (Iq x1), some (Iq (x2 + 1)), none, none] [] m26)))) ∧ (¬ (v21 = 0) → ((((v5 % 8 = v9 % 8) → ((∃ (m31 : Zm), Ct1 S mX4_day [Aq 34] m22 none m31 ∧ ((in32 (x2 + 1)) ∧ PW S mX4_seats Q 41 [some (Aq 34), some (Iq x1), some (Iq (x2 + 1)), none, none] [] m31)))) ∧ (¬ (v5 % 8 = v9 % 8) → ((∃ (v34 : Int) (m35 : Zm), Ct1 S mX4_at [Iq (v5 % 8), Iq 2] m22 (some (Iq v34)) m35 ∧ ((0 ≤ v34 ∧ v34 < 134) ∧ (∃ (m39 : Zm), Ct1 S mX4_day [Aq 34] (mup m35 35 (v34).toNat (v9 % 8)) none m39 ∧ ((in32 (x2 + 1)) ∧ PW S mX4_seats Q 41 [some (Aq 34), some (Iq x1), some (Iq (x2 + 1)), none, none] [] m39))))))))))))))))))))))))) :
    PW S mX4_seats Q 41 [some (Aq 34), some (Iq x1), some (Iq x2), none, none] [] mem := by
  refine pw_iload_n eX4_seats_41 rfl rfl ?_
  refine pw_iload_n eX4_seats_42 rfl rfl ?_
  refine pw_icmp_ge eX4_seats_43 (fun c1 => ?_) (fun c1 => ?_)
  · have h := h.1 c1
    refine pw_aload_n eX4_seats_108 rfl rfl ?_
    refine pw_iconst eX4_seats_109 ⟨by decide, by decide⟩ ?_
    obtain ⟨v2, m3, hc4, h⟩ := h
    refine pw_cV (z := mX4_sumOf) (av := [Iq 3]) (st := []) eX4_seats_110 lk_RX4_134 rfl (by decide) (by decide) sh34 rfl rfl (Nat.le_of_ble_eq_true rfl) rfl hc4 ?_
    show PW S mX4_seats Q 113 [some (Aq 34), some (Iq x1), some (Iq x2), none, none] [Iq v2] m3
    exact pw_iret eX4_seats_113 h
  · have h := h.2 c1
    refine pw_aload_n eX4_seats_46 rfl rfl ?_
    obtain ⟨v5, m6, hc7, h⟩ := h
    refine pw_cV (z := mX4_draw) (av := []) (st := []) eX4_seats_47 lk_RX4_195 rfl (by decide) (by decide) sh34 rfl rfl (Nat.le_of_ble_eq_true rfl) rfl hc7 ?_
    show PW S mX4_seats Q 50 [some (Aq 34), some (Iq x1), some (Iq x2), none, none] [Iq v5] m6
    refine pw_bipush eX4_seats_50 ⟨by decide, by decide⟩ (by decide) ?_
    obtain ⟨o8, h⟩ := h
    refine pw_irem eX4_seats_52 o8 (by decide) ?_
    refine pw_istore_n (ls2 := [some (Aq 34), some (Iq x1), some (Iq x2), some (Iq (v5 % 8)), none]) eX4_seats_53 rfl (by decide) rfl ?_
    refine pw_aload_n eX4_seats_54 rfl rfl ?_
    obtain ⟨v9, m10, hc11, h⟩ := h
    refine pw_cV (z := mX4_draw) (av := []) (st := []) eX4_seats_55 lk_RX4_195 rfl (by decide) (by decide) sh34 rfl rfl (Nat.le_of_ble_eq_true rfl) rfl hc11 ?_
    show PW S mX4_seats Q 58 [some (Aq 34), some (Iq x1), some (Iq x2), some (Iq (v5 % 8)), none] [Iq v9] m10
    refine pw_bipush eX4_seats_58 ⟨by decide, by decide⟩ (by decide) ?_
    obtain ⟨o12, h⟩ := h
    refine pw_irem eX4_seats_60 o12 (by decide) ?_
    refine pw_istore (ls2 := [some (Aq 34), some (Iq x1), some (Iq x2), some (Iq (v5 % 8)), some (Iq (v9 % 8))]) eX4_seats_61 (by decide) rfl ?_
    refine pw_aload_n eX4_seats_63 rfl rfl ?_
    refine pw_iload_n eX4_seats_64 rfl rfl ?_
    obtain ⟨v13, m14, hc15, h⟩ := h
    refine pw_cV (z := mX4_isChild) (av := [Iq (v5 % 8)]) (st := []) eX4_seats_65 lk_RX4_77 rfl (by decide) (by decide) sh34 rfl rfl (Nat.le_of_ble_eq_true rfl) rfl hc15 ?_
    show PW S mX4_seats Q 68 [some (Aq 34), some (Iq x1), some (Iq x2), some (Iq (v5 % 8)), some (Iq (v9 % 8))] [Iq v13] m14
    refine pw_if_eq eX4_seats_68 (fun c16 => ?_) (fun c16 => ?_)
    · have h := h.1 c16
      refine pw_aload_n eX4_seats_98 rfl rfl ?_
      obtain ⟨m18, hc19, h⟩ := h
      refine pw_cV (z := mX4_day) (av := []) (st := []) eX4_seats_99 lk_RX4_124 rfl (by decide) (by decide) sh34 rfl rfl (Nat.le_of_ble_eq_true rfl) rfl hc19 ?_
      show PW S mX4_seats Q 102 [some (Aq 34), some (Iq x1), some (Iq x2), some (Iq (v5 % 8)), some (Iq (v9 % 8))] [] m18
      obtain ⟨o20, h⟩ := h
      refine pw_iinc (ls2 := [some (Aq 34), some (Iq x1), some (Iq (x2 + 1)), some (Iq (v5 % 8)), some (Iq (v9 % 8))]) eX4_seats_102 rfl o20 rfl ?_
      refine pw_goto eX4_seats_105 ?_
      exact pw_drop (bs := [true, true, true, false, false]) h
    · have h := h.2 c16
      refine pw_aload_n eX4_seats_71 rfl rfl ?_
      refine pw_iload eX4_seats_72 rfl ?_
      obtain ⟨v21, m22, hc23, h⟩ := h
      refine pw_cV (z := mX4_isChild) (av := [Iq (v9 % 8)]) (st := []) eX4_seats_74 lk_RX4_77 rfl (by decide) (by decide) sh34 rfl rfl (Nat.le_of_ble_eq_true rfl) rfl hc23 ?_
      show PW S mX4_seats Q 77 [some (Aq 34), some (Iq x1), some (Iq x2), some (Iq (v5 % 8)), some (Iq (v9 % 8))] [Iq v21] m22
      refine pw_if_eq eX4_seats_77 (fun c24 => ?_) (fun c24 => ?_)
      · have h := h.1 c24
        refine pw_aload_n eX4_seats_98 rfl rfl ?_
        obtain ⟨m26, hc27, h⟩ := h
        refine pw_cV (z := mX4_day) (av := []) (st := []) eX4_seats_99 lk_RX4_124 rfl (by decide) (by decide) sh34 rfl rfl (Nat.le_of_ble_eq_true rfl) rfl hc27 ?_
        show PW S mX4_seats Q 102 [some (Aq 34), some (Iq x1), some (Iq x2), some (Iq (v5 % 8)), some (Iq (v9 % 8))] [] m26
        obtain ⟨o28, h⟩ := h
        refine pw_iinc (ls2 := [some (Aq 34), some (Iq x1), some (Iq (x2 + 1)), some (Iq (v5 % 8)), some (Iq (v9 % 8))]) eX4_seats_102 rfl o28 rfl ?_
        refine pw_goto eX4_seats_105 ?_
        exact pw_drop (bs := [true, true, true, false, false]) h
      · have h := h.2 c24
        refine pw_iload_n eX4_seats_80 rfl rfl ?_
        refine pw_iload eX4_seats_81 rfl ?_
        refine pw_icmp_eq eX4_seats_83 (fun c29 => ?_) (fun c29 => ?_)
        · have h := h.1 c29
          refine pw_aload_n eX4_seats_98 rfl rfl ?_
          obtain ⟨m31, hc32, h⟩ := h
          refine pw_cV (z := mX4_day) (av := []) (st := []) eX4_seats_99 lk_RX4_124 rfl (by decide) (by decide) sh34 rfl rfl (Nat.le_of_ble_eq_true rfl) rfl hc32 ?_
          show PW S mX4_seats Q 102 [some (Aq 34), some (Iq x1), some (Iq x2), some (Iq (v5 % 8)), some (Iq (v9 % 8))] [] m31
          obtain ⟨o33, h⟩ := h
          refine pw_iinc (ls2 := [some (Aq 34), some (Iq x1), some (Iq (x2 + 1)), some (Iq (v5 % 8)), some (Iq (v9 % 8))]) eX4_seats_102 rfl o33 rfl ?_
          refine pw_goto eX4_seats_105 ?_
          exact pw_drop (bs := [true, true, true, false, false]) h
        · have h := h.2 c29
          refine pw_aload_n eX4_seats_86 rfl rfl ?_
          refine gf_RX4_7 rfl eX4_seats_87 sh34 ?_
          refine pw_iload_n eX4_seats_90 rfl rfl ?_
          refine pw_iconst eX4_seats_91 ⟨by decide, by decide⟩ ?_
          obtain ⟨v34, m35, hc36, h⟩ := h
          refine pw_cS (z := mX4_at) (av := [Iq (v5 % 8), Iq 2]) (st := [Aq 35]) eX4_seats_92 lk_RX4_59 rfl (by decide) (by decide) (Nat.le_of_ble_eq_true rfl) rfl hc36 ?_
          show PW S mX4_seats Q 95 [some (Aq 34), some (Iq x1), some (Iq x2), some (Iq (v5 % 8)), some (Iq (v9 % 8))] [Iq v34, Aq 35] m35
          refine pw_iload eX4_seats_95 rfl ?_
          obtain ⟨o37, h⟩ := h
          refine pw_iast eX4_seats_97 sh35 o37 ?_
          refine pw_aload_n eX4_seats_98 rfl rfl ?_
          obtain ⟨m39, hc40, h⟩ := h
          refine pw_cV (z := mX4_day) (av := []) (st := []) eX4_seats_99 lk_RX4_124 rfl (by decide) (by decide) sh34 rfl rfl (Nat.le_of_ble_eq_true rfl) rfl hc40 ?_
          show PW S mX4_seats Q 102 [some (Aq 34), some (Iq x1), some (Iq x2), some (Iq (v5 % 8)), some (Iq (v9 % 8))] [] m39
          obtain ⟨o41, h⟩ := h
          refine pw_iinc (ls2 := [some (Aq 34), some (Iq x1), some (Iq (x2 + 1)), some (Iq (v5 % 8)), some (Iq (v9 % 8))]) eX4_seats_102 rfl o41 rfl ?_
          refine pw_goto eX4_seats_105 ?_
          exact pw_drop (bs := [true, true, true, false, false]) h
set_option maxRecDepth 100000 in
theorem rg_X4_odds_0 {S : Sx} {Q : Option PV → Zm → Prop} {mem : Zm}   {x1 x2 x3 : Int} 
    (h : (∃ (v1 : Int) (m2 : Zm), Ct1 S mX4_isChild [Aq 34, Iq x1] mem (some (Iq v1)) m2 ∧ ((((v1 = 0) → ((∃ (v5 : Int) (m6 : Zm), Ct1 S mX4_finds [Aq 34, Iq (-1000001)] m2 (some (Iq v5)) m6 ∧ (Q (some (Jq v5)) m6)))) ∧ (¬ (v1 = 0) → ((∃ (v8 : Int) (m9 : Zm), Ct1 S mX4_isIn [Jq x2, Jq 0, Jq 20] m2 (some (Iq v8)) m9 ∧ ((((v8 = 0) → ((∃ (v12 : Int) (m13 : Zm), Ct1 S mX4_finds [Aq 34, Iq (-1000001)] m9 (some (Iq v12)) m13 ∧ (Q (some (Jq v12)) m13)))) ∧ (¬ (v8 = 0) → ((∃ (v15 : Int) (m16 : Zm), Ct1 S mX4_isIn [Jq x3, Jq 0, Jq 1] m9 (some (Iq v15)) m16 ∧ ((((¬ v15 = 0) → ((∃ (v19 : Int) (m20 : Zm), Ct1 S mX4_its [Aq 34, Iq x1, Iq 1] m16 (some (Iq v19)) m20 ∧ ((∃ (v22 : Int) (m23 : Zm), Ct1 S mX4_many [Iq v19] m20 (some (Iq v22)) m23 ∧ (PW S mX4_odds Q 58 [some (Aq 34), some (Iq x1), some (Iq x2), some (Iq x3), some (Jq 1), none, some (Jq 1), none, some (Iq v22), some (Iq 0)] [] m23)))))) ∧ (¬ (¬ v15 = 0) → ((∃ (v25 : Int) (m26 : Zm), Ct1 S mX4_finds [Aq 34, Iq (-1000001)] m16 (some (Iq v25)) m26 ∧ (Q (some (Jq v25)) m26)))))))))))))))))) :
    PW S mX4_odds Q 0 [some (Aq 34), some (Iq x1), some (Iq x2), some (Iq x3), none, none, none, none, none, none] [] mem := by
  refine pw_aload_n eX4_odds_0 rfl rfl ?_
  refine pw_iload_n eX4_odds_1 rfl rfl ?_
  obtain ⟨v1, m2, hc3, h⟩ := h
  refine pw_cV (z := mX4_isChild) (av := [Iq x1]) (st := []) eX4_odds_2 lk_RX4_77 rfl (by decide) (by decide) sh34 rfl rfl (Nat.le_of_ble_eq_true rfl) rfl hc3 ?_
  show PW S mX4_odds Q 5 [some (Aq 34), some (Iq x1), some (Iq x2), some (Iq x3), none, none, none, none, none, none] [Iq v1] m2
  refine pw_if_eq eX4_odds_5 (fun c4 => ?_) (fun c4 => ?_)
  · have h := h.1 c4
    refine pw_aload_n eX4_odds_30 rfl rfl ?_
    refine pw_ldc (n := (-1000001)) eX4_odds_31 ⟨by decide, by decide⟩ kc_RX4_37 ?_
    obtain ⟨v5, m6, hc7, h⟩ := h
    refine pw_cV (z := mX4_finds) (av := [Iq (-1000001)]) (st := []) eX4_odds_33 lk_RX4_39 rfl (by decide) (by decide) sh34 rfl rfl (Nat.le_of_ble_eq_true rfl) rfl hc7 ?_
    show PW S mX4_odds Q 36 [some (Aq 34), some (Iq x1), some (Iq x2), some (Iq x3), none, none, none, none, none, none] [Iq v5] m6
    refine pw_i2l eX4_odds_36 ?_
    exact pw_lret eX4_odds_37 h
  · have h := h.2 c4
    refine pw_iload_n eX4_odds_8 rfl rfl ?_
    refine pw_i2l eX4_odds_9 ?_
    refine pw_lconst (v := 0) eX4_odds_10 ⟨by decide, by decide⟩ rfl ?_
    refine pw_ldc2 (n := 20) eX4_odds_11 ⟨by decide, by decide⟩ kc_RX4_161 ?_
    obtain ⟨v8, m9, hc10, h⟩ := h
    refine pw_cS (z := mX4_isIn) (av := [Jq x2, Jq 0, Jq 20]) (st := []) eX4_odds_14 lk_RX4_49 rfl (by decide) (by decide) (Nat.le_of_ble_eq_true rfl) rfl hc10 ?_
    show PW S mX4_odds Q 17 [some (Aq 34), some (Iq x1), some (Iq x2), some (Iq x3), none, none, none, none, none, none] [Iq v8] m9
    refine pw_if_eq eX4_odds_17 (fun c11 => ?_) (fun c11 => ?_)
    · have h := h.1 c11
      refine pw_aload_n eX4_odds_30 rfl rfl ?_
      refine pw_ldc (n := (-1000001)) eX4_odds_31 ⟨by decide, by decide⟩ kc_RX4_37 ?_
      obtain ⟨v12, m13, hc14, h⟩ := h
      refine pw_cV (z := mX4_finds) (av := [Iq (-1000001)]) (st := []) eX4_odds_33 lk_RX4_39 rfl (by decide) (by decide) sh34 rfl rfl (Nat.le_of_ble_eq_true rfl) rfl hc14 ?_
      show PW S mX4_odds Q 36 [some (Aq 34), some (Iq x1), some (Iq x2), some (Iq x3), none, none, none, none, none, none] [Iq v12] m13
      refine pw_i2l eX4_odds_36 ?_
      exact pw_lret eX4_odds_37 h
    · have h := h.2 c11
      refine pw_iload_n eX4_odds_20 rfl rfl ?_
      refine pw_i2l eX4_odds_21 ?_
      refine pw_lconst (v := 0) eX4_odds_22 ⟨by decide, by decide⟩ rfl ?_
      refine pw_lconst (v := 1) eX4_odds_23 ⟨by decide, by decide⟩ rfl ?_
      obtain ⟨v15, m16, hc17, h⟩ := h
      refine pw_cS (z := mX4_isIn) (av := [Jq x3, Jq 0, Jq 1]) (st := []) eX4_odds_24 lk_RX4_49 rfl (by decide) (by decide) (Nat.le_of_ble_eq_true rfl) rfl hc17 ?_
      show PW S mX4_odds Q 27 [some (Aq 34), some (Iq x1), some (Iq x2), some (Iq x3), none, none, none, none, none, none] [Iq v15] m16
      refine pw_if_ne eX4_odds_27 (fun c18 => ?_) (fun c18 => ?_)
      · have h := h.1 c18
        refine pw_lconst (v := 1) eX4_odds_38 ⟨by decide, by decide⟩ rfl ?_
        refine pw_lstore (ls2 := [some (Aq 34), some (Iq x1), some (Iq x2), some (Iq x3), some (Jq 1), none, none, none, none, none]) eX4_odds_39 (by decide) rfl ?_
        refine pw_lconst (v := 1) eX4_odds_41 ⟨by decide, by decide⟩ rfl ?_
        refine pw_lstore (ls2 := [some (Aq 34), some (Iq x1), some (Iq x2), some (Iq x3), some (Jq 1), none, some (Jq 1), none, none, none]) eX4_odds_42 (by decide) rfl ?_
        refine pw_aload_n eX4_odds_44 rfl rfl ?_
        refine pw_iload_n eX4_odds_45 rfl rfl ?_
        refine pw_iconst eX4_odds_46 ⟨by decide, by decide⟩ ?_
        obtain ⟨v19, m20, hc21, h⟩ := h
        refine pw_cV (z := mX4_its) (av := [Iq x1, Iq 1]) (st := []) eX4_odds_47 lk_RX4_71 rfl (by decide) (by decide) sh34 rfl rfl (Nat.le_of_ble_eq_true rfl) rfl hc21 ?_
        show PW S mX4_odds Q 50 [some (Aq 34), some (Iq x1), some (Iq x2), some (Iq x3), some (Jq 1), none, some (Jq 1), none, none, none] [Iq v19] m20
        obtain ⟨v22, m23, hc24, h⟩ := h
        refine pw_cS (z := mX4_many) (av := [Iq v19]) (st := []) eX4_odds_50 lk_RX4_111 rfl (by decide) (by decide) (Nat.le_of_ble_eq_true rfl) rfl hc24 ?_
        show PW S mX4_odds Q 53 [some (Aq 34), some (Iq x1), some (Iq x2), some (Iq x3), some (Jq 1), none, some (Jq 1), none, none, none] [Iq v22] m23
        refine pw_istore (ls2 := [some (Aq 34), some (Iq x1), some (Iq x2), some (Iq x3), some (Jq 1), none, some (Jq 1), none, some (Iq v22), none]) eX4_odds_53 (by decide) rfl ?_
        refine pw_iconst eX4_odds_55 ⟨by decide, by decide⟩ ?_
        refine pw_istore (ls2 := [some (Aq 34), some (Iq x1), some (Iq x2), some (Iq x3), some (Jq 1), none, some (Jq 1), none, some (Iq v22), some (Iq 0)]) eX4_odds_56 (by decide) rfl ?_
        exact h
      · have h := h.2 c18
        refine pw_aload_n eX4_odds_30 rfl rfl ?_
        refine pw_ldc (n := (-1000001)) eX4_odds_31 ⟨by decide, by decide⟩ kc_RX4_37 ?_
        obtain ⟨v25, m26, hc27, h⟩ := h
        refine pw_cV (z := mX4_finds) (av := [Iq (-1000001)]) (st := []) eX4_odds_33 lk_RX4_39 rfl (by decide) (by decide) sh34 rfl rfl (Nat.le_of_ble_eq_true rfl) rfl hc27 ?_
        show PW S mX4_odds Q 36 [some (Aq 34), some (Iq x1), some (Iq x2), some (Iq x3), none, none, none, none, none, none] [Iq v25] m26
        refine pw_i2l eX4_odds_36 ?_
        exact pw_lret eX4_odds_37 h

set_option maxRecDepth 100000 in
theorem rg_X4_odds_58 {S : Sx} {Q : Option PV → Zm → Prop} {mem : Zm}   {x1 x2 x3 x4 x6 x8 x9 : Int} 
    (h : (((x2 ≤ x9) → ((((¬ cmpL x4 0 = 0) → (PW S mX4_odds Q 101 [some (Aq 34), some (Iq x1), some (Iq x2), some (Iq x3), some (Jq x4), none, some (Jq x6), none, some (Iq x8), some (Iq x9)] [] mem)) ∧ (¬ (¬ cmpL x4 0 = 0) → (PW S mX4_odds Q 101 [some (Aq 34), some (Iq x1), some (Iq x2), some (Iq x3), some (Jq x4), none, some (Jq 1), none, some (Iq x8), some (Iq x9)] [] mem))))) ∧ (¬ (x2 ≤ x9) → ((in32 (x9 + 1)) ∧ PW S mX4_odds Q 58 [some (Aq 34), some (Iq x1), some (Iq x2), some (Iq x3), some (Jq (wrL (x4 * x8))), none, some (Jq (wrL (x6 * 8))), none, some (Iq x8), some (Iq (x9 + 1))] [] mem)))) :
    PW S mX4_odds Q 58 [some (Aq 34), some (Iq x1), some (Iq x2), some (Iq x3), some (Jq x4), none, some (Jq x6), none, some (Iq x8), some (Iq x9)] [] mem := by
  refine pw_iload eX4_odds_58 rfl ?_
  refine pw_iload_n eX4_odds_60 rfl rfl ?_
  refine pw_icmp_ge eX4_odds_61 (fun c1 => ?_) (fun c1 => ?_)
  · have h := h.1 c1
    refine pw_lload eX4_odds_86 rfl ?_
    refine pw_lconst (v := 0) eX4_odds_88 ⟨by decide, by decide⟩ rfl ?_
    refine pw_lcmp eX4_odds_89 ?_
    refine pw_if_ne eX4_odds_90 (fun c2 => ?_) (fun c2 => ?_)
    · have h := h.1 c2
      refine pw_lload eX4_odds_97 rfl ?_
      refine pw_lstore (ls2 := [some (Aq 34), some (Iq x1), some (Iq x2), some (Iq x3), some (Jq x4), none, some (Jq x6), none, some (Iq x8), some (Iq x9)]) eX4_odds_99 (by decide) rfl ?_
      exact h
    · have h := h.2 c2
      refine pw_lconst (v := 1) eX4_odds_93 ⟨by decide, by decide⟩ rfl ?_
      refine pw_goto eX4_odds_94 ?_
      refine pw_lstore (ls2 := [some (Aq 34), some (Iq x1), some (Iq x2), some (Iq x3), some (Jq x4), none, some (Jq 1), none, some (Iq x8), some (Iq x9)]) eX4_odds_99 (by decide) rfl ?_
      exact h
  · have h := h.2 c1
    refine pw_lload eX4_odds_64 rfl ?_
    refine pw_iload eX4_odds_66 rfl ?_
    refine pw_i2l eX4_odds_68 ?_
    refine pw_lmul eX4_odds_69 ?_
    refine pw_lstore (ls2 := [some (Aq 34), some (Iq x1), some (Iq x2), some (Iq x3), some (Jq (wrL (x4 * x8))), none, some (Jq x6), none, some (Iq x8), some (Iq x9)]) eX4_odds_70 (by decide) rfl ?_
    refine pw_lload eX4_odds_72 rfl ?_
    refine pw_ldc2 (n := 8) eX4_odds_74 ⟨by decide, by decide⟩ kc_RX4_80 ?_
    refine pw_lmul eX4_odds_77 ?_
    refine pw_lstore (ls2 := [some (Aq 34), some (Iq x1), some (Iq x2), some (Iq x3), some (Jq (wrL (x4 * x8))), none, some (Jq (wrL (x6 * 8))), none, some (Iq x8), some (Iq x9)]) eX4_odds_78 (by decide) rfl ?_
    obtain ⟨o3, h⟩ := h
    refine pw_iinc (ls2 := [some (Aq 34), some (Iq x1), some (Iq x2), some (Iq x3), some (Jq (wrL (x4 * x8))), none, some (Jq (wrL (x6 * 8))), none, some (Iq x8), some (Iq (x9 + 1))]) eX4_odds_80 rfl o3 rfl ?_
    refine pw_goto eX4_odds_83 ?_
    exact h

set_option maxRecDepth 100000 in
theorem rg_X4_odds_101 {S : Sx} {Q : Option PV → Zm → Prop} {mem : Zm}   {x1 x2 x3 x4 x6 x8 x9 : Int} 
    (h : (0 ≤ x4) ∧ (((¬ cmpL (x4 % 2) 0 = 0) → ((((¬ x3 = 0) → (Q (some (Jq x6)) mem)) ∧ (¬ (¬ x3 = 0) → (Q (some (Jq x4)) mem))))) ∧ (¬ (¬ cmpL (x4 % 2) 0 = 0) → ((0 ≤ x6) ∧ (((¬ cmpL (x6 % 2) 0 = 0) → ((((¬ x3 = 0) → (Q (some (Jq x6)) mem)) ∧ (¬ (¬ x3 = 0) → (Q (some (Jq x4)) mem))))) ∧ (¬ (¬ cmpL (x6 % 2) 0 = 0) → ((0 ≤ x4) ∧ (0 ≤ x6) ∧ PW S mX4_odds Q 101 [some (Aq 34), some (Iq x1), some (Iq x2), some (Iq x3), some (Jq (x4 / 2)), none, some (Jq (x6 / 2)), none, some (Iq x8), some (Iq x9)] [] mem))))))) :
    PW S mX4_odds Q 101 [some (Aq 34), some (Iq x1), some (Iq x2), some (Iq x3), some (Jq x4), none, some (Jq x6), none, some (Iq x8), some (Iq x9)] [] mem := by
  refine pw_lload eX4_odds_101 rfl ?_
  refine pw_ldc2 (n := 2) eX4_odds_103 ⟨by decide, by decide⟩ kc_RX4_198 ?_
  obtain ⟨o1, h⟩ := h
  refine pw_lrem eX4_odds_106 o1 (by decide) ?_
  refine pw_lconst (v := 0) eX4_odds_107 ⟨by decide, by decide⟩ rfl ?_
  refine pw_lcmp eX4_odds_108 ?_
  refine pw_if_ne eX4_odds_109 (fun c2 => ?_) (fun c2 => ?_)
  · have h := h.1 c2
    refine pw_iload_n eX4_odds_142 rfl rfl ?_
    refine pw_if_ne eX4_odds_143 (fun c3 => ?_) (fun c3 => ?_)
    · have h := h.1 c3
      refine pw_lload eX4_odds_151 rfl ?_
      exact pw_lret eX4_odds_153 h
    · have h := h.2 c3
      refine pw_lload eX4_odds_146 rfl ?_
      refine pw_goto eX4_odds_148 ?_
      exact pw_lret eX4_odds_153 h
  · have h := h.2 c2
    refine pw_lload eX4_odds_112 rfl ?_
    refine pw_ldc2 (n := 2) eX4_odds_114 ⟨by decide, by decide⟩ kc_RX4_198 ?_
    obtain ⟨o4, h⟩ := h
    refine pw_lrem eX4_odds_117 o4 (by decide) ?_
    refine pw_lconst (v := 0) eX4_odds_118 ⟨by decide, by decide⟩ rfl ?_
    refine pw_lcmp eX4_odds_119 ?_
    refine pw_if_ne eX4_odds_120 (fun c5 => ?_) (fun c5 => ?_)
    · have h := h.1 c5
      refine pw_iload_n eX4_odds_142 rfl rfl ?_
      refine pw_if_ne eX4_odds_143 (fun c6 => ?_) (fun c6 => ?_)
      · have h := h.1 c6
        refine pw_lload eX4_odds_151 rfl ?_
        exact pw_lret eX4_odds_153 h
      · have h := h.2 c6
        refine pw_lload eX4_odds_146 rfl ?_
        refine pw_goto eX4_odds_148 ?_
        exact pw_lret eX4_odds_153 h
    · have h := h.2 c5
      refine pw_lload eX4_odds_123 rfl ?_
      refine pw_ldc2 (n := 2) eX4_odds_125 ⟨by decide, by decide⟩ kc_RX4_198 ?_
      obtain ⟨o7, h⟩ := h
      refine pw_ldiv eX4_odds_128 o7 (by decide) ?_
      refine pw_lstore (ls2 := [some (Aq 34), some (Iq x1), some (Iq x2), some (Iq x3), some (Jq (x4 / 2)), none, some (Jq x6), none, some (Iq x8), some (Iq x9)]) eX4_odds_129 (by decide) rfl ?_
      refine pw_lload eX4_odds_131 rfl ?_
      refine pw_ldc2 (n := 2) eX4_odds_133 ⟨by decide, by decide⟩ kc_RX4_198 ?_
      obtain ⟨o8, h⟩ := h
      refine pw_ldiv eX4_odds_136 o8 (by decide) ?_
      refine pw_lstore (ls2 := [some (Aq 34), some (Iq x1), some (Iq x2), some (Iq x3), some (Jq (x4 / 2)), none, some (Jq (x6 / 2)), none, some (Iq x8), some (Iq x9)]) eX4_odds_137 (by decide) rfl ?_
      refine pw_goto eX4_odds_139 ?_
      exact h
set_option maxRecDepth 100000 in
theorem rg_X4_seed_0 {S : Sx} {Q : Option PV → Zm → Prop} {mem : Zm}   {x1 : Int} 
    (h : (∃ (v1 : Int) (m2 : Zm), Ct1 S mX4_becomes [Aq 34, Iq 2, Iq x1] mem (some (Iq v1)) m2 ∧ (Q (some (Iq v1)) m2))) :
    PW S mX4_seed Q 0 [some (Aq 34), some (Iq x1)] [] mem := by
  refine pw_aload_n eX4_seed_0 rfl rfl ?_
  refine pw_iconst eX4_seed_1 ⟨by decide, by decide⟩ ?_
  refine pw_iload_n eX4_seed_2 rfl rfl ?_
  obtain ⟨v1, m2, hc3, h⟩ := h
  refine pw_cV (z := mX4_becomes) (av := [Iq 2, Iq x1]) (st := []) eX4_seed_3 lk_RX4_53 rfl (by decide) (by decide) sh34 rfl rfl (Nat.le_of_ble_eq_true rfl) rfl hc3 ?_
  show PW S mX4_seed Q 6 [some (Aq 34), some (Iq x1)] [Iq v1] m2
  exact pw_iret eX4_seed_6 h
set_option maxRecDepth 100000 in
theorem rg_X4_feed_0 {S : Sx} {Q : Option PV → Zm → Prop} {mem : Zm}   {x1 x2 : Int} 
    (h : (∃ (v1 : Int) (m2 : Zm), Ct1 S mX4_isIn [Jq x2, Jq 1, Jq 4] mem (some (Iq v1)) m2 ∧ ((((¬ v1 = 0) → ((in32 ((m2 34 7) + x2)) ∧ ((((m2 34 7) + x2 ≤ 120) → ((in32 (x2 - 1)) ∧ PW S mX4_feed Q 41 [some (Aq 34), some (Iq x1), some (Iq x2), some (Iq (x2 - 1))] [] m2)) ∧ (¬ ((m2 34 7) + x2 ≤ 120) → ((∃ (v8 : Int) (m9 : Zm), Ct1 S mX4_finds [Aq 34, Iq (-1000002)] m2 (some (Iq v8)) m9 ∧ (Q (some (Iq v8)) m9))))))) ∧ (¬ (¬ v1 = 0) → ((∃ (v11 : Int) (m12 : Zm), Ct1 S mX4_finds [Aq 34, Iq (-1000001)] m2 (some (Iq v11)) m12 ∧ (Q (some (Iq v11)) m12)))))))) :
    PW S mX4_feed Q 0 [some (Aq 34), some (Iq x1), some (Iq x2), none] [] mem := by
  refine pw_iload_n eX4_feed_0 rfl rfl ?_
  refine pw_i2l eX4_feed_1 ?_
  refine pw_lconst (v := 1) eX4_feed_2 ⟨by decide, by decide⟩ rfl ?_
  refine pw_ldc2 (n := 4) eX4_feed_3 ⟨by decide, by decide⟩ kc_RX4_200 ?_
  obtain ⟨v1, m2, hc3, h⟩ := h
  refine pw_cS (z := mX4_isIn) (av := [Jq x2, Jq 1, Jq 4]) (st := []) eX4_feed_6 lk_RX4_49 rfl (by decide) (by decide) (Nat.le_of_ble_eq_true rfl) rfl hc3 ?_
  show PW S mX4_feed Q 9 [some (Aq 34), some (Iq x1), some (Iq x2), none] [Iq v1] m2
  refine pw_if_ne eX4_feed_9 (fun c4 => ?_) (fun c4 => ?_)
  · have h := h.1 c4
    refine pw_aload_n eX4_feed_19 rfl rfl ?_
    refine gf_RX4_202 rfl eX4_feed_20 sh34 ?_
    refine pw_iload_n eX4_feed_23 rfl rfl ?_
    obtain ⟨o5, h⟩ := h
    refine pw_iadd eX4_feed_24 o5 ?_
    refine pw_bipush eX4_feed_25 ⟨by decide, by decide⟩ (by decide) ?_
    refine pw_icmp_le eX4_feed_27 (fun c6 => ?_) (fun c6 => ?_)
    · have h := h.1 c6
      refine pw_iload_n eX4_feed_37 rfl rfl ?_
      refine pw_iconst eX4_feed_38 ⟨by decide, by decide⟩ ?_
      obtain ⟨o7, h⟩ := h
      refine pw_isub eX4_feed_39 o7 ?_
      refine pw_istore_n (ls2 := [some (Aq 34), some (Iq x1), some (Iq x2), some (Iq (x2 - 1))]) eX4_feed_40 rfl (by decide) rfl ?_
      exact h
    · have h := h.2 c6
      refine pw_aload_n eX4_feed_30 rfl rfl ?_
      refine pw_ldc (n := (-1000002)) eX4_feed_31 ⟨by decide, by decide⟩ kc_RX4_66 ?_
      obtain ⟨v8, m9, hc10, h⟩ := h
      refine pw_cV (z := mX4_finds) (av := [Iq (-1000002)]) (st := []) eX4_feed_33 lk_RX4_39 rfl (by decide) (by decide) sh34 rfl rfl (Nat.le_of_ble_eq_true rfl) rfl hc10 ?_
      show PW S mX4_feed Q 36 [some (Aq 34), some (Iq x1), some (Iq x2), none] [Iq v8] m9
      exact pw_iret eX4_feed_36 h
  · have h := h.2 c4
    refine pw_aload_n eX4_feed_12 rfl rfl ?_
    refine pw_ldc (n := (-1000001)) eX4_feed_13 ⟨by decide, by decide⟩ kc_RX4_37 ?_
    obtain ⟨v11, m12, hc13, h⟩ := h
    refine pw_cV (z := mX4_finds) (av := [Iq (-1000001)]) (st := []) eX4_feed_15 lk_RX4_39 rfl (by decide) (by decide) sh34 rfl rfl (Nat.le_of_ble_eq_true rfl) rfl hc13 ?_
    show PW S mX4_feed Q 18 [some (Aq 34), some (Iq x1), some (Iq x2), none] [Iq v11] m12
    exact pw_iret eX4_feed_18 h

set_option maxRecDepth 100000 in
theorem rg_X4_feed_41 {S : Sx} {Q : Option PV → Zm → Prop} {mem : Zm}   {x1 x2 x3 : Int} 
    (h : (((x3 < 0) → (Q (some (Iq (mem 34 7))) mem)) ∧ (¬ (x3 < 0) → ((in32 (8 * x3)) ∧ (0 ≤ mem 34 7 ∧ mem 34 7 < 120) ∧ (in32 (((mup mem 40 (mem 34 7).toNat (bAnd (bShr x1 (8 * x3)) 255)) 34 7) + 1)) ∧ (in32 (x3 + (-1))) ∧ PW S mX4_feed Q 41 [some (Aq 34), some (Iq x1), some (Iq x2), some (Iq (x3 + (-1)))] [] (mup (mup mem 40 (mem 34 7).toNat (bAnd (bShr x1 (8 * x3)) 255)) 34 7 (((mup mem 40 (mem 34 7).toNat (bAnd (bShr x1 (8 * x3)) 255)) 34 7) + 1)))))) :
    PW S mX4_feed Q 41 [some (Aq 34), some (Iq x1), some (Iq x2), some (Iq x3)] [] mem := by
  refine pw_iload_n eX4_feed_41 rfl rfl ?_
  refine pw_if_lt eX4_feed_42 (fun c1 => ?_) (fun c1 => ?_)
  · have h := h.1 c1
    refine pw_aload_n eX4_feed_80 rfl rfl ?_
    refine gf_RX4_202 rfl eX4_feed_81 sh34 ?_
    exact pw_iret eX4_feed_84 h
  · have h := h.2 c1
    refine pw_aload_n eX4_feed_45 rfl rfl ?_
    refine gf_RX4_25 rfl eX4_feed_46 sh34 ?_
    refine pw_aload_n eX4_feed_49 rfl rfl ?_
    refine gf_RX4_202 rfl eX4_feed_50 sh34 ?_
    refine pw_iload_n eX4_feed_53 rfl rfl ?_
    refine pw_bipush eX4_feed_54 ⟨by decide, by decide⟩ (by decide) ?_
    refine pw_iload_n eX4_feed_56 rfl rfl ?_
    obtain ⟨o2, h⟩ := h
    refine pw_imul eX4_feed_57 o2 ?_
    refine pw_ishr eX4_feed_58 ?_
    refine pw_sipush eX4_feed_59 ⟨by decide, by decide⟩ (by decide) ?_
    refine pw_iand eX4_feed_62 ?_
    obtain ⟨o3, h⟩ := h
    refine pw_iast eX4_feed_63 sh40 o3 ?_
    refine pw_aload_n eX4_feed_64 rfl rfl ?_
    refine pw_dup eX4_feed_65 rfl ?_
    refine gf_RX4_202 rfl eX4_feed_66 sh34 ?_
    refine pw_iconst eX4_feed_69 ⟨by decide, by decide⟩ ?_
    obtain ⟨o4, h⟩ := h
    refine pw_iadd eX4_feed_70 o4 ?_
    refine pf_RX4_202 rfl eX4_feed_71 sh34 ?_
    obtain ⟨o5, h⟩ := h
    refine pw_iinc (ls2 := [some (Aq 34), some (Iq x1), some (Iq x2), some (Iq (x3 + (-1)))]) eX4_feed_74 rfl o5 rfl ?_
    refine pw_goto eX4_feed_77 ?_
    exact h
set_option maxRecDepth 100000 in
theorem rg_X4_wipe_0 {S : Sx} {Q : Option PV → Zm → Prop} {mem : Zm}   
    (h : Q (some (Iq (mem 34 7))) (mup mem 34 7 0)) :
    PW S mX4_wipe Q 0 [some (Aq 34), none] [] mem := by
  refine pw_aload_n eX4_wipe_0 rfl rfl ?_
  refine gf_RX4_202 rfl eX4_wipe_1 sh34 ?_
  refine pw_istore_n (ls2 := [some (Aq 34), some (Iq (mem 34 7))]) eX4_wipe_4 rfl (by decide) rfl ?_
  refine pw_aload_n eX4_wipe_5 rfl rfl ?_
  refine pw_iconst eX4_wipe_6 ⟨by decide, by decide⟩ ?_
  refine pf_RX4_202 rfl eX4_wipe_7 sh34 ?_
  refine pw_iload_n eX4_wipe_10 rfl rfl ?_
  exact pw_iret eX4_wipe_11 h
set_option maxRecDepth 100000 in
theorem rg_X4_isLetter_0 {S : Sx} {Q : Option PV → Zm → Prop} {mem : Zm}   {x0 : Int} 
    (h : (((x0 < 97) → (Q (some (Iq 0)) mem)) ∧ (¬ (x0 < 97) → ((((122 < x0) → (Q (some (Iq 0)) mem)) ∧ (¬ (122 < x0) → (Q (some (Iq 1)) mem))))))) :
    PW S mX4_isLetter Q 0 [some (Iq x0)] [] mem := by
  refine pw_iload_n eX4_isLetter_0 rfl rfl ?_
  refine pw_bipush eX4_isLetter_1 ⟨by decide, by decide⟩ (by decide) ?_
  refine pw_icmp_lt eX4_isLetter_3 (fun c1 => ?_) (fun c1 => ?_)
  · have h := h.1 c1
    refine pw_iconst eX4_isLetter_16 ⟨by decide, by decide⟩ ?_
    exact pw_iret eX4_isLetter_17 h
  · have h := h.2 c1
    refine pw_iload_n eX4_isLetter_6 rfl rfl ?_
    refine pw_bipush eX4_isLetter_7 ⟨by decide, by decide⟩ (by decide) ?_
    refine pw_icmp_gt eX4_isLetter_9 (fun c2 => ?_) (fun c2 => ?_)
    · have h := h.1 c2
      refine pw_iconst eX4_isLetter_16 ⟨by decide, by decide⟩ ?_
      exact pw_iret eX4_isLetter_17 h
    · have h := h.2 c2
      refine pw_iconst eX4_isLetter_12 ⟨by decide, by decide⟩ ?_
      refine pw_goto eX4_isLetter_13 ?_
      exact pw_iret eX4_isLetter_17 h
set_option maxRecDepth 100000 in
theorem rg_X4_isDigit_0 {S : Sx} {Q : Option PV → Zm → Prop} {mem : Zm}   {x0 : Int} 
    (h : (((x0 < 48) → (Q (some (Iq 0)) mem)) ∧ (¬ (x0 < 48) → ((((57 < x0) → (Q (some (Iq 0)) mem)) ∧ (¬ (57 < x0) → (Q (some (Iq 1)) mem))))))) :
    PW S mX4_isDigit Q 0 [some (Iq x0)] [] mem := by
  refine pw_iload_n eX4_isDigit_0 rfl rfl ?_
  refine pw_bipush eX4_isDigit_1 ⟨by decide, by decide⟩ (by decide) ?_
  refine pw_icmp_lt eX4_isDigit_3 (fun c1 => ?_) (fun c1 => ?_)
  · have h := h.1 c1
    refine pw_iconst eX4_isDigit_16 ⟨by decide, by decide⟩ ?_
    exact pw_iret eX4_isDigit_17 h
  · have h := h.2 c1
    refine pw_iload_n eX4_isDigit_6 rfl rfl ?_
    refine pw_bipush eX4_isDigit_7 ⟨by decide, by decide⟩ (by decide) ?_
    refine pw_icmp_gt eX4_isDigit_9 (fun c2 => ?_) (fun c2 => ?_)
    · have h := h.1 c2
      refine pw_iconst eX4_isDigit_16 ⟨by decide, by decide⟩ ?_
      exact pw_iret eX4_isDigit_17 h
    · have h := h.2 c2
      refine pw_iconst eX4_isDigit_12 ⟨by decide, by decide⟩ ?_
      refine pw_goto eX4_isDigit_13 ?_
      exact pw_iret eX4_isDigit_17 h
set_option maxRecDepth 100000 in
theorem rg_X4_byteAt_0 {S : Sx} {Q : Option PV → Zm → Prop} {mem : Zm}   {x1 : Int} 
    (h : (((mem 34 7 ≤ x1) → (Q (some (Iq (-1))) mem)) ∧ (¬ (mem 34 7 ≤ x1) → ((0 ≤ x1 ∧ x1 < 120) ∧ Q (some (Iq (mem 40 (x1).toNat))) mem)))) :
    PW S mX4_byteAt Q 0 [some (Aq 34), some (Iq x1)] [] mem := by
  refine pw_iload_n eX4_byteAt_0 rfl rfl ?_
  refine pw_aload_n eX4_byteAt_1 rfl rfl ?_
  refine gf_RX4_202 rfl eX4_byteAt_2 sh34 ?_
  refine pw_icmp_ge eX4_byteAt_5 (fun c1 => ?_) (fun c1 => ?_)
  · have h := h.1 c1
    refine pw_iconst eX4_byteAt_17 ⟨by decide, by decide⟩ ?_
    exact pw_iret eX4_byteAt_18 h
  · have h := h.2 c1
    refine pw_aload_n eX4_byteAt_8 rfl rfl ?_
    refine gf_RX4_25 rfl eX4_byteAt_9 sh34 ?_
    refine pw_iload_n eX4_byteAt_12 rfl rfl ?_
    obtain ⟨o2, h⟩ := h
    refine pw_iald eX4_byteAt_13 sh40 o2 ?_
    refine pw_goto eX4_byteAt_14 ?_
    exact pw_iret eX4_byteAt_18 h
set_option maxRecDepth 100000 in
theorem rg_X4_nextToken_0 {S : Sx} {Q : Option PV → Zm → Prop} {mem : Zm}   
    (h : PW S mX4_nextToken Q 8 [some (Aq 34), none] [] (mup mem 34 14 (mem 34 15))) :
    PW S mX4_nextToken Q 0 [some (Aq 34), none] [] mem := by
  refine pw_aload_n eX4_nextToken_0 rfl rfl ?_
  refine pw_aload_n eX4_nextToken_1 rfl rfl ?_
  refine gf_RX4_205 rfl eX4_nextToken_2 sh34 ?_
  refine pf_RX4_208 rfl eX4_nextToken_5 sh34 ?_
  exact h

set_option maxRecDepth 100000 in
theorem rg_X4_nextToken_8 {S : Sx} {Q : Option PV → Zm → Prop} {mem : Zm}   
    (h : (∃ (v1 : Int) (m2 : Zm), Ct1 S mX4_byteAt [Aq 34, Iq (mem 34 14)] mem (some (Iq v1)) m2 ∧ ((((¬ v1 = 32) → ((∃ (v5 : Int) (m6 : Zm), Ct1 S mX4_byteAt [Aq 34, Iq ((mup m2 34 15 (m2 34 14)) 34 14)] (mup m2 34 15 (m2 34 14)) (some (Iq v5)) m6 ∧ ((((0 ≤ v5) → ((∃ (v9 : Int) (m10 : Zm), Ct1 S mX4_isLetter [Iq v5] m6 (some (Iq v9)) m10 ∧ ((((v9 = 0) → ((∃ (v13 : Int) (m14 : Zm), Ct1 S mX4_isDigit [Iq v5] m10 (some (Iq v13)) m14 ∧ ((((v13 = 0) → ((((¬ v5 = 59) → (PW S mX4_nextToken Q 101 [some (Aq 34), some (Iq v5)] [] (mup (mup m14 34 13 4) 34 16 0))) ∧ (¬ (¬ v5 = 59) → (PW S mX4_nextToken Q 101 [some (Aq 34), some (Iq v5)] [] (mup (mup m14 34 13 3) 34 16 0)))))) ∧ (¬ (v13 = 0) → (PW S mX4_nextToken Q 101 [some (Aq 34), some (Iq v5)] [] (mup (mup m14 34 13 2) 34 16 0)))))))) ∧ (¬ (v9 = 0) → (PW S mX4_nextToken Q 101 [some (Aq 34), some (Iq v5)] [] (mup (mup m10 34 13 1) 34 16 0)))))))) ∧ (¬ (0 ≤ v5) → (PW S mX4_nextToken Q 101 [some (Aq 34), some (Iq v5)] [] (mup (mup m6 34 13 0) 34 16 0)))))))) ∧ (¬ (¬ v1 = 32) → ((in32 ((m2 34 14) + 1)) ∧ PW S mX4_nextToken Q 8 [some (Aq 34), none] [] (mup m2 34 14 ((m2 34 14) + 1)))))))) :
    PW S mX4_nextToken Q 8 [some (Aq 34), none] [] mem := by
  refine pw_aload_n eX4_nextToken_8 rfl rfl ?_
  refine pw_aload_n eX4_nextToken_9 rfl rfl ?_
  refine gf_RX4_208 rfl eX4_nextToken_10 sh34 ?_
  obtain ⟨v1, m2, hc3, h⟩ := h
  refine pw_cV (z := mX4_byteAt) (av := [Iq (mem 34 14)]) (st := []) eX4_nextToken_13 lk_RX4_211 rfl (by decide) (by decide) sh34 rfl rfl (Nat.le_of_ble_eq_true rfl) rfl hc3 ?_
  show PW S mX4_nextToken Q 16 [some (Aq 34), none] [Iq v1] m2
  refine pw_bipush eX4_nextToken_16 ⟨by decide, by decide⟩ (by decide) ?_
  refine pw_icmp_ne eX4_nextToken_18 (fun c4 => ?_) (fun c4 => ?_)
  · have h := h.1 c4
    refine pw_aload_n eX4_nextToken_34 rfl rfl ?_
    refine pw_aload_n eX4_nextToken_35 rfl rfl ?_
    refine gf_RX4_208 rfl eX4_nextToken_36 sh34 ?_
    refine pf_RX4_205 rfl eX4_nextToken_39 sh34 ?_
    refine pw_aload_n eX4_nextToken_42 rfl rfl ?_
    refine pw_aload_n eX4_nextToken_43 rfl rfl ?_
    refine gf_RX4_208 rfl eX4_nextToken_44 sh34 ?_
    obtain ⟨v5, m6, hc7, h⟩ := h
    refine pw_cV (z := mX4_byteAt) (av := [Iq ((mup m2 34 15 (m2 34 14)) 34 14)]) (st := []) eX4_nextToken_47 lk_RX4_211 rfl (by decide) (by decide) sh34 rfl rfl (Nat.le_of_ble_eq_true rfl) rfl hc7 ?_
    show PW S mX4_nextToken Q 50 [some (Aq 34), none] [Iq v5] m6
    refine pw_istore_n (ls2 := [some (Aq 34), some (Iq v5)]) eX4_nextToken_50 rfl (by decide) rfl ?_
    refine pw_aload_n eX4_nextToken_51 rfl rfl ?_
    refine pw_iload_n eX4_nextToken_52 rfl rfl ?_
    refine pw_if_ge eX4_nextToken_53 (fun c8 => ?_) (fun c8 => ?_)
    · have h := h.1 c8
      refine pw_iload_n eX4_nextToken_60 rfl rfl ?_
      obtain ⟨v9, m10, hc11, h⟩ := h
      refine pw_cS (z := mX4_isLetter) (av := [Iq v5]) (st := [Aq 34]) eX4_nextToken_61 lk_RX4_214 rfl (by decide) (by decide) (Nat.le_of_ble_eq_true rfl) rfl hc11 ?_
      show PW S mX4_nextToken Q 64 [some (Aq 34), some (Iq v5)] [Iq v9, Aq 34] m10
      refine pw_if_eq eX4_nextToken_64 (fun c12 => ?_) (fun c12 => ?_)
      · have h := h.1 c12
        refine pw_iload_n eX4_nextToken_71 rfl rfl ?_
        obtain ⟨v13, m14, hc15, h⟩ := h
        refine pw_cS (z := mX4_isDigit) (av := [Iq v5]) (st := [Aq 34]) eX4_nextToken_72 lk_RX4_217 rfl (by decide) (by decide) (Nat.le_of_ble_eq_true rfl) rfl hc15 ?_
        show PW S mX4_nextToken Q 75 [some (Aq 34), some (Iq v5)] [Iq v13, Aq 34] m14
        refine pw_if_eq eX4_nextToken_75 (fun c16 => ?_) (fun c16 => ?_)
        · have h := h.1 c16
          refine pw_iload_n eX4_nextToken_82 rfl rfl ?_
          refine pw_bipush eX4_nextToken_83 ⟨by decide, by decide⟩ (by decide) ?_
          refine pw_icmp_ne eX4_nextToken_85 (fun c17 => ?_) (fun c17 => ?_)
          · have h := h.1 c17
            refine pw_iconst eX4_nextToken_92 ⟨by decide, by decide⟩ ?_
            refine pf_RX4_220 rfl eX4_nextToken_93 sh34 ?_
            refine pw_aload_n eX4_nextToken_96 rfl rfl ?_
            refine pw_iconst eX4_nextToken_97 ⟨by decide, by decide⟩ ?_
            refine pf_RX4_223 rfl eX4_nextToken_98 sh34 ?_
            exact h
          · have h := h.2 c17
            refine pw_iconst eX4_nextToken_88 ⟨by decide, by decide⟩ ?_
            refine pw_goto eX4_nextToken_89 ?_
            refine pf_RX4_220 rfl eX4_nextToken_93 sh34 ?_
            refine pw_aload_n eX4_nextToken_96 rfl rfl ?_
            refine pw_iconst eX4_nextToken_97 ⟨by decide, by decide⟩ ?_
            refine pf_RX4_223 rfl eX4_nextToken_98 sh34 ?_
            exact h
        · have h := h.2 c16
          refine pw_iconst eX4_nextToken_78 ⟨by decide, by decide⟩ ?_
          refine pw_goto eX4_nextToken_79 ?_
          refine pf_RX4_220 rfl eX4_nextToken_93 sh34 ?_
          refine pw_aload_n eX4_nextToken_96 rfl rfl ?_
          refine pw_iconst eX4_nextToken_97 ⟨by decide, by decide⟩ ?_
          refine pf_RX4_223 rfl eX4_nextToken_98 sh34 ?_
          exact h
      · have h := h.2 c12
        refine pw_iconst eX4_nextToken_67 ⟨by decide, by decide⟩ ?_
        refine pw_goto eX4_nextToken_68 ?_
        refine pf_RX4_220 rfl eX4_nextToken_93 sh34 ?_
        refine pw_aload_n eX4_nextToken_96 rfl rfl ?_
        refine pw_iconst eX4_nextToken_97 ⟨by decide, by decide⟩ ?_
        refine pf_RX4_223 rfl eX4_nextToken_98 sh34 ?_
        exact h
    · have h := h.2 c8
      refine pw_iconst eX4_nextToken_56 ⟨by decide, by decide⟩ ?_
      refine pw_goto eX4_nextToken_57 ?_
      refine pf_RX4_220 rfl eX4_nextToken_93 sh34 ?_
      refine pw_aload_n eX4_nextToken_96 rfl rfl ?_
      refine pw_iconst eX4_nextToken_97 ⟨by decide, by decide⟩ ?_
      refine pf_RX4_223 rfl eX4_nextToken_98 sh34 ?_
      exact h
  · have h := h.2 c4
    refine pw_aload_n eX4_nextToken_21 rfl rfl ?_
    refine pw_dup eX4_nextToken_22 rfl ?_
    refine gf_RX4_208 rfl eX4_nextToken_23 sh34 ?_
    refine pw_iconst eX4_nextToken_26 ⟨by decide, by decide⟩ ?_
    obtain ⟨o18, h⟩ := h
    refine pw_iadd eX4_nextToken_27 o18 ?_
    refine pf_RX4_208 rfl eX4_nextToken_28 sh34 ?_
    refine pw_goto eX4_nextToken_31 ?_
    exact h

set_option maxRecDepth 100000 in
theorem rg_X4_nextToken_101 {S : Sx} {Q : Option PV → Zm → Prop} {mem : Zm}   {x1 : Int} 
    (h : (((¬ mem 34 13 = 1) → (PW S mX4_nextToken Q 136 [some (Aq 34), some (Iq x1)] [] mem)) ∧ (¬ (¬ mem 34 13 = 1) → ((∃ (v2 : Int) (m3 : Zm), Ct1 S mX4_byteAt [Aq 34, Iq (mem 34 15)] mem (some (Iq v2)) m3 ∧ ((∃ (v5 : Int) (m6 : Zm), Ct1 S mX4_isLetter [Iq v2] m3 (some (Iq v5)) m6 ∧ ((((v5 = 0) → (PW S mX4_nextToken Q 136 [some (Aq 34), some (Iq x1)] [] m6)) ∧ (¬ (v5 = 0) → ((in32 ((m6 34 15) + 1)) ∧ PW S mX4_nextToken Q 101 [some (Aq 34), some (Iq x1)] [] (mup m6 34 15 ((m6 34 15) + 1))))))))))))) :
    PW S mX4_nextToken Q 101 [some (Aq 34), some (Iq x1)] [] mem := by
  refine pw_aload_n eX4_nextToken_101 rfl rfl ?_
  refine gf_RX4_220 rfl eX4_nextToken_102 sh34 ?_
  refine pw_iconst eX4_nextToken_105 ⟨by decide, by decide⟩ ?_
  refine pw_icmp_ne eX4_nextToken_106 (fun c1 => ?_) (fun c1 => ?_)
  · have h := h.1 c1
    exact h
  · have h := h.2 c1
    refine pw_aload_n eX4_nextToken_109 rfl rfl ?_
    refine pw_aload_n eX4_nextToken_110 rfl rfl ?_
    refine gf_RX4_205 rfl eX4_nextToken_111 sh34 ?_
    obtain ⟨v2, m3, hc4, h⟩ := h
    refine pw_cV (z := mX4_byteAt) (av := [Iq (mem 34 15)]) (st := []) eX4_nextToken_114 lk_RX4_211 rfl (by decide) (by decide) sh34 rfl rfl (Nat.le_of_ble_eq_true rfl) rfl hc4 ?_
    show PW S mX4_nextToken Q 117 [some (Aq 34), some (Iq x1)] [Iq v2] m3
    obtain ⟨v5, m6, hc7, h⟩ := h
    refine pw_cS (z := mX4_isLetter) (av := [Iq v2]) (st := []) eX4_nextToken_117 lk_RX4_214 rfl (by decide) (by decide) (Nat.le_of_ble_eq_true rfl) rfl hc7 ?_
    show PW S mX4_nextToken Q 120 [some (Aq 34), some (Iq x1)] [Iq v5] m6
    refine pw_if_eq eX4_nextToken_120 (fun c8 => ?_) (fun c8 => ?_)
    · have h := h.1 c8
      exact h
    · have h := h.2 c8
      refine pw_aload_n eX4_nextToken_123 rfl rfl ?_
      refine pw_dup eX4_nextToken_124 rfl ?_
      refine gf_RX4_205 rfl eX4_nextToken_125 sh34 ?_
      refine pw_iconst eX4_nextToken_128 ⟨by decide, by decide⟩ ?_
      obtain ⟨o9, h⟩ := h
      refine pw_iadd eX4_nextToken_129 o9 ?_
      refine pf_RX4_205 rfl eX4_nextToken_130 sh34 ?_
      refine pw_goto eX4_nextToken_133 ?_
      exact h

set_option maxRecDepth 100000 in
theorem rg_X4_nextToken_136 {S : Sx} {Q : Option PV → Zm → Prop} {mem : Zm}   {x1 : Int} 
    (h : (((¬ mem 34 13 = 2) → ((((mem 34 13 ≤ 2) → ((in32 ((mem 34 15) + 0)) ∧ Q none (mup mem 34 15 ((mem 34 15) + 0)))) ∧ (¬ (mem 34 13 ≤ 2) → ((in32 ((mem 34 15) + 1)) ∧ Q none (mup mem 34 15 ((mem 34 15) + 1))))))) ∧ (¬ (¬ mem 34 13 = 2) → ((∃ (v5 : Int) (m6 : Zm), Ct1 S mX4_byteAt [Aq 34, Iq (mem 34 15)] mem (some (Iq v5)) m6 ∧ ((∃ (v8 : Int) (m9 : Zm), Ct1 S mX4_isDigit [Iq v5] m6 (some (Iq v8)) m9 ∧ ((((v8 = 0) → ((((m9 34 13 ≤ 2) → ((in32 ((m9 34 15) + 0)) ∧ Q none (mup m9 34 15 ((m9 34 15) + 0)))) ∧ (¬ (m9 34 13 ≤ 2) → ((in32 ((m9 34 15) + 1)) ∧ Q none (mup m9 34 15 ((m9 34 15) + 1))))))) ∧ (¬ (v8 = 0) → ((((m9 34 16 ≤ 999) → ((in32 (10 * (m9 34 16))) ∧ (∃ (v17 : Int) (m18 : Zm), Ct1 S mX4_byteAt [Aq 34, Iq (m9 34 15)] m9 (some (Iq v17)) m18 ∧ ((in32 ((10 * (m9 34 16)) + v17)) ∧ (in32 (((10 * (m9 34 16)) + v17) - 48)) ∧ (in32 (((mup m18 34 16 (((10 * (m9 34 16)) + v17) - 48)) 34 15) + 1)) ∧ PW S mX4_nextToken Q 136 [some (Aq 34), some (Iq x1)] [] (mup (mup m18 34 16 (((10 * (m9 34 16)) + v17) - 48)) 34 15 (((mup m18 34 16 (((10 * (m9 34 16)) + v17) - 48)) 34 15) + 1)))))) ∧ (¬ (m9 34 16 ≤ 999) → ((in32 (((mup m9 34 16 (m9 34 16)) 34 15) + 1)) ∧ PW S mX4_nextToken Q 136 [some (Aq 34), some (Iq x1)] [] (mup (mup m9 34 16 (m9 34 16)) 34 15 (((mup m9 34 16 (m9 34 16)) 34 15) + 1)))))))))))))))) :
    PW S mX4_nextToken Q 136 [some (Aq 34), some (Iq x1)] [] mem := by
  refine pw_aload_n eX4_nextToken_136 rfl rfl ?_
  refine gf_RX4_220 rfl eX4_nextToken_137 sh34 ?_
  refine pw_iconst eX4_nextToken_140 ⟨by decide, by decide⟩ ?_
  refine pw_icmp_ne eX4_nextToken_141 (fun c1 => ?_) (fun c1 => ?_)
  · have h := h.1 c1
    refine pw_aload_n eX4_nextToken_211 rfl rfl ?_
    refine pw_dup eX4_nextToken_212 rfl ?_
    refine gf_RX4_205 rfl eX4_nextToken_213 sh34 ?_
    refine pw_aload_n eX4_nextToken_216 rfl rfl ?_
    refine gf_RX4_220 rfl eX4_nextToken_217 sh34 ?_
    refine pw_iconst eX4_nextToken_220 ⟨by decide, by decide⟩ ?_
    refine pw_icmp_le eX4_nextToken_221 (fun c2 => ?_) (fun c2 => ?_)
    · have h := h.1 c2
      refine pw_iconst eX4_nextToken_228 ⟨by decide, by decide⟩ ?_
      obtain ⟨o3, h⟩ := h
      refine pw_iadd eX4_nextToken_229 o3 ?_
      refine pf_RX4_205 rfl eX4_nextToken_230 sh34 ?_
      exact pw_vret eX4_nextToken_233 h
    · have h := h.2 c2
      refine pw_iconst eX4_nextToken_224 ⟨by decide, by decide⟩ ?_
      refine pw_goto eX4_nextToken_225 ?_
      obtain ⟨o4, h⟩ := h
      refine pw_iadd eX4_nextToken_229 o4 ?_
      refine pf_RX4_205 rfl eX4_nextToken_230 sh34 ?_
      exact pw_vret eX4_nextToken_233 h
  · have h := h.2 c1
    refine pw_aload_n eX4_nextToken_144 rfl rfl ?_
    refine pw_aload_n eX4_nextToken_145 rfl rfl ?_
    refine gf_RX4_205 rfl eX4_nextToken_146 sh34 ?_
    obtain ⟨v5, m6, hc7, h⟩ := h
    refine pw_cV (z := mX4_byteAt) (av := [Iq (mem 34 15)]) (st := []) eX4_nextToken_149 lk_RX4_211 rfl (by decide) (by decide) sh34 rfl rfl (Nat.le_of_ble_eq_true rfl) rfl hc7 ?_
    show PW S mX4_nextToken Q 152 [some (Aq 34), some (Iq x1)] [Iq v5] m6
    obtain ⟨v8, m9, hc10, h⟩ := h
    refine pw_cS (z := mX4_isDigit) (av := [Iq v5]) (st := []) eX4_nextToken_152 lk_RX4_217 rfl (by decide) (by decide) (Nat.le_of_ble_eq_true rfl) rfl hc10 ?_
    show PW S mX4_nextToken Q 155 [some (Aq 34), some (Iq x1)] [Iq v8] m9
    refine pw_if_eq eX4_nextToken_155 (fun c11 => ?_) (fun c11 => ?_)
    · have h := h.1 c11
      refine pw_aload_n eX4_nextToken_211 rfl rfl ?_
      refine pw_dup eX4_nextToken_212 rfl ?_
      refine gf_RX4_205 rfl eX4_nextToken_213 sh34 ?_
      refine pw_aload_n eX4_nextToken_216 rfl rfl ?_
      refine gf_RX4_220 rfl eX4_nextToken_217 sh34 ?_
      refine pw_iconst eX4_nextToken_220 ⟨by decide, by decide⟩ ?_
      refine pw_icmp_le eX4_nextToken_221 (fun c12 => ?_) (fun c12 => ?_)
      · have h := h.1 c12
        refine pw_iconst eX4_nextToken_228 ⟨by decide, by decide⟩ ?_
        obtain ⟨o13, h⟩ := h
        refine pw_iadd eX4_nextToken_229 o13 ?_
        refine pf_RX4_205 rfl eX4_nextToken_230 sh34 ?_
        exact pw_vret eX4_nextToken_233 h
      · have h := h.2 c12
        refine pw_iconst eX4_nextToken_224 ⟨by decide, by decide⟩ ?_
        refine pw_goto eX4_nextToken_225 ?_
        obtain ⟨o14, h⟩ := h
        refine pw_iadd eX4_nextToken_229 o14 ?_
        refine pf_RX4_205 rfl eX4_nextToken_230 sh34 ?_
        exact pw_vret eX4_nextToken_233 h
    · have h := h.2 c11
      refine pw_aload_n eX4_nextToken_158 rfl rfl ?_
      refine pw_aload_n eX4_nextToken_159 rfl rfl ?_
      refine gf_RX4_223 rfl eX4_nextToken_160 sh34 ?_
      refine pw_sipush eX4_nextToken_163 ⟨by decide, by decide⟩ (by decide) ?_
      refine pw_icmp_le eX4_nextToken_166 (fun c15 => ?_) (fun c15 => ?_)
      · have h := h.1 c15
        refine pw_bipush eX4_nextToken_176 ⟨by decide, by decide⟩ (by decide) ?_
        refine pw_aload_n eX4_nextToken_178 rfl rfl ?_
        refine gf_RX4_223 rfl eX4_nextToken_179 sh34 ?_
        obtain ⟨o16, h⟩ := h
        refine pw_imul eX4_nextToken_182 o16 ?_
        refine pw_aload_n eX4_nextToken_183 rfl rfl ?_
        refine pw_aload_n eX4_nextToken_184 rfl rfl ?_
        refine gf_RX4_205 rfl eX4_nextToken_185 sh34 ?_
        obtain ⟨v17, m18, hc19, h⟩ := h
        refine pw_cV (z := mX4_byteAt) (av := [Iq (m9 34 15)]) (st := [Iq (10 * (m9 34 16)), Aq 34]) eX4_nextToken_188 lk_RX4_211 rfl (by decide) (by decide) sh34 rfl rfl (Nat.le_of_ble_eq_true rfl) rfl hc19 ?_
        show PW S mX4_nextToken Q 191 [some (Aq 34), some (Iq x1)] [Iq v17, Iq (10 * (m9 34 16)), Aq 34] m18
        obtain ⟨o20, h⟩ := h
        refine pw_iadd eX4_nextToken_191 o20 ?_
        refine pw_bipush eX4_nextToken_192 ⟨by decide, by decide⟩ (by decide) ?_
        obtain ⟨o21, h⟩ := h
        refine pw_isub eX4_nextToken_194 o21 ?_
        refine pf_RX4_223 rfl eX4_nextToken_195 sh34 ?_
        refine pw_aload_n eX4_nextToken_198 rfl rfl ?_
        refine pw_dup eX4_nextToken_199 rfl ?_
        refine gf_RX4_205 rfl eX4_nextToken_200 sh34 ?_
        refine pw_iconst eX4_nextToken_203 ⟨by decide, by decide⟩ ?_
        obtain ⟨o22, h⟩ := h
        refine pw_iadd eX4_nextToken_204 o22 ?_
        refine pf_RX4_205 rfl eX4_nextToken_205 sh34 ?_
        refine pw_goto eX4_nextToken_208 ?_
        exact h
      · have h := h.2 c15
        refine pw_aload_n eX4_nextToken_169 rfl rfl ?_
        refine gf_RX4_223 rfl eX4_nextToken_170 sh34 ?_
        refine pw_goto eX4_nextToken_173 ?_
        refine pf_RX4_223 rfl eX4_nextToken_195 sh34 ?_
        refine pw_aload_n eX4_nextToken_198 rfl rfl ?_
        refine pw_dup eX4_nextToken_199 rfl ?_
        refine gf_RX4_205 rfl eX4_nextToken_200 sh34 ?_
        refine pw_iconst eX4_nextToken_203 ⟨by decide, by decide⟩ ?_
        obtain ⟨o23, h⟩ := h
        refine pw_iadd eX4_nextToken_204 o23 ?_
        refine pf_RX4_205 rfl eX4_nextToken_205 sh34 ?_
        refine pw_goto eX4_nextToken_208 ?_
        exact h
set_option maxRecDepth 100000 in
theorem rg_X4_has3_0 {S : Sx} {Q : Option PV → Zm → Prop} {mem : Zm}   {x1 x2 x3 x4 : Int} 
    (h : (in32 ((mem 34 14) + x1)) ∧ (∃ (v2 : Int) (m3 : Zm), Ct1 S mX4_byteAt [Aq 34, Iq ((mem 34 14) + x1)] mem (some (Iq v2)) m3 ∧ ((((¬ v2 = x2) → (Q (some (Iq 0)) m3)) ∧ (¬ (¬ v2 = x2) → ((in32 ((m3 34 14) + x1)) ∧ (in32 (((m3 34 14) + x1) + 1)) ∧ (∃ (v8 : Int) (m9 : Zm), Ct1 S mX4_byteAt [Aq 34, Iq (((m3 34 14) + x1) + 1)] m3 (some (Iq v8)) m9 ∧ ((((¬ v8 = x3) → (Q (some (Iq 0)) m9)) ∧ (¬ (¬ v8 = x3) → ((in32 ((m9 34 14) + x1)) ∧ (in32 (((m9 34 14) + x1) + 2)) ∧ (∃ (v14 : Int) (m15 : Zm), Ct1 S mX4_byteAt [Aq 34, Iq (((m9 34 14) + x1) + 2)] m9 (some (Iq v14)) m15 ∧ ((((¬ v14 = x4) → (Q (some (Iq 0)) m15)) ∧ (¬ (¬ v14 = x4) → (Q (some (Iq 1)) m15)))))))))))))))) :
    PW S mX4_has3 Q 0 [some (Aq 34), some (Iq x1), some (Iq x2), some (Iq x3), some (Iq x4)] [] mem := by
  refine pw_aload_n eX4_has3_0 rfl rfl ?_
  refine pw_aload_n eX4_has3_1 rfl rfl ?_
  refine gf_RX4_208 rfl eX4_has3_2 sh34 ?_
  refine pw_iload_n eX4_has3_5 rfl rfl ?_
  obtain ⟨o1, h⟩ := h
  refine pw_iadd eX4_has3_6 o1 ?_
  obtain ⟨v2, m3, hc4, h⟩ := h
  refine pw_cV (z := mX4_byteAt) (av := [Iq ((mem 34 14) + x1)]) (st := []) eX4_has3_7 lk_RX4_211 rfl (by decide) (by decide) sh34 rfl rfl (Nat.le_of_ble_eq_true rfl) rfl hc4 ?_
  show PW S mX4_has3 Q 10 [some (Aq 34), some (Iq x1), some (Iq x2), some (Iq x3), some (Iq x4)] [Iq v2] m3
  refine pw_iload_n eX4_has3_10 rfl rfl ?_
  refine pw_icmp_ne eX4_has3_11 (fun c5 => ?_) (fun c5 => ?_)
  · have h := h.1 c5
    refine pw_iconst eX4_has3_51 ⟨by decide, by decide⟩ ?_
    exact pw_iret eX4_has3_52 h
  · have h := h.2 c5
    refine pw_aload_n eX4_has3_14 rfl rfl ?_
    refine pw_aload_n eX4_has3_15 rfl rfl ?_
    refine gf_RX4_208 rfl eX4_has3_16 sh34 ?_
    refine pw_iload_n eX4_has3_19 rfl rfl ?_
    obtain ⟨o6, h⟩ := h
    refine pw_iadd eX4_has3_20 o6 ?_
    refine pw_iconst eX4_has3_21 ⟨by decide, by decide⟩ ?_
    obtain ⟨o7, h⟩ := h
    refine pw_iadd eX4_has3_22 o7 ?_
    obtain ⟨v8, m9, hc10, h⟩ := h
    refine pw_cV (z := mX4_byteAt) (av := [Iq (((m3 34 14) + x1) + 1)]) (st := []) eX4_has3_23 lk_RX4_211 rfl (by decide) (by decide) sh34 rfl rfl (Nat.le_of_ble_eq_true rfl) rfl hc10 ?_
    show PW S mX4_has3 Q 26 [some (Aq 34), some (Iq x1), some (Iq x2), some (Iq x3), some (Iq x4)] [Iq v8] m9
    refine pw_iload_n eX4_has3_26 rfl rfl ?_
    refine pw_icmp_ne eX4_has3_27 (fun c11 => ?_) (fun c11 => ?_)
    · have h := h.1 c11
      refine pw_iconst eX4_has3_51 ⟨by decide, by decide⟩ ?_
      exact pw_iret eX4_has3_52 h
    · have h := h.2 c11
      refine pw_aload_n eX4_has3_30 rfl rfl ?_
      refine pw_aload_n eX4_has3_31 rfl rfl ?_
      refine gf_RX4_208 rfl eX4_has3_32 sh34 ?_
      refine pw_iload_n eX4_has3_35 rfl rfl ?_
      obtain ⟨o12, h⟩ := h
      refine pw_iadd eX4_has3_36 o12 ?_
      refine pw_iconst eX4_has3_37 ⟨by decide, by decide⟩ ?_
      obtain ⟨o13, h⟩ := h
      refine pw_iadd eX4_has3_38 o13 ?_
      obtain ⟨v14, m15, hc16, h⟩ := h
      refine pw_cV (z := mX4_byteAt) (av := [Iq (((m9 34 14) + x1) + 2)]) (st := []) eX4_has3_39 lk_RX4_211 rfl (by decide) (by decide) sh34 rfl rfl (Nat.le_of_ble_eq_true rfl) rfl hc16 ?_
      show PW S mX4_has3 Q 42 [some (Aq 34), some (Iq x1), some (Iq x2), some (Iq x3), some (Iq x4)] [Iq v14] m15
      refine pw_iload eX4_has3_42 rfl ?_
      refine pw_icmp_ne eX4_has3_44 (fun c17 => ?_) (fun c17 => ?_)
      · have h := h.1 c17
        refine pw_iconst eX4_has3_51 ⟨by decide, by decide⟩ ?_
        exact pw_iret eX4_has3_52 h
      · have h := h.2 c17
        refine pw_iconst eX4_has3_47 ⟨by decide, by decide⟩ ?_
        refine pw_goto eX4_has3_48 ?_
        exact pw_iret eX4_has3_52 h
set_option maxRecDepth 100000 in
theorem rg_X4_isWord_0 {S : Sx} {Q : Option PV → Zm → Prop} {mem : Zm}   {x1 : Int} 
    (h : (((¬ mem 34 13 = 1) → (Q (some (Iq 0)) mem)) ∧ (¬ (¬ mem 34 13 = 1) → ((in32 ((mem 34 15) - (mem 34 14))) ∧ (((¬ (mem 34 15) - (mem 34 14) = x1) → (Q (some (Iq 0)) mem)) ∧ (¬ (¬ (mem 34 15) - (mem 34 14) = x1) → (Q (some (Iq 1)) mem))))))) :
    PW S mX4_isWord Q 0 [some (Aq 34), some (Iq x1)] [] mem := by
  refine pw_aload_n eX4_isWord_0 rfl rfl ?_
  refine gf_RX4_220 rfl eX4_isWord_1 sh34 ?_
  refine pw_iconst eX4_isWord_4 ⟨by decide, by decide⟩ ?_
  refine pw_icmp_ne eX4_isWord_5 (fun c1 => ?_) (fun c1 => ?_)
  · have h := h.1 c1
    refine pw_iconst eX4_isWord_25 ⟨by decide, by decide⟩ ?_
    exact pw_iret eX4_isWord_26 h
  · have h := h.2 c1
    refine pw_aload_n eX4_isWord_8 rfl rfl ?_
    refine gf_RX4_205 rfl eX4_isWord_9 sh34 ?_
    refine pw_aload_n eX4_isWord_12 rfl rfl ?_
    refine gf_RX4_208 rfl eX4_isWord_13 sh34 ?_
    obtain ⟨o2, h⟩ := h
    refine pw_isub eX4_isWord_16 o2 ?_
    refine pw_iload_n eX4_isWord_17 rfl rfl ?_
    refine pw_icmp_ne eX4_isWord_18 (fun c3 => ?_) (fun c3 => ?_)
    · have h := h.1 c3
      refine pw_iconst eX4_isWord_25 ⟨by decide, by decide⟩ ?_
      exact pw_iret eX4_isWord_26 h
    · have h := h.2 c3
      refine pw_iconst eX4_isWord_21 ⟨by decide, by decide⟩ ?_
      refine pw_goto eX4_isWord_22 ?_
      exact pw_iret eX4_isWord_26 h
set_option maxRecDepth 100000 in
theorem rg_X4_fails_0 {S : Sx} {Q : Option PV → Zm → Prop} {mem : Zm}   
    (h : Q (some (Iq 0)) (mup mem 34 17 (mem 34 14))) :
    PW S mX4_fails Q 0 [some (Aq 34)] [] mem := by
  refine pw_aload_n eX4_fails_0 rfl rfl ?_
  refine pw_aload_n eX4_fails_1 rfl rfl ?_
  refine gf_RX4_208 rfl eX4_fails_2 sh34 ?_
  refine pf_RX4_226 rfl eX4_fails_5 sh34 ?_
  refine pw_iconst eX4_fails_8 ⟨by decide, by decide⟩ ?_
  exact pw_iret eX4_fails_9 h
set_option maxRecDepth 100000 in
theorem rg_X4_isFour_0 {S : Sx} {Q : Option PV → Zm → Prop} {mem : Zm}   {x1 x2 x3 x4 : Int} 
    (h : (∃ (v1 : Int) (m2 : Zm), Ct1 S mX4_isWord [Aq 34, Iq 4] mem (some (Iq v1)) m2 ∧ ((((v1 = 0) → (Q (some (Iq 0)) m2)) ∧ (¬ (v1 = 0) → ((∃ (v5 : Int) (m6 : Zm), Ct1 S mX4_has3 [Aq 34, Iq 0, Iq x1, Iq x2, Iq x3] m2 (some (Iq v5)) m6 ∧ ((((v5 = 0) → (Q (some (Iq 0)) m6)) ∧ (¬ (v5 = 0) → ((∃ (v9 : Int) (m10 : Zm), Ct1 S mX4_has3 [Aq 34, Iq 1, Iq x2, Iq x3, Iq x4] m6 (some (Iq v9)) m10 ∧ ((((v9 = 0) → (Q (some (Iq 0)) m10)) ∧ (¬ (v9 = 0) → (Q (some (Iq 1)) m10)))))))))))))))) :
    PW S mX4_isFour Q 0 [some (Aq 34), some (Iq x1), some (Iq x2), some (Iq x3), some (Iq x4)] [] mem := by
  refine pw_aload_n eX4_isFour_0 rfl rfl ?_
  refine pw_iconst eX4_isFour_1 ⟨by decide, by decide⟩ ?_
  obtain ⟨v1, m2, hc3, h⟩ := h
  refine pw_cV (z := mX4_isWord) (av := [Iq 4]) (st := []) eX4_isFour_2 lk_RX4_229 rfl (by decide) (by decide) sh34 rfl rfl (Nat.le_of_ble_eq_true rfl) rfl hc3 ?_
  show PW S mX4_isFour Q 5 [some (Aq 34), some (Iq x1), some (Iq x2), some (Iq x3), some (Iq x4)] [Iq v1] m2
  refine pw_if_eq eX4_isFour_5 (fun c4 => ?_) (fun c4 => ?_)
  · have h := h.1 c4
    refine pw_iconst eX4_isFour_35 ⟨by decide, by decide⟩ ?_
    exact pw_iret eX4_isFour_36 h
  · have h := h.2 c4
    refine pw_aload_n eX4_isFour_8 rfl rfl ?_
    refine pw_iconst eX4_isFour_9 ⟨by decide, by decide⟩ ?_
    refine pw_iload_n eX4_isFour_10 rfl rfl ?_
    refine pw_iload_n eX4_isFour_11 rfl rfl ?_
    refine pw_iload_n eX4_isFour_12 rfl rfl ?_
    obtain ⟨v5, m6, hc7, h⟩ := h
    refine pw_cV (z := mX4_has3) (av := [Iq 0, Iq x1, Iq x2, Iq x3]) (st := []) eX4_isFour_13 lk_RX4_232 rfl (by decide) (by decide) sh34 rfl rfl (Nat.le_of_ble_eq_true rfl) rfl hc7 ?_
    show PW S mX4_isFour Q 16 [some (Aq 34), some (Iq x1), some (Iq x2), some (Iq x3), some (Iq x4)] [Iq v5] m6
    refine pw_if_eq eX4_isFour_16 (fun c8 => ?_) (fun c8 => ?_)
    · have h := h.1 c8
      refine pw_iconst eX4_isFour_35 ⟨by decide, by decide⟩ ?_
      exact pw_iret eX4_isFour_36 h
    · have h := h.2 c8
      refine pw_aload_n eX4_isFour_19 rfl rfl ?_
      refine pw_iconst eX4_isFour_20 ⟨by decide, by decide⟩ ?_
      refine pw_iload_n eX4_isFour_21 rfl rfl ?_
      refine pw_iload_n eX4_isFour_22 rfl rfl ?_
      refine pw_iload eX4_isFour_23 rfl ?_
      obtain ⟨v9, m10, hc11, h⟩ := h
      refine pw_cV (z := mX4_has3) (av := [Iq 1, Iq x2, Iq x3, Iq x4]) (st := []) eX4_isFour_25 lk_RX4_232 rfl (by decide) (by decide) sh34 rfl rfl (Nat.le_of_ble_eq_true rfl) rfl hc11 ?_
      show PW S mX4_isFour Q 28 [some (Aq 34), some (Iq x1), some (Iq x2), some (Iq x3), some (Iq x4)] [Iq v9] m10
      refine pw_if_eq eX4_isFour_28 (fun c12 => ?_) (fun c12 => ?_)
      · have h := h.1 c12
        refine pw_iconst eX4_isFour_35 ⟨by decide, by decide⟩ ?_
        exact pw_iret eX4_isFour_36 h
      · have h := h.2 c12
        refine pw_iconst eX4_isFour_31 ⟨by decide, by decide⟩ ?_
        refine pw_goto eX4_isFour_32 ?_
        exact pw_iret eX4_isFour_36 h
set_option maxRecDepth 100000 in
theorem rg_X4_isFive_0 {S : Sx} {Q : Option PV → Zm → Prop} {mem : Zm}   {x1 x2 x3 x4 x5 : Int} 
    (h : (∃ (v1 : Int) (m2 : Zm), Ct1 S mX4_isWord [Aq 34, Iq 5] mem (some (Iq v1)) m2 ∧ ((((v1 = 0) → (Q (some (Iq 0)) m2)) ∧ (¬ (v1 = 0) → ((∃ (v5 : Int) (m6 : Zm), Ct1 S mX4_has3 [Aq 34, Iq 0, Iq x1, Iq x2, Iq x3] m2 (some (Iq v5)) m6 ∧ ((((v5 = 0) → (Q (some (Iq 0)) m6)) ∧ (¬ (v5 = 0) → ((∃ (v9 : Int) (m10 : Zm), Ct1 S mX4_has3 [Aq 34, Iq 2, Iq x3, Iq x4, Iq x5] m6 (some (Iq v9)) m10 ∧ ((((v9 = 0) → (Q (some (Iq 0)) m10)) ∧ (¬ (v9 = 0) → (Q (some (Iq 1)) m10)))))))))))))))) :
    PW S mX4_isFive Q 0 [some (Aq 34), some (Iq x1), some (Iq x2), some (Iq x3), some (Iq x4), some (Iq x5)] [] mem := by
  refine pw_aload_n eX4_isFive_0 rfl rfl ?_
  refine pw_iconst eX4_isFive_1 ⟨by decide, by decide⟩ ?_
  obtain ⟨v1, m2, hc3, h⟩ := h
  refine pw_cV (z := mX4_isWord) (av := [Iq 5]) (st := []) eX4_isFive_2 lk_RX4_229 rfl (by decide) (by decide) sh34 rfl rfl (Nat.le_of_ble_eq_true rfl) rfl hc3 ?_
  show PW S mX4_isFive Q 5 [some (Aq 34), some (Iq x1), some (Iq x2), some (Iq x3), some (Iq x4), some (Iq x5)] [Iq v1] m2
  refine pw_if_eq eX4_isFive_5 (fun c4 => ?_) (fun c4 => ?_)
  · have h := h.1 c4
    refine pw_iconst eX4_isFive_36 ⟨by decide, by decide⟩ ?_
    exact pw_iret eX4_isFive_37 h
  · have h := h.2 c4
    refine pw_aload_n eX4_isFive_8 rfl rfl ?_
    refine pw_iconst eX4_isFive_9 ⟨by decide, by decide⟩ ?_
    refine pw_iload_n eX4_isFive_10 rfl rfl ?_
    refine pw_iload_n eX4_isFive_11 rfl rfl ?_
    refine pw_iload_n eX4_isFive_12 rfl rfl ?_
    obtain ⟨v5, m6, hc7, h⟩ := h
    refine pw_cV (z := mX4_has3) (av := [Iq 0, Iq x1, Iq x2, Iq x3]) (st := []) eX4_isFive_13 lk_RX4_232 rfl (by decide) (by decide) sh34 rfl rfl (Nat.le_of_ble_eq_true rfl) rfl hc7 ?_
    show PW S mX4_isFive Q 16 [some (Aq 34), some (Iq x1), some (Iq x2), some (Iq x3), some (Iq x4), some (Iq x5)] [Iq v5] m6
    refine pw_if_eq eX4_isFive_16 (fun c8 => ?_) (fun c8 => ?_)
    · have h := h.1 c8
      refine pw_iconst eX4_isFive_36 ⟨by decide, by decide⟩ ?_
      exact pw_iret eX4_isFive_37 h
    · have h := h.2 c8
      refine pw_aload_n eX4_isFive_19 rfl rfl ?_
      refine pw_iconst eX4_isFive_20 ⟨by decide, by decide⟩ ?_
      refine pw_iload_n eX4_isFive_21 rfl rfl ?_
      refine pw_iload eX4_isFive_22 rfl ?_
      refine pw_iload eX4_isFive_24 rfl ?_
      obtain ⟨v9, m10, hc11, h⟩ := h
      refine pw_cV (z := mX4_has3) (av := [Iq 2, Iq x3, Iq x4, Iq x5]) (st := []) eX4_isFive_26 lk_RX4_232 rfl (by decide) (by decide) sh34 rfl rfl (Nat.le_of_ble_eq_true rfl) rfl hc11 ?_
      show PW S mX4_isFive Q 29 [some (Aq 34), some (Iq x1), some (Iq x2), some (Iq x3), some (Iq x4), some (Iq x5)] [Iq v9] m10
      refine pw_if_eq eX4_isFive_29 (fun c12 => ?_) (fun c12 => ?_)
      · have h := h.1 c12
        refine pw_iconst eX4_isFive_36 ⟨by decide, by decide⟩ ?_
        exact pw_iret eX4_isFive_37 h
      · have h := h.2 c12
        refine pw_iconst eX4_isFive_32 ⟨by decide, by decide⟩ ?_
        refine pw_goto eX4_isFive_33 ?_
        exact pw_iret eX4_isFive_37 h
set_option maxRecDepth 100000 in
theorem rg_X4_isSix_0 {S : Sx} {Q : Option PV → Zm → Prop} {mem : Zm}   {x1 x2 x3 x4 x5 x6 : Int} 
    (h : (∃ (v1 : Int) (m2 : Zm), Ct1 S mX4_isWord [Aq 34, Iq 6] mem (some (Iq v1)) m2 ∧ ((((v1 = 0) → (Q (some (Iq 0)) m2)) ∧ (¬ (v1 = 0) → ((∃ (v5 : Int) (m6 : Zm), Ct1 S mX4_has3 [Aq 34, Iq 0, Iq x1, Iq x2, Iq x3] m2 (some (Iq v5)) m6 ∧ ((((v5 = 0) → (Q (some (Iq 0)) m6)) ∧ (¬ (v5 = 0) → ((∃ (v9 : Int) (m10 : Zm), Ct1 S mX4_has3 [Aq 34, Iq 3, Iq x4, Iq x5, Iq x6] m6 (some (Iq v9)) m10 ∧ ((((v9 = 0) → (Q (some (Iq 0)) m10)) ∧ (¬ (v9 = 0) → (Q (some (Iq 1)) m10)))))))))))))))) :
    PW S mX4_isSix Q 0 [some (Aq 34), some (Iq x1), some (Iq x2), some (Iq x3), some (Iq x4), some (Iq x5), some (Iq x6)] [] mem := by
  refine pw_aload_n eX4_isSix_0 rfl rfl ?_
  refine pw_bipush eX4_isSix_1 ⟨by decide, by decide⟩ (by decide) ?_
  obtain ⟨v1, m2, hc3, h⟩ := h
  refine pw_cV (z := mX4_isWord) (av := [Iq 6]) (st := []) eX4_isSix_3 lk_RX4_229 rfl (by decide) (by decide) sh34 rfl rfl (Nat.le_of_ble_eq_true rfl) rfl hc3 ?_
  show PW S mX4_isSix Q 6 [some (Aq 34), some (Iq x1), some (Iq x2), some (Iq x3), some (Iq x4), some (Iq x5), some (Iq x6)] [Iq v1] m2
  refine pw_if_eq eX4_isSix_6 (fun c4 => ?_) (fun c4 => ?_)
  · have h := h.1 c4
    refine pw_iconst eX4_isSix_38 ⟨by decide, by decide⟩ ?_
    exact pw_iret eX4_isSix_39 h
  · have h := h.2 c4
    refine pw_aload_n eX4_isSix_9 rfl rfl ?_
    refine pw_iconst eX4_isSix_10 ⟨by decide, by decide⟩ ?_
    refine pw_iload_n eX4_isSix_11 rfl rfl ?_
    refine pw_iload_n eX4_isSix_12 rfl rfl ?_
    refine pw_iload_n eX4_isSix_13 rfl rfl ?_
    obtain ⟨v5, m6, hc7, h⟩ := h
    refine pw_cV (z := mX4_has3) (av := [Iq 0, Iq x1, Iq x2, Iq x3]) (st := []) eX4_isSix_14 lk_RX4_232 rfl (by decide) (by decide) sh34 rfl rfl (Nat.le_of_ble_eq_true rfl) rfl hc7 ?_
    show PW S mX4_isSix Q 17 [some (Aq 34), some (Iq x1), some (Iq x2), some (Iq x3), some (Iq x4), some (Iq x5), some (Iq x6)] [Iq v5] m6
    refine pw_if_eq eX4_isSix_17 (fun c8 => ?_) (fun c8 => ?_)
    · have h := h.1 c8
      refine pw_iconst eX4_isSix_38 ⟨by decide, by decide⟩ ?_
      exact pw_iret eX4_isSix_39 h
    · have h := h.2 c8
      refine pw_aload_n eX4_isSix_20 rfl rfl ?_
      refine pw_iconst eX4_isSix_21 ⟨by decide, by decide⟩ ?_
      refine pw_iload eX4_isSix_22 rfl ?_
      refine pw_iload eX4_isSix_24 rfl ?_
      refine pw_iload eX4_isSix_26 rfl ?_
      obtain ⟨v9, m10, hc11, h⟩ := h
      refine pw_cV (z := mX4_has3) (av := [Iq 3, Iq x4, Iq x5, Iq x6]) (st := []) eX4_isSix_28 lk_RX4_232 rfl (by decide) (by decide) sh34 rfl rfl (Nat.le_of_ble_eq_true rfl) rfl hc11 ?_
      show PW S mX4_isSix Q 31 [some (Aq 34), some (Iq x1), some (Iq x2), some (Iq x3), some (Iq x4), some (Iq x5), some (Iq x6)] [Iq v9] m10
      refine pw_if_eq eX4_isSix_31 (fun c12 => ?_) (fun c12 => ?_)
      · have h := h.1 c12
        refine pw_iconst eX4_isSix_38 ⟨by decide, by decide⟩ ?_
        exact pw_iret eX4_isSix_39 h
      · have h := h.2 c12
        refine pw_iconst eX4_isSix_34 ⟨by decide, by decide⟩ ?_
        refine pw_goto eX4_isSix_35 ?_
        exact pw_iret eX4_isSix_39 h
set_option maxRecDepth 100000 in
theorem rg_X4_isNumber_0 {S : Sx} {Q : Option PV → Zm → Prop} {mem : Zm}   {x1 x2 : Int} 
    (h : (((¬ mem 34 13 = 2) → ((∃ (v2 : Int) (m3 : Zm), Ct1 S mX4_fails [Aq 34] mem (some (Iq v2)) m3 ∧ ((((v2 = 0) → (Q (some (Iq 0)) m3)) ∧ (¬ (v2 = 0) → (Q (some (Iq 1)) m3))))))) ∧ (¬ (¬ mem 34 13 = 2) → ((∃ (v6 : Int) (m7 : Zm), Ct1 S mX4_isIn [Jq (mem 34 16), Jq x1, Jq x2] mem (some (Iq v6)) m7 ∧ ((((¬ v6 = 0) → (Q (some (Iq 1)) m7)) ∧ (¬ (¬ v6 = 0) → ((∃ (v10 : Int) (m11 : Zm), Ct1 S mX4_fails [Aq 34] m7 (some (Iq v10)) m11 ∧ ((((v10 = 0) → (Q (some (Iq 0)) m11)) ∧ (¬ (v10 = 0) → (Q (some (Iq 1)) m11)))))))))))))) :
    PW S mX4_isNumber Q 0 [some (Aq 34), some (Iq x1), some (Iq x2)] [] mem := by
  refine pw_aload_n eX4_isNumber_0 rfl rfl ?_
  refine gf_RX4_220 rfl eX4_isNumber_1 sh34 ?_
  refine pw_iconst eX4_isNumber_4 ⟨by decide, by decide⟩ ?_
  refine pw_icmp_ne eX4_isNumber_5 (fun c1 => ?_) (fun c1 => ?_)
  · have h := h.1 c1
    refine pw_aload_n eX4_isNumber_23 rfl rfl ?_
    obtain ⟨v2, m3, hc4, h⟩ := h
    refine pw_cV (z := mX4_fails) (av := []) (st := []) eX4_isNumber_24 lk_RX4_236 rfl (by decide) (by decide) sh34 rfl rfl (Nat.le_of_ble_eq_true rfl) rfl hc4 ?_
    show PW S mX4_isNumber Q 27 [some (Aq 34), some (Iq x1), some (Iq x2)] [Iq v2] m3
    refine pw_if_eq eX4_isNumber_27 (fun c5 => ?_) (fun c5 => ?_)
    · have h := h.1 c5
      refine pw_iconst eX4_isNumber_34 ⟨by decide, by decide⟩ ?_
      exact pw_iret eX4_isNumber_35 h
    · have h := h.2 c5
      refine pw_iconst eX4_isNumber_30 ⟨by decide, by decide⟩ ?_
      refine pw_goto eX4_isNumber_31 ?_
      exact pw_iret eX4_isNumber_35 h
  · have h := h.2 c1
    refine pw_aload_n eX4_isNumber_8 rfl rfl ?_
    refine gf_RX4_223 rfl eX4_isNumber_9 sh34 ?_
    refine pw_i2l eX4_isNumber_12 ?_
    refine pw_iload_n eX4_isNumber_13 rfl rfl ?_
    refine pw_i2l eX4_isNumber_14 ?_
    refine pw_iload_n eX4_isNumber_15 rfl rfl ?_
    refine pw_i2l eX4_isNumber_16 ?_
    obtain ⟨v6, m7, hc8, h⟩ := h
    refine pw_cS (z := mX4_isIn) (av := [Jq (mem 34 16), Jq x1, Jq x2]) (st := []) eX4_isNumber_17 lk_RX4_49 rfl (by decide) (by decide) (Nat.le_of_ble_eq_true rfl) rfl hc8 ?_
    show PW S mX4_isNumber Q 20 [some (Aq 34), some (Iq x1), some (Iq x2)] [Iq v6] m7
    refine pw_if_ne eX4_isNumber_20 (fun c9 => ?_) (fun c9 => ?_)
    · have h := h.1 c9
      refine pw_iconst eX4_isNumber_30 ⟨by decide, by decide⟩ ?_
      refine pw_goto eX4_isNumber_31 ?_
      exact pw_iret eX4_isNumber_35 h
    · have h := h.2 c9
      refine pw_aload_n eX4_isNumber_23 rfl rfl ?_
      obtain ⟨v10, m11, hc12, h⟩ := h
      refine pw_cV (z := mX4_fails) (av := []) (st := []) eX4_isNumber_24 lk_RX4_236 rfl (by decide) (by decide) sh34 rfl rfl (Nat.le_of_ble_eq_true rfl) rfl hc12 ?_
      show PW S mX4_isNumber Q 27 [some (Aq 34), some (Iq x1), some (Iq x2)] [Iq v10] m11
      refine pw_if_eq eX4_isNumber_27 (fun c13 => ?_) (fun c13 => ?_)
      · have h := h.1 c13
        refine pw_iconst eX4_isNumber_34 ⟨by decide, by decide⟩ ?_
        exact pw_iret eX4_isNumber_35 h
      · have h := h.2 c13
        refine pw_iconst eX4_isNumber_30 ⟨by decide, by decide⟩ ?_
        refine pw_goto eX4_isNumber_31 ?_
        exact pw_iret eX4_isNumber_35 h
set_option maxRecDepth 100000 in
theorem rg_X4_kindHere_0 {S : Sx} {Q : Option PV → Zm → Prop} {mem : Zm}   
    (h : (∃ (v1 : Int) (m2 : Zm), Ct1 S mX4_isFive [Aq 34, Iq 99, Iq 104, Iq 105, Iq 108, Iq 100] mem (some (Iq v1)) m2 ∧ ((((v1 = 0) → ((∃ (v5 : Int) (m6 : Zm), Ct1 S mX4_isWord [Aq 34, Iq 3] m2 (some (Iq v5)) m6 ∧ ((((v5 = 0) → ((∃ (v9 : Int) (m10 : Zm), Ct1 S mX4_isSix [Aq 34, Iq 115, Iq 108, Iq 111, Iq 112, Iq 112, Iq 121] m6 (some (Iq v9)) m10 ∧ ((((v9 = 0) → ((∃ (v13 : Int) (m14 : Zm), Ct1 S mX4_isFive [Aq 34, Iq 115, Iq 101, Iq 118, Iq 101, Iq 110] m10 (some (Iq v13)) m14 ∧ ((((v13 = 0) → ((∃ (v17 : Int) (m18 : Zm), Ct1 S mX4_isFour [Aq 34, Iq 108, Iq 97, Iq 122, Iq 121] m14 (some (Iq v17)) m18 ∧ ((((v17 = 0) → ((∃ (v21 : Int) (m22 : Zm), Ct1 S mX4_isSix [Aq 34, Iq 104, Iq 111, Iq 110, Iq 101, Iq 115, Iq 116] m18 (some (Iq v21)) m22 ∧ ((((v21 = 0) → ((∃ (v25 : Int) (m26 : Zm), Ct1 S mX4_isSix [Aq 34, Iq 115, Iq 101, Iq 108, Iq 108, Iq 101, Iq 114] m22 (some (Iq v25)) m26 ∧ ((((v25 = 0) → (Q (some (Iq (-1))) m26)) ∧ (¬ (v25 = 0) → (Q (some (Iq 6)) m26))))))) ∧ (¬ (v21 = 0) → (Q (some (Iq 5)) m22))))))) ∧ (¬ (v17 = 0) → (Q (some (Iq 4)) m18))))))) ∧ (¬ (v13 = 0) → (Q (some (Iq 3)) m14))))))) ∧ (¬ (v9 = 0) → (Q (some (Iq 2)) m10))))))) ∧ (¬ (v5 = 0) → ((∃ (v29 : Int) (m30 : Zm), Ct1 S mX4_has3 [Aq 34, Iq 0, Iq 115, Iq 108, Iq 121] m6 (some (Iq v29)) m30 ∧ ((((v29 = 0) → ((∃ (v33 : Int) (m34 : Zm), Ct1 S mX4_isSix [Aq 34, Iq 115, Iq 108, Iq 111, Iq 112, Iq 112, Iq 121] m30 (some (Iq v33)) m34 ∧ ((((v33 = 0) → ((∃ (v37 : Int) (m38 : Zm), Ct1 S mX4_isFive [Aq 34, Iq 115, Iq 101, Iq 118, Iq 101, Iq 110] m34 (some (Iq v37)) m38 ∧ ((((v37 = 0) → ((∃ (v41 : Int) (m42 : Zm), Ct1 S mX4_isFour [Aq 34, Iq 108, Iq 97, Iq 122, Iq 121] m38 (some (Iq v41)) m42 ∧ ((((v41 = 0) → ((∃ (v45 : Int) (m46 : Zm), Ct1 S mX4_isSix [Aq 34, Iq 104, Iq 111, Iq 110, Iq 101, Iq 115, Iq 116] m42 (some (Iq v45)) m46 ∧ ((((v45 = 0) → ((∃ (v49 : Int) (m50 : Zm), Ct1 S mX4_isSix [Aq 34, Iq 115, Iq 101, Iq 108, Iq 108, Iq 101, Iq 114] m46 (some (Iq v49)) m50 ∧ ((((v49 = 0) → (Q (some (Iq (-1))) m50)) ∧ (¬ (v49 = 0) → (Q (some (Iq 6)) m50))))))) ∧ (¬ (v45 = 0) → (Q (some (Iq 5)) m46))))))) ∧ (¬ (v41 = 0) → (Q (some (Iq 4)) m42))))))) ∧ (¬ (v37 = 0) → (Q (some (Iq 3)) m38))))))) ∧ (¬ (v33 = 0) → (Q (some (Iq 2)) m34))))))) ∧ (¬ (v29 = 0) → (Q (some (Iq 1)) m30)))))))))))) ∧ (¬ (v1 = 0) → (Q (some (Iq 0)) m2)))))) :
    PW S mX4_kindHere Q 0 [some (Aq 34)] [] mem := by
  refine pw_aload_n eX4_kindHere_0 rfl rfl ?_
  refine pw_bipush eX4_kindHere_1 ⟨by decide, by decide⟩ (by decide) ?_
  refine pw_bipush eX4_kindHere_3 ⟨by decide, by decide⟩ (by decide) ?_
  refine pw_bipush eX4_kindHere_5 ⟨by decide, by decide⟩ (by decide) ?_
  refine pw_bipush eX4_kindHere_7 ⟨by decide, by decide⟩ (by decide) ?_
  refine pw_bipush eX4_kindHere_9 ⟨by decide, by decide⟩ (by decide) ?_
  obtain ⟨v1, m2, hc3, h⟩ := h
  refine pw_cV (z := mX4_isFive) (av := [Iq 99, Iq 104, Iq 105, Iq 108, Iq 100]) (st := []) eX4_kindHere_11 lk_RX4_240 rfl (by decide) (by decide) sh34 rfl rfl (Nat.le_of_ble_eq_true rfl) rfl hc3 ?_
  show PW S mX4_kindHere Q 14 [some (Aq 34)] [Iq v1] m2
  refine pw_if_eq eX4_kindHere_14 (fun c4 => ?_) (fun c4 => ?_)
  · have h := h.1 c4
    refine pw_aload_n eX4_kindHere_19 rfl rfl ?_
    refine pw_iconst eX4_kindHere_20 ⟨by decide, by decide⟩ ?_
    obtain ⟨v5, m6, hc7, h⟩ := h
    refine pw_cV (z := mX4_isWord) (av := [Iq 3]) (st := []) eX4_kindHere_21 lk_RX4_229 rfl (by decide) (by decide) sh34 rfl rfl (Nat.le_of_ble_eq_true rfl) rfl hc7 ?_
    show PW S mX4_kindHere Q 24 [some (Aq 34)] [Iq v5] m6
    refine pw_if_eq eX4_kindHere_24 (fun c8 => ?_) (fun c8 => ?_)
    · have h := h.1 c8
      refine pw_aload_n eX4_kindHere_43 rfl rfl ?_
      refine pw_bipush eX4_kindHere_44 ⟨by decide, by decide⟩ (by decide) ?_
      refine pw_bipush eX4_kindHere_46 ⟨by decide, by decide⟩ (by decide) ?_
      refine pw_bipush eX4_kindHere_48 ⟨by decide, by decide⟩ (by decide) ?_
      refine pw_bipush eX4_kindHere_50 ⟨by decide, by decide⟩ (by decide) ?_
      refine pw_bipush eX4_kindHere_52 ⟨by decide, by decide⟩ (by decide) ?_
      refine pw_bipush eX4_kindHere_54 ⟨by decide, by decide⟩ (by decide) ?_
      obtain ⟨v9, m10, hc11, h⟩ := h
      refine pw_cV (z := mX4_isSix) (av := [Iq 115, Iq 108, Iq 111, Iq 112, Iq 112, Iq 121]) (st := []) eX4_kindHere_56 lk_RX4_244 rfl (by decide) (by decide) sh34 rfl rfl (Nat.le_of_ble_eq_true rfl) rfl hc11 ?_
      show PW S mX4_kindHere Q 59 [some (Aq 34)] [Iq v9] m10
      refine pw_if_eq eX4_kindHere_59 (fun c12 => ?_) (fun c12 => ?_)
      · have h := h.1 c12
        refine pw_aload_n eX4_kindHere_64 rfl rfl ?_
        refine pw_bipush eX4_kindHere_65 ⟨by decide, by decide⟩ (by decide) ?_
        refine pw_bipush eX4_kindHere_67 ⟨by decide, by decide⟩ (by decide) ?_
        refine pw_bipush eX4_kindHere_69 ⟨by decide, by decide⟩ (by decide) ?_
        refine pw_bipush eX4_kindHere_71 ⟨by decide, by decide⟩ (by decide) ?_
        refine pw_bipush eX4_kindHere_73 ⟨by decide, by decide⟩ (by decide) ?_
        obtain ⟨v13, m14, hc15, h⟩ := h
        refine pw_cV (z := mX4_isFive) (av := [Iq 115, Iq 101, Iq 118, Iq 101, Iq 110]) (st := []) eX4_kindHere_75 lk_RX4_240 rfl (by decide) (by decide) sh34 rfl rfl (Nat.le_of_ble_eq_true rfl) rfl hc15 ?_
        show PW S mX4_kindHere Q 78 [some (Aq 34)] [Iq v13] m14
        refine pw_if_eq eX4_kindHere_78 (fun c16 => ?_) (fun c16 => ?_)
        · have h := h.1 c16
          refine pw_aload_n eX4_kindHere_83 rfl rfl ?_
          refine pw_bipush eX4_kindHere_84 ⟨by decide, by decide⟩ (by decide) ?_
          refine pw_bipush eX4_kindHere_86 ⟨by decide, by decide⟩ (by decide) ?_
          refine pw_bipush eX4_kindHere_88 ⟨by decide, by decide⟩ (by decide) ?_
          refine pw_bipush eX4_kindHere_90 ⟨by decide, by decide⟩ (by decide) ?_
          obtain ⟨v17, m18, hc19, h⟩ := h
          refine pw_cV (z := mX4_isFour) (av := [Iq 108, Iq 97, Iq 122, Iq 121]) (st := []) eX4_kindHere_92 lk_RX4_248 rfl (by decide) (by decide) sh34 rfl rfl (Nat.le_of_ble_eq_true rfl) rfl hc19 ?_
          show PW S mX4_kindHere Q 95 [some (Aq 34)] [Iq v17] m18
          refine pw_if_eq eX4_kindHere_95 (fun c20 => ?_) (fun c20 => ?_)
          · have h := h.1 c20
            refine pw_aload_n eX4_kindHere_100 rfl rfl ?_
            refine pw_bipush eX4_kindHere_101 ⟨by decide, by decide⟩ (by decide) ?_
            refine pw_bipush eX4_kindHere_103 ⟨by decide, by decide⟩ (by decide) ?_
            refine pw_bipush eX4_kindHere_105 ⟨by decide, by decide⟩ (by decide) ?_
            refine pw_bipush eX4_kindHere_107 ⟨by decide, by decide⟩ (by decide) ?_
            refine pw_bipush eX4_kindHere_109 ⟨by decide, by decide⟩ (by decide) ?_
            refine pw_bipush eX4_kindHere_111 ⟨by decide, by decide⟩ (by decide) ?_
            obtain ⟨v21, m22, hc23, h⟩ := h
            refine pw_cV (z := mX4_isSix) (av := [Iq 104, Iq 111, Iq 110, Iq 101, Iq 115, Iq 116]) (st := []) eX4_kindHere_113 lk_RX4_244 rfl (by decide) (by decide) sh34 rfl rfl (Nat.le_of_ble_eq_true rfl) rfl hc23 ?_
            show PW S mX4_kindHere Q 116 [some (Aq 34)] [Iq v21] m22
            refine pw_if_eq eX4_kindHere_116 (fun c24 => ?_) (fun c24 => ?_)
            · have h := h.1 c24
              refine pw_aload_n eX4_kindHere_121 rfl rfl ?_
              refine pw_bipush eX4_kindHere_122 ⟨by decide, by decide⟩ (by decide) ?_
              refine pw_bipush eX4_kindHere_124 ⟨by decide, by decide⟩ (by decide) ?_
              refine pw_bipush eX4_kindHere_126 ⟨by decide, by decide⟩ (by decide) ?_
              refine pw_bipush eX4_kindHere_128 ⟨by decide, by decide⟩ (by decide) ?_
              refine pw_bipush eX4_kindHere_130 ⟨by decide, by decide⟩ (by decide) ?_
              refine pw_bipush eX4_kindHere_132 ⟨by decide, by decide⟩ (by decide) ?_
              obtain ⟨v25, m26, hc27, h⟩ := h
              refine pw_cV (z := mX4_isSix) (av := [Iq 115, Iq 101, Iq 108, Iq 108, Iq 101, Iq 114]) (st := []) eX4_kindHere_134 lk_RX4_244 rfl (by decide) (by decide) sh34 rfl rfl (Nat.le_of_ble_eq_true rfl) rfl hc27 ?_
              show PW S mX4_kindHere Q 137 [some (Aq 34)] [Iq v25] m26
              refine pw_if_eq eX4_kindHere_137 (fun c28 => ?_) (fun c28 => ?_)
              · have h := h.1 c28
                refine pw_iconst eX4_kindHere_145 ⟨by decide, by decide⟩ ?_
                exact pw_iret eX4_kindHere_146 h
              · have h := h.2 c28
                refine pw_bipush eX4_kindHere_140 ⟨by decide, by decide⟩ (by decide) ?_
                refine pw_goto eX4_kindHere_142 ?_
                exact pw_iret eX4_kindHere_146 h
            · have h := h.2 c24
              refine pw_iconst eX4_kindHere_119 ⟨by decide, by decide⟩ ?_
              exact pw_iret eX4_kindHere_120 h
          · have h := h.2 c20
            refine pw_iconst eX4_kindHere_98 ⟨by decide, by decide⟩ ?_
            exact pw_iret eX4_kindHere_99 h
        · have h := h.2 c16
          refine pw_iconst eX4_kindHere_81 ⟨by decide, by decide⟩ ?_
          exact pw_iret eX4_kindHere_82 h
      · have h := h.2 c12
        refine pw_iconst eX4_kindHere_62 ⟨by decide, by decide⟩ ?_
        exact pw_iret eX4_kindHere_63 h
    · have h := h.2 c8
      refine pw_aload_n eX4_kindHere_27 rfl rfl ?_
      refine pw_iconst eX4_kindHere_28 ⟨by decide, by decide⟩ ?_
      refine pw_bipush eX4_kindHere_29 ⟨by decide, by decide⟩ (by decide) ?_
      refine pw_bipush eX4_kindHere_31 ⟨by decide, by decide⟩ (by decide) ?_
      refine pw_bipush eX4_kindHere_33 ⟨by decide, by decide⟩ (by decide) ?_
      obtain ⟨v29, m30, hc31, h⟩ := h
      refine pw_cV (z := mX4_has3) (av := [Iq 0, Iq 115, Iq 108, Iq 121]) (st := []) eX4_kindHere_35 lk_RX4_232 rfl (by decide) (by decide) sh34 rfl rfl (Nat.le_of_ble_eq_true rfl) rfl hc31 ?_
      show PW S mX4_kindHere Q 38 [some (Aq 34)] [Iq v29] m30
      refine pw_if_eq eX4_kindHere_38 (fun c32 => ?_) (fun c32 => ?_)
      · have h := h.1 c32
        refine pw_aload_n eX4_kindHere_43 rfl rfl ?_
        refine pw_bipush eX4_kindHere_44 ⟨by decide, by decide⟩ (by decide) ?_
        refine pw_bipush eX4_kindHere_46 ⟨by decide, by decide⟩ (by decide) ?_
        refine pw_bipush eX4_kindHere_48 ⟨by decide, by decide⟩ (by decide) ?_
        refine pw_bipush eX4_kindHere_50 ⟨by decide, by decide⟩ (by decide) ?_
        refine pw_bipush eX4_kindHere_52 ⟨by decide, by decide⟩ (by decide) ?_
        refine pw_bipush eX4_kindHere_54 ⟨by decide, by decide⟩ (by decide) ?_
        obtain ⟨v33, m34, hc35, h⟩ := h
        refine pw_cV (z := mX4_isSix) (av := [Iq 115, Iq 108, Iq 111, Iq 112, Iq 112, Iq 121]) (st := []) eX4_kindHere_56 lk_RX4_244 rfl (by decide) (by decide) sh34 rfl rfl (Nat.le_of_ble_eq_true rfl) rfl hc35 ?_
        show PW S mX4_kindHere Q 59 [some (Aq 34)] [Iq v33] m34
        refine pw_if_eq eX4_kindHere_59 (fun c36 => ?_) (fun c36 => ?_)
        · have h := h.1 c36
          refine pw_aload_n eX4_kindHere_64 rfl rfl ?_
          refine pw_bipush eX4_kindHere_65 ⟨by decide, by decide⟩ (by decide) ?_
          refine pw_bipush eX4_kindHere_67 ⟨by decide, by decide⟩ (by decide) ?_
          refine pw_bipush eX4_kindHere_69 ⟨by decide, by decide⟩ (by decide) ?_
          refine pw_bipush eX4_kindHere_71 ⟨by decide, by decide⟩ (by decide) ?_
          refine pw_bipush eX4_kindHere_73 ⟨by decide, by decide⟩ (by decide) ?_
          obtain ⟨v37, m38, hc39, h⟩ := h
          refine pw_cV (z := mX4_isFive) (av := [Iq 115, Iq 101, Iq 118, Iq 101, Iq 110]) (st := []) eX4_kindHere_75 lk_RX4_240 rfl (by decide) (by decide) sh34 rfl rfl (Nat.le_of_ble_eq_true rfl) rfl hc39 ?_
          show PW S mX4_kindHere Q 78 [some (Aq 34)] [Iq v37] m38
          refine pw_if_eq eX4_kindHere_78 (fun c40 => ?_) (fun c40 => ?_)
          · have h := h.1 c40
            refine pw_aload_n eX4_kindHere_83 rfl rfl ?_
            refine pw_bipush eX4_kindHere_84 ⟨by decide, by decide⟩ (by decide) ?_
            refine pw_bipush eX4_kindHere_86 ⟨by decide, by decide⟩ (by decide) ?_
            refine pw_bipush eX4_kindHere_88 ⟨by decide, by decide⟩ (by decide) ?_
            refine pw_bipush eX4_kindHere_90 ⟨by decide, by decide⟩ (by decide) ?_
            obtain ⟨v41, m42, hc43, h⟩ := h
            refine pw_cV (z := mX4_isFour) (av := [Iq 108, Iq 97, Iq 122, Iq 121]) (st := []) eX4_kindHere_92 lk_RX4_248 rfl (by decide) (by decide) sh34 rfl rfl (Nat.le_of_ble_eq_true rfl) rfl hc43 ?_
            show PW S mX4_kindHere Q 95 [some (Aq 34)] [Iq v41] m42
            refine pw_if_eq eX4_kindHere_95 (fun c44 => ?_) (fun c44 => ?_)
            · have h := h.1 c44
              refine pw_aload_n eX4_kindHere_100 rfl rfl ?_
              refine pw_bipush eX4_kindHere_101 ⟨by decide, by decide⟩ (by decide) ?_
              refine pw_bipush eX4_kindHere_103 ⟨by decide, by decide⟩ (by decide) ?_
              refine pw_bipush eX4_kindHere_105 ⟨by decide, by decide⟩ (by decide) ?_
              refine pw_bipush eX4_kindHere_107 ⟨by decide, by decide⟩ (by decide) ?_
              refine pw_bipush eX4_kindHere_109 ⟨by decide, by decide⟩ (by decide) ?_
              refine pw_bipush eX4_kindHere_111 ⟨by decide, by decide⟩ (by decide) ?_
              obtain ⟨v45, m46, hc47, h⟩ := h
              refine pw_cV (z := mX4_isSix) (av := [Iq 104, Iq 111, Iq 110, Iq 101, Iq 115, Iq 116]) (st := []) eX4_kindHere_113 lk_RX4_244 rfl (by decide) (by decide) sh34 rfl rfl (Nat.le_of_ble_eq_true rfl) rfl hc47 ?_
              show PW S mX4_kindHere Q 116 [some (Aq 34)] [Iq v45] m46
              refine pw_if_eq eX4_kindHere_116 (fun c48 => ?_) (fun c48 => ?_)
              · have h := h.1 c48
                refine pw_aload_n eX4_kindHere_121 rfl rfl ?_
                refine pw_bipush eX4_kindHere_122 ⟨by decide, by decide⟩ (by decide) ?_
                refine pw_bipush eX4_kindHere_124 ⟨by decide, by decide⟩ (by decide) ?_
                refine pw_bipush eX4_kindHere_126 ⟨by decide, by decide⟩ (by decide) ?_
                refine pw_bipush eX4_kindHere_128 ⟨by decide, by decide⟩ (by decide) ?_
                refine pw_bipush eX4_kindHere_130 ⟨by decide, by decide⟩ (by decide) ?_
                refine pw_bipush eX4_kindHere_132 ⟨by decide, by decide⟩ (by decide) ?_
                obtain ⟨v49, m50, hc51, h⟩ := h
                refine pw_cV (z := mX4_isSix) (av := [Iq 115, Iq 101, Iq 108, Iq 108, Iq 101, Iq 114]) (st := []) eX4_kindHere_134 lk_RX4_244 rfl (by decide) (by decide) sh34 rfl rfl (Nat.le_of_ble_eq_true rfl) rfl hc51 ?_
                show PW S mX4_kindHere Q 137 [some (Aq 34)] [Iq v49] m50
                refine pw_if_eq eX4_kindHere_137 (fun c52 => ?_) (fun c52 => ?_)
                · have h := h.1 c52
                  refine pw_iconst eX4_kindHere_145 ⟨by decide, by decide⟩ ?_
                  exact pw_iret eX4_kindHere_146 h
                · have h := h.2 c52
                  refine pw_bipush eX4_kindHere_140 ⟨by decide, by decide⟩ (by decide) ?_
                  refine pw_goto eX4_kindHere_142 ?_
                  exact pw_iret eX4_kindHere_146 h
              · have h := h.2 c48
                refine pw_iconst eX4_kindHere_119 ⟨by decide, by decide⟩ ?_
                exact pw_iret eX4_kindHere_120 h
            · have h := h.2 c44
              refine pw_iconst eX4_kindHere_98 ⟨by decide, by decide⟩ ?_
              exact pw_iret eX4_kindHere_99 h
          · have h := h.2 c40
            refine pw_iconst eX4_kindHere_81 ⟨by decide, by decide⟩ ?_
            exact pw_iret eX4_kindHere_82 h
        · have h := h.2 c36
          refine pw_iconst eX4_kindHere_62 ⟨by decide, by decide⟩ ?_
          exact pw_iret eX4_kindHere_63 h
      · have h := h.2 c32
        refine pw_iconst eX4_kindHere_41 ⟨by decide, by decide⟩ ?_
        exact pw_iret eX4_kindHere_42 h
  · have h := h.2 c4
    refine pw_iconst eX4_kindHere_17 ⟨by decide, by decide⟩ ?_
    exact pw_iret eX4_kindHere_18 h
set_option maxRecDepth 100000 in
theorem rg_X4_perhaps_0 {S : Sx} {Q : Option PV → Zm → Prop} {mem : Zm}   {x1 x2 x3 x4 : Int} 
    (h : (((¬ x1 = 0) → ((∃ (m3 : Zm), Ct1 S mX4_nextToken [Aq 34] mem none m3 ∧ ((∃ (v5 : Int) (m6 : Zm), Ct1 S mX4_isNumber [Aq 34, Iq x3, Iq x4] m3 (some (Iq v5)) m6 ∧ ((((¬ v5 = 0) → ((0 ≤ x2 ∧ x2 < 134) ∧ (∃ (m11 : Zm), Ct1 S mX4_nextToken [Aq 34] (mup m6 35 (x2).toNat (m6 34 16)) none m11 ∧ (Q (some (Iq 1)) m11)))) ∧ (¬ (¬ v5 = 0) → (Q (some (Iq 0)) m6))))))))) ∧ (¬ (¬ x1 = 0) → (Q (some (Iq 1)) mem)))) :
    PW S mX4_perhaps Q 0 [some (Aq 34), some (Iq x1), some (Iq x2), some (Iq x3), some (Iq x4)] [] mem := by
  refine pw_iload_n eX4_perhaps_0 rfl rfl ?_
  refine pw_if_ne eX4_perhaps_1 (fun c1 => ?_) (fun c1 => ?_)
  · have h := h.1 c1
    refine pw_aload_n eX4_perhaps_6 rfl rfl ?_
    obtain ⟨m3, hc4, h⟩ := h
    refine pw_cV (z := mX4_nextToken) (av := []) (st := []) eX4_perhaps_7 lk_RX4_251 rfl (by decide) (by decide) sh34 rfl rfl (Nat.le_of_ble_eq_true rfl) rfl hc4 ?_
    show PW S mX4_perhaps Q 10 [some (Aq 34), some (Iq x1), some (Iq x2), some (Iq x3), some (Iq x4)] [] m3
    refine pw_aload_n eX4_perhaps_10 rfl rfl ?_
    refine pw_iload_n eX4_perhaps_11 rfl rfl ?_
    refine pw_iload eX4_perhaps_12 rfl ?_
    obtain ⟨v5, m6, hc7, h⟩ := h
    refine pw_cV (z := mX4_isNumber) (av := [Iq x3, Iq x4]) (st := []) eX4_perhaps_14 lk_RX4_254 rfl (by decide) (by decide) sh34 rfl rfl (Nat.le_of_ble_eq_true rfl) rfl hc7 ?_
    show PW S mX4_perhaps Q 17 [some (Aq 34), some (Iq x1), some (Iq x2), some (Iq x3), some (Iq x4)] [Iq v5] m6
    refine pw_if_ne eX4_perhaps_17 (fun c8 => ?_) (fun c8 => ?_)
    · have h := h.1 c8
      refine pw_aload_n eX4_perhaps_22 rfl rfl ?_
      refine gf_RX4_7 rfl eX4_perhaps_23 sh34 ?_
      refine pw_iload_n eX4_perhaps_26 rfl rfl ?_
      refine pw_aload_n eX4_perhaps_27 rfl rfl ?_
      refine gf_RX4_223 rfl eX4_perhaps_28 sh34 ?_
      obtain ⟨o9, h⟩ := h
      refine pw_iast eX4_perhaps_31 sh35 o9 ?_
      refine pw_aload_n eX4_perhaps_32 rfl rfl ?_
      obtain ⟨m11, hc12, h⟩ := h
      refine pw_cV (z := mX4_nextToken) (av := []) (st := []) eX4_perhaps_33 lk_RX4_251 rfl (by decide) (by decide) sh34 rfl rfl (Nat.le_of_ble_eq_true rfl) rfl hc12 ?_
      show PW S mX4_perhaps Q 36 [some (Aq 34), some (Iq x1), some (Iq x2), some (Iq x3), some (Iq x4)] [] m11
      refine pw_iconst eX4_perhaps_36 ⟨by decide, by decide⟩ ?_
      exact pw_iret eX4_perhaps_37 h
    · have h := h.2 c8
      refine pw_iconst eX4_perhaps_20 ⟨by decide, by decide⟩ ?_
      exact pw_iret eX4_perhaps_21 h
  · have h := h.2 c1
    refine pw_iconst eX4_perhaps_4 ⟨by decide, by decide⟩ ?_
    exact pw_iret eX4_perhaps_5 h
set_option maxRecDepth 100000 in
theorem rg_X4_childHere_0 {S : Sx} {Q : Option PV → Zm → Prop} {mem : Zm}   {x1 : Int} 
    (h : (((¬ mem 35 0 = 8) → ((∃ (m3 : Zm), Ct1 S mX4_comes [Aq 34, Iq x1, Iq 0] mem none m3 ∧ ((in32 ((m3 35 0) - 1)) ∧ (∃ (m7 : Zm), Ct1 S mX4_nextToken [Aq 34] m3 none m7 ∧ ((∃ (v9 : Int) (m10 : Zm), Ct1 S mX4_isFive [Aq 34, Iq 107, Iq 110, Iq 111, Iq 119, Iq 115] m7 (some (Iq v9)) m10 ∧ ((∃ (v12 : Int) (m13 : Zm), Ct1 S mX4_at [Iq ((m3 35 0) - 1), Iq 1] m10 (some (Iq v12)) m13 ∧ ((∃ (v15 : Int) (m16 : Zm), Ct1 S mX4_perhaps [Aq 34, Iq v9, Iq v12, Iq 0, Iq 255] m13 (some (Iq v15)) m16 ∧ ((((v15 = 0) → (Q (some (Iq 0)) m16)) ∧ (¬ (v15 = 0) → ((∃ (v19 : Int) (m20 : Zm), Ct1 S mX4_isFour [Aq 34, Iq 102, Iq 114, Iq 111, Iq 109] m16 (some (Iq v19)) m20 ∧ ((∃ (v22 : Int) (m23 : Zm), Ct1 S mX4_at [Iq ((m3 35 0) - 1), Iq 2] m20 (some (Iq v22)) m23 ∧ ((in32 (((m3 35 0) - 1) - 1)) ∧ (∃ (v26 : Int) (m27 : Zm), Ct1 S mX4_perhaps [Aq 34, Iq v19, Iq v22, Iq 0, Iq (((m3 35 0) - 1) - 1)] m23 (some (Iq v26)) m27 ∧ ((((v26 = 0) → (Q (some (Iq 0)) m27)) ∧ (¬ (v26 = 0) → ((∃ (v30 : Int) (m31 : Zm), Ct1 S mX4_isWord [Aq 34, Iq 8] m27 (some (Iq v30)) m31 ∧ ((((v30 = 0) → ((∃ (v34 : Int) (m35 : Zm), Ct1 S mX4_at [Iq ((m3 35 0) - 1), Iq 4] m31 (some (Iq v34)) m35 ∧ ((∃ (v37 : Int) (m38 : Zm), Ct1 S mX4_perhaps [Aq 34, Iq 0, Iq v34, Iq 0, Iq 999] m35 (some (Iq v37)) m38 ∧ ((((v37 = 0) → (Q (some (Iq 0)) m38)) ∧ (¬ (v37 = 0) → (Q (some (Iq 1)) m38))))))))) ∧ (¬ (v30 = 0) → ((∃ (v41 : Int) (m42 : Zm), Ct1 S mX4_has3 [Aq 34, Iq 0, Iq 98, Iq 105, Iq 115] m31 (some (Iq v41)) m42 ∧ ((((v41 = 0) → ((∃ (v45 : Int) (m46 : Zm), Ct1 S mX4_at [Iq ((m3 35 0) - 1), Iq 4] m42 (some (Iq v45)) m46 ∧ ((∃ (v48 : Int) (m49 : Zm), Ct1 S mX4_perhaps [Aq 34, Iq 0, Iq v45, Iq 0, Iq 999] m46 (some (Iq v48)) m49 ∧ ((((v48 = 0) → (Q (some (Iq 0)) m49)) ∧ (¬ (v48 = 0) → (Q (some (Iq 1)) m49))))))))) ∧ (¬ (v41 = 0) → ((∃ (v52 : Int) (m53 : Zm), Ct1 S mX4_has3 [Aq 34, Iq 3, Iq 99, Iq 117, Iq 105] m42 (some (Iq v52)) m53 ∧ ((((v52 = 0) → ((∃ (v56 : Int) (m57 : Zm), Ct1 S mX4_at [Iq ((m3 35 0) - 1), Iq 4] m53 (some (Iq v56)) m57 ∧ ((∃ (v59 : Int) (m60 : Zm), Ct1 S mX4_perhaps [Aq 34, Iq 0, Iq v56, Iq 0, Iq 999] m57 (some (Iq v59)) m60 ∧ ((((v59 = 0) → (Q (some (Iq 0)) m60)) ∧ (¬ (v59 = 0) → (Q (some (Iq 1)) m60))))))))) ∧ (¬ (v52 = 0) → ((∃ (v63 : Int) (m64 : Zm), Ct1 S mX4_has3 [Aq 34, Iq 5, Iq 105, Iq 116, Iq 115] m53 (some (Iq v63)) m64 ∧ ((((v63 = 0) → ((∃ (v67 : Int) (m68 : Zm), Ct1 S mX4_at [Iq ((m3 35 0) - 1), Iq 4] m64 (some (Iq v67)) m68 ∧ ((∃ (v70 : Int) (m71 : Zm), Ct1 S mX4_perhaps [Aq 34, Iq 0, Iq v67, Iq 0, Iq 999] m68 (some (Iq v70)) m71 ∧ ((((v70 = 0) → (Q (some (Iq 0)) m71)) ∧ (¬ (v70 = 0) → (Q (some (Iq 1)) m71))))))))) ∧ (¬ (v63 = 0) → ((∃ (v74 : Int) (m75 : Zm), Ct1 S mX4_at [Iq ((m3 35 0) - 1), Iq 4] m64 (some (Iq v74)) m75 ∧ ((∃ (v77 : Int) (m78 : Zm), Ct1 S mX4_perhaps [Aq 34, Iq 1, Iq v74, Iq 0, Iq 999] m75 (some (Iq v77)) m78 ∧ ((((v77 = 0) → (Q (some (Iq 0)) m78)) ∧ (¬ (v77 = 0) → (Q (some (Iq 1)) m78))))))))))))))))))))))))))))))))))))))))))))))))))) ∧ (¬ (¬ mem 35 0 = 8) → ((∃ (v81 : Int) (m82 : Zm), Ct1 S mX4_fails [Aq 34] mem (some (Iq v81)) m82 ∧ (Q (some (Iq v81)) m82)))))) :
    PW S mX4_childHere Q 0 [some (Aq 34), some (Iq x1), none] [] mem := by
  refine pw_aload_n eX4_childHere_0 rfl rfl ?_
  refine gf_RX4_7 rfl eX4_childHere_1 sh34 ?_
  refine pw_iconst eX4_childHere_4 ⟨by decide, by decide⟩ ?_
  refine pw_iald eX4_childHere_5 sh35 (by decide) ?_
  refine pw_bipush eX4_childHere_6 ⟨by decide, by decide⟩ (by decide) ?_
  refine pw_icmp_ne eX4_childHere_8 (fun c1 => ?_) (fun c1 => ?_)
  · have h := h.1 c1
    refine pw_aload_n eX4_childHere_16 rfl rfl ?_
    refine pw_iload_n eX4_childHere_17 rfl rfl ?_
    refine pw_iconst eX4_childHere_18 ⟨by decide, by decide⟩ ?_
    obtain ⟨m3, hc4, h⟩ := h
    refine pw_cV (z := mX4_comes) (av := [Iq x1, Iq 0]) (st := []) eX4_childHere_19 lk_RX4_67 rfl (by decide) (by decide) sh34 rfl rfl (Nat.le_of_ble_eq_true rfl) rfl hc4 ?_
    show PW S mX4_childHere Q 22 [some (Aq 34), some (Iq x1), none] [] m3
    refine pw_aload_n eX4_childHere_22 rfl rfl ?_
    refine gf_RX4_7 rfl eX4_childHere_23 sh34 ?_
    refine pw_iconst eX4_childHere_26 ⟨by decide, by decide⟩ ?_
    refine pw_iald eX4_childHere_27 sh35 (by decide) ?_
    refine pw_iconst eX4_childHere_28 ⟨by decide, by decide⟩ ?_
    obtain ⟨o5, h⟩ := h
    refine pw_isub eX4_childHere_29 o5 ?_
    refine pw_istore_n (ls2 := [some (Aq 34), some (Iq x1), some (Iq ((m3 35 0) - 1))]) eX4_childHere_30 rfl (by decide) rfl ?_
    refine pw_aload_n eX4_childHere_31 rfl rfl ?_
    obtain ⟨m7, hc8, h⟩ := h
    refine pw_cV (z := mX4_nextToken) (av := []) (st := []) eX4_childHere_32 lk_RX4_251 rfl (by decide) (by decide) sh34 rfl rfl (Nat.le_of_ble_eq_true rfl) rfl hc8 ?_
    show PW S mX4_childHere Q 35 [some (Aq 34), some (Iq x1), some (Iq ((m3 35 0) - 1))] [] m7
    refine pw_aload_n eX4_childHere_35 rfl rfl ?_
    refine pw_aload_n eX4_childHere_36 rfl rfl ?_
    refine pw_bipush eX4_childHere_37 ⟨by decide, by decide⟩ (by decide) ?_
    refine pw_bipush eX4_childHere_39 ⟨by decide, by decide⟩ (by decide) ?_
    refine pw_bipush eX4_childHere_41 ⟨by decide, by decide⟩ (by decide) ?_
    refine pw_bipush eX4_childHere_43 ⟨by decide, by decide⟩ (by decide) ?_
    refine pw_bipush eX4_childHere_45 ⟨by decide, by decide⟩ (by decide) ?_
    obtain ⟨v9, m10, hc11, h⟩ := h
    refine pw_cV (z := mX4_isFive) (av := [Iq 107, Iq 110, Iq 111, Iq 119, Iq 115]) (st := [Aq 34]) eX4_childHere_47 lk_RX4_240 rfl (by decide) (by decide) sh34 rfl rfl (Nat.le_of_ble_eq_true rfl) rfl hc11 ?_
    show PW S mX4_childHere Q 50 [some (Aq 34), some (Iq x1), some (Iq ((m3 35 0) - 1))] [Iq v9, Aq 34] m10
    refine pw_iload_n eX4_childHere_50 rfl rfl ?_
    refine pw_iconst eX4_childHere_51 ⟨by decide, by decide⟩ ?_
    obtain ⟨v12, m13, hc14, h⟩ := h
    refine pw_cS (z := mX4_at) (av := [Iq ((m3 35 0) - 1), Iq 1]) (st := [Iq v9, Aq 34]) eX4_childHere_52 lk_RX4_59 rfl (by decide) (by decide) (Nat.le_of_ble_eq_true rfl) rfl hc14 ?_
    show PW S mX4_childHere Q 55 [some (Aq 34), some (Iq x1), some (Iq ((m3 35 0) - 1))] [Iq v12, Iq v9, Aq 34] m13
    refine pw_iconst eX4_childHere_55 ⟨by decide, by decide⟩ ?_
    refine pw_sipush eX4_childHere_56 ⟨by decide, by decide⟩ (by decide) ?_
    obtain ⟨v15, m16, hc17, h⟩ := h
    refine pw_cV (z := mX4_perhaps) (av := [Iq v9, Iq v12, Iq 0, Iq 255]) (st := []) eX4_childHere_59 lk_RX4_257 rfl (by decide) (by decide) sh34 rfl rfl (Nat.le_of_ble_eq_true rfl) rfl hc17 ?_
    show PW S mX4_childHere Q 62 [some (Aq 34), some (Iq x1), some (Iq ((m3 35 0) - 1))] [Iq v15] m16
    refine pw_if_eq eX4_childHere_62 (fun c18 => ?_) (fun c18 => ?_)
    · have h := h.1 c18
      refine pw_iconst eX4_childHere_169 ⟨by decide, by decide⟩ ?_
      exact pw_iret eX4_childHere_170 h
    · have h := h.2 c18
      refine pw_aload_n eX4_childHere_65 rfl rfl ?_
      refine pw_aload_n eX4_childHere_66 rfl rfl ?_
      refine pw_bipush eX4_childHere_67 ⟨by decide, by decide⟩ (by decide) ?_
      refine pw_bipush eX4_childHere_69 ⟨by decide, by decide⟩ (by decide) ?_
      refine pw_bipush eX4_childHere_71 ⟨by decide, by decide⟩ (by decide) ?_
      refine pw_bipush eX4_childHere_73 ⟨by decide, by decide⟩ (by decide) ?_
      obtain ⟨v19, m20, hc21, h⟩ := h
      refine pw_cV (z := mX4_isFour) (av := [Iq 102, Iq 114, Iq 111, Iq 109]) (st := [Aq 34]) eX4_childHere_75 lk_RX4_248 rfl (by decide) (by decide) sh34 rfl rfl (Nat.le_of_ble_eq_true rfl) rfl hc21 ?_
      show PW S mX4_childHere Q 78 [some (Aq 34), some (Iq x1), some (Iq ((m3 35 0) - 1))] [Iq v19, Aq 34] m20
      refine pw_iload_n eX4_childHere_78 rfl rfl ?_
      refine pw_iconst eX4_childHere_79 ⟨by decide, by decide⟩ ?_
      obtain ⟨v22, m23, hc24, h⟩ := h
      refine pw_cS (z := mX4_at) (av := [Iq ((m3 35 0) - 1), Iq 2]) (st := [Iq v19, Aq 34]) eX4_childHere_80 lk_RX4_59 rfl (by decide) (by decide) (Nat.le_of_ble_eq_true rfl) rfl hc24 ?_
      show PW S mX4_childHere Q 83 [some (Aq 34), some (Iq x1), some (Iq ((m3 35 0) - 1))] [Iq v22, Iq v19, Aq 34] m23
      refine pw_iconst eX4_childHere_83 ⟨by decide, by decide⟩ ?_
      refine pw_iload_n eX4_childHere_84 rfl rfl ?_
      refine pw_iconst eX4_childHere_85 ⟨by decide, by decide⟩ ?_
      obtain ⟨o25, h⟩ := h
      refine pw_isub eX4_childHere_86 o25 ?_
      obtain ⟨v26, m27, hc28, h⟩ := h
      refine pw_cV (z := mX4_perhaps) (av := [Iq v19, Iq v22, Iq 0, Iq (((m3 35 0) - 1) - 1)]) (st := []) eX4_childHere_87 lk_RX4_257 rfl (by decide) (by decide) sh34 rfl rfl (Nat.le_of_ble_eq_true rfl) rfl hc28 ?_
      show PW S mX4_childHere Q 90 [some (Aq 34), some (Iq x1), some (Iq ((m3 35 0) - 1))] [Iq v26] m27
      refine pw_if_eq eX4_childHere_90 (fun c29 => ?_) (fun c29 => ?_)
      · have h := h.1 c29
        refine pw_iconst eX4_childHere_169 ⟨by decide, by decide⟩ ?_
        exact pw_iret eX4_childHere_170 h
      · have h := h.2 c29
        refine pw_aload_n eX4_childHere_93 rfl rfl ?_
        refine pw_aload_n eX4_childHere_94 rfl rfl ?_
        refine pw_bipush eX4_childHere_95 ⟨by decide, by decide⟩ (by decide) ?_
        obtain ⟨v30, m31, hc32, h⟩ := h
        refine pw_cV (z := mX4_isWord) (av := [Iq 8]) (st := [Aq 34]) eX4_childHere_97 lk_RX4_229 rfl (by decide) (by decide) sh34 rfl rfl (Nat.le_of_ble_eq_true rfl) rfl hc32 ?_
        show PW S mX4_childHere Q 100 [some (Aq 34), some (Iq x1), some (Iq ((m3 35 0) - 1))] [Iq v30, Aq 34] m31
        refine pw_if_eq eX4_childHere_100 (fun c33 => ?_) (fun c33 => ?_)
        · have h := h.1 c33
          refine pw_iconst eX4_childHere_149 ⟨by decide, by decide⟩ ?_
          refine pw_iload_n eX4_childHere_150 rfl rfl ?_
          refine pw_iconst eX4_childHere_151 ⟨by decide, by decide⟩ ?_
          obtain ⟨v34, m35, hc36, h⟩ := h
          refine pw_cS (z := mX4_at) (av := [Iq ((m3 35 0) - 1), Iq 4]) (st := [Iq 0, Aq 34]) eX4_childHere_152 lk_RX4_59 rfl (by decide) (by decide) (Nat.le_of_ble_eq_true rfl) rfl hc36 ?_
          show PW S mX4_childHere Q 155 [some (Aq 34), some (Iq x1), some (Iq ((m3 35 0) - 1))] [Iq v34, Iq 0, Aq 34] m35
          refine pw_iconst eX4_childHere_155 ⟨by decide, by decide⟩ ?_
          refine pw_sipush eX4_childHere_156 ⟨by decide, by decide⟩ (by decide) ?_
          obtain ⟨v37, m38, hc39, h⟩ := h
          refine pw_cV (z := mX4_perhaps) (av := [Iq 0, Iq v34, Iq 0, Iq 999]) (st := []) eX4_childHere_159 lk_RX4_257 rfl (by decide) (by decide) sh34 rfl rfl (Nat.le_of_ble_eq_true rfl) rfl hc39 ?_
          show PW S mX4_childHere Q 162 [some (Aq 34), some (Iq x1), some (Iq ((m3 35 0) - 1))] [Iq v37] m38
          refine pw_if_eq eX4_childHere_162 (fun c40 => ?_) (fun c40 => ?_)
          · have h := h.1 c40
            refine pw_iconst eX4_childHere_169 ⟨by decide, by decide⟩ ?_
            exact pw_iret eX4_childHere_170 h
          · have h := h.2 c40
            refine pw_iconst eX4_childHere_165 ⟨by decide, by decide⟩ ?_
            refine pw_goto eX4_childHere_166 ?_
            exact pw_iret eX4_childHere_170 h
        · have h := h.2 c33
          refine pw_aload_n eX4_childHere_103 rfl rfl ?_
          refine pw_iconst eX4_childHere_104 ⟨by decide, by decide⟩ ?_
          refine pw_bipush eX4_childHere_105 ⟨by decide, by decide⟩ (by decide) ?_
          refine pw_bipush eX4_childHere_107 ⟨by decide, by decide⟩ (by decide) ?_
          refine pw_bipush eX4_childHere_109 ⟨by decide, by decide⟩ (by decide) ?_
          obtain ⟨v41, m42, hc43, h⟩ := h
          refine pw_cV (z := mX4_has3) (av := [Iq 0, Iq 98, Iq 105, Iq 115]) (st := [Aq 34]) eX4_childHere_111 lk_RX4_232 rfl (by decide) (by decide) sh34 rfl rfl (Nat.le_of_ble_eq_true rfl) rfl hc43 ?_
          show PW S mX4_childHere Q 114 [some (Aq 34), some (Iq x1), some (Iq ((m3 35 0) - 1))] [Iq v41, Aq 34] m42
          refine pw_if_eq eX4_childHere_114 (fun c44 => ?_) (fun c44 => ?_)
          · have h := h.1 c44
            refine pw_iconst eX4_childHere_149 ⟨by decide, by decide⟩ ?_
            refine pw_iload_n eX4_childHere_150 rfl rfl ?_
            refine pw_iconst eX4_childHere_151 ⟨by decide, by decide⟩ ?_
            obtain ⟨v45, m46, hc47, h⟩ := h
            refine pw_cS (z := mX4_at) (av := [Iq ((m3 35 0) - 1), Iq 4]) (st := [Iq 0, Aq 34]) eX4_childHere_152 lk_RX4_59 rfl (by decide) (by decide) (Nat.le_of_ble_eq_true rfl) rfl hc47 ?_
            show PW S mX4_childHere Q 155 [some (Aq 34), some (Iq x1), some (Iq ((m3 35 0) - 1))] [Iq v45, Iq 0, Aq 34] m46
            refine pw_iconst eX4_childHere_155 ⟨by decide, by decide⟩ ?_
            refine pw_sipush eX4_childHere_156 ⟨by decide, by decide⟩ (by decide) ?_
            obtain ⟨v48, m49, hc50, h⟩ := h
            refine pw_cV (z := mX4_perhaps) (av := [Iq 0, Iq v45, Iq 0, Iq 999]) (st := []) eX4_childHere_159 lk_RX4_257 rfl (by decide) (by decide) sh34 rfl rfl (Nat.le_of_ble_eq_true rfl) rfl hc50 ?_
            show PW S mX4_childHere Q 162 [some (Aq 34), some (Iq x1), some (Iq ((m3 35 0) - 1))] [Iq v48] m49
            refine pw_if_eq eX4_childHere_162 (fun c51 => ?_) (fun c51 => ?_)
            · have h := h.1 c51
              refine pw_iconst eX4_childHere_169 ⟨by decide, by decide⟩ ?_
              exact pw_iret eX4_childHere_170 h
            · have h := h.2 c51
              refine pw_iconst eX4_childHere_165 ⟨by decide, by decide⟩ ?_
              refine pw_goto eX4_childHere_166 ?_
              exact pw_iret eX4_childHere_170 h
          · have h := h.2 c44
            refine pw_aload_n eX4_childHere_117 rfl rfl ?_
            refine pw_iconst eX4_childHere_118 ⟨by decide, by decide⟩ ?_
            refine pw_bipush eX4_childHere_119 ⟨by decide, by decide⟩ (by decide) ?_
            refine pw_bipush eX4_childHere_121 ⟨by decide, by decide⟩ (by decide) ?_
            refine pw_bipush eX4_childHere_123 ⟨by decide, by decide⟩ (by decide) ?_
            obtain ⟨v52, m53, hc54, h⟩ := h
            refine pw_cV (z := mX4_has3) (av := [Iq 3, Iq 99, Iq 117, Iq 105]) (st := [Aq 34]) eX4_childHere_125 lk_RX4_232 rfl (by decide) (by decide) sh34 rfl rfl (Nat.le_of_ble_eq_true rfl) rfl hc54 ?_
            show PW S mX4_childHere Q 128 [some (Aq 34), some (Iq x1), some (Iq ((m3 35 0) - 1))] [Iq v52, Aq 34] m53
            refine pw_if_eq eX4_childHere_128 (fun c55 => ?_) (fun c55 => ?_)
            · have h := h.1 c55
              refine pw_iconst eX4_childHere_149 ⟨by decide, by decide⟩ ?_
              refine pw_iload_n eX4_childHere_150 rfl rfl ?_
              refine pw_iconst eX4_childHere_151 ⟨by decide, by decide⟩ ?_
              obtain ⟨v56, m57, hc58, h⟩ := h
              refine pw_cS (z := mX4_at) (av := [Iq ((m3 35 0) - 1), Iq 4]) (st := [Iq 0, Aq 34]) eX4_childHere_152 lk_RX4_59 rfl (by decide) (by decide) (Nat.le_of_ble_eq_true rfl) rfl hc58 ?_
              show PW S mX4_childHere Q 155 [some (Aq 34), some (Iq x1), some (Iq ((m3 35 0) - 1))] [Iq v56, Iq 0, Aq 34] m57
              refine pw_iconst eX4_childHere_155 ⟨by decide, by decide⟩ ?_
              refine pw_sipush eX4_childHere_156 ⟨by decide, by decide⟩ (by decide) ?_
              obtain ⟨v59, m60, hc61, h⟩ := h
              refine pw_cV (z := mX4_perhaps) (av := [Iq 0, Iq v56, Iq 0, Iq 999]) (st := []) eX4_childHere_159 lk_RX4_257 rfl (by decide) (by decide) sh34 rfl rfl (Nat.le_of_ble_eq_true rfl) rfl hc61 ?_
              show PW S mX4_childHere Q 162 [some (Aq 34), some (Iq x1), some (Iq ((m3 35 0) - 1))] [Iq v59] m60
              refine pw_if_eq eX4_childHere_162 (fun c62 => ?_) (fun c62 => ?_)
              · have h := h.1 c62
                refine pw_iconst eX4_childHere_169 ⟨by decide, by decide⟩ ?_
                exact pw_iret eX4_childHere_170 h
              · have h := h.2 c62
                refine pw_iconst eX4_childHere_165 ⟨by decide, by decide⟩ ?_
                refine pw_goto eX4_childHere_166 ?_
                exact pw_iret eX4_childHere_170 h
            · have h := h.2 c55
              refine pw_aload_n eX4_childHere_131 rfl rfl ?_
              refine pw_iconst eX4_childHere_132 ⟨by decide, by decide⟩ ?_
              refine pw_bipush eX4_childHere_133 ⟨by decide, by decide⟩ (by decide) ?_
              refine pw_bipush eX4_childHere_135 ⟨by decide, by decide⟩ (by decide) ?_
              refine pw_bipush eX4_childHere_137 ⟨by decide, by decide⟩ (by decide) ?_
              obtain ⟨v63, m64, hc65, h⟩ := h
              refine pw_cV (z := mX4_has3) (av := [Iq 5, Iq 105, Iq 116, Iq 115]) (st := [Aq 34]) eX4_childHere_139 lk_RX4_232 rfl (by decide) (by decide) sh34 rfl rfl (Nat.le_of_ble_eq_true rfl) rfl hc65 ?_
              show PW S mX4_childHere Q 142 [some (Aq 34), some (Iq x1), some (Iq ((m3 35 0) - 1))] [Iq v63, Aq 34] m64
              refine pw_if_eq eX4_childHere_142 (fun c66 => ?_) (fun c66 => ?_)
              · have h := h.1 c66
                refine pw_iconst eX4_childHere_149 ⟨by decide, by decide⟩ ?_
                refine pw_iload_n eX4_childHere_150 rfl rfl ?_
                refine pw_iconst eX4_childHere_151 ⟨by decide, by decide⟩ ?_
                obtain ⟨v67, m68, hc69, h⟩ := h
                refine pw_cS (z := mX4_at) (av := [Iq ((m3 35 0) - 1), Iq 4]) (st := [Iq 0, Aq 34]) eX4_childHere_152 lk_RX4_59 rfl (by decide) (by decide) (Nat.le_of_ble_eq_true rfl) rfl hc69 ?_
                show PW S mX4_childHere Q 155 [some (Aq 34), some (Iq x1), some (Iq ((m3 35 0) - 1))] [Iq v67, Iq 0, Aq 34] m68
                refine pw_iconst eX4_childHere_155 ⟨by decide, by decide⟩ ?_
                refine pw_sipush eX4_childHere_156 ⟨by decide, by decide⟩ (by decide) ?_
                obtain ⟨v70, m71, hc72, h⟩ := h
                refine pw_cV (z := mX4_perhaps) (av := [Iq 0, Iq v67, Iq 0, Iq 999]) (st := []) eX4_childHere_159 lk_RX4_257 rfl (by decide) (by decide) sh34 rfl rfl (Nat.le_of_ble_eq_true rfl) rfl hc72 ?_
                show PW S mX4_childHere Q 162 [some (Aq 34), some (Iq x1), some (Iq ((m3 35 0) - 1))] [Iq v70] m71
                refine pw_if_eq eX4_childHere_162 (fun c73 => ?_) (fun c73 => ?_)
                · have h := h.1 c73
                  refine pw_iconst eX4_childHere_169 ⟨by decide, by decide⟩ ?_
                  exact pw_iret eX4_childHere_170 h
                · have h := h.2 c73
                  refine pw_iconst eX4_childHere_165 ⟨by decide, by decide⟩ ?_
                  refine pw_goto eX4_childHere_166 ?_
                  exact pw_iret eX4_childHere_170 h
              · have h := h.2 c66
                refine pw_iconst eX4_childHere_145 ⟨by decide, by decide⟩ ?_
                refine pw_goto eX4_childHere_146 ?_
                refine pw_iload_n eX4_childHere_150 rfl rfl ?_
                refine pw_iconst eX4_childHere_151 ⟨by decide, by decide⟩ ?_
                obtain ⟨v74, m75, hc76, h⟩ := h
                refine pw_cS (z := mX4_at) (av := [Iq ((m3 35 0) - 1), Iq 4]) (st := [Iq 1, Aq 34]) eX4_childHere_152 lk_RX4_59 rfl (by decide) (by decide) (Nat.le_of_ble_eq_true rfl) rfl hc76 ?_
                show PW S mX4_childHere Q 155 [some (Aq 34), some (Iq x1), some (Iq ((m3 35 0) - 1))] [Iq v74, Iq 1, Aq 34] m75
                refine pw_iconst eX4_childHere_155 ⟨by decide, by decide⟩ ?_
                refine pw_sipush eX4_childHere_156 ⟨by decide, by decide⟩ (by decide) ?_
                obtain ⟨v77, m78, hc79, h⟩ := h
                refine pw_cV (z := mX4_perhaps) (av := [Iq 1, Iq v74, Iq 0, Iq 999]) (st := []) eX4_childHere_159 lk_RX4_257 rfl (by decide) (by decide) sh34 rfl rfl (Nat.le_of_ble_eq_true rfl) rfl hc79 ?_
                show PW S mX4_childHere Q 162 [some (Aq 34), some (Iq x1), some (Iq ((m3 35 0) - 1))] [Iq v77] m78
                refine pw_if_eq eX4_childHere_162 (fun c80 => ?_) (fun c80 => ?_)
                · have h := h.1 c80
                  refine pw_iconst eX4_childHere_169 ⟨by decide, by decide⟩ ?_
                  exact pw_iret eX4_childHere_170 h
                · have h := h.2 c80
                  refine pw_iconst eX4_childHere_165 ⟨by decide, by decide⟩ ?_
                  refine pw_goto eX4_childHere_166 ?_
                  exact pw_iret eX4_childHere_170 h
  · have h := h.2 c1
    refine pw_aload_n eX4_childHere_11 rfl rfl ?_
    obtain ⟨v81, m82, hc83, h⟩ := h
    refine pw_cV (z := mX4_fails) (av := []) (st := []) eX4_childHere_12 lk_RX4_236 rfl (by decide) (by decide) sh34 rfl rfl (Nat.le_of_ble_eq_true rfl) rfl hc83 ?_
    show PW S mX4_childHere Q 15 [some (Aq 34), some (Iq x1), none] [Iq v81] m82
    exact pw_iret eX4_childHere_15 h
set_option maxRecDepth 100000 in
theorem rg_X4_rightHere_0 {S : Sx} {Q : Option PV → Zm → Prop} {mem : Zm}   
    (h : (∃ (m2 : Zm), Ct1 S mX4_nextToken [Aq 34] mem none m2 ∧ ((∃ (v4 : Int) (m5 : Zm), Ct1 S mX4_isNumber [Aq 34, Iq 0, Iq 7] m2 (some (Iq v4)) m5 ∧ ((((v4 = 0) → (Q (some (Iq 0)) m5)) ∧ (¬ (v4 = 0) → ((in32 (4 + (m5 34 16))) ∧ (∃ (v9 : Int) (m10 : Zm), Ct1 S mX4_perhaps [Aq 34, Iq 1, Iq (4 + (m5 34 16)), Iq 0, Iq 99] m5 (some (Iq v9)) m10 ∧ ((((v9 = 0) → (Q (some (Iq 0)) m10)) ∧ (¬ (v9 = 0) → (Q (some (Iq 1)) m10))))))))))))) :
    PW S mX4_rightHere Q 0 [some (Aq 34)] [] mem := by
  refine pw_aload_n eX4_rightHere_0 rfl rfl ?_
  obtain ⟨m2, hc3, h⟩ := h
  refine pw_cV (z := mX4_nextToken) (av := []) (st := []) eX4_rightHere_1 lk_RX4_251 rfl (by decide) (by decide) sh34 rfl rfl (Nat.le_of_ble_eq_true rfl) rfl hc3 ?_
  show PW S mX4_rightHere Q 4 [some (Aq 34)] [] m2
  refine pw_aload_n eX4_rightHere_4 rfl rfl ?_
  refine pw_iconst eX4_rightHere_5 ⟨by decide, by decide⟩ ?_
  refine pw_bipush eX4_rightHere_6 ⟨by decide, by decide⟩ (by decide) ?_
  obtain ⟨v4, m5, hc6, h⟩ := h
  refine pw_cV (z := mX4_isNumber) (av := [Iq 0, Iq 7]) (st := []) eX4_rightHere_8 lk_RX4_254 rfl (by decide) (by decide) sh34 rfl rfl (Nat.le_of_ble_eq_true rfl) rfl hc6 ?_
  show PW S mX4_rightHere Q 11 [some (Aq 34)] [Iq v4] m5
  refine pw_if_eq eX4_rightHere_11 (fun c7 => ?_) (fun c7 => ?_)
  · have h := h.1 c7
    refine pw_iconst eX4_rightHere_35 ⟨by decide, by decide⟩ ?_
    exact pw_iret eX4_rightHere_36 h
  · have h := h.2 c7
    refine pw_aload_n eX4_rightHere_14 rfl rfl ?_
    refine pw_iconst eX4_rightHere_15 ⟨by decide, by decide⟩ ?_
    refine pw_iconst eX4_rightHere_16 ⟨by decide, by decide⟩ ?_
    refine pw_aload_n eX4_rightHere_17 rfl rfl ?_
    refine gf_RX4_223 rfl eX4_rightHere_18 sh34 ?_
    obtain ⟨o8, h⟩ := h
    refine pw_iadd eX4_rightHere_21 o8 ?_
    refine pw_iconst eX4_rightHere_22 ⟨by decide, by decide⟩ ?_
    refine pw_bipush eX4_rightHere_23 ⟨by decide, by decide⟩ (by decide) ?_
    obtain ⟨v9, m10, hc11, h⟩ := h
    refine pw_cV (z := mX4_perhaps) (av := [Iq 1, Iq (4 + (m5 34 16)), Iq 0, Iq 99]) (st := []) eX4_rightHere_25 lk_RX4_257 rfl (by decide) (by decide) sh34 rfl rfl (Nat.le_of_ble_eq_true rfl) rfl hc11 ?_
    show PW S mX4_rightHere Q 28 [some (Aq 34)] [Iq v9] m10
    refine pw_if_eq eX4_rightHere_28 (fun c12 => ?_) (fun c12 => ?_)
    · have h := h.1 c12
      refine pw_iconst eX4_rightHere_35 ⟨by decide, by decide⟩ ?_
      exact pw_iret eX4_rightHere_36 h
    · have h := h.2 c12
      refine pw_iconst eX4_rightHere_31 ⟨by decide, by decide⟩ ?_
      refine pw_goto eX4_rightHere_32 ?_
      exact pw_iret eX4_rightHere_36 h
set_option maxRecDepth 100000 in
theorem rg_X4_itemHere_0 {S : Sx} {Q : Option PV → Zm → Prop} {mem : Zm}   
    (h : (∃ (v1 : Int) (m2 : Zm), Ct1 S mX4_kindHere [Aq 34] mem (some (Iq v1)) m2 ∧ ((((v1 < 0) → ((∃ (v5 : Int) (m6 : Zm), Ct1 S mX4_isFive [Aq 34, Iq 114, Iq 105, Iq 103, Iq 104, Iq 116] m2 (some (Iq v5)) m6 ∧ ((((v5 = 0) → ((∃ (v9 : Int) (m10 : Zm), Ct1 S mX4_isFive [Aq 34, Iq 108, Iq 105, Iq 109, Iq 105, Iq 116] m6 (some (Iq v9)) m10 ∧ ((((v9 = 0) → ((∃ (v13 : Int) (m14 : Zm), Ct1 S mX4_fails [Aq 34] m10 (some (Iq v13)) m14 ∧ (Q (some (Iq v13)) m14)))) ∧ (¬ (v9 = 0) → ((∃ (v16 : Int) (m17 : Zm), Ct1 S mX4_perhaps [Aq 34, Iq 1, Iq 3, Iq 1, Iq 9] m10 (some (Iq v16)) m17 ∧ (Q (some (Iq v16)) m17))))))))) ∧ (¬ (v5 = 0) → ((∃ (v19 : Int) (m20 : Zm), Ct1 S mX4_rightHere [Aq 34] m6 (some (Iq v19)) m20 ∧ (Q (some (Iq v19)) m20))))))))) ∧ (¬ (v1 < 0) → ((∃ (v22 : Int) (m23 : Zm), Ct1 S mX4_childHere [Aq 34, Iq v1] m2 (some (Iq v22)) m23 ∧ (Q (some (Iq v22)) m23)))))))) :
    PW S mX4_itemHere Q 0 [some (Aq 34), none] [] mem := by
  refine pw_aload_n eX4_itemHere_0 rfl rfl ?_
  obtain ⟨v1, m2, hc3, h⟩ := h
  refine pw_cV (z := mX4_kindHere) (av := []) (st := []) eX4_itemHere_1 lk_RX4_261 rfl (by decide) (by decide) sh34 rfl rfl (Nat.le_of_ble_eq_true rfl) rfl hc3 ?_
  show PW S mX4_itemHere Q 4 [some (Aq 34), none] [Iq v1] m2
  refine pw_istore_n (ls2 := [some (Aq 34), some (Iq v1)]) eX4_itemHere_4 rfl (by decide) rfl ?_
  refine pw_iload_n eX4_itemHere_5 rfl rfl ?_
  refine pw_if_lt eX4_itemHere_6 (fun c4 => ?_) (fun c4 => ?_)
  · have h := h.1 c4
    refine pw_aload_n eX4_itemHere_15 rfl rfl ?_
    refine pw_bipush eX4_itemHere_16 ⟨by decide, by decide⟩ (by decide) ?_
    refine pw_bipush eX4_itemHere_18 ⟨by decide, by decide⟩ (by decide) ?_
    refine pw_bipush eX4_itemHere_20 ⟨by decide, by decide⟩ (by decide) ?_
    refine pw_bipush eX4_itemHere_22 ⟨by decide, by decide⟩ (by decide) ?_
    refine pw_bipush eX4_itemHere_24 ⟨by decide, by decide⟩ (by decide) ?_
    obtain ⟨v5, m6, hc7, h⟩ := h
    refine pw_cV (z := mX4_isFive) (av := [Iq 114, Iq 105, Iq 103, Iq 104, Iq 116]) (st := []) eX4_itemHere_26 lk_RX4_240 rfl (by decide) (by decide) sh34 rfl rfl (Nat.le_of_ble_eq_true rfl) rfl hc7 ?_
    show PW S mX4_itemHere Q 29 [some (Aq 34), some (Iq v1)] [Iq v5] m6
    refine pw_if_eq eX4_itemHere_29 (fun c8 => ?_) (fun c8 => ?_)
    · have h := h.1 c8
      refine pw_aload_n eX4_itemHere_37 rfl rfl ?_
      refine pw_bipush eX4_itemHere_38 ⟨by decide, by decide⟩ (by decide) ?_
      refine pw_bipush eX4_itemHere_40 ⟨by decide, by decide⟩ (by decide) ?_
      refine pw_bipush eX4_itemHere_42 ⟨by decide, by decide⟩ (by decide) ?_
      refine pw_bipush eX4_itemHere_44 ⟨by decide, by decide⟩ (by decide) ?_
      refine pw_bipush eX4_itemHere_46 ⟨by decide, by decide⟩ (by decide) ?_
      obtain ⟨v9, m10, hc11, h⟩ := h
      refine pw_cV (z := mX4_isFive) (av := [Iq 108, Iq 105, Iq 109, Iq 105, Iq 116]) (st := []) eX4_itemHere_48 lk_RX4_240 rfl (by decide) (by decide) sh34 rfl rfl (Nat.le_of_ble_eq_true rfl) rfl hc11 ?_
      show PW S mX4_itemHere Q 51 [some (Aq 34), some (Iq v1)] [Iq v9] m10
      refine pw_if_eq eX4_itemHere_51 (fun c12 => ?_) (fun c12 => ?_)
      · have h := h.1 c12
        refine pw_aload_n eX4_itemHere_66 rfl rfl ?_
        obtain ⟨v13, m14, hc15, h⟩ := h
        refine pw_cV (z := mX4_fails) (av := []) (st := []) eX4_itemHere_67 lk_RX4_236 rfl (by decide) (by decide) sh34 rfl rfl (Nat.le_of_ble_eq_true rfl) rfl hc15 ?_
        show PW S mX4_itemHere Q 70 [some (Aq 34), some (Iq v1)] [Iq v13] m14
        exact pw_iret eX4_itemHere_70 h
      · have h := h.2 c12
        refine pw_aload_n eX4_itemHere_54 rfl rfl ?_
        refine pw_iconst eX4_itemHere_55 ⟨by decide, by decide⟩ ?_
        refine pw_iconst eX4_itemHere_56 ⟨by decide, by decide⟩ ?_
        refine pw_iconst eX4_itemHere_57 ⟨by decide, by decide⟩ ?_
        refine pw_bipush eX4_itemHere_58 ⟨by decide, by decide⟩ (by decide) ?_
        obtain ⟨v16, m17, hc18, h⟩ := h
        refine pw_cV (z := mX4_perhaps) (av := [Iq 1, Iq 3, Iq 1, Iq 9]) (st := []) eX4_itemHere_60 lk_RX4_257 rfl (by decide) (by decide) sh34 rfl rfl (Nat.le_of_ble_eq_true rfl) rfl hc18 ?_
        show PW S mX4_itemHere Q 63 [some (Aq 34), some (Iq v1)] [Iq v16] m17
        refine pw_goto eX4_itemHere_63 ?_
        exact pw_iret eX4_itemHere_70 h
    · have h := h.2 c8
      refine pw_aload_n eX4_itemHere_32 rfl rfl ?_
      obtain ⟨v19, m20, hc21, h⟩ := h
      refine pw_cV (z := mX4_rightHere) (av := []) (st := []) eX4_itemHere_33 lk_RX4_267 rfl (by decide) (by decide) sh34 rfl rfl (Nat.le_of_ble_eq_true rfl) rfl hc21 ?_
      show PW S mX4_itemHere Q 36 [some (Aq 34), some (Iq v1)] [Iq v19] m20
      exact pw_iret eX4_itemHere_36 h
  · have h := h.2 c4
    refine pw_aload_n eX4_itemHere_9 rfl rfl ?_
    refine pw_iload_n eX4_itemHere_10 rfl rfl ?_
    obtain ⟨v22, m23, hc24, h⟩ := h
    refine pw_cV (z := mX4_childHere) (av := [Iq v1]) (st := []) eX4_itemHere_11 lk_RX4_264 rfl (by decide) (by decide) sh34 rfl rfl (Nat.le_of_ble_eq_true rfl) rfl hc24 ?_
    show PW S mX4_itemHere Q 14 [some (Aq 34), some (Iq v1)] [Iq v22] m23
    exact pw_iret eX4_itemHere_14 h
set_option maxRecDepth 100000 in
theorem rg_X4_text_0 {S : Sx} {Q : Option PV → Zm → Prop} {mem : Zm}   
    (h : (∃ (m2 : Zm), Ct1 S mX4_copyRow [Aq 35, Aq 37] mem none m2 ∧ ((∃ (m5 : Zm), Ct1 S mX4_nextToken [Aq 34] (mup m2 34 15 0) none m5 ∧ ((∃ (v7 : Int) (m8 : Zm), Ct1 S mX4_itemHere [Aq 34] m5 (some (Iq v7)) m8 ∧ (PW S mX4_text Q 27 [some (Aq 34), some (Iq 1), some (Iq v7)] [] m8))))))) :
    PW S mX4_text Q 0 [some (Aq 34), none, none] [] mem := by
  refine pw_aload_n eX4_text_0 rfl rfl ?_
  refine gf_RX4_7 rfl eX4_text_1 sh34 ?_
  refine pw_aload_n eX4_text_4 rfl rfl ?_
  refine gf_RX4_16 rfl eX4_text_5 sh34 ?_
  obtain ⟨m2, hc3, h⟩ := h
  refine pw_cS (z := mX4_copyRow) (av := [Aq 35, Aq 37]) (st := []) eX4_text_8 lk_RX4_150 rfl (by decide) (by decide) (Nat.le_of_ble_eq_true rfl) rfl hc3 ?_
  show PW S mX4_text Q 11 [some (Aq 34), none, none] [] m2
  refine pw_aload_n eX4_text_11 rfl rfl ?_
  refine pw_iconst eX4_text_12 ⟨by decide, by decide⟩ ?_
  refine pf_RX4_205 rfl eX4_text_13 sh34 ?_
  refine pw_aload_n eX4_text_16 rfl rfl ?_
  obtain ⟨m5, hc6, h⟩ := h
  refine pw_cV (z := mX4_nextToken) (av := []) (st := []) eX4_text_17 lk_RX4_251 rfl (by decide) (by decide) sh34 rfl rfl (Nat.le_of_ble_eq_true rfl) rfl hc6 ?_
  show PW S mX4_text Q 20 [some (Aq 34), none, none] [] m5
  refine pw_iconst eX4_text_20 ⟨by decide, by decide⟩ ?_
  refine pw_istore_n (ls2 := [some (Aq 34), some (Iq 1), none]) eX4_text_21 rfl (by decide) rfl ?_
  refine pw_aload_n eX4_text_22 rfl rfl ?_
  obtain ⟨v7, m8, hc9, h⟩ := h
  refine pw_cV (z := mX4_itemHere) (av := []) (st := []) eX4_text_23 lk_RX4_270 rfl (by decide) (by decide) sh34 rfl rfl (Nat.le_of_ble_eq_true rfl) rfl hc9 ?_
  show PW S mX4_text Q 26 [some (Aq 34), some (Iq 1), none] [Iq v7] m8
  refine pw_istore_n (ls2 := [some (Aq 34), some (Iq 1), some (Iq v7)]) eX4_text_26 rfl (by decide) rfl ?_
  exact h

set_option maxRecDepth 100000 in
theorem rg_X4_text_27 {S : Sx} {Q : Option PV → Zm → Prop} {mem : Zm}   {x1 x2 : Int} 
    (h : (((x2 = 0) → ((((x2 = 0) → ((∃ (m5 : Zm), Ct1 S mX4_copyRow [Aq 37, Aq 35] (mup mem 34 7 0) none m5 ∧ ((in32 ((-1) - (m5 34 17))) ∧ Q (some (Iq ((-1) - (m5 34 17)))) m5)))) ∧ (¬ (x2 = 0) → ((((mem 34 13 = 0) → (Q (some (Iq x1)) (mup mem 34 7 0))) ∧ (¬ (mem 34 13 = 0) → ((∃ (v12 : Int) (m13 : Zm), Ct1 S mX4_fails [Aq 34] mem (some (Iq v12)) m13 ∧ ((((v12 = 0) → ((∃ (m18 : Zm), Ct1 S mX4_copyRow [Aq 37, Aq 35] (mup m13 34 7 0) none m18 ∧ ((in32 ((-1) - (m18 34 17))) ∧ Q (some (Iq ((-1) - (m18 34 17)))) m18)))) ∧ (¬ (v12 = 0) → (Q (some (Iq x1)) (mup m13 34 7 0)))))))))))))) ∧ (¬ (x2 = 0) → ((((¬ mem 34 13 = 3) → ((((x2 = 0) → ((∃ (m28 : Zm), Ct1 S mX4_copyRow [Aq 37, Aq 35] (mup mem 34 7 0) none m28 ∧ ((in32 ((-1) - (m28 34 17))) ∧ Q (some (Iq ((-1) - (m28 34 17)))) m28)))) ∧ (¬ (x2 = 0) → ((((mem 34 13 = 0) → (Q (some (Iq x1)) (mup mem 34 7 0))) ∧ (¬ (mem 34 13 = 0) → ((∃ (v35 : Int) (m36 : Zm), Ct1 S mX4_fails [Aq 34] mem (some (Iq v35)) m36 ∧ ((((v35 = 0) → ((∃ (m41 : Zm), Ct1 S mX4_copyRow [Aq 37, Aq 35] (mup m36 34 7 0) none m41 ∧ ((in32 ((-1) - (m41 34 17))) ∧ Q (some (Iq ((-1) - (m41 34 17)))) m41)))) ∧ (¬ (v35 = 0) → (Q (some (Iq x1)) (mup m36 34 7 0)))))))))))))) ∧ (¬ (¬ mem 34 13 = 3) → ((∃ (m48 : Zm), Ct1 S mX4_nextToken [Aq 34] mem none m48 ∧ ((∃ (v50 : Int) (m51 : Zm), Ct1 S mX4_itemHere [Aq 34] m48 (some (Iq v50)) m51 ∧ ((in32 (x1 + 1)) ∧ PW S mX4_text Q 27 [some (Aq 34), some (Iq (x1 + 1)), some (Iq v50)] [] m51))))))))))) :
    PW S mX4_text Q 27 [some (Aq 34), some (Iq x1), some (Iq x2)] [] mem := by
  refine pw_iload_n eX4_text_27 rfl rfl ?_
  refine pw_if_eq eX4_text_28 (fun c1 => ?_) (fun c1 => ?_)
  · have h := h.1 c1
    refine pw_iload_n eX4_text_54 rfl rfl ?_
    refine pw_if_eq eX4_text_55 (fun c2 => ?_) (fun c2 => ?_)
    · have h := h.1 c2
      refine pw_iconst eX4_text_76 ⟨by decide, by decide⟩ ?_
      refine pw_istore_n (ls2 := [some (Aq 34), some (Iq x1), some (Iq 0)]) eX4_text_77 rfl (by decide) rfl ?_
      refine pw_aload_n eX4_text_78 rfl rfl ?_
      refine pw_iconst eX4_text_79 ⟨by decide, by decide⟩ ?_
      refine pf_RX4_202 rfl eX4_text_80 sh34 ?_
      refine pw_iload_n eX4_text_83 rfl rfl ?_
      refine pw_if_ne eX4_text_84 (fun c3 => ?_) (fun c3 => ?_)
      · exact absurd c3 (by decide)
      · skip
        refine pw_aload_n eX4_text_87 rfl rfl ?_
        refine gf_RX4_16 rfl eX4_text_88 sh34 ?_
        refine pw_aload_n eX4_text_91 rfl rfl ?_
        refine gf_RX4_7 rfl eX4_text_92 sh34 ?_
        obtain ⟨m5, hc6, h⟩ := h
        refine pw_cS (z := mX4_copyRow) (av := [Aq 37, Aq 35]) (st := []) eX4_text_95 lk_RX4_150 rfl (by decide) (by decide) (Nat.le_of_ble_eq_true rfl) rfl hc6 ?_
        show PW S mX4_text Q 98 [some (Aq 34), some (Iq x1), some (Iq 0)] [] m5
        refine pw_iload_n eX4_text_98 rfl rfl ?_
        refine pw_if_eq eX4_text_99 (fun c7 => ?_) (fun c7 => ?_)
        · skip
          refine pw_iconst eX4_text_106 ⟨by decide, by decide⟩ ?_
          refine pw_aload_n eX4_text_107 rfl rfl ?_
          refine gf_RX4_226 rfl eX4_text_108 sh34 ?_
          obtain ⟨o8, h⟩ := h
          refine pw_isub eX4_text_111 o8 ?_
          exact pw_iret eX4_text_112 h
        · exact absurd (by decide) c7
    · have h := h.2 c2
      refine pw_aload_n eX4_text_58 rfl rfl ?_
      refine gf_RX4_220 rfl eX4_text_59 sh34 ?_
      refine pw_if_eq eX4_text_62 (fun c9 => ?_) (fun c9 => ?_)
      · have h := h.1 c9
        refine pw_iconst eX4_text_72 ⟨by decide, by decide⟩ ?_
        refine pw_goto eX4_text_73 ?_
        refine pw_istore_n (ls2 := [some (Aq 34), some (Iq x1), some (Iq 1)]) eX4_text_77 rfl (by decide) rfl ?_
        refine pw_aload_n eX4_text_78 rfl rfl ?_
        refine pw_iconst eX4_text_79 ⟨by decide, by decide⟩ ?_
        refine pf_RX4_202 rfl eX4_text_80 sh34 ?_
        refine pw_iload_n eX4_text_83 rfl rfl ?_
        refine pw_if_ne eX4_text_84 (fun c10 => ?_) (fun c10 => ?_)
        · skip
          refine pw_iload_n eX4_text_98 rfl rfl ?_
          refine pw_if_eq eX4_text_99 (fun c11 => ?_) (fun c11 => ?_)
          · exact absurd c11 (by decide)
          · skip
            refine pw_iload_n eX4_text_102 rfl rfl ?_
            refine pw_goto eX4_text_103 ?_
            exact pw_iret eX4_text_112 h
        · exact absurd (by decide) c10
      · have h := h.2 c9
        refine pw_aload_n eX4_text_65 rfl rfl ?_
        obtain ⟨v12, m13, hc14, h⟩ := h
        refine pw_cV (z := mX4_fails) (av := []) (st := []) eX4_text_66 lk_RX4_236 rfl (by decide) (by decide) sh34 rfl rfl (Nat.le_of_ble_eq_true rfl) rfl hc14 ?_
        show PW S mX4_text Q 69 [some (Aq 34), some (Iq x1), some (Iq x2)] [Iq v12] m13
        refine pw_if_eq eX4_text_69 (fun c15 => ?_) (fun c15 => ?_)
        · have h := h.1 c15
          refine pw_iconst eX4_text_76 ⟨by decide, by decide⟩ ?_
          refine pw_istore_n (ls2 := [some (Aq 34), some (Iq x1), some (Iq 0)]) eX4_text_77 rfl (by decide) rfl ?_
          refine pw_aload_n eX4_text_78 rfl rfl ?_
          refine pw_iconst eX4_text_79 ⟨by decide, by decide⟩ ?_
          refine pf_RX4_202 rfl eX4_text_80 sh34 ?_
          refine pw_iload_n eX4_text_83 rfl rfl ?_
          refine pw_if_ne eX4_text_84 (fun c16 => ?_) (fun c16 => ?_)
          · exact absurd c16 (by decide)
          · skip
            refine pw_aload_n eX4_text_87 rfl rfl ?_
            refine gf_RX4_16 rfl eX4_text_88 sh34 ?_
            refine pw_aload_n eX4_text_91 rfl rfl ?_
            refine gf_RX4_7 rfl eX4_text_92 sh34 ?_
            obtain ⟨m18, hc19, h⟩ := h
            refine pw_cS (z := mX4_copyRow) (av := [Aq 37, Aq 35]) (st := []) eX4_text_95 lk_RX4_150 rfl (by decide) (by decide) (Nat.le_of_ble_eq_true rfl) rfl hc19 ?_
            show PW S mX4_text Q 98 [some (Aq 34), some (Iq x1), some (Iq 0)] [] m18
            refine pw_iload_n eX4_text_98 rfl rfl ?_
            refine pw_if_eq eX4_text_99 (fun c20 => ?_) (fun c20 => ?_)
            · skip
              refine pw_iconst eX4_text_106 ⟨by decide, by decide⟩ ?_
              refine pw_aload_n eX4_text_107 rfl rfl ?_
              refine gf_RX4_226 rfl eX4_text_108 sh34 ?_
              obtain ⟨o21, h⟩ := h
              refine pw_isub eX4_text_111 o21 ?_
              exact pw_iret eX4_text_112 h
            · exact absurd (by decide) c20
        · have h := h.2 c15
          refine pw_iconst eX4_text_72 ⟨by decide, by decide⟩ ?_
          refine pw_goto eX4_text_73 ?_
          refine pw_istore_n (ls2 := [some (Aq 34), some (Iq x1), some (Iq 1)]) eX4_text_77 rfl (by decide) rfl ?_
          refine pw_aload_n eX4_text_78 rfl rfl ?_
          refine pw_iconst eX4_text_79 ⟨by decide, by decide⟩ ?_
          refine pf_RX4_202 rfl eX4_text_80 sh34 ?_
          refine pw_iload_n eX4_text_83 rfl rfl ?_
          refine pw_if_ne eX4_text_84 (fun c22 => ?_) (fun c22 => ?_)
          · skip
            refine pw_iload_n eX4_text_98 rfl rfl ?_
            refine pw_if_eq eX4_text_99 (fun c23 => ?_) (fun c23 => ?_)
            · exact absurd c23 (by decide)
            · skip
              refine pw_iload_n eX4_text_102 rfl rfl ?_
              refine pw_goto eX4_text_103 ?_
              exact pw_iret eX4_text_112 h
          · exact absurd (by decide) c22
  · have h := h.2 c1
    refine pw_aload_n eX4_text_31 rfl rfl ?_
    refine gf_RX4_220 rfl eX4_text_32 sh34 ?_
    refine pw_iconst eX4_text_35 ⟨by decide, by decide⟩ ?_
    refine pw_icmp_ne eX4_text_36 (fun c24 => ?_) (fun c24 => ?_)
    · have h := h.1 c24
      refine pw_iload_n eX4_text_54 rfl rfl ?_
      refine pw_if_eq eX4_text_55 (fun c25 => ?_) (fun c25 => ?_)
      · have h := h.1 c25
        refine pw_iconst eX4_text_76 ⟨by decide, by decide⟩ ?_
        refine pw_istore_n (ls2 := [some (Aq 34), some (Iq x1), some (Iq 0)]) eX4_text_77 rfl (by decide) rfl ?_
        refine pw_aload_n eX4_text_78 rfl rfl ?_
        refine pw_iconst eX4_text_79 ⟨by decide, by decide⟩ ?_
        refine pf_RX4_202 rfl eX4_text_80 sh34 ?_
        refine pw_iload_n eX4_text_83 rfl rfl ?_
        refine pw_if_ne eX4_text_84 (fun c26 => ?_) (fun c26 => ?_)
        · exact absurd c26 (by decide)
        · skip
          refine pw_aload_n eX4_text_87 rfl rfl ?_
          refine gf_RX4_16 rfl eX4_text_88 sh34 ?_
          refine pw_aload_n eX4_text_91 rfl rfl ?_
          refine gf_RX4_7 rfl eX4_text_92 sh34 ?_
          obtain ⟨m28, hc29, h⟩ := h
          refine pw_cS (z := mX4_copyRow) (av := [Aq 37, Aq 35]) (st := []) eX4_text_95 lk_RX4_150 rfl (by decide) (by decide) (Nat.le_of_ble_eq_true rfl) rfl hc29 ?_
          show PW S mX4_text Q 98 [some (Aq 34), some (Iq x1), some (Iq 0)] [] m28
          refine pw_iload_n eX4_text_98 rfl rfl ?_
          refine pw_if_eq eX4_text_99 (fun c30 => ?_) (fun c30 => ?_)
          · skip
            refine pw_iconst eX4_text_106 ⟨by decide, by decide⟩ ?_
            refine pw_aload_n eX4_text_107 rfl rfl ?_
            refine gf_RX4_226 rfl eX4_text_108 sh34 ?_
            obtain ⟨o31, h⟩ := h
            refine pw_isub eX4_text_111 o31 ?_
            exact pw_iret eX4_text_112 h
          · exact absurd (by decide) c30
      · have h := h.2 c25
        refine pw_aload_n eX4_text_58 rfl rfl ?_
        refine gf_RX4_220 rfl eX4_text_59 sh34 ?_
        refine pw_if_eq eX4_text_62 (fun c32 => ?_) (fun c32 => ?_)
        · have h := h.1 c32
          refine pw_iconst eX4_text_72 ⟨by decide, by decide⟩ ?_
          refine pw_goto eX4_text_73 ?_
          refine pw_istore_n (ls2 := [some (Aq 34), some (Iq x1), some (Iq 1)]) eX4_text_77 rfl (by decide) rfl ?_
          refine pw_aload_n eX4_text_78 rfl rfl ?_
          refine pw_iconst eX4_text_79 ⟨by decide, by decide⟩ ?_
          refine pf_RX4_202 rfl eX4_text_80 sh34 ?_
          refine pw_iload_n eX4_text_83 rfl rfl ?_
          refine pw_if_ne eX4_text_84 (fun c33 => ?_) (fun c33 => ?_)
          · skip
            refine pw_iload_n eX4_text_98 rfl rfl ?_
            refine pw_if_eq eX4_text_99 (fun c34 => ?_) (fun c34 => ?_)
            · exact absurd c34 (by decide)
            · skip
              refine pw_iload_n eX4_text_102 rfl rfl ?_
              refine pw_goto eX4_text_103 ?_
              exact pw_iret eX4_text_112 h
          · exact absurd (by decide) c33
        · have h := h.2 c32
          refine pw_aload_n eX4_text_65 rfl rfl ?_
          obtain ⟨v35, m36, hc37, h⟩ := h
          refine pw_cV (z := mX4_fails) (av := []) (st := []) eX4_text_66 lk_RX4_236 rfl (by decide) (by decide) sh34 rfl rfl (Nat.le_of_ble_eq_true rfl) rfl hc37 ?_
          show PW S mX4_text Q 69 [some (Aq 34), some (Iq x1), some (Iq x2)] [Iq v35] m36
          refine pw_if_eq eX4_text_69 (fun c38 => ?_) (fun c38 => ?_)
          · have h := h.1 c38
            refine pw_iconst eX4_text_76 ⟨by decide, by decide⟩ ?_
            refine pw_istore_n (ls2 := [some (Aq 34), some (Iq x1), some (Iq 0)]) eX4_text_77 rfl (by decide) rfl ?_
            refine pw_aload_n eX4_text_78 rfl rfl ?_
            refine pw_iconst eX4_text_79 ⟨by decide, by decide⟩ ?_
            refine pf_RX4_202 rfl eX4_text_80 sh34 ?_
            refine pw_iload_n eX4_text_83 rfl rfl ?_
            refine pw_if_ne eX4_text_84 (fun c39 => ?_) (fun c39 => ?_)
            · exact absurd c39 (by decide)
            · skip
              refine pw_aload_n eX4_text_87 rfl rfl ?_
              refine gf_RX4_16 rfl eX4_text_88 sh34 ?_
              refine pw_aload_n eX4_text_91 rfl rfl ?_
              refine gf_RX4_7 rfl eX4_text_92 sh34 ?_
              obtain ⟨m41, hc42, h⟩ := h
              refine pw_cS (z := mX4_copyRow) (av := [Aq 37, Aq 35]) (st := []) eX4_text_95 lk_RX4_150 rfl (by decide) (by decide) (Nat.le_of_ble_eq_true rfl) rfl hc42 ?_
              show PW S mX4_text Q 98 [some (Aq 34), some (Iq x1), some (Iq 0)] [] m41
              refine pw_iload_n eX4_text_98 rfl rfl ?_
              refine pw_if_eq eX4_text_99 (fun c43 => ?_) (fun c43 => ?_)
              · skip
                refine pw_iconst eX4_text_106 ⟨by decide, by decide⟩ ?_
                refine pw_aload_n eX4_text_107 rfl rfl ?_
                refine gf_RX4_226 rfl eX4_text_108 sh34 ?_
                obtain ⟨o44, h⟩ := h
                refine pw_isub eX4_text_111 o44 ?_
                exact pw_iret eX4_text_112 h
              · exact absurd (by decide) c43
          · have h := h.2 c38
            refine pw_iconst eX4_text_72 ⟨by decide, by decide⟩ ?_
            refine pw_goto eX4_text_73 ?_
            refine pw_istore_n (ls2 := [some (Aq 34), some (Iq x1), some (Iq 1)]) eX4_text_77 rfl (by decide) rfl ?_
            refine pw_aload_n eX4_text_78 rfl rfl ?_
            refine pw_iconst eX4_text_79 ⟨by decide, by decide⟩ ?_
            refine pf_RX4_202 rfl eX4_text_80 sh34 ?_
            refine pw_iload_n eX4_text_83 rfl rfl ?_
            refine pw_if_ne eX4_text_84 (fun c45 => ?_) (fun c45 => ?_)
            · skip
              refine pw_iload_n eX4_text_98 rfl rfl ?_
              refine pw_if_eq eX4_text_99 (fun c46 => ?_) (fun c46 => ?_)
              · exact absurd c46 (by decide)
              · skip
                refine pw_iload_n eX4_text_102 rfl rfl ?_
                refine pw_goto eX4_text_103 ?_
                exact pw_iret eX4_text_112 h
            · exact absurd (by decide) c45
    · have h := h.2 c24
      refine pw_aload_n eX4_text_39 rfl rfl ?_
      obtain ⟨m48, hc49, h⟩ := h
      refine pw_cV (z := mX4_nextToken) (av := []) (st := []) eX4_text_40 lk_RX4_251 rfl (by decide) (by decide) sh34 rfl rfl (Nat.le_of_ble_eq_true rfl) rfl hc49 ?_
      show PW S mX4_text Q 43 [some (Aq 34), some (Iq x1), some (Iq x2)] [] m48
      refine pw_aload_n eX4_text_43 rfl rfl ?_
      obtain ⟨v50, m51, hc52, h⟩ := h
      refine pw_cV (z := mX4_itemHere) (av := []) (st := []) eX4_text_44 lk_RX4_270 rfl (by decide) (by decide) sh34 rfl rfl (Nat.le_of_ble_eq_true rfl) rfl hc52 ?_
      show PW S mX4_text Q 47 [some (Aq 34), some (Iq x1), some (Iq x2)] [Iq v50] m51
      refine pw_istore_n (ls2 := [some (Aq 34), some (Iq x1), some (Iq v50)]) eX4_text_47 rfl (by decide) rfl ?_
      obtain ⟨o53, h⟩ := h
      refine pw_iinc (ls2 := [some (Aq 34), some (Iq (x1 + 1)), some (Iq v50)]) eX4_text_48 rfl o53 rfl ?_
      refine pw_goto eX4_text_51 ?_
      exact h
set_option maxRecDepth 100000 in
theorem rg_X4_hold_0 {S : Sx} {Q : Option PV → Zm → Prop} {mem : Zm}   {x1 x2 : Int} 
    (h : (∃ (v1 : Int) (m2 : Zm), Ct1 S mX4_isIn [Jq x1, Jq 0, Jq 9] mem (some (Iq v1)) m2 ∧ ((((v1 = 0) → ((∃ (v5 : Int) (m6 : Zm), Ct1 S mX4_finds [Aq 34, Iq (-1000001)] m2 (some (Iq v5)) m6 ∧ (Q (some (Iq v5)) m6)))) ∧ (¬ (v1 = 0) → ((((x2 = -1) → ((in32 (124 + x1)) ∧ (0 ≤ 124 + x1 ∧ 124 + x1 < 134) ∧ Q (some (Iq 1)) (mup m2 35 (124 + x1).toNat x2))) ∧ (¬ (x2 = -1) → ((∃ (v11 : Int) (m12 : Zm), Ct1 S mX4_isChild [Aq 34, Iq x2] m2 (some (Iq v11)) m12 ∧ ((((¬ v11 = 0) → ((in32 (124 + x1)) ∧ (0 ≤ 124 + x1 ∧ 124 + x1 < 134) ∧ Q (some (Iq 1)) (mup m12 35 (124 + x1).toNat x2))) ∧ (¬ (¬ v11 = 0) → ((∃ (v17 : Int) (m18 : Zm), Ct1 S mX4_finds [Aq 34, Iq (-1000001)] m12 (some (Iq v17)) m18 ∧ (Q (some (Iq v17)) m18)))))))))))))))) :
    PW S mX4_hold Q 0 [some (Aq 34), some (Iq x1), some (Iq x2)] [] mem := by
  refine pw_iload_n eX4_hold_0 rfl rfl ?_
  refine pw_i2l eX4_hold_1 ?_
  refine pw_lconst (v := 0) eX4_hold_2 ⟨by decide, by decide⟩ rfl ?_
  refine pw_ldc2 (n := 9) eX4_hold_3 ⟨by decide, by decide⟩ kc_RX4_57 ?_
  obtain ⟨v1, m2, hc3, h⟩ := h
  refine pw_cS (z := mX4_isIn) (av := [Jq x1, Jq 0, Jq 9]) (st := []) eX4_hold_6 lk_RX4_49 rfl (by decide) (by decide) (Nat.le_of_ble_eq_true rfl) rfl hc3 ?_
  show PW S mX4_hold Q 9 [some (Aq 34), some (Iq x1), some (Iq x2)] [Iq v1] m2
  refine pw_if_eq eX4_hold_9 (fun c4 => ?_) (fun c4 => ?_)
  · have h := h.1 c4
    refine pw_aload_n eX4_hold_25 rfl rfl ?_
    refine pw_ldc (n := (-1000001)) eX4_hold_26 ⟨by decide, by decide⟩ kc_RX4_37 ?_
    obtain ⟨v5, m6, hc7, h⟩ := h
    refine pw_cV (z := mX4_finds) (av := [Iq (-1000001)]) (st := []) eX4_hold_28 lk_RX4_39 rfl (by decide) (by decide) sh34 rfl rfl (Nat.le_of_ble_eq_true rfl) rfl hc7 ?_
    show PW S mX4_hold Q 31 [some (Aq 34), some (Iq x1), some (Iq x2)] [Iq v5] m6
    exact pw_iret eX4_hold_31 h
  · have h := h.2 c4
    refine pw_iload_n eX4_hold_12 rfl rfl ?_
    refine pw_iconst eX4_hold_13 ⟨by decide, by decide⟩ ?_
    refine pw_icmp_eq eX4_hold_14 (fun c8 => ?_) (fun c8 => ?_)
    · have h := h.1 c8
      refine pw_aload_n eX4_hold_32 rfl rfl ?_
      refine gf_RX4_7 rfl eX4_hold_33 sh34 ?_
      refine pw_bipush eX4_hold_36 ⟨by decide, by decide⟩ (by decide) ?_
      refine pw_iload_n eX4_hold_38 rfl rfl ?_
      obtain ⟨o9, h⟩ := h
      refine pw_iadd eX4_hold_39 o9 ?_
      refine pw_iload_n eX4_hold_40 rfl rfl ?_
      obtain ⟨o10, h⟩ := h
      refine pw_iast eX4_hold_41 sh35 o10 ?_
      refine pw_iconst eX4_hold_42 ⟨by decide, by decide⟩ ?_
      exact pw_iret eX4_hold_43 h
    · have h := h.2 c8
      refine pw_aload_n eX4_hold_17 rfl rfl ?_
      refine pw_iload_n eX4_hold_18 rfl rfl ?_
      obtain ⟨v11, m12, hc13, h⟩ := h
      refine pw_cV (z := mX4_isChild) (av := [Iq x2]) (st := []) eX4_hold_19 lk_RX4_77 rfl (by decide) (by decide) sh34 rfl rfl (Nat.le_of_ble_eq_true rfl) rfl hc13 ?_
      show PW S mX4_hold Q 22 [some (Aq 34), some (Iq x1), some (Iq x2)] [Iq v11] m12
      refine pw_if_ne eX4_hold_22 (fun c14 => ?_) (fun c14 => ?_)
      · have h := h.1 c14
        refine pw_aload_n eX4_hold_32 rfl rfl ?_
        refine gf_RX4_7 rfl eX4_hold_33 sh34 ?_
        refine pw_bipush eX4_hold_36 ⟨by decide, by decide⟩ (by decide) ?_
        refine pw_iload_n eX4_hold_38 rfl rfl ?_
        obtain ⟨o15, h⟩ := h
        refine pw_iadd eX4_hold_39 o15 ?_
        refine pw_iload_n eX4_hold_40 rfl rfl ?_
        obtain ⟨o16, h⟩ := h
        refine pw_iast eX4_hold_41 sh35 o16 ?_
        refine pw_iconst eX4_hold_42 ⟨by decide, by decide⟩ ?_
        exact pw_iret eX4_hold_43 h
      · have h := h.2 c14
        refine pw_aload_n eX4_hold_25 rfl rfl ?_
        refine pw_ldc (n := (-1000001)) eX4_hold_26 ⟨by decide, by decide⟩ kc_RX4_37 ?_
        obtain ⟨v17, m18, hc19, h⟩ := h
        refine pw_cV (z := mX4_finds) (av := [Iq (-1000001)]) (st := []) eX4_hold_28 lk_RX4_39 rfl (by decide) (by decide) sh34 rfl rfl (Nat.le_of_ble_eq_true rfl) rfl hc19 ?_
        show PW S mX4_hold Q 31 [some (Aq 34), some (Iq x1), some (Iq x2)] [Iq v17] m18
        exact pw_iret eX4_hold_31 h
set_option maxRecDepth 100000 in
theorem rg_X4_isUnder_0 {S : Sx} {Q : Option PV → Zm → Prop} {mem : Zm}   {x0 x1 : Int} 
    (h : (((x1 = 0) → (Q (some (Iq 1)) mem)) ∧ (¬ (x1 = 0) → ((((x0 = x1) → (Q (some (Iq 1)) mem)) ∧ (¬ (x0 = x1) → ((((¬ x1 = 2) → ((((¬ x1 = 3) → ((((¬ x1 = 1) → (Q (some (Iq 0)) mem)) ∧ (¬ (¬ x1 = 1) → ((((¬ x0 = 6) → (Q (some (Iq 0)) mem)) ∧ (¬ (¬ x0 = 6) → (Q (some (Iq 1)) mem)))))))) ∧ (¬ (¬ x1 = 3) → ((((x0 = 4) → (Q (some (Iq 1)) mem)) ∧ (¬ (x0 = 4) → ((((¬ x1 = 1) → (Q (some (Iq 0)) mem)) ∧ (¬ (¬ x1 = 1) → ((((¬ x0 = 6) → (Q (some (Iq 0)) mem)) ∧ (¬ (¬ x0 = 6) → (Q (some (Iq 1)) mem)))))))))))))) ∧ (¬ (¬ x1 = 2) → ((((x0 = 3) → (Q (some (Iq 1)) mem)) ∧ (¬ (x0 = 3) → ((((x0 = 4) → (Q (some (Iq 1)) mem)) ∧ (¬ (x0 = 4) → ((((¬ x1 = 3) → ((((¬ x1 = 1) → (Q (some (Iq 0)) mem)) ∧ (¬ (¬ x1 = 1) → ((((¬ x0 = 6) → (Q (some (Iq 0)) mem)) ∧ (¬ (¬ x0 = 6) → (Q (some (Iq 1)) mem)))))))) ∧ (¬ (¬ x1 = 3) → ((((x0 = 4) → (Q (some (Iq 1)) mem)) ∧ (¬ (x0 = 4) → ((((¬ x1 = 1) → (Q (some (Iq 0)) mem)) ∧ (¬ (¬ x1 = 1) → ((((¬ x0 = 6) → (Q (some (Iq 0)) mem)) ∧ (¬ (¬ x0 = 6) → (Q (some (Iq 1)) mem)))))))))))))))))))))))))))) :
    PW S mX4_isUnder Q 0 [some (Iq x0), some (Iq x1)] [] mem := by
  refine pw_iload_n eX4_isUnder_0 rfl rfl ?_
  refine pw_if_eq eX4_isUnder_1 (fun c1 => ?_) (fun c1 => ?_)
  · have h := h.1 c1
    refine pw_iconst eX4_isUnder_45 ⟨by decide, by decide⟩ ?_
    refine pw_goto eX4_isUnder_46 ?_
    exact pw_iret eX4_isUnder_50 h
  · have h := h.2 c1
    refine pw_iload_n eX4_isUnder_4 rfl rfl ?_
    refine pw_iload_n eX4_isUnder_5 rfl rfl ?_
    refine pw_icmp_eq eX4_isUnder_6 (fun c2 => ?_) (fun c2 => ?_)
    · have h := h.1 c2
      refine pw_iconst eX4_isUnder_45 ⟨by decide, by decide⟩ ?_
      refine pw_goto eX4_isUnder_46 ?_
      exact pw_iret eX4_isUnder_50 h
    · have h := h.2 c2
      refine pw_iload_n eX4_isUnder_9 rfl rfl ?_
      refine pw_iconst eX4_isUnder_10 ⟨by decide, by decide⟩ ?_
      refine pw_icmp_ne eX4_isUnder_11 (fun c3 => ?_) (fun c3 => ?_)
      · have h := h.1 c3
        refine pw_iload_n eX4_isUnder_24 rfl rfl ?_
        refine pw_iconst eX4_isUnder_25 ⟨by decide, by decide⟩ ?_
        refine pw_icmp_ne eX4_isUnder_26 (fun c4 => ?_) (fun c4 => ?_)
        · have h := h.1 c4
          refine pw_iload_n eX4_isUnder_34 rfl rfl ?_
          refine pw_iconst eX4_isUnder_35 ⟨by decide, by decide⟩ ?_
          refine pw_icmp_ne eX4_isUnder_36 (fun c5 => ?_) (fun c5 => ?_)
          · have h := h.1 c5
            refine pw_iconst eX4_isUnder_49 ⟨by decide, by decide⟩ ?_
            exact pw_iret eX4_isUnder_50 h
          · have h := h.2 c5
            refine pw_iload_n eX4_isUnder_39 rfl rfl ?_
            refine pw_bipush eX4_isUnder_40 ⟨by decide, by decide⟩ (by decide) ?_
            refine pw_icmp_ne eX4_isUnder_42 (fun c6 => ?_) (fun c6 => ?_)
            · have h := h.1 c6
              refine pw_iconst eX4_isUnder_49 ⟨by decide, by decide⟩ ?_
              exact pw_iret eX4_isUnder_50 h
            · have h := h.2 c6
              refine pw_iconst eX4_isUnder_45 ⟨by decide, by decide⟩ ?_
              refine pw_goto eX4_isUnder_46 ?_
              exact pw_iret eX4_isUnder_50 h
        · have h := h.2 c4
          refine pw_iload_n eX4_isUnder_29 rfl rfl ?_
          refine pw_iconst eX4_isUnder_30 ⟨by decide, by decide⟩ ?_
          refine pw_icmp_eq eX4_isUnder_31 (fun c7 => ?_) (fun c7 => ?_)
          · have h := h.1 c7
            refine pw_iconst eX4_isUnder_45 ⟨by decide, by decide⟩ ?_
            refine pw_goto eX4_isUnder_46 ?_
            exact pw_iret eX4_isUnder_50 h
          · have h := h.2 c7
            refine pw_iload_n eX4_isUnder_34 rfl rfl ?_
            refine pw_iconst eX4_isUnder_35 ⟨by decide, by decide⟩ ?_
            refine pw_icmp_ne eX4_isUnder_36 (fun c8 => ?_) (fun c8 => ?_)
            · have h := h.1 c8
              refine pw_iconst eX4_isUnder_49 ⟨by decide, by decide⟩ ?_
              exact pw_iret eX4_isUnder_50 h
            · have h := h.2 c8
              refine pw_iload_n eX4_isUnder_39 rfl rfl ?_
              refine pw_bipush eX4_isUnder_40 ⟨by decide, by decide⟩ (by decide) ?_
              refine pw_icmp_ne eX4_isUnder_42 (fun c9 => ?_) (fun c9 => ?_)
              · have h := h.1 c9
                refine pw_iconst eX4_isUnder_49 ⟨by decide, by decide⟩ ?_
                exact pw_iret eX4_isUnder_50 h
              · have h := h.2 c9
                refine pw_iconst eX4_isUnder_45 ⟨by decide, by decide⟩ ?_
                refine pw_goto eX4_isUnder_46 ?_
                exact pw_iret eX4_isUnder_50 h
      · have h := h.2 c3
        refine pw_iload_n eX4_isUnder_14 rfl rfl ?_
        refine pw_iconst eX4_isUnder_15 ⟨by decide, by decide⟩ ?_
        refine pw_icmp_eq eX4_isUnder_16 (fun c10 => ?_) (fun c10 => ?_)
        · have h := h.1 c10
          refine pw_iconst eX4_isUnder_45 ⟨by decide, by decide⟩ ?_
          refine pw_goto eX4_isUnder_46 ?_
          exact pw_iret eX4_isUnder_50 h
        · have h := h.2 c10
          refine pw_iload_n eX4_isUnder_19 rfl rfl ?_
          refine pw_iconst eX4_isUnder_20 ⟨by decide, by decide⟩ ?_
          refine pw_icmp_eq eX4_isUnder_21 (fun c11 => ?_) (fun c11 => ?_)
          · have h := h.1 c11
            refine pw_iconst eX4_isUnder_45 ⟨by decide, by decide⟩ ?_
            refine pw_goto eX4_isUnder_46 ?_
            exact pw_iret eX4_isUnder_50 h
          · have h := h.2 c11
            refine pw_iload_n eX4_isUnder_24 rfl rfl ?_
            refine pw_iconst eX4_isUnder_25 ⟨by decide, by decide⟩ ?_
            refine pw_icmp_ne eX4_isUnder_26 (fun c12 => ?_) (fun c12 => ?_)
            · have h := h.1 c12
              refine pw_iload_n eX4_isUnder_34 rfl rfl ?_
              refine pw_iconst eX4_isUnder_35 ⟨by decide, by decide⟩ ?_
              refine pw_icmp_ne eX4_isUnder_36 (fun c13 => ?_) (fun c13 => ?_)
              · have h := h.1 c13
                refine pw_iconst eX4_isUnder_49 ⟨by decide, by decide⟩ ?_
                exact pw_iret eX4_isUnder_50 h
              · have h := h.2 c13
                refine pw_iload_n eX4_isUnder_39 rfl rfl ?_
                refine pw_bipush eX4_isUnder_40 ⟨by decide, by decide⟩ (by decide) ?_
                refine pw_icmp_ne eX4_isUnder_42 (fun c14 => ?_) (fun c14 => ?_)
                · have h := h.1 c14
                  refine pw_iconst eX4_isUnder_49 ⟨by decide, by decide⟩ ?_
                  exact pw_iret eX4_isUnder_50 h
                · have h := h.2 c14
                  refine pw_iconst eX4_isUnder_45 ⟨by decide, by decide⟩ ?_
                  refine pw_goto eX4_isUnder_46 ?_
                  exact pw_iret eX4_isUnder_50 h
            · have h := h.2 c12
              refine pw_iload_n eX4_isUnder_29 rfl rfl ?_
              refine pw_iconst eX4_isUnder_30 ⟨by decide, by decide⟩ ?_
              refine pw_icmp_eq eX4_isUnder_31 (fun c15 => ?_) (fun c15 => ?_)
              · have h := h.1 c15
                refine pw_iconst eX4_isUnder_45 ⟨by decide, by decide⟩ ?_
                refine pw_goto eX4_isUnder_46 ?_
                exact pw_iret eX4_isUnder_50 h
              · have h := h.2 c15
                refine pw_iload_n eX4_isUnder_34 rfl rfl ?_
                refine pw_iconst eX4_isUnder_35 ⟨by decide, by decide⟩ ?_
                refine pw_icmp_ne eX4_isUnder_36 (fun c16 => ?_) (fun c16 => ?_)
                · have h := h.1 c16
                  refine pw_iconst eX4_isUnder_49 ⟨by decide, by decide⟩ ?_
                  exact pw_iret eX4_isUnder_50 h
                · have h := h.2 c16
                  refine pw_iload_n eX4_isUnder_39 rfl rfl ?_
                  refine pw_bipush eX4_isUnder_40 ⟨by decide, by decide⟩ (by decide) ?_
                  refine pw_icmp_ne eX4_isUnder_42 (fun c17 => ?_) (fun c17 => ?_)
                  · have h := h.1 c17
                    refine pw_iconst eX4_isUnder_49 ⟨by decide, by decide⟩ ?_
                    exact pw_iret eX4_isUnder_50 h
                  · have h := h.2 c17
                    refine pw_iconst eX4_isUnder_45 ⟨by decide, by decide⟩ ?_
                    refine pw_goto eX4_isUnder_46 ?_
                    exact pw_iret eX4_isUnder_50 h
set_option maxRecDepth 100000 in
theorem rg_X4_as_0 {S : Sx} {Q : Option PV → Zm → Prop} {mem : Zm}   {x1 x2 : Int} 
    (h : (∃ (v1 : Int) (m2 : Zm), Ct1 S mX4_isIn [Jq x1, Jq 0, Jq 9] mem (some (Iq v1)) m2 ∧ ((((v1 = 0) → ((∃ (v5 : Int) (m6 : Zm), Ct1 S mX4_finds [Aq 34, Iq (-1000001)] m2 (some (Iq v5)) m6 ∧ (Q (some (Iq v5)) m6)))) ∧ (¬ (v1 = 0) → ((∃ (v8 : Int) (m9 : Zm), Ct1 S mX4_isIn [Jq x2, Jq 0, Jq 6] m2 (some (Iq v8)) m9 ∧ ((((¬ v8 = 0) → ((in32 (124 + x1)) ∧ (0 ≤ 124 + x1 ∧ 124 + x1 < 134) ∧ (((0 ≤ m9 35 (124 + x1).toNat) → ((∃ (v15 : Int) (m16 : Zm), Ct1 S mX4_its [Aq 34, Iq (m9 35 (124 + x1).toNat), Iq 0] m9 (some (Iq v15)) m16 ∧ ((∃ (v18 : Int) (m19 : Zm), Ct1 S mX4_isUnder [Iq v15, Iq x2] m16 (some (Iq v18)) m19 ∧ ((((v18 = 0) → ((∃ (v22 : Int) (m23 : Zm), Ct1 S mX4_finds [Aq 34, Iq (-1000003)] m19 (some (Iq v22)) m23 ∧ (Q (some (Iq v22)) m23)))) ∧ (¬ (v18 = 0) → (Q (some (Iq (m9 35 (124 + x1).toNat))) m19))))))))) ∧ (¬ (0 ≤ m9 35 (124 + x1).toNat) → ((∃ (v25 : Int) (m26 : Zm), Ct1 S mX4_finds [Aq 34, Iq (-1000006)] m9 (some (Iq v25)) m26 ∧ (Q (some (Iq v25)) m26))))))) ∧ (¬ (¬ v8 = 0) → ((∃ (v28 : Int) (m29 : Zm), Ct1 S mX4_finds [Aq 34, Iq (-1000001)] m9 (some (Iq v28)) m29 ∧ (Q (some (Iq v28)) m29))))))))))))) :
    PW S mX4_as Q 0 [some (Aq 34), some (Iq x1), some (Iq x2), none] [] mem := by
  refine pw_iload_n eX4_as_0 rfl rfl ?_
  refine pw_i2l eX4_as_1 ?_
  refine pw_lconst (v := 0) eX4_as_2 ⟨by decide, by decide⟩ rfl ?_
  refine pw_ldc2 (n := 9) eX4_as_3 ⟨by decide, by decide⟩ kc_RX4_57 ?_
  obtain ⟨v1, m2, hc3, h⟩ := h
  refine pw_cS (z := mX4_isIn) (av := [Jq x1, Jq 0, Jq 9]) (st := []) eX4_as_6 lk_RX4_49 rfl (by decide) (by decide) (Nat.le_of_ble_eq_true rfl) rfl hc3 ?_
  show PW S mX4_as Q 9 [some (Aq 34), some (Iq x1), some (Iq x2), none] [Iq v1] m2
  refine pw_if_eq eX4_as_9 (fun c4 => ?_) (fun c4 => ?_)
  · have h := h.1 c4
    refine pw_aload_n eX4_as_24 rfl rfl ?_
    refine pw_ldc (n := (-1000001)) eX4_as_25 ⟨by decide, by decide⟩ kc_RX4_37 ?_
    obtain ⟨v5, m6, hc7, h⟩ := h
    refine pw_cV (z := mX4_finds) (av := [Iq (-1000001)]) (st := []) eX4_as_27 lk_RX4_39 rfl (by decide) (by decide) sh34 rfl rfl (Nat.le_of_ble_eq_true rfl) rfl hc7 ?_
    show PW S mX4_as Q 30 [some (Aq 34), some (Iq x1), some (Iq x2), none] [Iq v5] m6
    exact pw_iret eX4_as_30 h
  · have h := h.2 c4
    refine pw_iload_n eX4_as_12 rfl rfl ?_
    refine pw_i2l eX4_as_13 ?_
    refine pw_lconst (v := 0) eX4_as_14 ⟨by decide, by decide⟩ rfl ?_
    refine pw_ldc2 (n := 6) eX4_as_15 ⟨by decide, by decide⟩ kc_RX4_62 ?_
    obtain ⟨v8, m9, hc10, h⟩ := h
    refine pw_cS (z := mX4_isIn) (av := [Jq x2, Jq 0, Jq 6]) (st := []) eX4_as_18 lk_RX4_49 rfl (by decide) (by decide) (Nat.le_of_ble_eq_true rfl) rfl hc10 ?_
    show PW S mX4_as Q 21 [some (Aq 34), some (Iq x1), some (Iq x2), none] [Iq v8] m9
    refine pw_if_ne eX4_as_21 (fun c11 => ?_) (fun c11 => ?_)
    · have h := h.1 c11
      refine pw_aload_n eX4_as_31 rfl rfl ?_
      refine gf_RX4_7 rfl eX4_as_32 sh34 ?_
      refine pw_bipush eX4_as_35 ⟨by decide, by decide⟩ (by decide) ?_
      refine pw_iload_n eX4_as_37 rfl rfl ?_
      obtain ⟨o12, h⟩ := h
      refine pw_iadd eX4_as_38 o12 ?_
      obtain ⟨o13, h⟩ := h
      refine pw_iald eX4_as_39 sh35 o13 ?_
      refine pw_istore_n (ls2 := [some (Aq 34), some (Iq x1), some (Iq x2), some (Iq (m9 35 (124 + x1).toNat))]) eX4_as_40 rfl (by decide) rfl ?_
      refine pw_iload_n eX4_as_41 rfl rfl ?_
      refine pw_if_ge eX4_as_42 (fun c14 => ?_) (fun c14 => ?_)
      · have h := h.1 c14
        refine pw_aload_n eX4_as_53 rfl rfl ?_
        refine pw_iload_n eX4_as_54 rfl rfl ?_
        refine pw_iconst eX4_as_55 ⟨by decide, by decide⟩ ?_
        obtain ⟨v15, m16, hc17, h⟩ := h
        refine pw_cV (z := mX4_its) (av := [Iq (m9 35 (124 + x1).toNat), Iq 0]) (st := []) eX4_as_56 lk_RX4_71 rfl (by decide) (by decide) sh34 rfl rfl (Nat.le_of_ble_eq_true rfl) rfl hc17 ?_
        show PW S mX4_as Q 59 [some (Aq 34), some (Iq x1), some (Iq x2), some (Iq (m9 35 (124 + x1).toNat))] [Iq v15] m16
        refine pw_iload_n eX4_as_59 rfl rfl ?_
        obtain ⟨v18, m19, hc20, h⟩ := h
        refine pw_cS (z := mX4_isUnder) (av := [Iq v15, Iq x2]) (st := []) eX4_as_60 lk_RX4_274 rfl (by decide) (by decide) (Nat.le_of_ble_eq_true rfl) rfl hc20 ?_
        show PW S mX4_as Q 63 [some (Aq 34), some (Iq x1), some (Iq x2), some (Iq (m9 35 (124 + x1).toNat))] [Iq v18] m19
        refine pw_if_eq eX4_as_63 (fun c21 => ?_) (fun c21 => ?_)
        · have h := h.1 c21
          refine pw_aload_n eX4_as_70 rfl rfl ?_
          refine pw_ldcw (n := (-1000003)) eX4_as_71 ⟨by decide, by decide⟩ kc_RX4_277 ?_
          obtain ⟨v22, m23, hc24, h⟩ := h
          refine pw_cV (z := mX4_finds) (av := [Iq (-1000003)]) (st := []) eX4_as_74 lk_RX4_39 rfl (by decide) (by decide) sh34 rfl rfl (Nat.le_of_ble_eq_true rfl) rfl hc24 ?_
          show PW S mX4_as Q 77 [some (Aq 34), some (Iq x1), some (Iq x2), some (Iq (m9 35 (124 + x1).toNat))] [Iq v22] m23
          exact pw_iret eX4_as_77 h
        · have h := h.2 c21
          refine pw_iload_n eX4_as_66 rfl rfl ?_
          refine pw_goto eX4_as_67 ?_
          exact pw_iret eX4_as_77 h
      · have h := h.2 c14
        refine pw_aload_n eX4_as_45 rfl rfl ?_
        refine pw_ldcw (n := (-1000006)) eX4_as_46 ⟨by decide, by decide⟩ kc_RX4_273 ?_
        obtain ⟨v25, m26, hc27, h⟩ := h
        refine pw_cV (z := mX4_finds) (av := [Iq (-1000006)]) (st := []) eX4_as_49 lk_RX4_39 rfl (by decide) (by decide) sh34 rfl rfl (Nat.le_of_ble_eq_true rfl) rfl hc27 ?_
        show PW S mX4_as Q 52 [some (Aq 34), some (Iq x1), some (Iq x2), some (Iq (m9 35 (124 + x1).toNat))] [Iq v25] m26
        exact pw_iret eX4_as_52 h
    · have h := h.2 c11
      refine pw_aload_n eX4_as_24 rfl rfl ?_
      refine pw_ldc (n := (-1000001)) eX4_as_25 ⟨by decide, by decide⟩ kc_RX4_37 ?_
      obtain ⟨v28, m29, hc30, h⟩ := h
      refine pw_cV (z := mX4_finds) (av := [Iq (-1000001)]) (st := []) eX4_as_27 lk_RX4_39 rfl (by decide) (by decide) sh34 rfl rfl (Nat.le_of_ble_eq_true rfl) rfl hc30 ?_
      show PW S mX4_as Q 30 [some (Aq 34), some (Iq x1), some (Iq x2), none] [Iq v28] m29
      exact pw_iret eX4_as_30 h
set_option maxRecDepth 100000 in
theorem rg_X4_isSheet_0 {S : Sx} {Q : Option PV → Zm → Prop} {mem : Zm}   {x0 : Int} 
    (h : (((x0 < 0) → (Q (some (Iq 0)) mem)) ∧ (¬ (x0 < 0) → ((((4 ≤ x0) → (Q (some (Iq 0)) mem)) ∧ (¬ (4 ≤ x0) → (Q (some (Iq 1)) mem))))))) :
    PW S mX4_isSheet Q 0 [some (Iq x0)] [] mem := by
  refine pw_iload_n eX4_isSheet_0 rfl rfl ?_
  refine pw_if_lt eX4_isSheet_1 (fun c1 => ?_) (fun c1 => ?_)
  · have h := h.1 c1
    refine pw_iconst eX4_isSheet_13 ⟨by decide, by decide⟩ ?_
    exact pw_iret eX4_isSheet_14 h
  · have h := h.2 c1
    refine pw_iload_n eX4_isSheet_4 rfl rfl ?_
    refine pw_iconst eX4_isSheet_5 ⟨by decide, by decide⟩ ?_
    refine pw_icmp_ge eX4_isSheet_6 (fun c2 => ?_) (fun c2 => ?_)
    · have h := h.1 c2
      refine pw_iconst eX4_isSheet_13 ⟨by decide, by decide⟩ ?_
      exact pw_iret eX4_isSheet_14 h
    · have h := h.2 c2
      refine pw_iconst eX4_isSheet_9 ⟨by decide, by decide⟩ ?_
      refine pw_goto eX4_isSheet_10 ?_
      exact pw_iret eX4_isSheet_14 h
set_option maxRecDepth 100000 in
theorem rg_X4_sheet_0 {S : Sx} {Q : Option PV → Zm → Prop} {mem : Zm}   {x1 x2 x3 : Int} 
    (h : (∃ (v1 : Int) (m2 : Zm), Ct1 S mX4_isSheet [Iq x1] mem (some (Iq v1)) m2 ∧ ((((v1 = 0) → ((∃ (v5 : Int) (m6 : Zm), Ct1 S mX4_finds [Aq 34, Iq (-1000001)] m2 (some (Iq v5)) m6 ∧ (Q (some (Iq v5)) m6)))) ∧ (¬ (v1 = 0) → ((((x2 = 0) → ((((0 ≤ x3) → ((((x3 ≤ 40) → ((((¬ x2 = 0) → ((0 ≤ x1 ∧ x1 < 4) ∧ (((¬ x2 = 0) → ((0 ≤ x1 ∧ x1 < 4) ∧ PW S mX4_sheet Q 94 [some (Aq 34), some (Iq x1), some (Iq x2), some (Iq x3), some (Iq 0)] [] (mup (mup m2 41 (x1).toNat x2) 42 (x1).toNat x3))) ∧ (¬ (¬ x2 = 0) → ((0 ≤ x1 ∧ x1 < 4) ∧ PW S mX4_sheet Q 94 [some (Aq 34), some (Iq x1), some (Iq x2), some (Iq x3), some (Iq 0)] [] (mup (mup m2 41 (x1).toNat x2) 42 (x1).toNat 0)))))) ∧ (¬ (¬ x2 = 0) → ((0 ≤ x1 ∧ x1 < 4) ∧ (((¬ x2 = 0) → ((0 ≤ x1 ∧ x1 < 4) ∧ PW S mX4_sheet Q 94 [some (Aq 34), some (Iq x1), some (Iq x2), some (Iq x3), some (Iq 0)] [] (mup (mup m2 41 (x1).toNat (-1)) 42 (x1).toNat x3))) ∧ (¬ (¬ x2 = 0) → ((0 ≤ x1 ∧ x1 < 4) ∧ PW S mX4_sheet Q 94 [some (Aq 34), some (Iq x1), some (Iq x2), some (Iq x3), some (Iq 0)] [] (mup (mup m2 41 (x1).toNat (-1)) 42 (x1).toNat 0))))))))) ∧ (¬ (x3 ≤ 40) → ((∃ (v20 : Int) (m21 : Zm), Ct1 S mX4_finds [Aq 34, Iq (-1000001)] m2 (some (Iq v20)) m21 ∧ (Q (some (Iq v20)) m21))))))) ∧ (¬ (0 ≤ x3) → ((∃ (v23 : Int) (m24 : Zm), Ct1 S mX4_finds [Aq 34, Iq (-1000007)] m2 (some (Iq v23)) m24 ∧ (Q (some (Iq v23)) m24))))))) ∧ (¬ (x2 = 0) → ((((x2 = 8) → ((((0 ≤ x3) → ((((x3 ≤ 40) → ((((¬ x2 = 0) → ((0 ≤ x1 ∧ x1 < 4) ∧ (((¬ x2 = 0) → ((0 ≤ x1 ∧ x1 < 4) ∧ PW S mX4_sheet Q 94 [some (Aq 34), some (Iq x1), some (Iq x2), some (Iq x3), some (Iq 0)] [] (mup (mup m2 41 (x1).toNat x2) 42 (x1).toNat x3))) ∧ (¬ (¬ x2 = 0) → ((0 ≤ x1 ∧ x1 < 4) ∧ PW S mX4_sheet Q 94 [some (Aq 34), some (Iq x1), some (Iq x2), some (Iq x3), some (Iq 0)] [] (mup (mup m2 41 (x1).toNat x2) 42 (x1).toNat 0)))))) ∧ (¬ (¬ x2 = 0) → ((0 ≤ x1 ∧ x1 < 4) ∧ (((¬ x2 = 0) → ((0 ≤ x1 ∧ x1 < 4) ∧ PW S mX4_sheet Q 94 [some (Aq 34), some (Iq x1), some (Iq x2), some (Iq x3), some (Iq 0)] [] (mup (mup m2 41 (x1).toNat (-1)) 42 (x1).toNat x3))) ∧ (¬ (¬ x2 = 0) → ((0 ≤ x1 ∧ x1 < 4) ∧ PW S mX4_sheet Q 94 [some (Aq 34), some (Iq x1), some (Iq x2), some (Iq x3), some (Iq 0)] [] (mup (mup m2 41 (x1).toNat (-1)) 42 (x1).toNat 0))))))))) ∧ (¬ (x3 ≤ 40) → ((∃ (v38 : Int) (m39 : Zm), Ct1 S mX4_finds [Aq 34, Iq (-1000001)] m2 (some (Iq v38)) m39 ∧ (Q (some (Iq v38)) m39))))))) ∧ (¬ (0 ≤ x3) → ((∃ (v41 : Int) (m42 : Zm), Ct1 S mX4_finds [Aq 34, Iq (-1000007)] m2 (some (Iq v41)) m42 ∧ (Q (some (Iq v41)) m42))))))) ∧ (¬ (x2 = 8) → ((((x2 = 16) → ((((0 ≤ x3) → ((((x3 ≤ 40) → ((((¬ x2 = 0) → ((0 ≤ x1 ∧ x1 < 4) ∧ (((¬ x2 = 0) → ((0 ≤ x1 ∧ x1 < 4) ∧ PW S mX4_sheet Q 94 [some (Aq 34), some (Iq x1), some (Iq x2), some (Iq x3), some (Iq 0)] [] (mup (mup m2 41 (x1).toNat x2) 42 (x1).toNat x3))) ∧ (¬ (¬ x2 = 0) → ((0 ≤ x1 ∧ x1 < 4) ∧ PW S mX4_sheet Q 94 [some (Aq 34), some (Iq x1), some (Iq x2), some (Iq x3), some (Iq 0)] [] (mup (mup m2 41 (x1).toNat x2) 42 (x1).toNat 0)))))) ∧ (¬ (¬ x2 = 0) → ((0 ≤ x1 ∧ x1 < 4) ∧ (((¬ x2 = 0) → ((0 ≤ x1 ∧ x1 < 4) ∧ PW S mX4_sheet Q 94 [some (Aq 34), some (Iq x1), some (Iq x2), some (Iq x3), some (Iq 0)] [] (mup (mup m2 41 (x1).toNat (-1)) 42 (x1).toNat x3))) ∧ (¬ (¬ x2 = 0) → ((0 ≤ x1 ∧ x1 < 4) ∧ PW S mX4_sheet Q 94 [some (Aq 34), some (Iq x1), some (Iq x2), some (Iq x3), some (Iq 0)] [] (mup (mup m2 41 (x1).toNat (-1)) 42 (x1).toNat 0))))))))) ∧ (¬ (x3 ≤ 40) → ((∃ (v56 : Int) (m57 : Zm), Ct1 S mX4_finds [Aq 34, Iq (-1000001)] m2 (some (Iq v56)) m57 ∧ (Q (some (Iq v56)) m57))))))) ∧ (¬ (0 ≤ x3) → ((∃ (v59 : Int) (m60 : Zm), Ct1 S mX4_finds [Aq 34, Iq (-1000007)] m2 (some (Iq v59)) m60 ∧ (Q (some (Iq v59)) m60))))))) ∧ (¬ (x2 = 16) → ((((x2 = 32) → ((((0 ≤ x3) → ((((x3 ≤ 40) → ((((¬ x2 = 0) → ((0 ≤ x1 ∧ x1 < 4) ∧ (((¬ x2 = 0) → ((0 ≤ x1 ∧ x1 < 4) ∧ PW S mX4_sheet Q 94 [some (Aq 34), some (Iq x1), some (Iq x2), some (Iq x3), some (Iq 0)] [] (mup (mup m2 41 (x1).toNat x2) 42 (x1).toNat x3))) ∧ (¬ (¬ x2 = 0) → ((0 ≤ x1 ∧ x1 < 4) ∧ PW S mX4_sheet Q 94 [some (Aq 34), some (Iq x1), some (Iq x2), some (Iq x3), some (Iq 0)] [] (mup (mup m2 41 (x1).toNat x2) 42 (x1).toNat 0)))))) ∧ (¬ (¬ x2 = 0) → ((0 ≤ x1 ∧ x1 < 4) ∧ (((¬ x2 = 0) → ((0 ≤ x1 ∧ x1 < 4) ∧ PW S mX4_sheet Q 94 [some (Aq 34), some (Iq x1), some (Iq x2), some (Iq x3), some (Iq 0)] [] (mup (mup m2 41 (x1).toNat (-1)) 42 (x1).toNat x3))) ∧ (¬ (¬ x2 = 0) → ((0 ≤ x1 ∧ x1 < 4) ∧ PW S mX4_sheet Q 94 [some (Aq 34), some (Iq x1), some (Iq x2), some (Iq x3), some (Iq 0)] [] (mup (mup m2 41 (x1).toNat (-1)) 42 (x1).toNat 0))))))))) ∧ (¬ (x3 ≤ 40) → ((∃ (v74 : Int) (m75 : Zm), Ct1 S mX4_finds [Aq 34, Iq (-1000001)] m2 (some (Iq v74)) m75 ∧ (Q (some (Iq v74)) m75))))))) ∧ (¬ (0 ≤ x3) → ((∃ (v77 : Int) (m78 : Zm), Ct1 S mX4_finds [Aq 34, Iq (-1000007)] m2 (some (Iq v77)) m78 ∧ (Q (some (Iq v77)) m78))))))) ∧ (¬ (x2 = 32) → ((∃ (v80 : Int) (m81 : Zm), Ct1 S mX4_finds [Aq 34, Iq (-1000001)] m2 (some (Iq v80)) m81 ∧ (Q (some (Iq v80)) m81)))))))))))))))))))) :
    PW S mX4_sheet Q 0 [some (Aq 34), some (Iq x1), some (Iq x2), some (Iq x3), none] [] mem := by
  refine pw_iload_n eX4_sheet_0 rfl rfl ?_
  obtain ⟨v1, m2, hc3, h⟩ := h
  refine pw_cS (z := mX4_isSheet) (av := [Iq x1]) (st := []) eX4_sheet_1 lk_RX4_278 rfl (by decide) (by decide) (Nat.le_of_ble_eq_true rfl) rfl hc3 ?_
  show PW S mX4_sheet Q 4 [some (Aq 34), some (Iq x1), some (Iq x2), some (Iq x3), none] [Iq v1] m2
  refine pw_if_eq eX4_sheet_4 (fun c4 => ?_) (fun c4 => ?_)
  · have h := h.1 c4
    refine pw_aload_n eX4_sheet_29 rfl rfl ?_
    refine pw_ldc (n := (-1000001)) eX4_sheet_30 ⟨by decide, by decide⟩ kc_RX4_37 ?_
    obtain ⟨v5, m6, hc7, h⟩ := h
    refine pw_cV (z := mX4_finds) (av := [Iq (-1000001)]) (st := []) eX4_sheet_32 lk_RX4_39 rfl (by decide) (by decide) sh34 rfl rfl (Nat.le_of_ble_eq_true rfl) rfl hc7 ?_
    show PW S mX4_sheet Q 35 [some (Aq 34), some (Iq x1), some (Iq x2), some (Iq x3), none] [Iq v5] m6
    exact pw_iret eX4_sheet_35 h
  · have h := h.2 c4
    refine pw_iload_n eX4_sheet_7 rfl rfl ?_
    refine pw_if_eq eX4_sheet_8 (fun c8 => ?_) (fun c8 => ?_)
    · have h := h.1 c8
      refine pw_iload_n eX4_sheet_36 rfl rfl ?_
      refine pw_if_ge eX4_sheet_37 (fun c9 => ?_) (fun c9 => ?_)
      · have h := h.1 c9
        refine pw_iload_n eX4_sheet_48 rfl rfl ?_
        refine pw_bipush eX4_sheet_49 ⟨by decide, by decide⟩ (by decide) ?_
        refine pw_icmp_le eX4_sheet_51 (fun c10 => ?_) (fun c10 => ?_)
        · have h := h.1 c10
          refine pw_aload_n eX4_sheet_61 rfl rfl ?_
          refine gf_RX4_28 rfl eX4_sheet_62 sh34 ?_
          refine pw_iload_n eX4_sheet_65 rfl rfl ?_
          refine pw_iload_n eX4_sheet_66 rfl rfl ?_
          refine pw_if_ne eX4_sheet_67 (fun c11 => ?_) (fun c11 => ?_)
          · have h := h.1 c11
            refine pw_iload_n eX4_sheet_74 rfl rfl ?_
            obtain ⟨o12, h⟩ := h
            refine pw_iast eX4_sheet_75 sh41 o12 ?_
            refine pw_aload_n eX4_sheet_76 rfl rfl ?_
            refine gf_RX4_31 rfl eX4_sheet_77 sh34 ?_
            refine pw_iload_n eX4_sheet_80 rfl rfl ?_
            refine pw_iload_n eX4_sheet_81 rfl rfl ?_
            refine pw_if_ne eX4_sheet_82 (fun c13 => ?_) (fun c13 => ?_)
            · have h := h.1 c13
              refine pw_iload_n eX4_sheet_89 rfl rfl ?_
              obtain ⟨o14, h⟩ := h
              refine pw_iast eX4_sheet_90 sh42 o14 ?_
              refine pw_iconst eX4_sheet_91 ⟨by decide, by decide⟩ ?_
              refine pw_istore (ls2 := [some (Aq 34), some (Iq x1), some (Iq x2), some (Iq x3), some (Iq 0)]) eX4_sheet_92 (by decide) rfl ?_
              exact h
            · have h := h.2 c13
              refine pw_iconst eX4_sheet_85 ⟨by decide, by decide⟩ ?_
              refine pw_goto eX4_sheet_86 ?_
              obtain ⟨o15, h⟩ := h
              refine pw_iast eX4_sheet_90 sh42 o15 ?_
              refine pw_iconst eX4_sheet_91 ⟨by decide, by decide⟩ ?_
              refine pw_istore (ls2 := [some (Aq 34), some (Iq x1), some (Iq x2), some (Iq x3), some (Iq 0)]) eX4_sheet_92 (by decide) rfl ?_
              exact h
          · have h := h.2 c11
            refine pw_iconst eX4_sheet_70 ⟨by decide, by decide⟩ ?_
            refine pw_goto eX4_sheet_71 ?_
            obtain ⟨o16, h⟩ := h
            refine pw_iast eX4_sheet_75 sh41 o16 ?_
            refine pw_aload_n eX4_sheet_76 rfl rfl ?_
            refine gf_RX4_31 rfl eX4_sheet_77 sh34 ?_
            refine pw_iload_n eX4_sheet_80 rfl rfl ?_
            refine pw_iload_n eX4_sheet_81 rfl rfl ?_
            refine pw_if_ne eX4_sheet_82 (fun c17 => ?_) (fun c17 => ?_)
            · have h := h.1 c17
              refine pw_iload_n eX4_sheet_89 rfl rfl ?_
              obtain ⟨o18, h⟩ := h
              refine pw_iast eX4_sheet_90 sh42 o18 ?_
              refine pw_iconst eX4_sheet_91 ⟨by decide, by decide⟩ ?_
              refine pw_istore (ls2 := [some (Aq 34), some (Iq x1), some (Iq x2), some (Iq x3), some (Iq 0)]) eX4_sheet_92 (by decide) rfl ?_
              exact h
            · have h := h.2 c17
              refine pw_iconst eX4_sheet_85 ⟨by decide, by decide⟩ ?_
              refine pw_goto eX4_sheet_86 ?_
              obtain ⟨o19, h⟩ := h
              refine pw_iast eX4_sheet_90 sh42 o19 ?_
              refine pw_iconst eX4_sheet_91 ⟨by decide, by decide⟩ ?_
              refine pw_istore (ls2 := [some (Aq 34), some (Iq x1), some (Iq x2), some (Iq x3), some (Iq 0)]) eX4_sheet_92 (by decide) rfl ?_
              exact h
        · have h := h.2 c10
          refine pw_aload_n eX4_sheet_54 rfl rfl ?_
          refine pw_ldc (n := (-1000001)) eX4_sheet_55 ⟨by decide, by decide⟩ kc_RX4_37 ?_
          obtain ⟨v20, m21, hc22, h⟩ := h
          refine pw_cV (z := mX4_finds) (av := [Iq (-1000001)]) (st := []) eX4_sheet_57 lk_RX4_39 rfl (by decide) (by decide) sh34 rfl rfl (Nat.le_of_ble_eq_true rfl) rfl hc22 ?_
          show PW S mX4_sheet Q 60 [some (Aq 34), some (Iq x1), some (Iq x2), some (Iq x3), none] [Iq v20] m21
          exact pw_iret eX4_sheet_60 h
      · have h := h.2 c9
        refine pw_aload_n eX4_sheet_40 rfl rfl ?_
        refine pw_ldcw (n := (-1000007)) eX4_sheet_41 ⟨by decide, by decide⟩ kc_RX4_281 ?_
        obtain ⟨v23, m24, hc25, h⟩ := h
        refine pw_cV (z := mX4_finds) (av := [Iq (-1000007)]) (st := []) eX4_sheet_44 lk_RX4_39 rfl (by decide) (by decide) sh34 rfl rfl (Nat.le_of_ble_eq_true rfl) rfl hc25 ?_
        show PW S mX4_sheet Q 47 [some (Aq 34), some (Iq x1), some (Iq x2), some (Iq x3), none] [Iq v23] m24
        exact pw_iret eX4_sheet_47 h
    · have h := h.2 c8
      refine pw_iload_n eX4_sheet_11 rfl rfl ?_
      refine pw_bipush eX4_sheet_12 ⟨by decide, by decide⟩ (by decide) ?_
      refine pw_icmp_eq eX4_sheet_14 (fun c26 => ?_) (fun c26 => ?_)
      · have h := h.1 c26
        refine pw_iload_n eX4_sheet_36 rfl rfl ?_
        refine pw_if_ge eX4_sheet_37 (fun c27 => ?_) (fun c27 => ?_)
        · have h := h.1 c27
          refine pw_iload_n eX4_sheet_48 rfl rfl ?_
          refine pw_bipush eX4_sheet_49 ⟨by decide, by decide⟩ (by decide) ?_
          refine pw_icmp_le eX4_sheet_51 (fun c28 => ?_) (fun c28 => ?_)
          · have h := h.1 c28
            refine pw_aload_n eX4_sheet_61 rfl rfl ?_
            refine gf_RX4_28 rfl eX4_sheet_62 sh34 ?_
            refine pw_iload_n eX4_sheet_65 rfl rfl ?_
            refine pw_iload_n eX4_sheet_66 rfl rfl ?_
            refine pw_if_ne eX4_sheet_67 (fun c29 => ?_) (fun c29 => ?_)
            · have h := h.1 c29
              refine pw_iload_n eX4_sheet_74 rfl rfl ?_
              obtain ⟨o30, h⟩ := h
              refine pw_iast eX4_sheet_75 sh41 o30 ?_
              refine pw_aload_n eX4_sheet_76 rfl rfl ?_
              refine gf_RX4_31 rfl eX4_sheet_77 sh34 ?_
              refine pw_iload_n eX4_sheet_80 rfl rfl ?_
              refine pw_iload_n eX4_sheet_81 rfl rfl ?_
              refine pw_if_ne eX4_sheet_82 (fun c31 => ?_) (fun c31 => ?_)
              · have h := h.1 c31
                refine pw_iload_n eX4_sheet_89 rfl rfl ?_
                obtain ⟨o32, h⟩ := h
                refine pw_iast eX4_sheet_90 sh42 o32 ?_
                refine pw_iconst eX4_sheet_91 ⟨by decide, by decide⟩ ?_
                refine pw_istore (ls2 := [some (Aq 34), some (Iq x1), some (Iq x2), some (Iq x3), some (Iq 0)]) eX4_sheet_92 (by decide) rfl ?_
                exact h
              · have h := h.2 c31
                refine pw_iconst eX4_sheet_85 ⟨by decide, by decide⟩ ?_
                refine pw_goto eX4_sheet_86 ?_
                obtain ⟨o33, h⟩ := h
                refine pw_iast eX4_sheet_90 sh42 o33 ?_
                refine pw_iconst eX4_sheet_91 ⟨by decide, by decide⟩ ?_
                refine pw_istore (ls2 := [some (Aq 34), some (Iq x1), some (Iq x2), some (Iq x3), some (Iq 0)]) eX4_sheet_92 (by decide) rfl ?_
                exact h
            · have h := h.2 c29
              refine pw_iconst eX4_sheet_70 ⟨by decide, by decide⟩ ?_
              refine pw_goto eX4_sheet_71 ?_
              obtain ⟨o34, h⟩ := h
              refine pw_iast eX4_sheet_75 sh41 o34 ?_
              refine pw_aload_n eX4_sheet_76 rfl rfl ?_
              refine gf_RX4_31 rfl eX4_sheet_77 sh34 ?_
              refine pw_iload_n eX4_sheet_80 rfl rfl ?_
              refine pw_iload_n eX4_sheet_81 rfl rfl ?_
              refine pw_if_ne eX4_sheet_82 (fun c35 => ?_) (fun c35 => ?_)
              · have h := h.1 c35
                refine pw_iload_n eX4_sheet_89 rfl rfl ?_
                obtain ⟨o36, h⟩ := h
                refine pw_iast eX4_sheet_90 sh42 o36 ?_
                refine pw_iconst eX4_sheet_91 ⟨by decide, by decide⟩ ?_
                refine pw_istore (ls2 := [some (Aq 34), some (Iq x1), some (Iq x2), some (Iq x3), some (Iq 0)]) eX4_sheet_92 (by decide) rfl ?_
                exact h
              · have h := h.2 c35
                refine pw_iconst eX4_sheet_85 ⟨by decide, by decide⟩ ?_
                refine pw_goto eX4_sheet_86 ?_
                obtain ⟨o37, h⟩ := h
                refine pw_iast eX4_sheet_90 sh42 o37 ?_
                refine pw_iconst eX4_sheet_91 ⟨by decide, by decide⟩ ?_
                refine pw_istore (ls2 := [some (Aq 34), some (Iq x1), some (Iq x2), some (Iq x3), some (Iq 0)]) eX4_sheet_92 (by decide) rfl ?_
                exact h
          · have h := h.2 c28
            refine pw_aload_n eX4_sheet_54 rfl rfl ?_
            refine pw_ldc (n := (-1000001)) eX4_sheet_55 ⟨by decide, by decide⟩ kc_RX4_37 ?_
            obtain ⟨v38, m39, hc40, h⟩ := h
            refine pw_cV (z := mX4_finds) (av := [Iq (-1000001)]) (st := []) eX4_sheet_57 lk_RX4_39 rfl (by decide) (by decide) sh34 rfl rfl (Nat.le_of_ble_eq_true rfl) rfl hc40 ?_
            show PW S mX4_sheet Q 60 [some (Aq 34), some (Iq x1), some (Iq x2), some (Iq x3), none] [Iq v38] m39
            exact pw_iret eX4_sheet_60 h
        · have h := h.2 c27
          refine pw_aload_n eX4_sheet_40 rfl rfl ?_
          refine pw_ldcw (n := (-1000007)) eX4_sheet_41 ⟨by decide, by decide⟩ kc_RX4_281 ?_
          obtain ⟨v41, m42, hc43, h⟩ := h
          refine pw_cV (z := mX4_finds) (av := [Iq (-1000007)]) (st := []) eX4_sheet_44 lk_RX4_39 rfl (by decide) (by decide) sh34 rfl rfl (Nat.le_of_ble_eq_true rfl) rfl hc43 ?_
          show PW S mX4_sheet Q 47 [some (Aq 34), some (Iq x1), some (Iq x2), some (Iq x3), none] [Iq v41] m42
          exact pw_iret eX4_sheet_47 h
      · have h := h.2 c26
        refine pw_iload_n eX4_sheet_17 rfl rfl ?_
        refine pw_bipush eX4_sheet_18 ⟨by decide, by decide⟩ (by decide) ?_
        refine pw_icmp_eq eX4_sheet_20 (fun c44 => ?_) (fun c44 => ?_)
        · have h := h.1 c44
          refine pw_iload_n eX4_sheet_36 rfl rfl ?_
          refine pw_if_ge eX4_sheet_37 (fun c45 => ?_) (fun c45 => ?_)
          · have h := h.1 c45
            refine pw_iload_n eX4_sheet_48 rfl rfl ?_
            refine pw_bipush eX4_sheet_49 ⟨by decide, by decide⟩ (by decide) ?_
            refine pw_icmp_le eX4_sheet_51 (fun c46 => ?_) (fun c46 => ?_)
            · have h := h.1 c46
              refine pw_aload_n eX4_sheet_61 rfl rfl ?_
              refine gf_RX4_28 rfl eX4_sheet_62 sh34 ?_
              refine pw_iload_n eX4_sheet_65 rfl rfl ?_
              refine pw_iload_n eX4_sheet_66 rfl rfl ?_
              refine pw_if_ne eX4_sheet_67 (fun c47 => ?_) (fun c47 => ?_)
              · have h := h.1 c47
                refine pw_iload_n eX4_sheet_74 rfl rfl ?_
                obtain ⟨o48, h⟩ := h
                refine pw_iast eX4_sheet_75 sh41 o48 ?_
                refine pw_aload_n eX4_sheet_76 rfl rfl ?_
                refine gf_RX4_31 rfl eX4_sheet_77 sh34 ?_
                refine pw_iload_n eX4_sheet_80 rfl rfl ?_
                refine pw_iload_n eX4_sheet_81 rfl rfl ?_
                refine pw_if_ne eX4_sheet_82 (fun c49 => ?_) (fun c49 => ?_)
                · have h := h.1 c49
                  refine pw_iload_n eX4_sheet_89 rfl rfl ?_
                  obtain ⟨o50, h⟩ := h
                  refine pw_iast eX4_sheet_90 sh42 o50 ?_
                  refine pw_iconst eX4_sheet_91 ⟨by decide, by decide⟩ ?_
                  refine pw_istore (ls2 := [some (Aq 34), some (Iq x1), some (Iq x2), some (Iq x3), some (Iq 0)]) eX4_sheet_92 (by decide) rfl ?_
                  exact h
                · have h := h.2 c49
                  refine pw_iconst eX4_sheet_85 ⟨by decide, by decide⟩ ?_
                  refine pw_goto eX4_sheet_86 ?_
                  obtain ⟨o51, h⟩ := h
                  refine pw_iast eX4_sheet_90 sh42 o51 ?_
                  refine pw_iconst eX4_sheet_91 ⟨by decide, by decide⟩ ?_
                  refine pw_istore (ls2 := [some (Aq 34), some (Iq x1), some (Iq x2), some (Iq x3), some (Iq 0)]) eX4_sheet_92 (by decide) rfl ?_
                  exact h
              · have h := h.2 c47
                refine pw_iconst eX4_sheet_70 ⟨by decide, by decide⟩ ?_
                refine pw_goto eX4_sheet_71 ?_
                obtain ⟨o52, h⟩ := h
                refine pw_iast eX4_sheet_75 sh41 o52 ?_
                refine pw_aload_n eX4_sheet_76 rfl rfl ?_
                refine gf_RX4_31 rfl eX4_sheet_77 sh34 ?_
                refine pw_iload_n eX4_sheet_80 rfl rfl ?_
                refine pw_iload_n eX4_sheet_81 rfl rfl ?_
                refine pw_if_ne eX4_sheet_82 (fun c53 => ?_) (fun c53 => ?_)
                · have h := h.1 c53
                  refine pw_iload_n eX4_sheet_89 rfl rfl ?_
                  obtain ⟨o54, h⟩ := h
                  refine pw_iast eX4_sheet_90 sh42 o54 ?_
                  refine pw_iconst eX4_sheet_91 ⟨by decide, by decide⟩ ?_
                  refine pw_istore (ls2 := [some (Aq 34), some (Iq x1), some (Iq x2), some (Iq x3), some (Iq 0)]) eX4_sheet_92 (by decide) rfl ?_
                  exact h
                · have h := h.2 c53
                  refine pw_iconst eX4_sheet_85 ⟨by decide, by decide⟩ ?_
                  refine pw_goto eX4_sheet_86 ?_
                  obtain ⟨o55, h⟩ := h
                  refine pw_iast eX4_sheet_90 sh42 o55 ?_
                  refine pw_iconst eX4_sheet_91 ⟨by decide, by decide⟩ ?_
                  refine pw_istore (ls2 := [some (Aq 34), some (Iq x1), some (Iq x2), some (Iq x3), some (Iq 0)]) eX4_sheet_92 (by decide) rfl ?_
                  exact h
            · have h := h.2 c46
              refine pw_aload_n eX4_sheet_54 rfl rfl ?_
              refine pw_ldc (n := (-1000001)) eX4_sheet_55 ⟨by decide, by decide⟩ kc_RX4_37 ?_
              obtain ⟨v56, m57, hc58, h⟩ := h
              refine pw_cV (z := mX4_finds) (av := [Iq (-1000001)]) (st := []) eX4_sheet_57 lk_RX4_39 rfl (by decide) (by decide) sh34 rfl rfl (Nat.le_of_ble_eq_true rfl) rfl hc58 ?_
              show PW S mX4_sheet Q 60 [some (Aq 34), some (Iq x1), some (Iq x2), some (Iq x3), none] [Iq v56] m57
              exact pw_iret eX4_sheet_60 h
          · have h := h.2 c45
            refine pw_aload_n eX4_sheet_40 rfl rfl ?_
            refine pw_ldcw (n := (-1000007)) eX4_sheet_41 ⟨by decide, by decide⟩ kc_RX4_281 ?_
            obtain ⟨v59, m60, hc61, h⟩ := h
            refine pw_cV (z := mX4_finds) (av := [Iq (-1000007)]) (st := []) eX4_sheet_44 lk_RX4_39 rfl (by decide) (by decide) sh34 rfl rfl (Nat.le_of_ble_eq_true rfl) rfl hc61 ?_
            show PW S mX4_sheet Q 47 [some (Aq 34), some (Iq x1), some (Iq x2), some (Iq x3), none] [Iq v59] m60
            exact pw_iret eX4_sheet_47 h
        · have h := h.2 c44
          refine pw_iload_n eX4_sheet_23 rfl rfl ?_
          refine pw_bipush eX4_sheet_24 ⟨by decide, by decide⟩ (by decide) ?_
          refine pw_icmp_eq eX4_sheet_26 (fun c62 => ?_) (fun c62 => ?_)
          · have h := h.1 c62
            refine pw_iload_n eX4_sheet_36 rfl rfl ?_
            refine pw_if_ge eX4_sheet_37 (fun c63 => ?_) (fun c63 => ?_)
            · have h := h.1 c63
              refine pw_iload_n eX4_sheet_48 rfl rfl ?_
              refine pw_bipush eX4_sheet_49 ⟨by decide, by decide⟩ (by decide) ?_
              refine pw_icmp_le eX4_sheet_51 (fun c64 => ?_) (fun c64 => ?_)
              · have h := h.1 c64
                refine pw_aload_n eX4_sheet_61 rfl rfl ?_
                refine gf_RX4_28 rfl eX4_sheet_62 sh34 ?_
                refine pw_iload_n eX4_sheet_65 rfl rfl ?_
                refine pw_iload_n eX4_sheet_66 rfl rfl ?_
                refine pw_if_ne eX4_sheet_67 (fun c65 => ?_) (fun c65 => ?_)
                · have h := h.1 c65
                  refine pw_iload_n eX4_sheet_74 rfl rfl ?_
                  obtain ⟨o66, h⟩ := h
                  refine pw_iast eX4_sheet_75 sh41 o66 ?_
                  refine pw_aload_n eX4_sheet_76 rfl rfl ?_
                  refine gf_RX4_31 rfl eX4_sheet_77 sh34 ?_
                  refine pw_iload_n eX4_sheet_80 rfl rfl ?_
                  refine pw_iload_n eX4_sheet_81 rfl rfl ?_
                  refine pw_if_ne eX4_sheet_82 (fun c67 => ?_) (fun c67 => ?_)
                  · have h := h.1 c67
                    refine pw_iload_n eX4_sheet_89 rfl rfl ?_
                    obtain ⟨o68, h⟩ := h
                    refine pw_iast eX4_sheet_90 sh42 o68 ?_
                    refine pw_iconst eX4_sheet_91 ⟨by decide, by decide⟩ ?_
                    refine pw_istore (ls2 := [some (Aq 34), some (Iq x1), some (Iq x2), some (Iq x3), some (Iq 0)]) eX4_sheet_92 (by decide) rfl ?_
                    exact h
                  · have h := h.2 c67
                    refine pw_iconst eX4_sheet_85 ⟨by decide, by decide⟩ ?_
                    refine pw_goto eX4_sheet_86 ?_
                    obtain ⟨o69, h⟩ := h
                    refine pw_iast eX4_sheet_90 sh42 o69 ?_
                    refine pw_iconst eX4_sheet_91 ⟨by decide, by decide⟩ ?_
                    refine pw_istore (ls2 := [some (Aq 34), some (Iq x1), some (Iq x2), some (Iq x3), some (Iq 0)]) eX4_sheet_92 (by decide) rfl ?_
                    exact h
                · have h := h.2 c65
                  refine pw_iconst eX4_sheet_70 ⟨by decide, by decide⟩ ?_
                  refine pw_goto eX4_sheet_71 ?_
                  obtain ⟨o70, h⟩ := h
                  refine pw_iast eX4_sheet_75 sh41 o70 ?_
                  refine pw_aload_n eX4_sheet_76 rfl rfl ?_
                  refine gf_RX4_31 rfl eX4_sheet_77 sh34 ?_
                  refine pw_iload_n eX4_sheet_80 rfl rfl ?_
                  refine pw_iload_n eX4_sheet_81 rfl rfl ?_
                  refine pw_if_ne eX4_sheet_82 (fun c71 => ?_) (fun c71 => ?_)
                  · have h := h.1 c71
                    refine pw_iload_n eX4_sheet_89 rfl rfl ?_
                    obtain ⟨o72, h⟩ := h
                    refine pw_iast eX4_sheet_90 sh42 o72 ?_
                    refine pw_iconst eX4_sheet_91 ⟨by decide, by decide⟩ ?_
                    refine pw_istore (ls2 := [some (Aq 34), some (Iq x1), some (Iq x2), some (Iq x3), some (Iq 0)]) eX4_sheet_92 (by decide) rfl ?_
                    exact h
                  · have h := h.2 c71
                    refine pw_iconst eX4_sheet_85 ⟨by decide, by decide⟩ ?_
                    refine pw_goto eX4_sheet_86 ?_
                    obtain ⟨o73, h⟩ := h
                    refine pw_iast eX4_sheet_90 sh42 o73 ?_
                    refine pw_iconst eX4_sheet_91 ⟨by decide, by decide⟩ ?_
                    refine pw_istore (ls2 := [some (Aq 34), some (Iq x1), some (Iq x2), some (Iq x3), some (Iq 0)]) eX4_sheet_92 (by decide) rfl ?_
                    exact h
              · have h := h.2 c64
                refine pw_aload_n eX4_sheet_54 rfl rfl ?_
                refine pw_ldc (n := (-1000001)) eX4_sheet_55 ⟨by decide, by decide⟩ kc_RX4_37 ?_
                obtain ⟨v74, m75, hc76, h⟩ := h
                refine pw_cV (z := mX4_finds) (av := [Iq (-1000001)]) (st := []) eX4_sheet_57 lk_RX4_39 rfl (by decide) (by decide) sh34 rfl rfl (Nat.le_of_ble_eq_true rfl) rfl hc76 ?_
                show PW S mX4_sheet Q 60 [some (Aq 34), some (Iq x1), some (Iq x2), some (Iq x3), none] [Iq v74] m75
                exact pw_iret eX4_sheet_60 h
            · have h := h.2 c63
              refine pw_aload_n eX4_sheet_40 rfl rfl ?_
              refine pw_ldcw (n := (-1000007)) eX4_sheet_41 ⟨by decide, by decide⟩ kc_RX4_281 ?_
              obtain ⟨v77, m78, hc79, h⟩ := h
              refine pw_cV (z := mX4_finds) (av := [Iq (-1000007)]) (st := []) eX4_sheet_44 lk_RX4_39 rfl (by decide) (by decide) sh34 rfl rfl (Nat.le_of_ble_eq_true rfl) rfl hc79 ?_
              show PW S mX4_sheet Q 47 [some (Aq 34), some (Iq x1), some (Iq x2), some (Iq x3), none] [Iq v77] m78
              exact pw_iret eX4_sheet_47 h
          · have h := h.2 c62
            refine pw_aload_n eX4_sheet_29 rfl rfl ?_
            refine pw_ldc (n := (-1000001)) eX4_sheet_30 ⟨by decide, by decide⟩ kc_RX4_37 ?_
            obtain ⟨v80, m81, hc82, h⟩ := h
            refine pw_cV (z := mX4_finds) (av := [Iq (-1000001)]) (st := []) eX4_sheet_32 lk_RX4_39 rfl (by decide) (by decide) sh34 rfl rfl (Nat.le_of_ble_eq_true rfl) rfl hc82 ?_
            show PW S mX4_sheet Q 35 [some (Aq 34), some (Iq x1), some (Iq x2), some (Iq x3), none] [Iq v80] m81
            exact pw_iret eX4_sheet_35 h

set_option maxRecDepth 100000 in
theorem rg_X4_sheet_94 {S : Sx} {Q : Option PV → Zm → Prop} {mem : Zm}   {x1 x2 x3 x4 : Int} 
    (h : (((40 ≤ x4) → ((0 ≤ x1 ∧ x1 < 4) ∧ Q (some (Iq (mem 42 (x1).toNat))) mem)) ∧ (¬ (40 ≤ x4) → ((in32 (40 * x1)) ∧ (in32 ((40 * x1) + x4)) ∧ (0 ≤ (40 * x1) + x4 ∧ (40 * x1) + x4 < 160) ∧ (in32 (x4 + 1)) ∧ PW S mX4_sheet Q 94 [some (Aq 34), some (Iq x1), some (Iq x2), some (Iq x3), some (Iq (x4 + 1))] [] (mup mem 43 ((40 * x1) + x4).toNat 0))))) :
    PW S mX4_sheet Q 94 [some (Aq 34), some (Iq x1), some (Iq x2), some (Iq x3), some (Iq x4)] [] mem := by
  refine pw_iload eX4_sheet_94 rfl ?_
  refine pw_bipush eX4_sheet_96 ⟨by decide, by decide⟩ (by decide) ?_
  refine pw_icmp_ge eX4_sheet_98 (fun c1 => ?_) (fun c1 => ?_)
  · have h := h.1 c1
    refine pw_aload_n eX4_sheet_120 rfl rfl ?_
    refine gf_RX4_31 rfl eX4_sheet_121 sh34 ?_
    refine pw_iload_n eX4_sheet_124 rfl rfl ?_
    obtain ⟨o2, h⟩ := h
    refine pw_iald eX4_sheet_125 sh42 o2 ?_
    exact pw_iret eX4_sheet_126 h
  · have h := h.2 c1
    refine pw_aload_n eX4_sheet_101 rfl rfl ?_
    refine gf_RX4_34 rfl eX4_sheet_102 sh34 ?_
    refine pw_bipush eX4_sheet_105 ⟨by decide, by decide⟩ (by decide) ?_
    refine pw_iload_n eX4_sheet_107 rfl rfl ?_
    obtain ⟨o3, h⟩ := h
    refine pw_imul eX4_sheet_108 o3 ?_
    refine pw_iload eX4_sheet_109 rfl ?_
    obtain ⟨o4, h⟩ := h
    refine pw_iadd eX4_sheet_111 o4 ?_
    refine pw_iconst eX4_sheet_112 ⟨by decide, by decide⟩ ?_
    obtain ⟨o5, h⟩ := h
    refine pw_iast eX4_sheet_113 sh43 o5 ?_
    obtain ⟨o6, h⟩ := h
    refine pw_iinc (ls2 := [some (Aq 34), some (Iq x1), some (Iq x2), some (Iq x3), some (Iq (x4 + 1))]) eX4_sheet_114 rfl o6 rfl ?_
    refine pw_goto eX4_sheet_117 ?_
    exact h
set_option maxRecDepth 100000 in
theorem rg_X4_write_0 {S : Sx} {Q : Option PV → Zm → Prop} {mem : Zm}   {x1 x2 x3 : Int} 
    (h : (∃ (v1 : Int) (m2 : Zm), Ct1 S mX4_isSheet [Iq x1] mem (some (Iq v1)) m2 ∧ ((((¬ v1 = 0) → ((0 ≤ x1 ∧ x1 < 4) ∧ (((0 ≤ m2 41 (x1).toNat) → ((0 ≤ x1 ∧ x1 < 4) ∧ (in32 ((m2 42 (x1).toNat) - 1)) ∧ (∃ (v9 : Int) (m10 : Zm), Ct1 S mX4_isIn [Jq x2, Jq 0, Jq ((m2 42 (x1).toNat) - 1)] m2 (some (Iq v9)) m10 ∧ ((((¬ v9 = 0) → ((in32 (40 * x1)) ∧ (in32 ((40 * x1) + x2)) ∧ (0 ≤ x1 ∧ x1 < 4) ∧ (((¬ m10 41 (x1).toNat = 8) → ((0 ≤ x1 ∧ x1 < 4) ∧ (((¬ m10 41 (x1).toNat = 16) → ((0 ≤ (40 * x1) + x2 ∧ (40 * x1) + x2 < 160) ∧ Q (some (Iq 1)) (mup m10 43 ((40 * x1) + x2).toNat x3))) ∧ (¬ (¬ m10 41 (x1).toNat = 16) → ((0 ≤ (40 * x1) + x2 ∧ (40 * x1) + x2 < 160) ∧ Q (some (Iq 1)) (mup m10 43 ((40 * x1) + x2).toNat (toSh x3))))))) ∧ (¬ (¬ m10 41 (x1).toNat = 8) → ((0 ≤ (40 * x1) + x2 ∧ (40 * x1) + x2 < 160) ∧ Q (some (Iq 1)) (mup m10 43 ((40 * x1) + x2).toNat (toB x3))))))) ∧ (¬ (¬ v9 = 0) → ((∃ (v22 : Int) (m23 : Zm), Ct1 S mX4_finds [Aq 34, Iq (-1000001)] m10 (some (Iq v22)) m23 ∧ (Q (some (Iq v22)) m23))))))))) ∧ (¬ (0 ≤ m2 41 (x1).toNat) → ((∃ (v25 : Int) (m26 : Zm), Ct1 S mX4_finds [Aq 34, Iq (-1000006)] m2 (some (Iq v25)) m26 ∧ (Q (some (Iq v25)) m26))))))) ∧ (¬ (¬ v1 = 0) → ((∃ (v28 : Int) (m29 : Zm), Ct1 S mX4_finds [Aq 34, Iq (-1000001)] m2 (some (Iq v28)) m29 ∧ (Q (some (Iq v28)) m29)))))))) :
    PW S mX4_write Q 0 [some (Aq 34), some (Iq x1), some (Iq x2), some (Iq x3)] [] mem := by
  refine pw_iload_n eX4_write_0 rfl rfl ?_
  obtain ⟨v1, m2, hc3, h⟩ := h
  refine pw_cS (z := mX4_isSheet) (av := [Iq x1]) (st := []) eX4_write_1 lk_RX4_278 rfl (by decide) (by decide) (Nat.le_of_ble_eq_true rfl) rfl hc3 ?_
  show PW S mX4_write Q 4 [some (Aq 34), some (Iq x1), some (Iq x2), some (Iq x3)] [Iq v1] m2
  refine pw_if_ne eX4_write_4 (fun c4 => ?_) (fun c4 => ?_)
  · have h := h.1 c4
    refine pw_aload_n eX4_write_14 rfl rfl ?_
    refine gf_RX4_28 rfl eX4_write_15 sh34 ?_
    refine pw_iload_n eX4_write_18 rfl rfl ?_
    obtain ⟨o5, h⟩ := h
    refine pw_iald eX4_write_19 sh41 o5 ?_
    refine pw_if_ge eX4_write_20 (fun c6 => ?_) (fun c6 => ?_)
    · have h := h.1 c6
      refine pw_iload_n eX4_write_31 rfl rfl ?_
      refine pw_i2l eX4_write_32 ?_
      refine pw_lconst (v := 0) eX4_write_33 ⟨by decide, by decide⟩ rfl ?_
      refine pw_aload_n eX4_write_34 rfl rfl ?_
      refine gf_RX4_31 rfl eX4_write_35 sh34 ?_
      refine pw_iload_n eX4_write_38 rfl rfl ?_
      obtain ⟨o7, h⟩ := h
      refine pw_iald eX4_write_39 sh42 o7 ?_
      refine pw_iconst eX4_write_40 ⟨by decide, by decide⟩ ?_
      obtain ⟨o8, h⟩ := h
      refine pw_isub eX4_write_41 o8 ?_
      refine pw_i2l eX4_write_42 ?_
      obtain ⟨v9, m10, hc11, h⟩ := h
      refine pw_cS (z := mX4_isIn) (av := [Jq x2, Jq 0, Jq ((m2 42 (x1).toNat) - 1)]) (st := []) eX4_write_43 lk_RX4_49 rfl (by decide) (by decide) (Nat.le_of_ble_eq_true rfl) rfl hc11 ?_
      show PW S mX4_write Q 46 [some (Aq 34), some (Iq x1), some (Iq x2), some (Iq x3)] [Iq v9] m10
      refine pw_if_ne eX4_write_46 (fun c12 => ?_) (fun c12 => ?_)
      · have h := h.1 c12
        refine pw_aload_n eX4_write_56 rfl rfl ?_
        refine gf_RX4_34 rfl eX4_write_57 sh34 ?_
        refine pw_bipush eX4_write_60 ⟨by decide, by decide⟩ (by decide) ?_
        refine pw_iload_n eX4_write_62 rfl rfl ?_
        obtain ⟨o13, h⟩ := h
        refine pw_imul eX4_write_63 o13 ?_
        refine pw_iload_n eX4_write_64 rfl rfl ?_
        obtain ⟨o14, h⟩ := h
        refine pw_iadd eX4_write_65 o14 ?_
        refine pw_aload_n eX4_write_66 rfl rfl ?_
        refine gf_RX4_28 rfl eX4_write_67 sh34 ?_
        refine pw_iload_n eX4_write_70 rfl rfl ?_
        obtain ⟨o15, h⟩ := h
        refine pw_iald eX4_write_71 sh41 o15 ?_
        refine pw_bipush eX4_write_72 ⟨by decide, by decide⟩ (by decide) ?_
        refine pw_icmp_ne eX4_write_74 (fun c16 => ?_) (fun c16 => ?_)
        · have h := h.1 c16
          refine pw_aload_n eX4_write_82 rfl rfl ?_
          refine gf_RX4_28 rfl eX4_write_83 sh34 ?_
          refine pw_iload_n eX4_write_86 rfl rfl ?_
          obtain ⟨o17, h⟩ := h
          refine pw_iald eX4_write_87 sh41 o17 ?_
          refine pw_bipush eX4_write_88 ⟨by decide, by decide⟩ (by decide) ?_
          refine pw_icmp_ne eX4_write_90 (fun c18 => ?_) (fun c18 => ?_)
          · have h := h.1 c18
            refine pw_iload_n eX4_write_98 rfl rfl ?_
            obtain ⟨o19, h⟩ := h
            refine pw_iast eX4_write_99 sh43 o19 ?_
            refine pw_iconst eX4_write_100 ⟨by decide, by decide⟩ ?_
            exact pw_iret eX4_write_101 h
          · have h := h.2 c18
            refine pw_iload_n eX4_write_93 rfl rfl ?_
            refine pw_i2s eX4_write_94 ?_
            refine pw_goto eX4_write_95 ?_
            obtain ⟨o20, h⟩ := h
            refine pw_iast eX4_write_99 sh43 o20 ?_
            refine pw_iconst eX4_write_100 ⟨by decide, by decide⟩ ?_
            exact pw_iret eX4_write_101 h
        · have h := h.2 c16
          refine pw_iload_n eX4_write_77 rfl rfl ?_
          refine pw_i2b eX4_write_78 ?_
          refine pw_goto eX4_write_79 ?_
          obtain ⟨o21, h⟩ := h
          refine pw_iast eX4_write_99 sh43 o21 ?_
          refine pw_iconst eX4_write_100 ⟨by decide, by decide⟩ ?_
          exact pw_iret eX4_write_101 h
      · have h := h.2 c12
        refine pw_aload_n eX4_write_49 rfl rfl ?_
        refine pw_ldc (n := (-1000001)) eX4_write_50 ⟨by decide, by decide⟩ kc_RX4_37 ?_
        obtain ⟨v22, m23, hc24, h⟩ := h
        refine pw_cV (z := mX4_finds) (av := [Iq (-1000001)]) (st := []) eX4_write_52 lk_RX4_39 rfl (by decide) (by decide) sh34 rfl rfl (Nat.le_of_ble_eq_true rfl) rfl hc24 ?_
        show PW S mX4_write Q 55 [some (Aq 34), some (Iq x1), some (Iq x2), some (Iq x3)] [Iq v22] m23
        exact pw_iret eX4_write_55 h
    · have h := h.2 c6
      refine pw_aload_n eX4_write_23 rfl rfl ?_
      refine pw_ldcw (n := (-1000006)) eX4_write_24 ⟨by decide, by decide⟩ kc_RX4_273 ?_
      obtain ⟨v25, m26, hc27, h⟩ := h
      refine pw_cV (z := mX4_finds) (av := [Iq (-1000006)]) (st := []) eX4_write_27 lk_RX4_39 rfl (by decide) (by decide) sh34 rfl rfl (Nat.le_of_ble_eq_true rfl) rfl hc27 ?_
      show PW S mX4_write Q 30 [some (Aq 34), some (Iq x1), some (Iq x2), some (Iq x3)] [Iq v25] m26
      exact pw_iret eX4_write_30 h
  · have h := h.2 c4
    refine pw_aload_n eX4_write_7 rfl rfl ?_
    refine pw_ldc (n := (-1000001)) eX4_write_8 ⟨by decide, by decide⟩ kc_RX4_37 ?_
    obtain ⟨v28, m29, hc30, h⟩ := h
    refine pw_cV (z := mX4_finds) (av := [Iq (-1000001)]) (st := []) eX4_write_10 lk_RX4_39 rfl (by decide) (by decide) sh34 rfl rfl (Nat.le_of_ble_eq_true rfl) rfl hc30 ?_
    show PW S mX4_write Q 13 [some (Aq 34), some (Iq x1), some (Iq x2), some (Iq x3)] [Iq v28] m29
    exact pw_iret eX4_write_13 h
set_option maxRecDepth 100000 in
theorem rg_X4_copy_0 {S : Sx} {Q : Option PV → Zm → Prop} {mem : Zm}   {x1 x2 x3 x4 x5 : Int} 
    (h : (∃ (v1 : Int) (m2 : Zm), Ct1 S mX4_isSheet [Iq x1] mem (some (Iq v1)) m2 ∧ ((((v1 = 0) → ((∃ (v5 : Int) (m6 : Zm), Ct1 S mX4_finds [Aq 34, Iq (-1000001)] m2 (some (Iq v5)) m6 ∧ (Q (some (Iq v5)) m6)))) ∧ (¬ (v1 = 0) → ((∃ (v8 : Int) (m9 : Zm), Ct1 S mX4_isSheet [Iq x3] m2 (some (Iq v8)) m9 ∧ ((((¬ v8 = 0) → ((0 ≤ x1 ∧ x1 < 4) ∧ (((m9 41 (x1).toNat < 0) → ((∃ (v14 : Int) (m15 : Zm), Ct1 S mX4_finds [Aq 34, Iq (-1000006)] m9 (some (Iq v14)) m15 ∧ (Q (some (Iq v14)) m15)))) ∧ (¬ (m9 41 (x1).toNat < 0) → ((0 ≤ x3 ∧ x3 < 4) ∧ (((0 ≤ m9 41 (x3).toNat) → ((0 ≤ x1 ∧ x1 < 4) ∧ (0 ≤ x3 ∧ x3 < 4) ∧ (((m9 41 (x1).toNat = m9 41 (x3).toNat) → ((((x2 < 0) → ((∃ (v23 : Int) (m24 : Zm), Ct1 S mX4_finds [Aq 34, Iq (-1000001)] m9 (some (Iq v23)) m24 ∧ (Q (some (Iq v23)) m24)))) ∧ (¬ (x2 < 0) → ((((x4 < 0) → ((∃ (v27 : Int) (m28 : Zm), Ct1 S mX4_finds [Aq 34, Iq (-1000001)] m9 (some (Iq v27)) m28 ∧ (Q (some (Iq v27)) m28)))) ∧ (¬ (x4 < 0) → ((((x5 < 0) → ((∃ (v31 : Int) (m32 : Zm), Ct1 S mX4_finds [Aq 34, Iq (-1000001)] m9 (some (Iq v31)) m32 ∧ (Q (some (Iq v31)) m32)))) ∧ (¬ (x5 < 0) → ((0 ≤ x1 ∧ x1 < 4) ∧ (in32 ((m9 42 (x1).toNat) - x2)) ∧ ((((m9 42 (x1).toNat) - x2 < x5) → ((∃ (v37 : Int) (m38 : Zm), Ct1 S mX4_finds [Aq 34, Iq (-1000001)] m9 (some (Iq v37)) m38 ∧ (Q (some (Iq v37)) m38)))) ∧ (¬ ((m9 42 (x1).toNat) - x2 < x5) → ((0 ≤ x3 ∧ x3 < 4) ∧ (in32 ((m9 42 (x3).toNat) - x4)) ∧ (((x5 ≤ (m9 42 (x3).toNat) - x4) → ((in32 (40 * x1)) ∧ (in32 ((40 * x1) + x2)) ∧ (in32 (40 * x3)) ∧ (in32 ((40 * x3) + x4)) ∧ PW S mX4_copy Q 138 [some (Aq 34), some (Iq x1), some (Iq x2), some (Iq x3), some (Iq x4), some (Iq x5), some (Iq ((40 * x1) + x2)), some (Iq ((40 * x3) + x4)), some (Iq 0), none] [] m9)) ∧ (¬ (x5 ≤ (m9 42 (x3).toNat) - x4) → ((∃ (v47 : Int) (m48 : Zm), Ct1 S mX4_finds [Aq 34, Iq (-1000001)] m9 (some (Iq v47)) m48 ∧ (Q (some (Iq v47)) m48))))))))))))))))))) ∧ (¬ (m9 41 (x1).toNat = m9 41 (x3).toNat) → ((∃ (v50 : Int) (m51 : Zm), Ct1 S mX4_finds [Aq 34, Iq (-1000003)] m9 (some (Iq v50)) m51 ∧ (Q (some (Iq v50)) m51))))))) ∧ (¬ (0 ≤ m9 41 (x3).toNat) → ((∃ (v53 : Int) (m54 : Zm), Ct1 S mX4_finds [Aq 34, Iq (-1000006)] m9 (some (Iq v53)) m54 ∧ (Q (some (Iq v53)) m54)))))))))) ∧ (¬ (¬ v8 = 0) → ((∃ (v56 : Int) (m57 : Zm), Ct1 S mX4_finds [Aq 34, Iq (-1000001)] m9 (some (Iq v56)) m57 ∧ (Q (some (Iq v56)) m57))))))))))))) :
    PW S mX4_copy Q 0 [some (Aq 34), some (Iq x1), some (Iq x2), some (Iq x3), some (Iq x4), some (Iq x5), none, none, none, none] [] mem := by
  refine pw_iload_n eX4_copy_0 rfl rfl ?_
  obtain ⟨v1, m2, hc3, h⟩ := h
  refine pw_cS (z := mX4_isSheet) (av := [Iq x1]) (st := []) eX4_copy_1 lk_RX4_278 rfl (by decide) (by decide) (Nat.le_of_ble_eq_true rfl) rfl hc3 ?_
  show PW S mX4_copy Q 4 [some (Aq 34), some (Iq x1), some (Iq x2), some (Iq x3), some (Iq x4), some (Iq x5), none, none, none, none] [Iq v1] m2
  refine pw_if_eq eX4_copy_4 (fun c4 => ?_) (fun c4 => ?_)
  · have h := h.1 c4
    refine pw_aload_n eX4_copy_14 rfl rfl ?_
    refine pw_ldc (n := (-1000001)) eX4_copy_15 ⟨by decide, by decide⟩ kc_RX4_37 ?_
    obtain ⟨v5, m6, hc7, h⟩ := h
    refine pw_cV (z := mX4_finds) (av := [Iq (-1000001)]) (st := []) eX4_copy_17 lk_RX4_39 rfl (by decide) (by decide) sh34 rfl rfl (Nat.le_of_ble_eq_true rfl) rfl hc7 ?_
    show PW S mX4_copy Q 20 [some (Aq 34), some (Iq x1), some (Iq x2), some (Iq x3), some (Iq x4), some (Iq x5), none, none, none, none] [Iq v5] m6
    exact pw_iret eX4_copy_20 h
  · have h := h.2 c4
    refine pw_iload_n eX4_copy_7 rfl rfl ?_
    obtain ⟨v8, m9, hc10, h⟩ := h
    refine pw_cS (z := mX4_isSheet) (av := [Iq x3]) (st := []) eX4_copy_8 lk_RX4_278 rfl (by decide) (by decide) (Nat.le_of_ble_eq_true rfl) rfl hc10 ?_
    show PW S mX4_copy Q 11 [some (Aq 34), some (Iq x1), some (Iq x2), some (Iq x3), some (Iq x4), some (Iq x5), none, none, none, none] [Iq v8] m9
    refine pw_if_ne eX4_copy_11 (fun c11 => ?_) (fun c11 => ?_)
    · have h := h.1 c11
      refine pw_aload_n eX4_copy_21 rfl rfl ?_
      refine gf_RX4_28 rfl eX4_copy_22 sh34 ?_
      refine pw_iload_n eX4_copy_25 rfl rfl ?_
      obtain ⟨o12, h⟩ := h
      refine pw_iald eX4_copy_26 sh41 o12 ?_
      refine pw_if_lt eX4_copy_27 (fun c13 => ?_) (fun c13 => ?_)
      · have h := h.1 c13
        refine pw_aload_n eX4_copy_39 rfl rfl ?_
        refine pw_ldcw (n := (-1000006)) eX4_copy_40 ⟨by decide, by decide⟩ kc_RX4_273 ?_
        obtain ⟨v14, m15, hc16, h⟩ := h
        refine pw_cV (z := mX4_finds) (av := [Iq (-1000006)]) (st := []) eX4_copy_43 lk_RX4_39 rfl (by decide) (by decide) sh34 rfl rfl (Nat.le_of_ble_eq_true rfl) rfl hc16 ?_
        show PW S mX4_copy Q 46 [some (Aq 34), some (Iq x1), some (Iq x2), some (Iq x3), some (Iq x4), some (Iq x5), none, none, none, none] [Iq v14] m15
        exact pw_iret eX4_copy_46 h
      · have h := h.2 c13
        refine pw_aload_n eX4_copy_30 rfl rfl ?_
        refine gf_RX4_28 rfl eX4_copy_31 sh34 ?_
        refine pw_iload_n eX4_copy_34 rfl rfl ?_
        obtain ⟨o17, h⟩ := h
        refine pw_iald eX4_copy_35 sh41 o17 ?_
        refine pw_if_ge eX4_copy_36 (fun c18 => ?_) (fun c18 => ?_)
        · have h := h.1 c18
          refine pw_aload_n eX4_copy_47 rfl rfl ?_
          refine gf_RX4_28 rfl eX4_copy_48 sh34 ?_
          refine pw_iload_n eX4_copy_51 rfl rfl ?_
          obtain ⟨o19, h⟩ := h
          refine pw_iald eX4_copy_52 sh41 o19 ?_
          refine pw_aload_n eX4_copy_53 rfl rfl ?_
          refine gf_RX4_28 rfl eX4_copy_54 sh34 ?_
          refine pw_iload_n eX4_copy_57 rfl rfl ?_
          obtain ⟨o20, h⟩ := h
          refine pw_iald eX4_copy_58 sh41 o20 ?_
          refine pw_icmp_eq eX4_copy_59 (fun c21 => ?_) (fun c21 => ?_)
          · have h := h.1 c21
            refine pw_iload_n eX4_copy_70 rfl rfl ?_
            refine pw_if_lt eX4_copy_71 (fun c22 => ?_) (fun c22 => ?_)
            · have h := h.1 c22
              refine pw_aload_n eX4_copy_111 rfl rfl ?_
              refine pw_ldc (n := (-1000001)) eX4_copy_112 ⟨by decide, by decide⟩ kc_RX4_37 ?_
              obtain ⟨v23, m24, hc25, h⟩ := h
              refine pw_cV (z := mX4_finds) (av := [Iq (-1000001)]) (st := []) eX4_copy_114 lk_RX4_39 rfl (by decide) (by decide) sh34 rfl rfl (Nat.le_of_ble_eq_true rfl) rfl hc25 ?_
              show PW S mX4_copy Q 117 [some (Aq 34), some (Iq x1), some (Iq x2), some (Iq x3), some (Iq x4), some (Iq x5), none, none, none, none] [Iq v23] m24
              exact pw_iret eX4_copy_117 h
            · have h := h.2 c22
              refine pw_iload eX4_copy_74 rfl ?_
              refine pw_if_lt eX4_copy_76 (fun c26 => ?_) (fun c26 => ?_)
              · have h := h.1 c26
                refine pw_aload_n eX4_copy_111 rfl rfl ?_
                refine pw_ldc (n := (-1000001)) eX4_copy_112 ⟨by decide, by decide⟩ kc_RX4_37 ?_
                obtain ⟨v27, m28, hc29, h⟩ := h
                refine pw_cV (z := mX4_finds) (av := [Iq (-1000001)]) (st := []) eX4_copy_114 lk_RX4_39 rfl (by decide) (by decide) sh34 rfl rfl (Nat.le_of_ble_eq_true rfl) rfl hc29 ?_
                show PW S mX4_copy Q 117 [some (Aq 34), some (Iq x1), some (Iq x2), some (Iq x3), some (Iq x4), some (Iq x5), none, none, none, none] [Iq v27] m28
                exact pw_iret eX4_copy_117 h
              · have h := h.2 c26
                refine pw_iload eX4_copy_79 rfl ?_
                refine pw_if_lt eX4_copy_81 (fun c30 => ?_) (fun c30 => ?_)
                · have h := h.1 c30
                  refine pw_aload_n eX4_copy_111 rfl rfl ?_
                  refine pw_ldc (n := (-1000001)) eX4_copy_112 ⟨by decide, by decide⟩ kc_RX4_37 ?_
                  obtain ⟨v31, m32, hc33, h⟩ := h
                  refine pw_cV (z := mX4_finds) (av := [Iq (-1000001)]) (st := []) eX4_copy_114 lk_RX4_39 rfl (by decide) (by decide) sh34 rfl rfl (Nat.le_of_ble_eq_true rfl) rfl hc33 ?_
                  show PW S mX4_copy Q 117 [some (Aq 34), some (Iq x1), some (Iq x2), some (Iq x3), some (Iq x4), some (Iq x5), none, none, none, none] [Iq v31] m32
                  exact pw_iret eX4_copy_117 h
                · have h := h.2 c30
                  refine pw_iload eX4_copy_84 rfl ?_
                  refine pw_aload_n eX4_copy_86 rfl rfl ?_
                  refine gf_RX4_31 rfl eX4_copy_87 sh34 ?_
                  refine pw_iload_n eX4_copy_90 rfl rfl ?_
                  obtain ⟨o34, h⟩ := h
                  refine pw_iald eX4_copy_91 sh42 o34 ?_
                  refine pw_iload_n eX4_copy_92 rfl rfl ?_
                  obtain ⟨o35, h⟩ := h
                  refine pw_isub eX4_copy_93 o35 ?_
                  refine pw_icmp_gt eX4_copy_94 (fun c36 => ?_) (fun c36 => ?_)
                  · have h := h.1 c36
                    refine pw_aload_n eX4_copy_111 rfl rfl ?_
                    refine pw_ldc (n := (-1000001)) eX4_copy_112 ⟨by decide, by decide⟩ kc_RX4_37 ?_
                    obtain ⟨v37, m38, hc39, h⟩ := h
                    refine pw_cV (z := mX4_finds) (av := [Iq (-1000001)]) (st := []) eX4_copy_114 lk_RX4_39 rfl (by decide) (by decide) sh34 rfl rfl (Nat.le_of_ble_eq_true rfl) rfl hc39 ?_
                    show PW S mX4_copy Q 117 [some (Aq 34), some (Iq x1), some (Iq x2), some (Iq x3), some (Iq x4), some (Iq x5), none, none, none, none] [Iq v37] m38
                    exact pw_iret eX4_copy_117 h
                  · have h := h.2 c36
                    refine pw_iload eX4_copy_97 rfl ?_
                    refine pw_aload_n eX4_copy_99 rfl rfl ?_
                    refine gf_RX4_31 rfl eX4_copy_100 sh34 ?_
                    refine pw_iload_n eX4_copy_103 rfl rfl ?_
                    obtain ⟨o40, h⟩ := h
                    refine pw_iald eX4_copy_104 sh42 o40 ?_
                    refine pw_iload eX4_copy_105 rfl ?_
                    obtain ⟨o41, h⟩ := h
                    refine pw_isub eX4_copy_107 o41 ?_
                    refine pw_icmp_le eX4_copy_108 (fun c42 => ?_) (fun c42 => ?_)
                    · have h := h.1 c42
                      refine pw_bipush eX4_copy_118 ⟨by decide, by decide⟩ (by decide) ?_
                      refine pw_iload_n eX4_copy_120 rfl rfl ?_
                      obtain ⟨o43, h⟩ := h
                      refine pw_imul eX4_copy_121 o43 ?_
                      refine pw_iload_n eX4_copy_122 rfl rfl ?_
                      obtain ⟨o44, h⟩ := h
                      refine pw_iadd eX4_copy_123 o44 ?_
                      refine pw_istore (ls2 := [some (Aq 34), some (Iq x1), some (Iq x2), some (Iq x3), some (Iq x4), some (Iq x5), some (Iq ((40 * x1) + x2)), none, none, none]) eX4_copy_124 (by decide) rfl ?_
                      refine pw_bipush eX4_copy_126 ⟨by decide, by decide⟩ (by decide) ?_
                      refine pw_iload_n eX4_copy_128 rfl rfl ?_
                      obtain ⟨o45, h⟩ := h
                      refine pw_imul eX4_copy_129 o45 ?_
                      refine pw_iload eX4_copy_130 rfl ?_
                      obtain ⟨o46, h⟩ := h
                      refine pw_iadd eX4_copy_132 o46 ?_
                      refine pw_istore (ls2 := [some (Aq 34), some (Iq x1), some (Iq x2), some (Iq x3), some (Iq x4), some (Iq x5), some (Iq ((40 * x1) + x2)), some (Iq ((40 * x3) + x4)), none, none]) eX4_copy_133 (by decide) rfl ?_
                      refine pw_iconst eX4_copy_135 ⟨by decide, by decide⟩ ?_
                      refine pw_istore (ls2 := [some (Aq 34), some (Iq x1), some (Iq x2), some (Iq x3), some (Iq x4), some (Iq x5), some (Iq ((40 * x1) + x2)), some (Iq ((40 * x3) + x4)), some (Iq 0), none]) eX4_copy_136 (by decide) rfl ?_
                      exact h
                    · have h := h.2 c42
                      refine pw_aload_n eX4_copy_111 rfl rfl ?_
                      refine pw_ldc (n := (-1000001)) eX4_copy_112 ⟨by decide, by decide⟩ kc_RX4_37 ?_
                      obtain ⟨v47, m48, hc49, h⟩ := h
                      refine pw_cV (z := mX4_finds) (av := [Iq (-1000001)]) (st := []) eX4_copy_114 lk_RX4_39 rfl (by decide) (by decide) sh34 rfl rfl (Nat.le_of_ble_eq_true rfl) rfl hc49 ?_
                      show PW S mX4_copy Q 117 [some (Aq 34), some (Iq x1), some (Iq x2), some (Iq x3), some (Iq x4), some (Iq x5), none, none, none, none] [Iq v47] m48
                      exact pw_iret eX4_copy_117 h
          · have h := h.2 c21
            refine pw_aload_n eX4_copy_62 rfl rfl ?_
            refine pw_ldcw (n := (-1000003)) eX4_copy_63 ⟨by decide, by decide⟩ kc_RX4_277 ?_
            obtain ⟨v50, m51, hc52, h⟩ := h
            refine pw_cV (z := mX4_finds) (av := [Iq (-1000003)]) (st := []) eX4_copy_66 lk_RX4_39 rfl (by decide) (by decide) sh34 rfl rfl (Nat.le_of_ble_eq_true rfl) rfl hc52 ?_
            show PW S mX4_copy Q 69 [some (Aq 34), some (Iq x1), some (Iq x2), some (Iq x3), some (Iq x4), some (Iq x5), none, none, none, none] [Iq v50] m51
            exact pw_iret eX4_copy_69 h
        · have h := h.2 c18
          refine pw_aload_n eX4_copy_39 rfl rfl ?_
          refine pw_ldcw (n := (-1000006)) eX4_copy_40 ⟨by decide, by decide⟩ kc_RX4_273 ?_
          obtain ⟨v53, m54, hc55, h⟩ := h
          refine pw_cV (z := mX4_finds) (av := [Iq (-1000006)]) (st := []) eX4_copy_43 lk_RX4_39 rfl (by decide) (by decide) sh34 rfl rfl (Nat.le_of_ble_eq_true rfl) rfl hc55 ?_
          show PW S mX4_copy Q 46 [some (Aq 34), some (Iq x1), some (Iq x2), some (Iq x3), some (Iq x4), some (Iq x5), none, none, none, none] [Iq v53] m54
          exact pw_iret eX4_copy_46 h
    · have h := h.2 c11
      refine pw_aload_n eX4_copy_14 rfl rfl ?_
      refine pw_ldc (n := (-1000001)) eX4_copy_15 ⟨by decide, by decide⟩ kc_RX4_37 ?_
      obtain ⟨v56, m57, hc58, h⟩ := h
      refine pw_cV (z := mX4_finds) (av := [Iq (-1000001)]) (st := []) eX4_copy_17 lk_RX4_39 rfl (by decide) (by decide) sh34 rfl rfl (Nat.le_of_ble_eq_true rfl) rfl hc58 ?_
      show PW S mX4_copy Q 20 [some (Aq 34), some (Iq x1), some (Iq x2), some (Iq x3), some (Iq x4), some (Iq x5), none, none, none, none] [Iq v56] m57
      exact pw_iret eX4_copy_20 h

set_option maxRecDepth 100000 in
theorem rg_X4_copy_138 {S : Sx} {Q : Option PV → Zm → Prop} {mem : Zm}   {x1 x2 x3 x4 x5 x6 x7 x8 : Int} 
    (h : (((x5 ≤ x8) → (Q (some (Iq x5)) mem)) ∧ (¬ (x5 ≤ x8) → ((((x7 ≤ x6) → ((in32 (x7 + x8)) ∧ (in32 (x6 + x8)) ∧ (0 ≤ x6 + x8 ∧ x6 + x8 < 160) ∧ (0 ≤ x7 + x8 ∧ x7 + x8 < 160) ∧ (in32 (x8 + 1)) ∧ PW S mX4_copy Q 138 [some (Aq 34), some (Iq x1), some (Iq x2), some (Iq x3), some (Iq x4), some (Iq x5), some (Iq x6), some (Iq x7), some (Iq (x8 + 1)), none] [] (mup mem 43 (x7 + x8).toNat (mem 43 (x6 + x8).toNat)))) ∧ (¬ (x7 ≤ x6) → ((in32 (x5 - 1)) ∧ (in32 ((x5 - 1) - x8)) ∧ (in32 (x7 + ((x5 - 1) - x8))) ∧ (in32 (x6 + ((x5 - 1) - x8))) ∧ (0 ≤ x6 + ((x5 - 1) - x8) ∧ x6 + ((x5 - 1) - x8) < 160) ∧ (0 ≤ x7 + ((x5 - 1) - x8) ∧ x7 + ((x5 - 1) - x8) < 160) ∧ (in32 (x8 + 1)) ∧ PW S mX4_copy Q 138 [some (Aq 34), some (Iq x1), some (Iq x2), some (Iq x3), some (Iq x4), some (Iq x5), some (Iq x6), some (Iq x7), some (Iq (x8 + 1)), none] [] (mup mem 43 (x7 + ((x5 - 1) - x8)).toNat (mem 43 (x6 + ((x5 - 1) - x8)).toNat))))))))) :
    PW S mX4_copy Q 138 [some (Aq 34), some (Iq x1), some (Iq x2), some (Iq x3), some (Iq x4), some (Iq x5), some (Iq x6), some (Iq x7), some (Iq x8), none] [] mem := by
  refine pw_iload eX4_copy_138 rfl ?_
  refine pw_iload eX4_copy_140 rfl ?_
  refine pw_icmp_ge eX4_copy_142 (fun c1 => ?_) (fun c1 => ?_)
  · have h := h.1 c1
    refine pw_iload eX4_copy_192 rfl ?_
    exact pw_iret eX4_copy_194 h
  · have h := h.2 c1
    refine pw_iload eX4_copy_145 rfl ?_
    refine pw_iload eX4_copy_147 rfl ?_
    refine pw_icmp_ge eX4_copy_149 (fun c2 => ?_) (fun c2 => ?_)
    · have h := h.1 c2
      refine pw_iload eX4_copy_162 rfl ?_
      refine pw_istore (ls2 := [some (Aq 34), some (Iq x1), some (Iq x2), some (Iq x3), some (Iq x4), some (Iq x5), some (Iq x6), some (Iq x7), some (Iq x8), some (Iq x8)]) eX4_copy_164 (by decide) rfl ?_
      refine pw_aload_n eX4_copy_166 rfl rfl ?_
      refine gf_RX4_34 rfl eX4_copy_167 sh34 ?_
      refine pw_iload eX4_copy_170 rfl ?_
      refine pw_iload eX4_copy_172 rfl ?_
      obtain ⟨o3, h⟩ := h
      refine pw_iadd eX4_copy_174 o3 ?_
      refine pw_aload_n eX4_copy_175 rfl rfl ?_
      refine gf_RX4_34 rfl eX4_copy_176 sh34 ?_
      refine pw_iload eX4_copy_179 rfl ?_
      refine pw_iload eX4_copy_181 rfl ?_
      obtain ⟨o4, h⟩ := h
      refine pw_iadd eX4_copy_183 o4 ?_
      obtain ⟨o5, h⟩ := h
      refine pw_iald eX4_copy_184 sh43 o5 ?_
      obtain ⟨o6, h⟩ := h
      refine pw_iast eX4_copy_185 sh43 o6 ?_
      obtain ⟨o7, h⟩ := h
      refine pw_iinc (ls2 := [some (Aq 34), some (Iq x1), some (Iq x2), some (Iq x3), some (Iq x4), some (Iq x5), some (Iq x6), some (Iq x7), some (Iq (x8 + 1)), some (Iq x8)]) eX4_copy_186 rfl o7 rfl ?_
      refine pw_goto eX4_copy_189 ?_
      exact pw_drop (bs := [true, true, true, true, true, true, true, true, true, false]) h
    · have h := h.2 c2
      refine pw_iload eX4_copy_152 rfl ?_
      refine pw_iconst eX4_copy_154 ⟨by decide, by decide⟩ ?_
      obtain ⟨o8, h⟩ := h
      refine pw_isub eX4_copy_155 o8 ?_
      refine pw_iload eX4_copy_156 rfl ?_
      obtain ⟨o9, h⟩ := h
      refine pw_isub eX4_copy_158 o9 ?_
      refine pw_goto eX4_copy_159 ?_
      refine pw_istore (ls2 := [some (Aq 34), some (Iq x1), some (Iq x2), some (Iq x3), some (Iq x4), some (Iq x5), some (Iq x6), some (Iq x7), some (Iq x8), some (Iq ((x5 - 1) - x8))]) eX4_copy_164 (by decide) rfl ?_
      refine pw_aload_n eX4_copy_166 rfl rfl ?_
      refine gf_RX4_34 rfl eX4_copy_167 sh34 ?_
      refine pw_iload eX4_copy_170 rfl ?_
      refine pw_iload eX4_copy_172 rfl ?_
      obtain ⟨o10, h⟩ := h
      refine pw_iadd eX4_copy_174 o10 ?_
      refine pw_aload_n eX4_copy_175 rfl rfl ?_
      refine gf_RX4_34 rfl eX4_copy_176 sh34 ?_
      refine pw_iload eX4_copy_179 rfl ?_
      refine pw_iload eX4_copy_181 rfl ?_
      obtain ⟨o11, h⟩ := h
      refine pw_iadd eX4_copy_183 o11 ?_
      obtain ⟨o12, h⟩ := h
      refine pw_iald eX4_copy_184 sh43 o12 ?_
      obtain ⟨o13, h⟩ := h
      refine pw_iast eX4_copy_185 sh43 o13 ?_
      obtain ⟨o14, h⟩ := h
      refine pw_iinc (ls2 := [some (Aq 34), some (Iq x1), some (Iq x2), some (Iq x3), some (Iq x4), some (Iq x5), some (Iq x6), some (Iq x7), some (Iq (x8 + 1)), some (Iq ((x5 - 1) - x8))]) eX4_copy_186 rfl o14 rfl ?_
      refine pw_goto eX4_copy_189 ?_
      exact pw_drop (bs := [true, true, true, true, true, true, true, true, true, false]) h
set_option maxRecDepth 100000 in
theorem rg_X4_wants_0 {S : Sx} {Q : Option PV → Zm → Prop} {mem : Zm}   {x1 : Int} 
    (h : (∃ (v1 : Int) (m2 : Zm), Ct1 S mX4_isSheet [Iq x1] mem (some (Iq v1)) m2 ∧ ((((¬ v1 = 0) → ((0 ≤ x1 ∧ x1 < 4) ∧ (((0 ≤ m2 41 (x1).toNat) → (Q (some (Iq 0)) m2)) ∧ (¬ (0 ≤ m2 41 (x1).toNat) → (Q (some (Iq (-1000006))) m2))))) ∧ (¬ (¬ v1 = 0) → (Q (some (Iq (-1000001))) m2)))))) :
    PW S mX4_wants Q 0 [some (Aq 34), some (Iq x1)] [] mem := by
  refine pw_iload_n eX4_wants_0 rfl rfl ?_
  obtain ⟨v1, m2, hc3, h⟩ := h
  refine pw_cS (z := mX4_isSheet) (av := [Iq x1]) (st := []) eX4_wants_1 lk_RX4_278 rfl (by decide) (by decide) (Nat.le_of_ble_eq_true rfl) rfl hc3 ?_
  show PW S mX4_wants Q 4 [some (Aq 34), some (Iq x1)] [Iq v1] m2
  refine pw_if_ne eX4_wants_4 (fun c4 => ?_) (fun c4 => ?_)
  · have h := h.1 c4
    refine pw_aload_n eX4_wants_12 rfl rfl ?_
    refine gf_RX4_28 rfl eX4_wants_13 sh34 ?_
    refine pw_iload_n eX4_wants_16 rfl rfl ?_
    obtain ⟨o5, h⟩ := h
    refine pw_iald eX4_wants_17 sh41 o5 ?_
    refine pw_if_ge eX4_wants_18 (fun c6 => ?_) (fun c6 => ?_)
    · have h := h.1 c6
      refine pw_iconst eX4_wants_27 ⟨by decide, by decide⟩ ?_
      exact pw_iret eX4_wants_28 h
    · have h := h.2 c6
      refine pw_ldcw (n := (-1000006)) eX4_wants_21 ⟨by decide, by decide⟩ kc_RX4_273 ?_
      refine pw_goto eX4_wants_24 ?_
      exact pw_iret eX4_wants_28 h
  · have h := h.2 c4
    refine pw_ldc (n := (-1000001)) eX4_wants_7 ⟨by decide, by decide⟩ kc_RX4_37 ?_
    refine pw_goto eX4_wants_9 ?_
    exact pw_iret eX4_wants_28 h
set_option maxRecDepth 100000 in
theorem rg_X4_load_0 {S : Sx} {Q : Option PV → Zm → Prop} {mem : Zm}   {x1 : Int} 
    (h : (∃ (v1 : Int) (m2 : Zm), Ct1 S mX4_wants [Aq 34, Iq x1] mem (some (Iq v1)) m2 ∧ ((((v1 = 0) → (PW S mX4_load Q 20 [some (Aq 34), some (Iq x1), some (Iq 0)] [] m2)) ∧ (¬ (v1 = 0) → ((∃ (v5 : Int) (m6 : Zm), Ct1 S mX4_wants [Aq 34, Iq x1] m2 (some (Iq v5)) m6 ∧ ((∃ (v8 : Int) (m9 : Zm), Ct1 S mX4_finds [Aq 34, Iq v5] m6 (some (Iq v8)) m9 ∧ (Q (some (Iq v8)) m9)))))))))) :
    PW S mX4_load Q 0 [some (Aq 34), some (Iq x1), none] [] mem := by
  refine pw_aload_n eX4_load_0 rfl rfl ?_
  refine pw_iload_n eX4_load_1 rfl rfl ?_
  obtain ⟨v1, m2, hc3, h⟩ := h
  refine pw_cV (z := mX4_wants) (av := [Iq x1]) (st := []) eX4_load_2 lk_RX4_175 rfl (by decide) (by decide) sh34 rfl rfl (Nat.le_of_ble_eq_true rfl) rfl hc3 ?_
  show PW S mX4_load Q 5 [some (Aq 34), some (Iq x1), none] [Iq v1] m2
  refine pw_if_eq eX4_load_5 (fun c4 => ?_) (fun c4 => ?_)
  · have h := h.1 c4
    refine pw_iconst eX4_load_18 ⟨by decide, by decide⟩ ?_
    refine pw_istore_n (ls2 := [some (Aq 34), some (Iq x1), some (Iq 0)]) eX4_load_19 rfl (by decide) rfl ?_
    exact h
  · have h := h.2 c4
    refine pw_aload_n eX4_load_8 rfl rfl ?_
    refine pw_aload_n eX4_load_9 rfl rfl ?_
    refine pw_iload_n eX4_load_10 rfl rfl ?_
    obtain ⟨v5, m6, hc7, h⟩ := h
    refine pw_cV (z := mX4_wants) (av := [Iq x1]) (st := [Aq 34]) eX4_load_11 lk_RX4_175 rfl (by decide) (by decide) sh34 rfl rfl (Nat.le_of_ble_eq_true rfl) rfl hc7 ?_
    show PW S mX4_load Q 14 [some (Aq 34), some (Iq x1), none] [Iq v5, Aq 34] m6
    obtain ⟨v8, m9, hc10, h⟩ := h
    refine pw_cV (z := mX4_finds) (av := [Iq v5]) (st := []) eX4_load_14 lk_RX4_39 rfl (by decide) (by decide) sh34 rfl rfl (Nat.le_of_ble_eq_true rfl) rfl hc10 ?_
    show PW S mX4_load Q 17 [some (Aq 34), some (Iq x1), none] [Iq v8] m9
    exact pw_iret eX4_load_17 h

set_option maxRecDepth 100000 in
theorem rg_X4_load_20 {S : Sx} {Q : Option PV → Zm → Prop} {mem : Zm}   {x1 x2 : Int} 
    (h : (0 ≤ x1 ∧ x1 < 4) ∧ (((mem 42 (x1).toNat ≤ x2) → (Q (some (Iq x2)) mem)) ∧ (¬ (mem 42 (x1).toNat ≤ x2) → ((((8 ≤ x2) → (Q (some (Iq x2)) mem)) ∧ (¬ (8 ≤ x2) → ((in32 (40 * x1)) ∧ (in32 ((40 * x1) + x2)) ∧ (0 ≤ (40 * x1) + x2 ∧ (40 * x1) + x2 < 160) ∧ (∃ (v7 : Int) (m8 : Zm), Ct1 S mX4_isIn [Jq (mem 43 ((40 * x1) + x2).toNat), Jq 0, Jq 99] mem (some (Iq v7)) m8 ∧ ((((v7 = 0) → (Q (some (Iq x2)) m8)) ∧ (¬ (v7 = 0) → ((in32 (4 + x2)) ∧ (in32 (40 * x1)) ∧ (in32 ((40 * x1) + x2)) ∧ (0 ≤ (40 * x1) + x2 ∧ (40 * x1) + x2 < 160) ∧ (0 ≤ 4 + x2 ∧ 4 + x2 < 134) ∧ (in32 (x2 + 1)) ∧ PW S mX4_load Q 20 [some (Aq 34), some (Iq x1), some (Iq (x2 + 1))] [] (mup m8 35 (4 + x2).toNat (m8 43 ((40 * x1) + x2).toNat)))))))))))))) :
    PW S mX4_load Q 20 [some (Aq 34), some (Iq x1), some (Iq x2)] [] mem := by
  refine pw_iload_n eX4_load_20 rfl rfl ?_
  refine pw_aload_n eX4_load_21 rfl rfl ?_
  refine gf_RX4_31 rfl eX4_load_22 sh34 ?_
  refine pw_iload_n eX4_load_25 rfl rfl ?_
  obtain ⟨o1, h⟩ := h
  refine pw_iald eX4_load_26 sh42 o1 ?_
  refine pw_icmp_ge eX4_load_27 (fun c2 => ?_) (fun c2 => ?_)
  · have h := h.1 c2
    refine pw_iload_n eX4_load_83 rfl rfl ?_
    exact pw_iret eX4_load_84 h
  · have h := h.2 c2
    refine pw_iload_n eX4_load_30 rfl rfl ?_
    refine pw_bipush eX4_load_31 ⟨by decide, by decide⟩ (by decide) ?_
    refine pw_icmp_ge eX4_load_33 (fun c3 => ?_) (fun c3 => ?_)
    · have h := h.1 c3
      refine pw_iload_n eX4_load_83 rfl rfl ?_
      exact pw_iret eX4_load_84 h
    · have h := h.2 c3
      refine pw_aload_n eX4_load_36 rfl rfl ?_
      refine gf_RX4_34 rfl eX4_load_37 sh34 ?_
      refine pw_bipush eX4_load_40 ⟨by decide, by decide⟩ (by decide) ?_
      refine pw_iload_n eX4_load_42 rfl rfl ?_
      obtain ⟨o4, h⟩ := h
      refine pw_imul eX4_load_43 o4 ?_
      refine pw_iload_n eX4_load_44 rfl rfl ?_
      obtain ⟨o5, h⟩ := h
      refine pw_iadd eX4_load_45 o5 ?_
      obtain ⟨o6, h⟩ := h
      refine pw_iald eX4_load_46 sh43 o6 ?_
      refine pw_i2l eX4_load_47 ?_
      refine pw_lconst (v := 0) eX4_load_48 ⟨by decide, by decide⟩ rfl ?_
      refine pw_ldc2 (n := 99) eX4_load_49 ⟨by decide, by decide⟩ kc_RX4_47 ?_
      obtain ⟨v7, m8, hc9, h⟩ := h
      refine pw_cS (z := mX4_isIn) (av := [Jq (mem 43 ((40 * x1) + x2).toNat), Jq 0, Jq 99]) (st := []) eX4_load_52 lk_RX4_49 rfl (by decide) (by decide) (Nat.le_of_ble_eq_true rfl) rfl hc9 ?_
      show PW S mX4_load Q 55 [some (Aq 34), some (Iq x1), some (Iq x2)] [Iq v7] m8
      refine pw_if_eq eX4_load_55 (fun c10 => ?_) (fun c10 => ?_)
      · have h := h.1 c10
        refine pw_iload_n eX4_load_83 rfl rfl ?_
        exact pw_iret eX4_load_84 h
      · have h := h.2 c10
        refine pw_aload_n eX4_load_58 rfl rfl ?_
        refine gf_RX4_7 rfl eX4_load_59 sh34 ?_
        refine pw_iconst eX4_load_62 ⟨by decide, by decide⟩ ?_
        refine pw_iload_n eX4_load_63 rfl rfl ?_
        obtain ⟨o11, h⟩ := h
        refine pw_iadd eX4_load_64 o11 ?_
        refine pw_aload_n eX4_load_65 rfl rfl ?_
        refine gf_RX4_34 rfl eX4_load_66 sh34 ?_
        refine pw_bipush eX4_load_69 ⟨by decide, by decide⟩ (by decide) ?_
        refine pw_iload_n eX4_load_71 rfl rfl ?_
        obtain ⟨o12, h⟩ := h
        refine pw_imul eX4_load_72 o12 ?_
        refine pw_iload_n eX4_load_73 rfl rfl ?_
        obtain ⟨o13, h⟩ := h
        refine pw_iadd eX4_load_74 o13 ?_
        obtain ⟨o14, h⟩ := h
        refine pw_iald eX4_load_75 sh43 o14 ?_
        obtain ⟨o15, h⟩ := h
        refine pw_iast eX4_load_76 sh35 o15 ?_
        obtain ⟨o16, h⟩ := h
        refine pw_iinc (ls2 := [some (Aq 34), some (Iq x1), some (Iq (x2 + 1))]) eX4_load_77 rfl o16 rfl ?_
        refine pw_goto eX4_load_80 ?_
        exact h
set_option maxRecDepth 100000 in
theorem rg_X4_judge_0 {S : Sx} {Q : Option PV → Zm → Prop} {mem : Zm}   {x1 : Int} 
    (h : (∃ (v1 : Int) (m2 : Zm), Ct1 S mX4_wants [Aq 34, Iq x1] mem (some (Iq v1)) m2 ∧ ((((v1 = 0) → (PW S mX4_judge Q 20 [some (Aq 34), some (Iq x1), some (Iq 0)] [] m2)) ∧ (¬ (v1 = 0) → ((∃ (v5 : Int) (m6 : Zm), Ct1 S mX4_wants [Aq 34, Iq x1] m2 (some (Iq v5)) m6 ∧ ((∃ (v8 : Int) (m9 : Zm), Ct1 S mX4_finds [Aq 34, Iq v5] m6 (some (Iq v8)) m9 ∧ (Q (some (Iq v8)) m9)))))))))) :
    PW S mX4_judge Q 0 [some (Aq 34), some (Iq x1), none] [] mem := by
  refine pw_aload_n eX4_judge_0 rfl rfl ?_
  refine pw_iload_n eX4_judge_1 rfl rfl ?_
  obtain ⟨v1, m2, hc3, h⟩ := h
  refine pw_cV (z := mX4_wants) (av := [Iq x1]) (st := []) eX4_judge_2 lk_RX4_175 rfl (by decide) (by decide) sh34 rfl rfl (Nat.le_of_ble_eq_true rfl) rfl hc3 ?_
  show PW S mX4_judge Q 5 [some (Aq 34), some (Iq x1), none] [Iq v1] m2
  refine pw_if_eq eX4_judge_5 (fun c4 => ?_) (fun c4 => ?_)
  · have h := h.1 c4
    refine pw_iconst eX4_judge_18 ⟨by decide, by decide⟩ ?_
    refine pw_istore_n (ls2 := [some (Aq 34), some (Iq x1), some (Iq 0)]) eX4_judge_19 rfl (by decide) rfl ?_
    exact h
  · have h := h.2 c4
    refine pw_aload_n eX4_judge_8 rfl rfl ?_
    refine pw_aload_n eX4_judge_9 rfl rfl ?_
    refine pw_iload_n eX4_judge_10 rfl rfl ?_
    obtain ⟨v5, m6, hc7, h⟩ := h
    refine pw_cV (z := mX4_wants) (av := [Iq x1]) (st := [Aq 34]) eX4_judge_11 lk_RX4_175 rfl (by decide) (by decide) sh34 rfl rfl (Nat.le_of_ble_eq_true rfl) rfl hc7 ?_
    show PW S mX4_judge Q 14 [some (Aq 34), some (Iq x1), none] [Iq v5, Aq 34] m6
    obtain ⟨v8, m9, hc10, h⟩ := h
    refine pw_cV (z := mX4_finds) (av := [Iq v5]) (st := []) eX4_judge_14 lk_RX4_39 rfl (by decide) (by decide) sh34 rfl rfl (Nat.le_of_ble_eq_true rfl) rfl hc10 ?_
    show PW S mX4_judge Q 17 [some (Aq 34), some (Iq x1), none] [Iq v8] m9
    exact pw_iret eX4_judge_17 h

set_option maxRecDepth 100000 in
theorem rg_X4_judge_20 {S : Sx} {Q : Option PV → Zm → Prop} {mem : Zm}   {x1 x2 : Int} 
    (h : (0 ≤ x1 ∧ x1 < 4) ∧ (((mem 42 (x1).toNat ≤ x2) → ((0 ≤ x1 ∧ x1 < 4) ∧ (((mem 42 (x1).toNat ≤ x2) → (Q (some (Iq 0)) mem)) ∧ (¬ (mem 42 (x1).toNat ≤ x2) → ((in32 (1 + x2)) ∧ Q (some (Iq (1 + x2))) mem))))) ∧ (¬ (mem 42 (x1).toNat ≤ x2) → ((∃ (v6 : Int) (m7 : Zm), Ct1 S mX4_isChild [Aq 34, Iq x2] mem (some (Iq v6)) m7 ∧ ((((v6 = 0) → ((0 ≤ x1 ∧ x1 < 4) ∧ (((m7 42 (x1).toNat ≤ x2) → (Q (some (Iq 0)) m7)) ∧ (¬ (m7 42 (x1).toNat ≤ x2) → ((in32 (1 + x2)) ∧ Q (some (Iq (1 + x2))) m7))))) ∧ (¬ (v6 = 0) → ((in32 (40 * x1)) ∧ (in32 ((40 * x1) + x2)) ∧ (0 ≤ (40 * x1) + x2 ∧ (40 * x1) + x2 < 160) ∧ (∃ (v16 : Int) (m17 : Zm), Ct1 S mX4_its [Aq 34, Iq x2, Iq 3] m7 (some (Iq v16)) m17 ∧ ((((¬ m7 43 ((40 * x1) + x2).toNat = v16) → ((0 ≤ x1 ∧ x1 < 4) ∧ (((m17 42 (x1).toNat ≤ x2) → (Q (some (Iq 0)) m17)) ∧ (¬ (m17 42 (x1).toNat ≤ x2) → ((in32 (1 + x2)) ∧ Q (some (Iq (1 + x2))) m17))))) ∧ (¬ (¬ m7 43 ((40 * x1) + x2).toNat = v16) → ((in32 (x2 + 1)) ∧ PW S mX4_judge Q 20 [some (Aq 34), some (Iq x1), some (Iq (x2 + 1))] [] m17)))))))))))))) :
    PW S mX4_judge Q 20 [some (Aq 34), some (Iq x1), some (Iq x2)] [] mem := by
  refine pw_iload_n eX4_judge_20 rfl rfl ?_
  refine pw_aload_n eX4_judge_21 rfl rfl ?_
  refine gf_RX4_31 rfl eX4_judge_22 sh34 ?_
  refine pw_iload_n eX4_judge_25 rfl rfl ?_
  obtain ⟨o1, h⟩ := h
  refine pw_iald eX4_judge_26 sh42 o1 ?_
  refine pw_icmp_ge eX4_judge_27 (fun c2 => ?_) (fun c2 => ?_)
  · have h := h.1 c2
    refine pw_iload_n eX4_judge_64 rfl rfl ?_
    refine pw_aload_n eX4_judge_65 rfl rfl ?_
    refine gf_RX4_31 rfl eX4_judge_66 sh34 ?_
    refine pw_iload_n eX4_judge_69 rfl rfl ?_
    obtain ⟨o3, h⟩ := h
    refine pw_iald eX4_judge_70 sh42 o3 ?_
    refine pw_icmp_ge eX4_judge_71 (fun c4 => ?_) (fun c4 => ?_)
    · have h := h.1 c4
      refine pw_iconst eX4_judge_80 ⟨by decide, by decide⟩ ?_
      exact pw_iret eX4_judge_81 h
    · have h := h.2 c4
      refine pw_iconst eX4_judge_74 ⟨by decide, by decide⟩ ?_
      refine pw_iload_n eX4_judge_75 rfl rfl ?_
      obtain ⟨o5, h⟩ := h
      refine pw_iadd eX4_judge_76 o5 ?_
      refine pw_goto eX4_judge_77 ?_
      exact pw_iret eX4_judge_81 h
  · have h := h.2 c2
    refine pw_aload_n eX4_judge_30 rfl rfl ?_
    refine pw_iload_n eX4_judge_31 rfl rfl ?_
    obtain ⟨v6, m7, hc8, h⟩ := h
    refine pw_cV (z := mX4_isChild) (av := [Iq x2]) (st := []) eX4_judge_32 lk_RX4_77 rfl (by decide) (by decide) sh34 rfl rfl (Nat.le_of_ble_eq_true rfl) rfl hc8 ?_
    show PW S mX4_judge Q 35 [some (Aq 34), some (Iq x1), some (Iq x2)] [Iq v6] m7
    refine pw_if_eq eX4_judge_35 (fun c9 => ?_) (fun c9 => ?_)
    · have h := h.1 c9
      refine pw_iload_n eX4_judge_64 rfl rfl ?_
      refine pw_aload_n eX4_judge_65 rfl rfl ?_
      refine gf_RX4_31 rfl eX4_judge_66 sh34 ?_
      refine pw_iload_n eX4_judge_69 rfl rfl ?_
      obtain ⟨o10, h⟩ := h
      refine pw_iald eX4_judge_70 sh42 o10 ?_
      refine pw_icmp_ge eX4_judge_71 (fun c11 => ?_) (fun c11 => ?_)
      · have h := h.1 c11
        refine pw_iconst eX4_judge_80 ⟨by decide, by decide⟩ ?_
        exact pw_iret eX4_judge_81 h
      · have h := h.2 c11
        refine pw_iconst eX4_judge_74 ⟨by decide, by decide⟩ ?_
        refine pw_iload_n eX4_judge_75 rfl rfl ?_
        obtain ⟨o12, h⟩ := h
        refine pw_iadd eX4_judge_76 o12 ?_
        refine pw_goto eX4_judge_77 ?_
        exact pw_iret eX4_judge_81 h
    · have h := h.2 c9
      refine pw_aload_n eX4_judge_38 rfl rfl ?_
      refine gf_RX4_34 rfl eX4_judge_39 sh34 ?_
      refine pw_bipush eX4_judge_42 ⟨by decide, by decide⟩ (by decide) ?_
      refine pw_iload_n eX4_judge_44 rfl rfl ?_
      obtain ⟨o13, h⟩ := h
      refine pw_imul eX4_judge_45 o13 ?_
      refine pw_iload_n eX4_judge_46 rfl rfl ?_
      obtain ⟨o14, h⟩ := h
      refine pw_iadd eX4_judge_47 o14 ?_
      obtain ⟨o15, h⟩ := h
      refine pw_iald eX4_judge_48 sh43 o15 ?_
      refine pw_aload_n eX4_judge_49 rfl rfl ?_
      refine pw_iload_n eX4_judge_50 rfl rfl ?_
      refine pw_iconst eX4_judge_51 ⟨by decide, by decide⟩ ?_
      obtain ⟨v16, m17, hc18, h⟩ := h
      refine pw_cV (z := mX4_its) (av := [Iq x2, Iq 3]) (st := [Iq (m7 43 ((40 * x1) + x2).toNat)]) eX4_judge_52 lk_RX4_71 rfl (by decide) (by decide) sh34 rfl rfl (Nat.le_of_ble_eq_true rfl) rfl hc18 ?_
      show PW S mX4_judge Q 55 [some (Aq 34), some (Iq x1), some (Iq x2)] [Iq v16, Iq (m7 43 ((40 * x1) + x2).toNat)] m17
      refine pw_icmp_ne eX4_judge_55 (fun c19 => ?_) (fun c19 => ?_)
      · have h := h.1 c19
        refine pw_iload_n eX4_judge_64 rfl rfl ?_
        refine pw_aload_n eX4_judge_65 rfl rfl ?_
        refine gf_RX4_31 rfl eX4_judge_66 sh34 ?_
        refine pw_iload_n eX4_judge_69 rfl rfl ?_
        obtain ⟨o20, h⟩ := h
        refine pw_iald eX4_judge_70 sh42 o20 ?_
        refine pw_icmp_ge eX4_judge_71 (fun c21 => ?_) (fun c21 => ?_)
        · have h := h.1 c21
          refine pw_iconst eX4_judge_80 ⟨by decide, by decide⟩ ?_
          exact pw_iret eX4_judge_81 h
        · have h := h.2 c21
          refine pw_iconst eX4_judge_74 ⟨by decide, by decide⟩ ?_
          refine pw_iload_n eX4_judge_75 rfl rfl ?_
          obtain ⟨o22, h⟩ := h
          refine pw_iadd eX4_judge_76 o22 ?_
          refine pw_goto eX4_judge_77 ?_
          exact pw_iret eX4_judge_81 h
      · have h := h.2 c19
        obtain ⟨o23, h⟩ := h
        refine pw_iinc (ls2 := [some (Aq 34), some (Iq x1), some (Iq (x2 + 1))]) eX4_judge_58 rfl o23 rfl ?_
        refine pw_goto eX4_judge_61 ?_
        exact h
set_option maxRecDepth 100000 in
theorem rg_X4_image_0 {S : Sx} {Q : Option PV → Zm → Prop} {mem : Zm}   
    (h : (∃ (m2 : Zm), Ct1 S mX4_copyRow [Aq 35, Aq 36] mem none m2 ∧ (Q (some (Iq 1)) (mup m2 34 4 1)))) :
    PW S mX4_image Q 0 [some (Aq 34)] [] mem := by
  refine pw_aload_n eX4_image_0 rfl rfl ?_
  refine gf_RX4_7 rfl eX4_image_1 sh34 ?_
  refine pw_aload_n eX4_image_4 rfl rfl ?_
  refine gf_RX4_13 rfl eX4_image_5 sh34 ?_
  obtain ⟨m2, hc3, h⟩ := h
  refine pw_cS (z := mX4_copyRow) (av := [Aq 35, Aq 36]) (st := []) eX4_image_8 lk_RX4_150 rfl (by decide) (by decide) (Nat.le_of_ble_eq_true rfl) rfl hc3 ?_
  show PW S mX4_image Q 11 [some (Aq 34)] [] m2
  refine pw_aload_n eX4_image_11 rfl rfl ?_
  refine pw_iconst eX4_image_12 ⟨by decide, by decide⟩ ?_
  refine pf_RX4_282 rfl eX4_image_13 sh34 (Or.inr rfl) ?_
  refine pw_iconst eX4_image_16 ⟨by decide, by decide⟩ ?_
  exact pw_iret eX4_image_17 h
set_option maxRecDepth 100000 in
theorem rg_X4_undo_0 {S : Sx} {Q : Option PV → Zm → Prop} {mem : Zm}   
    (h : (((¬ mem 34 4 = 0) → ((∃ (m3 : Zm), Ct1 S mX4_copyRow [Aq 36, Aq 35] mem none m3 ∧ (Q (some (Iq (m3 35 1))) m3)))) ∧ (¬ (¬ mem 34 4 = 0) → ((∃ (v5 : Int) (m6 : Zm), Ct1 S mX4_finds [Aq 34, Iq (-1000004)] mem (some (Iq v5)) m6 ∧ (Q (some (Iq v5)) m6)))))) :
    PW S mX4_undo Q 0 [some (Aq 34)] [] mem := by
  refine pw_aload_n eX4_undo_0 rfl rfl ?_
  refine gf_RX4_282 rfl eX4_undo_1 sh34 ?_
  refine pw_if_ne eX4_undo_4 (fun c1 => ?_) (fun c1 => ?_)
  · have h := h.1 c1
    refine pw_aload_n eX4_undo_14 rfl rfl ?_
    refine gf_RX4_13 rfl eX4_undo_15 sh34 ?_
    refine pw_aload_n eX4_undo_18 rfl rfl ?_
    refine gf_RX4_7 rfl eX4_undo_19 sh34 ?_
    obtain ⟨m3, hc4, h⟩ := h
    refine pw_cS (z := mX4_copyRow) (av := [Aq 36, Aq 35]) (st := []) eX4_undo_22 lk_RX4_150 rfl (by decide) (by decide) (Nat.le_of_ble_eq_true rfl) rfl hc4 ?_
    show PW S mX4_undo Q 25 [some (Aq 34)] [] m3
    refine pw_aload_n eX4_undo_25 rfl rfl ?_
    refine gf_RX4_7 rfl eX4_undo_26 sh34 ?_
    refine pw_iconst eX4_undo_29 ⟨by decide, by decide⟩ ?_
    refine pw_iald eX4_undo_30 sh35 (by decide) ?_
    exact pw_iret eX4_undo_31 h
  · have h := h.2 c1
    refine pw_aload_n eX4_undo_7 rfl rfl ?_
    refine pw_ldc (n := (-1000004)) eX4_undo_8 ⟨by decide, by decide⟩ kc_RX4_38 ?_
    obtain ⟨v5, m6, hc7, h⟩ := h
    refine pw_cV (z := mX4_finds) (av := [Iq (-1000004)]) (st := []) eX4_undo_10 lk_RX4_39 rfl (by decide) (by decide) sh34 rfl rfl (Nat.le_of_ble_eq_true rfl) rfl hc7 ?_
    show PW S mX4_undo Q 13 [some (Aq 34)] [Iq v5] m6
    exact pw_iret eX4_undo_13 h
set_option maxRecDepth 100000 in
theorem rg_X4_tear_0 {S : Sx} {Q : Option PV → Zm → Prop} {mem : Zm}   
    (h : (((mem 34 4 = 0) → (Q (some (Iq 0)) (mup mem 34 4 0))) ∧ (¬ (mem 34 4 = 0) → (Q (some (Iq 1)) (mup mem 34 4 0))))) :
    PW S mX4_tear Q 0 [some (Aq 34), none] [] mem := by
  refine pw_aload_n eX4_tear_0 rfl rfl ?_
  refine gf_RX4_282 rfl eX4_tear_1 sh34 ?_
  refine pw_istore_n (ls2 := [some (Aq 34), some (Iq (mem 34 4))]) eX4_tear_4 rfl (by decide) rfl ?_
  refine pw_aload_n eX4_tear_5 rfl rfl ?_
  refine pw_iconst eX4_tear_6 ⟨by decide, by decide⟩ ?_
  refine pf_RX4_282 rfl eX4_tear_7 sh34 (Or.inl rfl) ?_
  refine pw_iload_n eX4_tear_10 rfl rfl ?_
  refine pw_if_eq eX4_tear_11 (fun c1 => ?_) (fun c1 => ?_)
  · have h := h.1 c1
    refine pw_iconst eX4_tear_18 ⟨by decide, by decide⟩ ?_
    exact pw_iret eX4_tear_19 h
  · have h := h.2 c1
    refine pw_iconst eX4_tear_14 ⟨by decide, by decide⟩ ?_
    refine pw_goto eX4_tear_15 ?_
    exact pw_iret eX4_tear_19 h
set_option maxRecDepth 100000 in
theorem rg_X4_count_0 {S : Sx} {Q : Option PV → Zm → Prop} {mem : Zm}   {x1 : Int} 
    (h : (((x1 = 0) → (Q (some (Iq (mem 35 1))) mem)) ∧ ((x1 = 1) → (Q (some (Iq (mem 35 0))) mem)) ∧ ((x1 = 2) → ((∃ (v2 : Int) (m3 : Zm), Ct1 S mX4_sumOf [Aq 34, Iq 3] mem (some (Iq v2)) m3 ∧ (Q (some (Iq v2)) m3)))) ∧ ((x1 = 3) → ((∃ (v5 : Int) (m6 : Zm), Ct1 S mX4_sumOf [Aq 34, Iq 5] mem (some (Iq v5)) m6 ∧ (Q (some (Iq v5)) m6)))) ∧ ((x1 = 4) → ((∃ (v8 : Int) (m9 : Zm), Ct1 S mX4_sumOf [Aq 34, Iq 4] mem (some (Iq v8)) m9 ∧ (Q (some (Iq v8)) m9)))) ∧ ((x1 = 5) → (Q (some (Iq (mem 34 7))) mem)) ∧ ((x1 = 6) → (Q (some (Iq (mem 35 2))) mem)) ∧ ((x1 = 7) → (PW S mX4_count Q 94 [some (Aq 34), some (Iq x1), some (Iq 0), some (Iq 0)] [] mem)) ∧ ((x1 < 0 ∨ 7 < x1) → ((∃ (v11 : Int) (m12 : Zm), Ct1 S mX4_finds [Aq 34, Iq (-1000001)] mem (some (Iq v11)) m12 ∧ (Q (some (Iq v11)) m12)))))) :
    PW S mX4_count Q 0 [some (Aq 34), some (Iq x1), none, none] [] mem := by
  refine pw_iconst eX4_count_0 ⟨by decide, by decide⟩ ?_
  refine pw_istore_n (ls2 := [some (Aq 34), some (Iq x1), some (Iq 0), none]) eX4_count_1 rfl (by decide) rfl ?_
  refine pw_iload_n eX4_count_2 rfl rfl ?_
  obtain ⟨hk0, hk1, hk2, hk3, hk4, hk5, hk6, hk7, hkd⟩ := h
  refine pw_tsw (ps := [(0, 48), (1, 55), (2, 62), (3, 68), (4, 74), (5, 80), (6, 85), (7, 92)]) (td := 128) eX4_count_3 rfl (by decide) (by decide) rfl ⟨fun c1 => ?_, fun c1 => ?_, fun c1 => ?_, fun c1 => ?_, fun c1 => ?_, fun c1 => ?_, fun c1 => ?_, fun c1 => ?_, trivial⟩ (fun c1 => ?_)
  · have h := hk0 c1
    refine pw_aload_n eX4_count_48 rfl rfl ?_
    refine gf_RX4_7 rfl eX4_count_49 sh34 ?_
    refine pw_iconst eX4_count_52 ⟨by decide, by decide⟩ ?_
    refine pw_iald eX4_count_53 sh35 (by decide) ?_
    exact pw_iret eX4_count_54 h
  · have h := hk1 c1
    refine pw_aload_n eX4_count_55 rfl rfl ?_
    refine gf_RX4_7 rfl eX4_count_56 sh34 ?_
    refine pw_iconst eX4_count_59 ⟨by decide, by decide⟩ ?_
    refine pw_iald eX4_count_60 sh35 (by decide) ?_
    exact pw_iret eX4_count_61 h
  · have h := hk2 c1
    refine pw_aload_n eX4_count_62 rfl rfl ?_
    refine pw_iconst eX4_count_63 ⟨by decide, by decide⟩ ?_
    obtain ⟨v2, m3, hc4, h⟩ := h
    refine pw_cV (z := mX4_sumOf) (av := [Iq 3]) (st := []) eX4_count_64 lk_RX4_134 rfl (by decide) (by decide) sh34 rfl rfl (Nat.le_of_ble_eq_true rfl) rfl hc4 ?_
    show PW S mX4_count Q 67 [some (Aq 34), some (Iq x1), some (Iq 0), none] [Iq v2] m3
    exact pw_iret eX4_count_67 h
  · have h := hk3 c1
    refine pw_aload_n eX4_count_68 rfl rfl ?_
    refine pw_iconst eX4_count_69 ⟨by decide, by decide⟩ ?_
    obtain ⟨v5, m6, hc7, h⟩ := h
    refine pw_cV (z := mX4_sumOf) (av := [Iq 5]) (st := []) eX4_count_70 lk_RX4_134 rfl (by decide) (by decide) sh34 rfl rfl (Nat.le_of_ble_eq_true rfl) rfl hc7 ?_
    show PW S mX4_count Q 73 [some (Aq 34), some (Iq x1), some (Iq 0), none] [Iq v5] m6
    exact pw_iret eX4_count_73 h
  · have h := hk4 c1
    refine pw_aload_n eX4_count_74 rfl rfl ?_
    refine pw_iconst eX4_count_75 ⟨by decide, by decide⟩ ?_
    obtain ⟨v8, m9, hc10, h⟩ := h
    refine pw_cV (z := mX4_sumOf) (av := [Iq 4]) (st := []) eX4_count_76 lk_RX4_134 rfl (by decide) (by decide) sh34 rfl rfl (Nat.le_of_ble_eq_true rfl) rfl hc10 ?_
    show PW S mX4_count Q 79 [some (Aq 34), some (Iq x1), some (Iq 0), none] [Iq v8] m9
    exact pw_iret eX4_count_79 h
  · have h := hk5 c1
    refine pw_aload_n eX4_count_80 rfl rfl ?_
    refine gf_RX4_202 rfl eX4_count_81 sh34 ?_
    exact pw_iret eX4_count_84 h
  · have h := hk6 c1
    refine pw_aload_n eX4_count_85 rfl rfl ?_
    refine gf_RX4_7 rfl eX4_count_86 sh34 ?_
    refine pw_iconst eX4_count_89 ⟨by decide, by decide⟩ ?_
    refine pw_iald eX4_count_90 sh35 (by decide) ?_
    exact pw_iret eX4_count_91 h
  · have h := hk7 c1
    refine pw_iconst eX4_count_92 ⟨by decide, by decide⟩ ?_
    refine pw_istore_n (ls2 := [some (Aq 34), some (Iq x1), some (Iq 0), some (Iq 0)]) eX4_count_93 rfl (by decide) rfl ?_
    exact h
  · have h := hkd c1
    refine pw_aload_n eX4_count_128 rfl rfl ?_
    refine pw_ldc (n := (-1000001)) eX4_count_129 ⟨by decide, by decide⟩ kc_RX4_37 ?_
    obtain ⟨v11, m12, hc13, h⟩ := h
    refine pw_cV (z := mX4_finds) (av := [Iq (-1000001)]) (st := []) eX4_count_131 lk_RX4_39 rfl (by decide) (by decide) sh34 rfl rfl (Nat.le_of_ble_eq_true rfl) rfl hc13 ?_
    show PW S mX4_count Q 134 [some (Aq 34), some (Iq x1), some (Iq 0), none] [Iq v11] m12
    exact pw_iret eX4_count_134 h

set_option maxRecDepth 100000 in
theorem rg_X4_count_94 {S : Sx} {Q : Option PV → Zm → Prop} {mem : Zm}   {x1 x2 x3 : Int} 
    (h : (((10 ≤ x3) → (Q (some (Iq x2)) mem)) ∧ (¬ (10 ≤ x3) → ((in32 (124 + x3)) ∧ (0 ≤ 124 + x3 ∧ 124 + x3 < 134) ∧ (((0 ≤ mem 35 (124 + x3).toNat) → ((in32 (x2 + 1)) ∧ (in32 (x3 + 1)) ∧ PW S mX4_count Q 94 [some (Aq 34), some (Iq x1), some (Iq (x2 + 1)), some (Iq (x3 + 1))] [] mem)) ∧ (¬ (0 ≤ mem 35 (124 + x3).toNat) → ((in32 (x2 + 0)) ∧ (in32 (x3 + 1)) ∧ PW S mX4_count Q 94 [some (Aq 34), some (Iq x1), some (Iq (x2 + 0)), some (Iq (x3 + 1))] [] mem))))))) :
    PW S mX4_count Q 94 [some (Aq 34), some (Iq x1), some (Iq x2), some (Iq x3)] [] mem := by
  refine pw_iload_n eX4_count_94 rfl rfl ?_
  refine pw_bipush eX4_count_95 ⟨by decide, by decide⟩ (by decide) ?_
  refine pw_icmp_ge eX4_count_97 (fun c1 => ?_) (fun c1 => ?_)
  · have h := h.1 c1
    refine pw_iload_n eX4_count_126 rfl rfl ?_
    exact pw_iret eX4_count_127 h
  · have h := h.2 c1
    refine pw_iload_n eX4_count_100 rfl rfl ?_
    refine pw_aload_n eX4_count_101 rfl rfl ?_
    refine gf_RX4_7 rfl eX4_count_102 sh34 ?_
    refine pw_bipush eX4_count_105 ⟨by decide, by decide⟩ (by decide) ?_
    refine pw_iload_n eX4_count_107 rfl rfl ?_
    obtain ⟨o2, h⟩ := h
    refine pw_iadd eX4_count_108 o2 ?_
    obtain ⟨o3, h⟩ := h
    refine pw_iald eX4_count_109 sh35 o3 ?_
    refine pw_if_ge eX4_count_110 (fun c4 => ?_) (fun c4 => ?_)
    · have h := h.1 c4
      refine pw_iconst eX4_count_117 ⟨by decide, by decide⟩ ?_
      obtain ⟨o5, h⟩ := h
      refine pw_iadd eX4_count_118 o5 ?_
      refine pw_istore_n (ls2 := [some (Aq 34), some (Iq x1), some (Iq (x2 + 1)), some (Iq x3)]) eX4_count_119 rfl (by decide) rfl ?_
      obtain ⟨o6, h⟩ := h
      refine pw_iinc (ls2 := [some (Aq 34), some (Iq x1), some (Iq (x2 + 1)), some (Iq (x3 + 1))]) eX4_count_120 rfl o6 rfl ?_
      refine pw_goto eX4_count_123 ?_
      exact h
    · have h := h.2 c4
      refine pw_iconst eX4_count_113 ⟨by decide, by decide⟩ ?_
      refine pw_goto eX4_count_114 ?_
      obtain ⟨o7, h⟩ := h
      refine pw_iadd eX4_count_118 o7 ?_
      refine pw_istore_n (ls2 := [some (Aq 34), some (Iq x1), some (Iq (x2 + 0)), some (Iq x3)]) eX4_count_119 rfl (by decide) rfl ?_
      obtain ⟨o8, h⟩ := h
      refine pw_iinc (ls2 := [some (Aq 34), some (Iq x1), some (Iq (x2 + 0)), some (Iq (x3 + 1))]) eX4_count_120 rfl o8 rfl ?_
      refine pw_goto eX4_count_123 ?_
      exact h
set_option maxRecDepth 100000 in
theorem rg_X4_status_0 {S : Sx} {Q : Option PV → Zm → Prop} {mem : Zm}   {x1 : Int} 
    (h : (∃ (v1 : Int) (m2 : Zm), Ct1 S mX4_isIn [Jq x1, Jq (-1), Jq 6] mem (some (Iq v1)) m2 ∧ ((((v1 = 0) → ((∃ (v5 : Int) (m6 : Zm), Ct1 S mX4_finds [Aq 34, Iq (-1000001)] m2 (some (Iq v5)) m6 ∧ (Q (some (Iq v5)) m6)))) ∧ (¬ (v1 = 0) → ((in32 (x1 + 1)) ∧ (0 ≤ x1 + 1 ∧ x1 + 1 < 8) ∧ Q (some (Iq (m2 39 (x1 + 1).toNat))) m2)))))) :
    PW S mX4_status Q 0 [some (Aq 34), some (Iq x1)] [] mem := by
  refine pw_iload_n eX4_status_0 rfl rfl ?_
  refine pw_i2l eX4_status_1 ?_
  refine pw_ldc2 (n := (-1)) eX4_status_2 ⟨by decide, by decide⟩ kc_RX4_99 ?_
  refine pw_ldc2 (n := 6) eX4_status_5 ⟨by decide, by decide⟩ kc_RX4_62 ?_
  obtain ⟨v1, m2, hc3, h⟩ := h
  refine pw_cS (z := mX4_isIn) (av := [Jq x1, Jq (-1), Jq 6]) (st := []) eX4_status_8 lk_RX4_49 rfl (by decide) (by decide) (Nat.le_of_ble_eq_true rfl) rfl hc3 ?_
  show PW S mX4_status Q 11 [some (Aq 34), some (Iq x1)] [Iq v1] m2
  refine pw_if_eq eX4_status_11 (fun c4 => ?_) (fun c4 => ?_)
  · have h := h.1 c4
    refine pw_aload_n eX4_status_25 rfl rfl ?_
    refine pw_ldc (n := (-1000001)) eX4_status_26 ⟨by decide, by decide⟩ kc_RX4_37 ?_
    obtain ⟨v5, m6, hc7, h⟩ := h
    refine pw_cV (z := mX4_finds) (av := [Iq (-1000001)]) (st := []) eX4_status_28 lk_RX4_39 rfl (by decide) (by decide) sh34 rfl rfl (Nat.le_of_ble_eq_true rfl) rfl hc7 ?_
    show PW S mX4_status Q 31 [some (Aq 34), some (Iq x1)] [Iq v5] m6
    exact pw_iret eX4_status_31 h
  · have h := h.2 c4
    refine pw_aload_n eX4_status_14 rfl rfl ?_
    refine gf_RX4_22 rfl eX4_status_15 sh34 ?_
    refine pw_iload_n eX4_status_18 rfl rfl ?_
    refine pw_iconst eX4_status_19 ⟨by decide, by decide⟩ ?_
    obtain ⟨o8, h⟩ := h
    refine pw_iadd eX4_status_20 o8 ?_
    obtain ⟨o9, h⟩ := h
    refine pw_iald eX4_status_21 sh39 o9 ?_
    refine pw_goto eX4_status_22 ?_
    exact pw_iret eX4_status_31 h
end RG

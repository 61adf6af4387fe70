section RG
set_option maxRecDepth 100000 in
theorem rg_J6_bitCount_0f7a4_0 {S : Sx} {Q : Option PV → Zm → Prop} {mem : Zm}   {x0 : Int} 
    (h : (in32 (x0 - (bAnd (bUshr x0 1) 1431655765))) ∧ (in32 ((bAnd (x0 - (bAnd (bUshr x0 1) 1431655765)) 858993459) + (bAnd (bUshr (x0 - (bAnd (bUshr x0 1) 1431655765)) 2) 858993459))) ∧ (in32 (((bAnd (x0 - (bAnd (bUshr x0 1) 1431655765)) 858993459) + (bAnd (bUshr (x0 - (bAnd (bUshr x0 1) 1431655765)) 2) 858993459)) + (bUshr ((bAnd (x0 - (bAnd (bUshr x0 1) 1431655765)) 858993459) + (bAnd (bUshr (x0 - (bAnd (bUshr x0 1) 1431655765)) 2) 858993459)) 4))) ∧ (in32 ((bAnd (((bAnd (x0 - (bAnd (bUshr x0 1) 1431655765)) 858993459) + (bAnd (bUshr (x0 - (bAnd (bUshr x0 1) 1431655765)) 2) 858993459)) + (bUshr ((bAnd (x0 - (bAnd (bUshr x0 1) 1431655765)) 858993459) + (bAnd (bUshr (x0 - (bAnd (bUshr x0 1) 1431655765)) 2) 858993459)) 4)) 252645135) + (bUshr (bAnd (((bAnd (x0 - (bAnd (bUshr x0 1) 1431655765)) 858993459) + (bAnd (bUshr (x0 - (bAnd (bUshr x0 1) 1431655765)) 2) 858993459)) + (bUshr ((bAnd (x0 - (bAnd (bUshr x0 1) 1431655765)) 858993459) + (bAnd (bUshr (x0 - (bAnd (bUshr x0 1) 1431655765)) 2) 858993459)) 4)) 252645135) 8))) ∧ (in32 (((bAnd (((bAnd (x0 - (bAnd (bUshr x0 1) 1431655765)) 858993459) + (bAnd (bUshr (x0 - (bAnd (bUshr x0 1) 1431655765)) 2) 858993459)) + (bUshr ((bAnd (x0 - (bAnd (bUshr x0 1) 1431655765)) 858993459) + (bAnd (bUshr (x0 - (bAnd (bUshr x0 1) 1431655765)) 2) 858993459)) 4)) 252645135) + (bUshr (bAnd (((bAnd (x0 - (bAnd (bUshr x0 1) 1431655765)) 858993459) + (bAnd (bUshr (x0 - (bAnd (bUshr x0 1) 1431655765)) 2) 858993459)) + (bUshr ((bAnd (x0 - (bAnd (bUshr x0 1) 1431655765)) 858993459) + (bAnd (bUshr (x0 - (bAnd (bUshr x0 1) 1431655765)) 2) 858993459)) 4)) 252645135) 8)) + (bUshr ((bAnd (((bAnd (x0 - (bAnd (bUshr x0 1) 1431655765)) 858993459) + (bAnd (bUshr (x0 - (bAnd (bUshr x0 1) 1431655765)) 2) 858993459)) + (bUshr ((bAnd (x0 - (bAnd (bUshr x0 1) 1431655765)) 858993459) + (bAnd (bUshr (x0 - (bAnd (bUshr x0 1) 1431655765)) 2) 858993459)) 4)) 252645135) + (bUshr (bAnd (((bAnd (x0 - (bAnd (bUshr x0 1) 1431655765)) 858993459) + (bAnd (bUshr (x0 - (bAnd (bUshr x0 1) 1431655765)) 2) 858993459)) + (bUshr ((bAnd (x0 - (bAnd (bUshr x0 1) 1431655765)) 858993459) + (bAnd (bUshr (x0 - (bAnd (bUshr x0 1) 1431655765)) 2) 858993459)) 4)) 252645135) 8)) 16))) ∧ Q (some (Iq (bAnd (((bAnd (((bAnd (x0 - (bAnd (bUshr x0 1) 1431655765)) 858993459) + (bAnd (bUshr (x0 - (bAnd (bUshr x0 1) 1431655765)) 2) 858993459)) + (bUshr ((bAnd (x0 - (bAnd (bUshr x0 1) 1431655765)) 858993459) + (bAnd (bUshr (x0 - (bAnd (bUshr x0 1) 1431655765)) 2) 858993459)) 4)) 252645135) + (bUshr (bAnd (((bAnd (x0 - (bAnd (bUshr x0 1) 1431655765)) 858993459) + (bAnd (bUshr (x0 - (bAnd (bUshr x0 1) 1431655765)) 2) 858993459)) + (bUshr ((bAnd (x0 - (bAnd (bUshr x0 1) 1431655765)) 858993459) + (bAnd (bUshr (x0 - (bAnd (bUshr x0 1) 1431655765)) 2) 858993459)) 4)) 252645135) 8)) + (bUshr ((bAnd (((bAnd (x0 - (bAnd (bUshr x0 1) 1431655765)) 858993459) + (bAnd (bUshr (x0 - (bAnd (bUshr x0 1) 1431655765)) 2) 858993459)) + (bUshr ((bAnd (x0 - (bAnd (bUshr x0 1) 1431655765)) 858993459) + (bAnd (bUshr (x0 - (bAnd (bUshr x0 1) 1431655765)) 2) 858993459)) 4)) 252645135) + (bUshr (bAnd (((bAnd (x0 - (bAnd (bUshr x0 1) 1431655765)) 858993459) + (bAnd (bUshr (x0 - (bAnd (bUshr x0 1) 1431655765)) 2) 858993459)) + (bUshr ((bAnd (x0 - (bAnd (bUshr x0 1) 1431655765)) 858993459) + (bAnd (bUshr (x0 - (bAnd (bUshr x0 1) 1431655765)) 2) 858993459)) 4)) 252645135) 8)) 16)) 63))) mem) :
    PW S mJ6_bitCount_0f7a4 Q 0 [some (Iq x0)] [] mem := by
  refine pw_iload_n eJ6_bitCount_0f7a4_0 rfl rfl ?_
  refine pw_iload_n eJ6_bitCount_0f7a4_1 rfl rfl ?_
  refine pw_iconst eJ6_bitCount_0f7a4_2 ⟨by decide, by decide⟩ ?_
  refine pw_iushr eJ6_bitCount_0f7a4_3 ?_
  refine pw_ldcw (n := 1431655765) eJ6_bitCount_0f7a4_4 ⟨by decide, by decide⟩ kc_RJ6_265 ?_
  refine pw_iand eJ6_bitCount_0f7a4_7 ?_
  obtain ⟨ob1, h⟩ := h
  refine pw_isub eJ6_bitCount_0f7a4_8 ob1 ?_
  refine pw_istore_n (ls2 := [some (Iq (x0 - (bAnd (bUshr x0 1) 1431655765)))]) eJ6_bitCount_0f7a4_9 rfl (by decide) rfl ?_
  refine pw_iload_n eJ6_bitCount_0f7a4_10 rfl rfl ?_
  refine pw_ldcw (n := 858993459) eJ6_bitCount_0f7a4_11 ⟨by decide, by decide⟩ kc_RJ6_266 ?_
  refine pw_iand eJ6_bitCount_0f7a4_14 ?_
  refine pw_iload_n eJ6_bitCount_0f7a4_15 rfl rfl ?_
  refine pw_iconst eJ6_bitCount_0f7a4_16 ⟨by decide, by decide⟩ ?_
  refine pw_iushr eJ6_bitCount_0f7a4_17 ?_
  refine pw_ldcw (n := 858993459) eJ6_bitCount_0f7a4_18 ⟨by decide, by decide⟩ kc_RJ6_266 ?_
  refine pw_iand eJ6_bitCount_0f7a4_21 ?_
  obtain ⟨ob2, h⟩ := h
  refine pw_iadd eJ6_bitCount_0f7a4_22 ob2 ?_
  refine pw_istore_n (ls2 := [some (Iq ((bAnd (x0 - (bAnd (bUshr x0 1) 1431655765)) 858993459) + (bAnd (bUshr (x0 - (bAnd (bUshr x0 1) 1431655765)) 2) 858993459)))]) eJ6_bitCount_0f7a4_23 rfl (by decide) rfl ?_
  refine pw_iload_n eJ6_bitCount_0f7a4_24 rfl rfl ?_
  refine pw_iload_n eJ6_bitCount_0f7a4_25 rfl rfl ?_
  refine pw_iconst eJ6_bitCount_0f7a4_26 ⟨by decide, by decide⟩ ?_
  refine pw_iushr eJ6_bitCount_0f7a4_27 ?_
  obtain ⟨ob3, h⟩ := h
  refine pw_iadd eJ6_bitCount_0f7a4_28 ob3 ?_
  refine pw_ldcw (n := 252645135) eJ6_bitCount_0f7a4_29 ⟨by decide, by decide⟩ kc_RJ6_267 ?_
  refine pw_iand eJ6_bitCount_0f7a4_32 ?_
  refine pw_istore_n (ls2 := [some (Iq (bAnd (((bAnd (x0 - (bAnd (bUshr x0 1) 1431655765)) 858993459) + (bAnd (bUshr (x0 - (bAnd (bUshr x0 1) 1431655765)) 2) 858993459)) + (bUshr ((bAnd (x0 - (bAnd (bUshr x0 1) 1431655765)) 858993459) + (bAnd (bUshr (x0 - (bAnd (bUshr x0 1) 1431655765)) 2) 858993459)) 4)) 252645135))]) eJ6_bitCount_0f7a4_33 rfl (by decide) rfl ?_
  refine pw_iload_n eJ6_bitCount_0f7a4_34 rfl rfl ?_
  refine pw_iload_n eJ6_bitCount_0f7a4_35 rfl rfl ?_
  refine pw_bipush eJ6_bitCount_0f7a4_36 ⟨by decide, by decide⟩ (by decide) ?_
  refine pw_iushr eJ6_bitCount_0f7a4_38 ?_
  obtain ⟨ob4, h⟩ := h
  refine pw_iadd eJ6_bitCount_0f7a4_39 ob4 ?_
  refine pw_istore_n (ls2 := [some (Iq ((bAnd (((bAnd (x0 - (bAnd (bUshr x0 1) 1431655765)) 858993459) + (bAnd (bUshr (x0 - (bAnd (bUshr x0 1) 1431655765)) 2) 858993459)) + (bUshr ((bAnd (x0 - (bAnd (bUshr x0 1) 1431655765)) 858993459) + (bAnd (bUshr (x0 - (bAnd (bUshr x0 1) 1431655765)) 2) 858993459)) 4)) 252645135) + (bUshr (bAnd (((bAnd (x0 - (bAnd (bUshr x0 1) 1431655765)) 858993459) + (bAnd (bUshr (x0 - (bAnd (bUshr x0 1) 1431655765)) 2) 858993459)) + (bUshr ((bAnd (x0 - (bAnd (bUshr x0 1) 1431655765)) 858993459) + (bAnd (bUshr (x0 - (bAnd (bUshr x0 1) 1431655765)) 2) 858993459)) 4)) 252645135) 8)))]) eJ6_bitCount_0f7a4_40 rfl (by decide) rfl ?_
  refine pw_iload_n eJ6_bitCount_0f7a4_41 rfl rfl ?_
  refine pw_iload_n eJ6_bitCount_0f7a4_42 rfl rfl ?_
  refine pw_bipush eJ6_bitCount_0f7a4_43 ⟨by decide, by decide⟩ (by decide) ?_
  refine pw_iushr eJ6_bitCount_0f7a4_45 ?_
  obtain ⟨ob5, h⟩ := h
  refine pw_iadd eJ6_bitCount_0f7a4_46 ob5 ?_
  refine pw_istore_n (ls2 := [some (Iq (((bAnd (((bAnd (x0 - (bAnd (bUshr x0 1) 1431655765)) 858993459) + (bAnd (bUshr (x0 - (bAnd (bUshr x0 1) 1431655765)) 2) 858993459)) + (bUshr ((bAnd (x0 - (bAnd (bUshr x0 1) 1431655765)) 858993459) + (bAnd (bUshr (x0 - (bAnd (bUshr x0 1) 1431655765)) 2) 858993459)) 4)) 252645135) + (bUshr (bAnd (((bAnd (x0 - (bAnd (bUshr x0 1) 1431655765)) 858993459) + (bAnd (bUshr (x0 - (bAnd (bUshr x0 1) 1431655765)) 2) 858993459)) + (bUshr ((bAnd (x0 - (bAnd (bUshr x0 1) 1431655765)) 858993459) + (bAnd (bUshr (x0 - (bAnd (bUshr x0 1) 1431655765)) 2) 858993459)) 4)) 252645135) 8)) + (bUshr ((bAnd (((bAnd (x0 - (bAnd (bUshr x0 1) 1431655765)) 858993459) + (bAnd (bUshr (x0 - (bAnd (bUshr x0 1) 1431655765)) 2) 858993459)) + (bUshr ((bAnd (x0 - (bAnd (bUshr x0 1) 1431655765)) 858993459) + (bAnd (bUshr (x0 - (bAnd (bUshr x0 1) 1431655765)) 2) 858993459)) 4)) 252645135) + (bUshr (bAnd (((bAnd (x0 - (bAnd (bUshr x0 1) 1431655765)) 858993459) + (bAnd (bUshr (x0 - (bAnd (bUshr x0 1) 1431655765)) 2) 858993459)) + (bUshr ((bAnd (x0 - (bAnd (bUshr x0 1) 1431655765)) 858993459) + (bAnd (bUshr (x0 - (bAnd (bUshr x0 1) 1431655765)) 2) 858993459)) 4)) 252645135) 8)) 16)))]) eJ6_bitCount_0f7a4_47 rfl (by decide) rfl ?_
  refine pw_iload_n eJ6_bitCount_0f7a4_48 rfl rfl ?_
  refine pw_bipush eJ6_bitCount_0f7a4_49 ⟨by decide, by decide⟩ (by decide) ?_
  refine pw_iand eJ6_bitCount_0f7a4_51 ?_
  exact pw_iret eJ6_bitCount_0f7a4_52 h
set_option maxRecDepth 100000 in
theorem rg_J7_fill_53178_0 {S : Sx} {Q : Option PV → Zm → Prop} {mem : Zm} {n0 : Nat} {r0 : Nat} {x1 : Int} (hr0 : shp r0 = (1, n0))
    (h : (n0 < 2147483648) ∧ PW S mJ7_fill_53178 Q 5 [some (Aq r0), some (Iq x1), some (Iq 0), some (Iq ((n0 : Int)))] [] mem) :
    PW S mJ7_fill_53178 Q 0 [some (Aq r0), some (Iq x1), none, none] [] mem := by
  refine pw_iconst eJ7_fill_53178_0 ⟨by decide, by decide⟩ ?_
  refine pw_istore_n (ls2 := [some (Aq r0), some (Iq x1), some (Iq 0), none]) eJ7_fill_53178_1 rfl (by decide) rfl ?_
  refine pw_aload_n eJ7_fill_53178_2 rfl rfl ?_
  obtain ⟨ob1, h⟩ := h
  refine pw_alen eJ7_fill_53178_3 hr0 ob1 ?_
  refine pw_istore_n (ls2 := [some (Aq r0), some (Iq x1), some (Iq 0), some (Iq ((n0 : Int)))]) eJ7_fill_53178_4 rfl (by decide) rfl ?_
  exact h

set_option maxRecDepth 100000 in
theorem rg_J7_fill_53178_5 {S : Sx} {Q : Option PV → Zm → Prop} {mem : Zm} {n0 : Nat} {r0 : Nat} {x1 x2 x3 : Int} (hr0 : shp r0 = (1, n0))
    (h : (((x3 ≤ x2) → (Q none mem)) ∧ (¬ (x3 ≤ x2) → ((0 ≤ x2 ∧ x2 < n0) ∧ (in32 (x2 + 1)) ∧ PW S mJ7_fill_53178 Q 5 [some (Aq r0), some (Iq x1), some (Iq (x2 + 1)), some (Iq x3)] [] (mup mem r0 (x2).toNat x1))))) :
    PW S mJ7_fill_53178 Q 5 [some (Aq r0), some (Iq x1), some (Iq x2), some (Iq x3)] [] mem := by
  refine pw_iload_n eJ7_fill_53178_5 rfl rfl ?_
  refine pw_iload_n eJ7_fill_53178_6 rfl rfl ?_
  refine pw_icmp_ge eJ7_fill_53178_7 (fun c1 => ?_) (fun c1 => ?_)
  · have h := h.1 c1
    exact pw_vret eJ7_fill_53178_20 h
  · have h := h.2 c1
    refine pw_aload_n eJ7_fill_53178_10 rfl rfl ?_
    refine pw_iload_n eJ7_fill_53178_11 rfl rfl ?_
    refine pw_iload_n eJ7_fill_53178_12 rfl rfl ?_
    obtain ⟨ob2, h⟩ := h
    refine pw_iast eJ7_fill_53178_13 hr0 ob2 ?_
    obtain ⟨ob3, h⟩ := h
    refine pw_iinc (ls2 := [some (Aq r0), some (Iq x1), some (Iq (x2 + 1)), some (Iq x3)]) eJ7_fill_53178_14 rfl ob3 rfl ?_
    refine pw_goto eJ7_fill_53178_17 ?_
    exact h
set_option maxRecDepth 100000 in
theorem rg_X0_has_0 {S : Sx} {Q : Option PV → Zm → Prop} {mem : Zm}  {r0 : Nat} {x1 : Int} (hr0 : isRoom r0)
    (h : (((x1 < 0) → (Q (some (Iq 0)) mem)) ∧ (¬ (x1 < 0) → ((((mem r0 7 ≤ x1) → (Q (some (Iq 0)) mem)) ∧ (¬ (mem r0 7 ≤ x1) → (Q (some (Iq 1)) mem))))))) :
    PW S mX0_has Q 0 [some (Aq r0), some (Iq x1)] [] mem := by
  refine pw_iload_n eX0_has_0 rfl rfl ?_
  refine pw_if_lt eX0_has_1 (fun c1 => ?_) (fun c1 => ?_)
  · have h := h.1 c1
    refine pw_iconst eX0_has_16 ⟨by decide, by decide⟩ ?_
    exact pw_iret eX0_has_17 h
  · have h := h.2 c1
    refine pw_iload_n eX0_has_4 rfl rfl ?_
    refine pw_aload_n eX0_has_5 rfl rfl ?_
    refine gf_RX0_34 rfl eX0_has_6 (shR hr0) ?_
    refine pw_icmp_ge eX0_has_9 (fun c2 => ?_) (fun c2 => ?_)
    · have h := h.1 c2
      refine pw_iconst eX0_has_16 ⟨by decide, by decide⟩ ?_
      exact pw_iret eX0_has_17 h
    · have h := h.2 c2
      refine pw_iconst eX0_has_12 ⟨by decide, by decide⟩ ?_
      refine pw_goto eX0_has_13 ?_
      exact pw_iret eX0_has_17 h
set_option maxRecDepth 100000 in
theorem rg_X0_fact_0 {S : Sx} {Q : Option PV → Zm → Prop} {mem : Zm}  {r0 : Nat} {x1 x2 : Int} (hr0 : isRoom r0)
    (h : (in32 (x1 * 6)) ∧ (in32 ((x1 * 6) + x2)) ∧ (0 ≤ (x1 * 6) + x2 ∧ (x1 * 6) + x2 < 48) ∧ Q (some (Iq (mem (r0 + 2) ((x1 * 6) + x2).toNat))) mem) :
    PW S mX0_fact Q 0 [some (Aq r0), some (Iq x1), some (Iq x2)] [] mem := by
  refine pw_aload_n eX0_fact_0 rfl rfl ?_
  refine gf_RX0_15 rfl eX0_fact_1 (shR hr0) ?_
  refine pw_iload_n eX0_fact_4 rfl rfl ?_
  refine pw_bipush eX0_fact_5 ⟨by decide, by decide⟩ (by decide) ?_
  obtain ⟨ob1, h⟩ := h
  refine pw_imul eX0_fact_7 ob1 ?_
  refine pw_iload_n eX0_fact_8 rfl rfl ?_
  obtain ⟨ob2, h⟩ := h
  refine pw_iadd eX0_fact_9 ob2 ?_
  obtain ⟨ob3, h⟩ := h
  refine pw_iald eX0_fact_10 (shR2 hr0) ob3 ?_
  exact pw_iret eX0_fact_11 h
set_option maxRecDepth 100000 in
theorem rg_X0_setFact_0 {S : Sx} {Q : Option PV → Zm → Prop} {mem : Zm}  {r0 : Nat} {x1 x2 x3 : Int} (hr0 : isRoom r0)
    (h : (in32 (x1 * 6)) ∧ (in32 ((x1 * 6) + x2)) ∧ (0 ≤ (x1 * 6) + x2 ∧ (x1 * 6) + x2 < 48) ∧ Q none (mup mem (r0 + 2) ((x1 * 6) + x2).toNat x3)) :
    PW S mX0_setFact Q 0 [some (Aq r0), some (Iq x1), some (Iq x2), some (Iq x3)] [] mem := by
  refine pw_aload_n eX0_setFact_0 rfl rfl ?_
  refine gf_RX0_15 rfl eX0_setFact_1 (shR hr0) ?_
  refine pw_iload_n eX0_setFact_4 rfl rfl ?_
  refine pw_bipush eX0_setFact_5 ⟨by decide, by decide⟩ (by decide) ?_
  obtain ⟨ob1, h⟩ := h
  refine pw_imul eX0_setFact_7 ob1 ?_
  refine pw_iload_n eX0_setFact_8 rfl rfl ?_
  obtain ⟨ob2, h⟩ := h
  refine pw_iadd eX0_setFact_9 ob2 ?_
  refine pw_iload_n eX0_setFact_10 rfl rfl ?_
  obtain ⟨ob3, h⟩ := h
  refine pw_iast eX0_setFact_11 (shR2 hr0) ob3 ?_
  exact pw_vret eX0_setFact_12 h
set_option maxRecDepth 100000 in
theorem rg_X0_answerOf_0 {S : Sx} {Q : Option PV → Zm → Prop} {mem : Zm}  {r0 : Nat} {x1 x2 : Int} (hr0 : isRoom r0)
    (h : (in32 (x1 * 8)) ∧ (in32 ((x1 * 8) + x2)) ∧ (0 ≤ (x1 * 8) + x2 ∧ (x1 * 8) + x2 < 64) ∧ Q (some (Iq (mem (r0 + 3) ((x1 * 8) + x2).toNat))) mem) :
    PW S mX0_answerOf Q 0 [some (Aq r0), some (Iq x1), some (Iq x2)] [] mem := by
  refine pw_aload_n eX0_answerOf_0 rfl rfl ?_
  refine gf_RX0_18 rfl eX0_answerOf_1 (shR hr0) ?_
  refine pw_iload_n eX0_answerOf_4 rfl rfl ?_
  refine pw_bipush eX0_answerOf_5 ⟨by decide, by decide⟩ (by decide) ?_
  obtain ⟨ob1, h⟩ := h
  refine pw_imul eX0_answerOf_7 ob1 ?_
  refine pw_iload_n eX0_answerOf_8 rfl rfl ?_
  obtain ⟨ob2, h⟩ := h
  refine pw_iadd eX0_answerOf_9 ob2 ?_
  obtain ⟨ob3, h⟩ := h
  refine pw_iald eX0_answerOf_10 (shR3 hr0) ob3 ?_
  exact pw_iret eX0_answerOf_11 h
set_option maxRecDepth 100000 in
theorem rg_X0_exchanged_0 {S : Sx} {Q : Option PV → Zm → Prop} {mem : Zm}   {x0 x1 : Int} 
    (h : (0 ≤ x0) ∧ (((x0 % 2 = 0) → (Q (some (Iq x1)) mem)) ∧ (¬ (x0 % 2 = 0) → ((0 ≤ x1) ∧ (in32 ((x1 % 10) * 10)) ∧ (0 ≤ x1) ∧ (in32 (((x1 % 10) * 10) + (x1 / 10))) ∧ Q (some (Iq (((x1 % 10) * 10) + (x1 / 10)))) mem)))) :
    PW S mX0_exchanged Q 0 [some (Iq x0), some (Iq x1)] [] mem := by
  refine pw_iload_n eX0_exchanged_0 rfl rfl ?_
  refine pw_iconst eX0_exchanged_1 ⟨by decide, by decide⟩ ?_
  obtain ⟨ob1, h⟩ := h
  refine pw_irem eX0_exchanged_2 ob1 (by decide) ?_
  refine pw_if_ne eX0_exchanged_3 (fun c2 => ?_) (fun c2 => ?_)
  · have h := h.2 c2
    refine pw_iload_n eX0_exchanged_10 rfl rfl ?_
    refine pw_bipush eX0_exchanged_11 ⟨by decide, by decide⟩ (by decide) ?_
    obtain ⟨ob3, h⟩ := h
    refine pw_irem eX0_exchanged_13 ob3 (by decide) ?_
    refine pw_bipush eX0_exchanged_14 ⟨by decide, by decide⟩ (by decide) ?_
    obtain ⟨ob4, h⟩ := h
    refine pw_imul eX0_exchanged_16 ob4 ?_
    refine pw_iload_n eX0_exchanged_17 rfl rfl ?_
    refine pw_bipush eX0_exchanged_18 ⟨by decide, by decide⟩ (by decide) ?_
    obtain ⟨ob5, h⟩ := h
    refine pw_idiv eX0_exchanged_20 ob5 (by decide) ?_
    obtain ⟨ob6, h⟩ := h
    refine pw_iadd eX0_exchanged_21 ob6 ?_
    exact pw_iret eX0_exchanged_22 h
  · have h := h.1 (Classical.not_not.mp c2)
    refine pw_iload_n eX0_exchanged_6 rfl rfl ?_
    refine pw_goto eX0_exchanged_7 ?_
    exact pw_iret eX0_exchanged_22 h
set_option maxRecDepth 100000 in
theorem rg_X0_onesForSevens_0 {S : Sx} {Q : Option PV → Zm → Prop} {mem : Zm}   {x0 : Int} 
    (h : (0 ≤ x0) ∧ (((x0 / 10 = 7) → ((0 ≤ x0) ∧ (((x0 % 10 = 7) → (Q (some (Iq ((1 * 10) + 1))) mem)) ∧ (¬ (x0 % 10 = 7) → ((0 ≤ x0) ∧ (in32 ((1 * 10) + (x0 % 10))) ∧ Q (some (Iq ((1 * 10) + (x0 % 10)))) mem))))) ∧ (¬ (x0 / 10 = 7) → ((0 ≤ x0) ∧ (0 ≤ x0) ∧ (((x0 % 10 = 7) → ((in32 ((x0 / 10) * 10)) ∧ (in32 (((x0 / 10) * 10) + 1)) ∧ Q (some (Iq (((x0 / 10) * 10) + 1))) mem)) ∧ (¬ (x0 % 10 = 7) → ((0 ≤ x0) ∧ (in32 ((x0 / 10) * 10)) ∧ (in32 (((x0 / 10) * 10) + (x0 % 10))) ∧ Q (some (Iq (((x0 / 10) * 10) + (x0 % 10)))) mem))))))) :
    PW S mX0_onesForSevens Q 0 [some (Iq x0), none, none] [] mem := by
  refine pw_iload_n eX0_onesForSevens_0 rfl rfl ?_
  refine pw_bipush eX0_onesForSevens_1 ⟨by decide, by decide⟩ (by decide) ?_
  obtain ⟨ob1, h⟩ := h
  refine pw_idiv eX0_onesForSevens_3 ob1 (by decide) ?_
  refine pw_bipush eX0_onesForSevens_4 ⟨by decide, by decide⟩ (by decide) ?_
  refine pw_icmp_ne eX0_onesForSevens_6 (fun c2 => ?_) (fun c2 => ?_)
  · have h := h.2 c2
    refine pw_iload_n eX0_onesForSevens_13 rfl rfl ?_
    refine pw_bipush eX0_onesForSevens_14 ⟨by decide, by decide⟩ (by decide) ?_
    obtain ⟨ob3, h⟩ := h
    refine pw_idiv eX0_onesForSevens_16 ob3 (by decide) ?_
    refine pw_istore_n (ls2 := [some (Iq x0), some (Iq (x0 / 10)), none]) eX0_onesForSevens_17 rfl (by decide) rfl ?_
    refine pw_iload_n eX0_onesForSevens_18 rfl rfl ?_
    refine pw_bipush eX0_onesForSevens_19 ⟨by decide, by decide⟩ (by decide) ?_
    obtain ⟨ob4, h⟩ := h
    refine pw_irem eX0_onesForSevens_21 ob4 (by decide) ?_
    refine pw_bipush eX0_onesForSevens_22 ⟨by decide, by decide⟩ (by decide) ?_
    refine pw_icmp_ne eX0_onesForSevens_24 (fun c5 => ?_) (fun c5 => ?_)
    · have h := h.2 c5
      refine pw_iload_n eX0_onesForSevens_31 rfl rfl ?_
      refine pw_bipush eX0_onesForSevens_32 ⟨by decide, by decide⟩ (by decide) ?_
      obtain ⟨ob6, h⟩ := h
      refine pw_irem eX0_onesForSevens_34 ob6 (by decide) ?_
      refine pw_istore_n (ls2 := [some (Iq x0), some (Iq (x0 / 10)), some (Iq (x0 % 10))]) eX0_onesForSevens_35 rfl (by decide) rfl ?_
      refine pw_iload_n eX0_onesForSevens_36 rfl rfl ?_
      refine pw_bipush eX0_onesForSevens_37 ⟨by decide, by decide⟩ (by decide) ?_
      obtain ⟨ob7, h⟩ := h
      refine pw_imul eX0_onesForSevens_39 ob7 ?_
      refine pw_iload_n eX0_onesForSevens_40 rfl rfl ?_
      obtain ⟨ob8, h⟩ := h
      refine pw_iadd eX0_onesForSevens_41 ob8 ?_
      exact pw_iret eX0_onesForSevens_42 h
    · have h := h.1 (Classical.not_not.mp c5)
      refine pw_iconst eX0_onesForSevens_27 ⟨by decide, by decide⟩ ?_
      refine pw_goto eX0_onesForSevens_28 ?_
      refine pw_istore_n (ls2 := [some (Iq x0), some (Iq (x0 / 10)), some (Iq 1)]) eX0_onesForSevens_35 rfl (by decide) rfl ?_
      refine pw_iload_n eX0_onesForSevens_36 rfl rfl ?_
      refine pw_bipush eX0_onesForSevens_37 ⟨by decide, by decide⟩ (by decide) ?_
      obtain ⟨ob9, h⟩ := h
      refine pw_imul eX0_onesForSevens_39 ob9 ?_
      refine pw_iload_n eX0_onesForSevens_40 rfl rfl ?_
      obtain ⟨ob10, h⟩ := h
      refine pw_iadd eX0_onesForSevens_41 ob10 ?_
      exact pw_iret eX0_onesForSevens_42 h
  · have h := h.1 (Classical.not_not.mp c2)
    refine pw_iconst eX0_onesForSevens_9 ⟨by decide, by decide⟩ ?_
    refine pw_goto eX0_onesForSevens_10 ?_
    refine pw_istore_n (ls2 := [some (Iq x0), some (Iq 1), none]) eX0_onesForSevens_17 rfl (by decide) rfl ?_
    refine pw_iload_n eX0_onesForSevens_18 rfl rfl ?_
    refine pw_bipush eX0_onesForSevens_19 ⟨by decide, by decide⟩ (by decide) ?_
    obtain ⟨ob11, h⟩ := h
    refine pw_irem eX0_onesForSevens_21 ob11 (by decide) ?_
    refine pw_bipush eX0_onesForSevens_22 ⟨by decide, by decide⟩ (by decide) ?_
    refine pw_icmp_ne eX0_onesForSevens_24 (fun c12 => ?_) (fun c12 => ?_)
    · have h := h.2 c12
      refine pw_iload_n eX0_onesForSevens_31 rfl rfl ?_
      refine pw_bipush eX0_onesForSevens_32 ⟨by decide, by decide⟩ (by decide) ?_
      obtain ⟨ob13, h⟩ := h
      refine pw_irem eX0_onesForSevens_34 ob13 (by decide) ?_
      refine pw_istore_n (ls2 := [some (Iq x0), some (Iq 1), some (Iq (x0 % 10))]) eX0_onesForSevens_35 rfl (by decide) rfl ?_
      refine pw_iload_n eX0_onesForSevens_36 rfl rfl ?_
      refine pw_bipush eX0_onesForSevens_37 ⟨by decide, by decide⟩ (by decide) ?_
      refine pw_imul eX0_onesForSevens_39 (by decide) ?_
      refine pw_iload_n eX0_onesForSevens_40 rfl rfl ?_
      obtain ⟨ob14, h⟩ := h
      refine pw_iadd eX0_onesForSevens_41 ob14 ?_
      exact pw_iret eX0_onesForSevens_42 h
    · have h := h.1 (Classical.not_not.mp c12)
      refine pw_iconst eX0_onesForSevens_27 ⟨by decide, by decide⟩ ?_
      refine pw_goto eX0_onesForSevens_28 ?_
      refine pw_istore_n (ls2 := [some (Iq x0), some (Iq 1), some (Iq 1)]) eX0_onesForSevens_35 rfl (by decide) rfl ?_
      refine pw_iload_n eX0_onesForSevens_36 rfl rfl ?_
      refine pw_bipush eX0_onesForSevens_37 ⟨by decide, by decide⟩ (by decide) ?_
      refine pw_imul eX0_onesForSevens_39 (by decide) ?_
      refine pw_iload_n eX0_onesForSevens_40 rfl rfl ?_
      refine pw_iadd eX0_onesForSevens_41 (by decide) ?_
      exact pw_iret eX0_onesForSevens_42 h
set_option maxRecDepth 100000 in
theorem rg_X0_draw_0 {S : Sx} {Q : Option PV → Zm → Prop} {mem : Zm}  {r0 : Nat} (hr0 : isRoom r0)
    (h : Q (some (Iq (bUshr ((mup mem r0 9 (wr ((wr ((mem r0 9) * 1103515245)) + 12345))) r0 9) 8))) (mup mem r0 9 (wr ((wr ((mem r0 9) * 1103515245)) + 12345)))) :
    PW S mX0_draw Q 0 [some (Aq r0)] [] mem := by
  refine pw_aload_n eX0_draw_0 rfl rfl ?_
  refine pw_aload_n eX0_draw_1 rfl rfl ?_
  refine gf_RX0_40 rfl eX0_draw_2 (shR hr0) ?_
  refine pw_ldc (n := 1103515245) eX0_draw_5 ⟨by decide, by decide⟩ kc_RX0_128 ?_
  refine pw_imulw eX0_draw_7 ?_
  refine pw_sipush eX0_draw_8 ⟨by decide, by decide⟩ (by decide) ?_
  refine pw_iaddw eX0_draw_11 ?_
  refine pf_RX0_40 rfl eX0_draw_12 (shR hr0) ?_
  refine pw_aload_n eX0_draw_15 rfl rfl ?_
  refine gf_RX0_40 rfl eX0_draw_16 (shR hr0) ?_
  refine pw_bipush eX0_draw_19 ⟨by decide, by decide⟩ (by decide) ?_
  refine pw_iushr eX0_draw_21 ?_
  exact pw_iret eX0_draw_22 h
set_option maxRecDepth 100000 in
theorem rg_X0_takenSpots_0 {S : Sx} {Q : Option PV → Zm → Prop} {mem : Zm}  {r0 : Nat} (hr0 : isRoom r0)
    (h : PW S mX0_takenSpots Q 4 [some (Aq r0), some (Iq 0), some (Iq 0)] [] mem) :
    PW S mX0_takenSpots Q 0 [some (Aq r0), none, none] [] mem := by
  refine pw_iconst eX0_takenSpots_0 ⟨by decide, by decide⟩ ?_
  refine pw_istore_n (ls2 := [some (Aq r0), some (Iq 0), none]) eX0_takenSpots_1 rfl (by decide) rfl ?_
  refine pw_iconst eX0_takenSpots_2 ⟨by decide, by decide⟩ ?_
  refine pw_istore_n (ls2 := [some (Aq r0), some (Iq 0), some (Iq 0)]) eX0_takenSpots_3 rfl (by decide) rfl ?_
  exact h

set_option maxRecDepth 100000 in
theorem rg_X0_takenSpots_4 {S : Sx} {Q : Option PV → Zm → Prop} {mem : Zm}  {r0 : Nat} {x1 x2 : Int} (hr0 : isRoom r0)
    (h : (((10 ≤ x2) → (Q (some (Iq x1)) mem)) ∧ (¬ (10 ≤ x2) → ((0 ≤ x2 ∧ x2 < 10) ∧ (((mem (r0 + 4) (x2).toNat = -1) → ((in32 (x2 + 1)) ∧ PW S mX0_takenSpots Q 4 [some (Aq r0), some (Iq x1), some (Iq (x2 + 1))] [] mem)) ∧ (¬ (mem (r0 + 4) (x2).toNat = -1) → ((in32 (x1 + 1)) ∧ (in32 (x2 + 1)) ∧ PW S mX0_takenSpots Q 4 [some (Aq r0), some (Iq (x1 + 1)), some (Iq (x2 + 1))] [] mem))))))) :
    PW S mX0_takenSpots Q 4 [some (Aq r0), some (Iq x1), some (Iq x2)] [] mem := by
  refine pw_iload_n eX0_takenSpots_4 rfl rfl ?_
  refine pw_bipush eX0_takenSpots_5 ⟨by decide, by decide⟩ (by decide) ?_
  refine pw_icmp_ge eX0_takenSpots_7 (fun c1 => ?_) (fun c1 => ?_)
  · have h := h.1 c1
    refine pw_iload_n eX0_takenSpots_29 rfl rfl ?_
    exact pw_iret eX0_takenSpots_30 h
  · have h := h.2 c1
    refine pw_aload_n eX0_takenSpots_10 rfl rfl ?_
    refine gf_RX0_21 rfl eX0_takenSpots_11 (shR hr0) ?_
    refine pw_iload_n eX0_takenSpots_14 rfl rfl ?_
    obtain ⟨ob2, h⟩ := h
    refine pw_iald eX0_takenSpots_15 (shR4 hr0) ob2 ?_
    refine pw_iconst eX0_takenSpots_16 ⟨by decide, by decide⟩ ?_
    refine pw_icmp_eq eX0_takenSpots_17 (fun c3 => ?_) (fun c3 => ?_)
    · have h := h.1 c3
      obtain ⟨ob4, h⟩ := h
      refine pw_iinc (ls2 := [some (Aq r0), some (Iq x1), some (Iq (x2 + 1))]) eX0_takenSpots_23 rfl ob4 rfl ?_
      refine pw_goto eX0_takenSpots_26 ?_
      exact h
    · have h := h.2 c3
      obtain ⟨ob5, h⟩ := h
      refine pw_iinc (ls2 := [some (Aq r0), some (Iq (x1 + 1)), some (Iq x2)]) eX0_takenSpots_20 rfl ob5 rfl ?_
      obtain ⟨ob6, h⟩ := h
      refine pw_iinc (ls2 := [some (Aq r0), some (Iq (x1 + 1)), some (Iq (x2 + 1))]) eX0_takenSpots_23 rfl ob6 rfl ?_
      refine pw_goto eX0_takenSpots_26 ?_
      exact h
set_option maxRecDepth 100000 in
theorem rg_X0_become_0 {S : Sx} {Q : Option PV → Zm → Prop} {mem : Zm}  {r0 : Nat} {r1 : Nat} (hr0 : isRoom r0) (hr1 : isRoom r1)
    (h : Q none (mup (mup (mup (mup (mcp (mcp (mcp (mcp mem (r1 + 1) (r0 + 1) 0 0 8) (r1 + 2) (r0 + 2) 0 0 48) (r1 + 3) (r0 + 3) 0 0 64) (r1 + 4) (r0 + 4) 0 0 10) r0 6 ((mcp (mcp (mcp (mcp mem (r1 + 1) (r0 + 1) 0 0 8) (r1 + 2) (r0 + 2) 0 0 48) (r1 + 3) (r0 + 3) 0 0 64) (r1 + 4) (r0 + 4) 0 0 10) r1 6)) r0 7 ((mup (mcp (mcp (mcp (mcp mem (r1 + 1) (r0 + 1) 0 0 8) (r1 + 2) (r0 + 2) 0 0 48) (r1 + 3) (r0 + 3) 0 0 64) (r1 + 4) (r0 + 4) 0 0 10) r0 6 ((mcp (mcp (mcp (mcp mem (r1 + 1) (r0 + 1) 0 0 8) (r1 + 2) (r0 + 2) 0 0 48) (r1 + 3) (r0 + 3) 0 0 64) (r1 + 4) (r0 + 4) 0 0 10) r1 6)) r1 7)) r0 8 ((mup (mup (mcp (mcp (mcp (mcp mem (r1 + 1) (r0 + 1) 0 0 8) (r1 + 2) (r0 + 2) 0 0 48) (r1 + 3) (r0 + 3) 0 0 64) (r1 + 4) (r0 + 4) 0 0 10) r0 6 ((mcp (mcp (mcp (mcp mem (r1 + 1) (r0 + 1) 0 0 8) (r1 + 2) (r0 + 2) 0 0 48) (r1 + 3) (r0 + 3) 0 0 64) (r1 + 4) (r0 + 4) 0 0 10) r1 6)) r0 7 ((mup (mcp (mcp (mcp (mcp mem (r1 + 1) (r0 + 1) 0 0 8) (r1 + 2) (r0 + 2) 0 0 48) (r1 + 3) (r0 + 3) 0 0 64) (r1 + 4) (r0 + 4) 0 0 10) r0 6 ((mcp (mcp (mcp (mcp mem (r1 + 1) (r0 + 1) 0 0 8) (r1 + 2) (r0 + 2) 0 0 48) (r1 + 3) (r0 + 3) 0 0 64) (r1 + 4) (r0 + 4) 0 0 10) r1 6)) r1 7)) r1 8)) r0 9 ((mup (mup (mup (mcp (mcp (mcp (mcp mem (r1 + 1) (r0 + 1) 0 0 8) (r1 + 2) (r0 + 2) 0 0 48) (r1 + 3) (r0 + 3) 0 0 64) (r1 + 4) (r0 + 4) 0 0 10) r0 6 ((mcp (mcp (mcp (mcp mem (r1 + 1) (r0 + 1) 0 0 8) (r1 + 2) (r0 + 2) 0 0 48) (r1 + 3) (r0 + 3) 0 0 64) (r1 + 4) (r0 + 4) 0 0 10) r1 6)) r0 7 ((mup (mcp (mcp (mcp (mcp mem (r1 + 1) (r0 + 1) 0 0 8) (r1 + 2) (r0 + 2) 0 0 48) (r1 + 3) (r0 + 3) 0 0 64) (r1 + 4) (r0 + 4) 0 0 10) r0 6 ((mcp (mcp (mcp (mcp mem (r1 + 1) (r0 + 1) 0 0 8) (r1 + 2) (r0 + 2) 0 0 48) (r1 + 3) (r0 + 3) 0 0 64) (r1 + 4) (r0 + 4) 0 0 10) r1 6)) r1 7)) r0 8 ((mup (mup (mcp (mcp (mcp (mcp mem (r1 + 1) (r0 + 1) 0 0 8) (r1 + 2) (r0 + 2) 0 0 48) (r1 + 3) (r0 + 3) 0 0 64) (r1 + 4) (r0 + 4) 0 0 10) r0 6 ((mcp (mcp (mcp (mcp mem (r1 + 1) (r0 + 1) 0 0 8) (r1 + 2) (r0 + 2) 0 0 48) (r1 + 3) (r0 + 3) 0 0 64) (r1 + 4) (r0 + 4) 0 0 10) r1 6)) r0 7 ((mup (mcp (mcp (mcp (mcp mem (r1 + 1) (r0 + 1) 0 0 8) (r1 + 2) (r0 + 2) 0 0 48) (r1 + 3) (r0 + 3) 0 0 64) (r1 + 4) (r0 + 4) 0 0 10) r0 6 ((mcp (mcp (mcp (mcp mem (r1 + 1) (r0 + 1) 0 0 8) (r1 + 2) (r0 + 2) 0 0 48) (r1 + 3) (r0 + 3) 0 0 64) (r1 + 4) (r0 + 4) 0 0 10) r1 6)) r1 7)) r1 8)) r1 9))) :
    PW S mX0_become Q 0 [some (Aq r0), some (Aq r1)] [] mem := by
  refine pw_aload_n eX0_become_0 rfl rfl ?_
  refine gf_RX0_9 rfl eX0_become_1 (shR hr1) ?_
  refine pw_iconst eX0_become_4 ⟨by decide, by decide⟩ ?_
  refine pw_aload_n eX0_become_5 rfl rfl ?_
  refine gf_RX0_9 rfl eX0_become_6 (shR hr0) ?_
  refine pw_iconst eX0_become_9 ⟨by decide, by decide⟩ ?_
  refine pw_bipush eX0_become_10 ⟨by decide, by decide⟩ (by decide) ?_
  refine pw_acopy eX0_become_12 lc_RX0_49 lc_nat lc_stt lc_ini (by decide) (by decide) rfl (shR1 hr1) (shR1 hr0) (by decide) ?_
  refine pw_aload_n eX0_become_15 rfl rfl ?_
  refine gf_RX0_15 rfl eX0_become_16 (shR hr1) ?_
  refine pw_iconst eX0_become_19 ⟨by decide, by decide⟩ ?_
  refine pw_aload_n eX0_become_20 rfl rfl ?_
  refine gf_RX0_15 rfl eX0_become_21 (shR hr0) ?_
  refine pw_iconst eX0_become_24 ⟨by decide, by decide⟩ ?_
  refine pw_bipush eX0_become_25 ⟨by decide, by decide⟩ (by decide) ?_
  refine pw_acopy eX0_become_27 lc_RX0_49 lc_nat lc_stt lc_ini (by decide) (by decide) rfl (shR2 hr1) (shR2 hr0) (by decide) ?_
  refine pw_aload_n eX0_become_30 rfl rfl ?_
  refine gf_RX0_18 rfl eX0_become_31 (shR hr1) ?_
  refine pw_iconst eX0_become_34 ⟨by decide, by decide⟩ ?_
  refine pw_aload_n eX0_become_35 rfl rfl ?_
  refine gf_RX0_18 rfl eX0_become_36 (shR hr0) ?_
  refine pw_iconst eX0_become_39 ⟨by decide, by decide⟩ ?_
  refine pw_bipush eX0_become_40 ⟨by decide, by decide⟩ (by decide) ?_
  refine pw_acopy eX0_become_42 lc_RX0_49 lc_nat lc_stt lc_ini (by decide) (by decide) rfl (shR3 hr1) (shR3 hr0) (by decide) ?_
  refine pw_aload_n eX0_become_45 rfl rfl ?_
  refine gf_RX0_21 rfl eX0_become_46 (shR hr1) ?_
  refine pw_iconst eX0_become_49 ⟨by decide, by decide⟩ ?_
  refine pw_aload_n eX0_become_50 rfl rfl ?_
  refine gf_RX0_21 rfl eX0_become_51 (shR hr0) ?_
  refine pw_iconst eX0_become_54 ⟨by decide, by decide⟩ ?_
  refine pw_bipush eX0_become_55 ⟨by decide, by decide⟩ (by decide) ?_
  refine pw_acopy eX0_become_57 lc_RX0_49 lc_nat lc_stt lc_ini (by decide) (by decide) rfl (shR4 hr1) (shR4 hr0) (by decide) ?_
  refine pw_aload_n eX0_become_60 rfl rfl ?_
  refine pw_aload_n eX0_become_61 rfl rfl ?_
  refine gf_RX0_30 rfl eX0_become_62 (shR hr1) ?_
  refine pf_RX0_30 rfl eX0_become_65 (shR hr0) ?_
  refine pw_aload_n eX0_become_68 rfl rfl ?_
  refine pw_aload_n eX0_become_69 rfl rfl ?_
  refine gf_RX0_34 rfl eX0_become_70 (shR hr1) ?_
  refine pf_RX0_34 rfl eX0_become_73 (shR hr0) ?_
  refine pw_aload_n eX0_become_76 rfl rfl ?_
  refine pw_aload_n eX0_become_77 rfl rfl ?_
  refine gf_RX0_37 rfl eX0_become_78 (shR hr1) ?_
  refine pf_RX0_37 rfl eX0_become_81 (shR hr0) ?_
  refine pw_aload_n eX0_become_84 rfl rfl ?_
  refine pw_aload_n eX0_become_85 rfl rfl ?_
  refine gf_RX0_40 rfl eX0_become_86 (shR hr1) ?_
  refine pf_RX0_40 rfl eX0_become_89 (shR hr0) ?_
  exact pw_vret eX0_become_92 h
set_option maxRecDepth 100000 in
theorem rg_X0_turnDay_0 {S : Sx} {Q : Option PV → Zm → Prop} {mem : Zm}  {r0 : Nat} (hr0 : isRoom r0)
    (h : PW S mX0_turnDay Q 2 [some (Aq r0), some (Iq 0)] [] mem) :
    PW S mX0_turnDay Q 0 [some (Aq r0), none] [] mem := by
  refine pw_iconst eX0_turnDay_0 ⟨by decide, by decide⟩ ?_
  refine pw_istore_n (ls2 := [some (Aq r0), some (Iq 0)]) eX0_turnDay_1 rfl (by decide) rfl ?_
  exact h

set_option maxRecDepth 100000 in
theorem rg_X0_turnDay_2 {S : Sx} {Q : Option PV → Zm → Prop} {mem : Zm}  {r0 : Nat} {x1 : Int} (hr0 : isRoom r0)
    (h : (((8 ≤ x1) → ((in32 ((mem r0 8) + 1)) ∧ Q none (mup mem r0 8 (min 99999 ((mem r0 8) + 1))))) ∧ (¬ (8 ≤ x1) → ((0 ≤ x1 ∧ x1 < 8) ∧ (in32 (3 * (mem (r0 + 1) (x1).toNat))) ∧ (in32 ((3 * (mem (r0 + 1) (x1).toNat)) + x1)) ∧ (in32 (((3 * (mem (r0 + 1) (x1).toNat)) + x1) + 1)) ∧ (0 ≤ ((3 * (mem (r0 + 1) (x1).toNat)) + x1) + 1) ∧ (0 ≤ x1 ∧ x1 < 8) ∧ (in32 (x1 + 1)) ∧ PW S mX0_turnDay Q 2 [some (Aq r0), some (Iq (x1 + 1))] [] (mup mem (r0 + 1) (x1).toNat ((((3 * (mem (r0 + 1) (x1).toNat)) + x1) + 1) % 100)))))) :
    PW S mX0_turnDay Q 2 [some (Aq r0), some (Iq x1)] [] mem := by
  refine pw_iload_n eX0_turnDay_2 rfl rfl ?_
  refine pw_bipush eX0_turnDay_3 ⟨by decide, by decide⟩ (by decide) ?_
  refine pw_icmp_ge eX0_turnDay_5 (fun c1 => ?_) (fun c1 => ?_)
  · have h := h.1 c1
    refine pw_aload_n eX0_turnDay_35 rfl rfl ?_
    refine pw_ldc (n := 99999) eX0_turnDay_36 ⟨by decide, by decide⟩ kc_RX0_116 ?_
    refine pw_aload_n eX0_turnDay_38 rfl rfl ?_
    refine gf_RX0_37 rfl eX0_turnDay_39 (shR hr0) ?_
    refine pw_iconst eX0_turnDay_42 ⟨by decide, by decide⟩ ?_
    obtain ⟨ob2, h⟩ := h
    refine pw_iadd eX0_turnDay_43 ob2 ?_
    refine pw_min eX0_turnDay_44 lk_RX0_107 (by decide) (Nat.le_of_ble_eq_true rfl) ?_
    refine pf_RX0_37 rfl eX0_turnDay_47 (shR hr0) ?_
    exact pw_vret eX0_turnDay_50 h
  · have h := h.2 c1
    refine pw_aload_n eX0_turnDay_8 rfl rfl ?_
    refine gf_RX0_9 rfl eX0_turnDay_9 (shR hr0) ?_
    refine pw_iload_n eX0_turnDay_12 rfl rfl ?_
    refine pw_iconst eX0_turnDay_13 ⟨by decide, by decide⟩ ?_
    refine pw_aload_n eX0_turnDay_14 rfl rfl ?_
    refine gf_RX0_9 rfl eX0_turnDay_15 (shR hr0) ?_
    refine pw_iload_n eX0_turnDay_18 rfl rfl ?_
    obtain ⟨ob3, h⟩ := h
    refine pw_iald eX0_turnDay_19 (shR1 hr0) ob3 ?_
    obtain ⟨ob4, h⟩ := h
    refine pw_imul eX0_turnDay_20 ob4 ?_
    refine pw_iload_n eX0_turnDay_21 rfl rfl ?_
    obtain ⟨ob5, h⟩ := h
    refine pw_iadd eX0_turnDay_22 ob5 ?_
    refine pw_iconst eX0_turnDay_23 ⟨by decide, by decide⟩ ?_
    obtain ⟨ob6, h⟩ := h
    refine pw_iadd eX0_turnDay_24 ob6 ?_
    refine pw_bipush eX0_turnDay_25 ⟨by decide, by decide⟩ (by decide) ?_
    obtain ⟨ob7, h⟩ := h
    refine pw_irem eX0_turnDay_27 ob7 (by decide) ?_
    obtain ⟨ob8, h⟩ := h
    refine pw_iast eX0_turnDay_28 (shR1 hr0) ob8 ?_
    obtain ⟨ob9, h⟩ := h
    refine pw_iinc (ls2 := [some (Aq r0), some (Iq (x1 + 1))]) eX0_turnDay_29 rfl ob9 rfl ?_
    refine pw_goto eX0_turnDay_32 ?_
    exact h
set_option maxRecDepth 100000 in
theorem rg_X1_isMissing_0 {S : Sx} {Q : Option PV → Zm → Prop} {mem : Zm}  {r0 : Nat} (hr0 : isSheet r0)
    (h : (((mem r0 1 = 0) → (Q (some (Iq 1)) mem)) ∧ (¬ (mem r0 1 = 0) → (Q (some (Iq 0)) mem)))) :
    PW S mX1_isMissing Q 0 [some (Aq r0)] [] mem := by
  refine pw_aload_n eX1_isMissing_0 rfl rfl ?_
  refine gf_RX1_15 rfl eX1_isMissing_1 (shS hr0) ?_
  refine pw_if_ne eX1_isMissing_4 (fun c1 => ?_) (fun c1 => ?_)
  · have h := h.2 c1
    refine pw_iconst eX1_isMissing_11 ⟨by decide, by decide⟩ ?_
    exact pw_iret eX1_isMissing_12 h
  · have h := h.1 (Classical.not_not.mp c1)
    refine pw_iconst eX1_isMissing_7 ⟨by decide, by decide⟩ ?_
    refine pw_goto eX1_isMissing_8 ?_
    exact pw_iret eX1_isMissing_12 h
set_option maxRecDepth 100000 in
theorem rg_X1_put_0 {S : Sx} {Q : Option PV → Zm → Prop} {mem : Zm}  {r0 : Nat} {x1 x2 : Int} (hr0 : isSheet r0)
    (h : ((((mem r0 1) = 8) → ((0 ≤ x1 ∧ x1 < 40) ∧ Q none (mup mem (r0 + 1) (x1).toNat (toB x2)))) ∧ (((mem r0 1) = 16) → ((0 ≤ x1 ∧ x1 < 40) ∧ Q none (mup mem (r0 + 1) (x1).toNat (toSh x2)))) ∧ ((¬ (mem r0 1 = 8) ∧ ¬ (mem r0 1 = 16)) → ((0 ≤ x1 ∧ x1 < 40) ∧ Q none (mup mem (r0 + 1) (x1).toNat x2))))) :
    PW S mX1_put Q 0 [some (Aq r0), some (Iq x1), some (Iq x2)] [] mem := by
  refine pw_aload_n eX1_put_0 rfl rfl ?_
  refine gf_RX1_15 rfl eX1_put_1 (shS hr0) ?_
  obtain ⟨hk0, hk1, hkd⟩ := h
  refine pw_lsw (ps := [(8, 32), (16, 43)]) (td := 54) eX1_put_4 (by decide) (by decide) (by decide) rfl ⟨fun c1 => ?_, fun c1 => ?_, trivial⟩ (fun c1 => ?_)
  · have h := hk0 c1
    refine pw_aload_n eX1_put_32 rfl rfl ?_
    refine gf_RX1_9 rfl eX1_put_33 (shS hr0) ?_
    refine pw_iload_n eX1_put_36 rfl rfl ?_
    refine pw_iload_n eX1_put_37 rfl rfl ?_
    refine pw_i2b eX1_put_38 ?_
    obtain ⟨ob2, h⟩ := h
    refine pw_iast eX1_put_39 (shS1 hr0) ob2 ?_
    refine pw_goto eX1_put_40 ?_
    exact pw_vret eX1_put_61 h
  · have h := hk1 c1
    refine pw_aload_n eX1_put_43 rfl rfl ?_
    refine gf_RX1_9 rfl eX1_put_44 (shS hr0) ?_
    refine pw_iload_n eX1_put_47 rfl rfl ?_
    refine pw_iload_n eX1_put_48 rfl rfl ?_
    refine pw_i2s eX1_put_49 ?_
    obtain ⟨ob3, h⟩ := h
    refine pw_iast eX1_put_50 (shS1 hr0) ob3 ?_
    refine pw_goto eX1_put_51 ?_
    exact pw_vret eX1_put_61 h
  · have h := hkd ⟨c1 (8, 32) (by decide), c1 (16, 43) (by decide)⟩
    refine pw_aload_n eX1_put_54 rfl rfl ?_
    refine gf_RX1_9 rfl eX1_put_55 (shS hr0) ?_
    refine pw_iload_n eX1_put_58 rfl rfl ?_
    refine pw_iload_n eX1_put_59 rfl rfl ?_
    obtain ⟨ob4, h⟩ := h
    refine pw_iast eX1_put_60 (shS1 hr0) ob4 ?_
    exact pw_vret eX1_put_61 h
set_option maxRecDepth 100000 in
theorem rg_X1_hasPart_0 {S : Sx} {Q : Option PV → Zm → Prop} {mem : Zm}  {r0 : Nat} {x1 x2 : Int} (hr0 : isSheet r0)
    (h : (((x1 < 0) → (Q (some (Iq 0)) mem)) ∧ (¬ (x1 < 0) → ((((x2 < 0) → (Q (some (Iq 0)) mem)) ∧ (¬ (x2 < 0) → ((in32 ((mem r0 2) - x2)) ∧ ((((mem r0 2) - x2 < x1) → (Q (some (Iq 0)) mem)) ∧ (¬ ((mem r0 2) - x2 < x1) → (Q (some (Iq 1)) mem)))))))))) :
    PW S mX1_hasPart Q 0 [some (Aq r0), some (Iq x1), some (Iq x2)] [] mem := by
  refine pw_iload_n eX1_hasPart_0 rfl rfl ?_
  refine pw_if_lt eX1_hasPart_1 (fun c1 => ?_) (fun c1 => ?_)
  · have h := h.1 c1
    refine pw_iconst eX1_hasPart_22 ⟨by decide, by decide⟩ ?_
    exact pw_iret eX1_hasPart_23 h
  · have h := h.2 c1
    refine pw_iload_n eX1_hasPart_4 rfl rfl ?_
    refine pw_if_lt eX1_hasPart_5 (fun c2 => ?_) (fun c2 => ?_)
    · have h := h.1 c2
      refine pw_iconst eX1_hasPart_22 ⟨by decide, by decide⟩ ?_
      exact pw_iret eX1_hasPart_23 h
    · have h := h.2 c2
      refine pw_iload_n eX1_hasPart_8 rfl rfl ?_
      refine pw_aload_n eX1_hasPart_9 rfl rfl ?_
      refine gf_RX1_19 rfl eX1_hasPart_10 (shS hr0) ?_
      refine pw_iload_n eX1_hasPart_13 rfl rfl ?_
      obtain ⟨ob3, h⟩ := h
      refine pw_isub eX1_hasPart_14 ob3 ?_
      refine pw_icmp_gt eX1_hasPart_15 (fun c4 => ?_) (fun c4 => ?_)
      · have h := h.1 c4
        refine pw_iconst eX1_hasPart_22 ⟨by decide, by decide⟩ ?_
        exact pw_iret eX1_hasPart_23 h
      · have h := h.2 c4
        refine pw_iconst eX1_hasPart_18 ⟨by decide, by decide⟩ ?_
        refine pw_goto eX1_hasPart_19 ?_
        exact pw_iret eX1_hasPart_23 h
set_option maxRecDepth 100000 in
theorem rg_X1_allows_0 {S : Sx} {Q : Option PV → Zm → Prop} {mem : Zm}  {r0 : Nat} {x1 x2 : Int} (hr0 : isSheet r0)
    (h : (((mem r0 2 ≤ x1) → (Q (some (Iq 1)) mem)) ∧ (¬ (mem r0 2 ≤ x1) → ((0 ≤ x1 ∧ x1 < 40) ∧ (((mem (r0 + 1) (x1).toNat = -2) → (Q (some (Iq 1)) mem)) ∧ (¬ (mem (r0 + 1) (x1).toNat = -2) → ((0 ≤ x1 ∧ x1 < 40) ∧ (((mem (r0 + 1) (x1).toNat = x2) → (Q (some (Iq 1)) mem)) ∧ (¬ (mem (r0 + 1) (x1).toNat = x2) → (Q (some (Iq 0)) mem)))))))))) :
    PW S mX1_allows Q 0 [some (Aq r0), some (Iq x1), some (Iq x2)] [] mem := by
  refine pw_iload_n eX1_allows_0 rfl rfl ?_
  refine pw_aload_n eX1_allows_1 rfl rfl ?_
  refine gf_RX1_19 rfl eX1_allows_2 (shS hr0) ?_
  refine pw_icmp_ge eX1_allows_5 (fun c1 => ?_) (fun c1 => ?_)
  · have h := h.1 c1
    refine pw_iconst eX1_allows_29 ⟨by decide, by decide⟩ ?_
    refine pw_goto eX1_allows_30 ?_
    exact pw_iret eX1_allows_34 h
  · have h := h.2 c1
    refine pw_aload_n eX1_allows_8 rfl rfl ?_
    refine gf_RX1_9 rfl eX1_allows_9 (shS hr0) ?_
    refine pw_iload_n eX1_allows_12 rfl rfl ?_
    obtain ⟨ob2, h⟩ := h
    refine pw_iald eX1_allows_13 (shS1 hr0) ob2 ?_
    refine pw_bipush eX1_allows_14 ⟨by decide, by decide⟩ (by decide) ?_
    refine pw_icmp_eq eX1_allows_16 (fun c3 => ?_) (fun c3 => ?_)
    · have h := h.1 c3
      refine pw_iconst eX1_allows_29 ⟨by decide, by decide⟩ ?_
      refine pw_goto eX1_allows_30 ?_
      exact pw_iret eX1_allows_34 h
    · have h := h.2 c3
      refine pw_aload_n eX1_allows_19 rfl rfl ?_
      refine gf_RX1_9 rfl eX1_allows_20 (shS hr0) ?_
      refine pw_iload_n eX1_allows_23 rfl rfl ?_
      obtain ⟨ob4, h⟩ := h
      refine pw_iald eX1_allows_24 (shS1 hr0) ob4 ?_
      refine pw_iload_n eX1_allows_25 rfl rfl ?_
      refine pw_icmp_ne eX1_allows_26 (fun c5 => ?_) (fun c5 => ?_)
      · have h := h.2 c5
        refine pw_iconst eX1_allows_33 ⟨by decide, by decide⟩ ?_
        exact pw_iret eX1_allows_34 h
      · have h := h.1 (Classical.not_not.mp c5)
        refine pw_iconst eX1_allows_29 ⟨by decide, by decide⟩ ?_
        refine pw_goto eX1_allows_30 ?_
        exact pw_iret eX1_allows_34 h
set_option maxRecDepth 100000 in
theorem rg_X2_append_0 {S : Sx} {Q : Option PV → Zm → Prop} {mem : Zm}   {x1 : Int} 
    (h : (0 ≤ mem 22 1 ∧ mem 22 1 < 120) ∧ (in32 (((mup mem 23 (mem 22 1).toNat (toB (toB x1))) 22 1) + 1)) ∧ Q none (mup (mup mem 23 (mem 22 1).toNat (toB (toB x1))) 22 1 (((mup mem 23 (mem 22 1).toNat (toB (toB x1))) 22 1) + 1))) :
    PW S mX2_append Q 0 [some (Aq 22), some (Iq x1)] [] mem := by
  refine pw_aload_n eX2_append_0 rfl rfl ?_
  refine gf_RX2_9 rfl eX2_append_1 sh22 ?_
  refine pw_aload_n eX2_append_4 rfl rfl ?_
  refine gf_RX2_15 rfl eX2_append_5 sh22 ?_
  refine pw_iload_n eX2_append_8 rfl rfl ?_
  refine pw_i2b eX2_append_9 ?_
  obtain ⟨ob1, h⟩ := h
  refine pw_bast eX2_append_10 sh23 ob1 ?_
  refine pw_aload_n eX2_append_11 rfl rfl ?_
  refine pw_dup eX2_append_12 rfl ?_
  refine gf_RX2_15 rfl eX2_append_13 sh22 ?_
  refine pw_iconst eX2_append_16 ⟨by decide, by decide⟩ ?_
  obtain ⟨ob2, h⟩ := h
  refine pw_iadd eX2_append_17 ob2 ?_
  refine pf_RX2_15 rfl eX2_append_18 sh22 ?_
  exact pw_vret eX2_append_21 h
set_option maxRecDepth 100000 in
theorem rg_X2_isNumber_0 {S : Sx} {Q : Option PV → Zm → Prop} {mem : Zm}   {x1 x2 : Int} 
    (h : (((mem 22 4 = 2) → ((((mem 22 6 < x1) → (Q (some (Iq 0)) mem)) ∧ (¬ (mem 22 6 < x1) → ((((x2 < mem 22 6) → (Q (some (Iq 0)) mem)) ∧ (¬ (x2 < mem 22 6) → (Q (some (Iq 1)) mem)))))))) ∧ (¬ (mem 22 4 = 2) → (Q (some (Iq 0)) mem)))) :
    PW S mX2_isNumber Q 0 [some (Aq 22), some (Iq x1), some (Iq x2)] [] mem := by
  refine pw_aload_n eX2_isNumber_0 rfl rfl ?_
  refine gf_RX2_25 rfl eX2_isNumber_1 sh22 ?_
  refine pw_iconst eX2_isNumber_4 ⟨by decide, by decide⟩ ?_
  refine pw_icmp_ne eX2_isNumber_5 (fun c1 => ?_) (fun c1 => ?_)
  · have h := h.2 c1
    refine pw_iconst eX2_isNumber_28 ⟨by decide, by decide⟩ ?_
    exact pw_iret eX2_isNumber_29 h
  · have h := h.1 (Classical.not_not.mp c1)
    refine pw_aload_n eX2_isNumber_8 rfl rfl ?_
    refine gf_RX2_32 rfl eX2_isNumber_9 sh22 ?_
    refine pw_iload_n eX2_isNumber_12 rfl rfl ?_
    refine pw_icmp_lt eX2_isNumber_13 (fun c2 => ?_) (fun c2 => ?_)
    · have h := h.1 c2
      refine pw_iconst eX2_isNumber_28 ⟨by decide, by decide⟩ ?_
      exact pw_iret eX2_isNumber_29 h
    · have h := h.2 c2
      refine pw_aload_n eX2_isNumber_16 rfl rfl ?_
      refine gf_RX2_32 rfl eX2_isNumber_17 sh22 ?_
      refine pw_iload_n eX2_isNumber_20 rfl rfl ?_
      refine pw_icmp_gt eX2_isNumber_21 (fun c3 => ?_) (fun c3 => ?_)
      · have h := h.1 c3
        refine pw_iconst eX2_isNumber_28 ⟨by decide, by decide⟩ ?_
        exact pw_iret eX2_isNumber_29 h
      · have h := h.2 c3
        refine pw_iconst eX2_isNumber_24 ⟨by decide, by decide⟩ ?_
        refine pw_goto eX2_isNumber_25 ?_
        exact pw_iret eX2_isNumber_29 h
set_option maxRecDepth 100000 in
theorem rg_X2_takeWord_0 {S : Sx} {Q : Option PV → Zm → Prop} {mem : Zm}   
    (h : PW S mX2_takeWord Q 5 [some (Aq 22)] [] (mup mem 22 4 1)) :
    PW S mX2_takeWord Q 0 [some (Aq 22)] [] mem := by
  refine pw_aload_n eX2_takeWord_0 rfl rfl ?_
  refine pw_iconst eX2_takeWord_1 ⟨by decide, by decide⟩ ?_
  refine pf_RX2_25 rfl eX2_takeWord_2 sh22 ?_
  exact h

set_option maxRecDepth 100000 in
theorem rg_X2_takeWord_5 {S : Sx} {Q : Option PV → Zm → Prop} {mem : Zm}   
    (h : (((mem 22 1 ≤ mem 22 3) → ((in32 ((mem 22 3) - (mem 22 2))) ∧ ((((mem 22 3) - (mem 22 2) ≤ 8) → (Q none mem)) ∧ (¬ ((mem 22 3) - (mem 22 2) ≤ 8) → (Q none (mup mem 22 5 0)))))) ∧ (¬ (mem 22 1 ≤ mem 22 3) → ((0 ≤ mem 22 3 ∧ mem 22 3 < 120) ∧ (((mem 23 (mem 22 3).toNat < 97) → ((in32 ((mem 22 3) - (mem 22 2))) ∧ ((((mem 22 3) - (mem 22 2) ≤ 8) → (Q none mem)) ∧ (¬ ((mem 22 3) - (mem 22 2) ≤ 8) → (Q none (mup mem 22 5 0)))))) ∧ (¬ (mem 23 (mem 22 3).toNat < 97) → ((0 ≤ mem 22 3 ∧ mem 22 3 < 120) ∧ (((122 < mem 23 (mem 22 3).toNat) → ((in32 ((mem 22 3) - (mem 22 2))) ∧ ((((mem 22 3) - (mem 22 2) ≤ 8) → (Q none mem)) ∧ (¬ ((mem 22 3) - (mem 22 2) ≤ 8) → (Q none (mup mem 22 5 0)))))) ∧ (¬ (122 < mem 23 (mem 22 3).toNat) → ((0 ≤ mem 22 3 ∧ mem 22 3 < 120) ∧ (in32 (((mup mem 22 5 (lOr (lShl (mem 22 5) 8) (mem 23 (mem 22 3).toNat))) 22 3) + 1)) ∧ PW S mX2_takeWord Q 5 [some (Aq 22)] [] (mup (mup mem 22 5 (lOr (lShl (mem 22 5) 8) (mem 23 (mem 22 3).toNat))) 22 3 (((mup mem 22 5 (lOr (lShl (mem 22 5) 8) (mem 23 (mem 22 3).toNat))) 22 3) + 1)))))))))))) :
    PW S mX2_takeWord Q 5 [some (Aq 22)] [] mem := by
  refine pw_aload_n eX2_takeWord_5 rfl rfl ?_
  refine gf_RX2_22 rfl eX2_takeWord_6 sh22 ?_
  refine pw_aload_n eX2_takeWord_9 rfl rfl ?_
  refine gf_RX2_15 rfl eX2_takeWord_10 sh22 ?_
  refine pw_icmp_ge eX2_takeWord_13 (fun c1 => ?_) (fun c1 => ?_)
  · have h := h.1 c1
    refine pw_aload_n eX2_takeWord_79 rfl rfl ?_
    refine gf_RX2_22 rfl eX2_takeWord_80 sh22 ?_
    refine pw_aload_n eX2_takeWord_83 rfl rfl ?_
    refine gf_RX2_19 rfl eX2_takeWord_84 sh22 ?_
    obtain ⟨ob2, h⟩ := h
    refine pw_isub eX2_takeWord_87 ob2 ?_
    refine pw_bipush eX2_takeWord_88 ⟨by decide, by decide⟩ (by decide) ?_
    refine pw_icmp_le eX2_takeWord_90 (fun c3 => ?_) (fun c3 => ?_)
    · have h := h.1 c3
      exact pw_vret eX2_takeWord_98 h
    · have h := h.2 c3
      refine pw_aload_n eX2_takeWord_93 rfl rfl ?_
      refine pw_lconst (v := 0) eX2_takeWord_94 ⟨by decide, by decide⟩ rfl ?_
      refine pf_RX2_28 rfl eX2_takeWord_95 ?_
      exact pw_vret eX2_takeWord_98 h
  · have h := h.2 c1
    refine pw_aload_n eX2_takeWord_16 rfl rfl ?_
    refine gf_RX2_9 rfl eX2_takeWord_17 sh22 ?_
    refine pw_aload_n eX2_takeWord_20 rfl rfl ?_
    refine gf_RX2_22 rfl eX2_takeWord_21 sh22 ?_
    obtain ⟨ob4, h⟩ := h
    refine pw_bald eX2_takeWord_24 sh23 ob4 ?_
    refine pw_bipush eX2_takeWord_25 ⟨by decide, by decide⟩ (by decide) ?_
    refine pw_icmp_lt eX2_takeWord_27 (fun c5 => ?_) (fun c5 => ?_)
    · have h := h.1 c5
      refine pw_aload_n eX2_takeWord_79 rfl rfl ?_
      refine gf_RX2_22 rfl eX2_takeWord_80 sh22 ?_
      refine pw_aload_n eX2_takeWord_83 rfl rfl ?_
      refine gf_RX2_19 rfl eX2_takeWord_84 sh22 ?_
      obtain ⟨ob6, h⟩ := h
      refine pw_isub eX2_takeWord_87 ob6 ?_
      refine pw_bipush eX2_takeWord_88 ⟨by decide, by decide⟩ (by decide) ?_
      refine pw_icmp_le eX2_takeWord_90 (fun c7 => ?_) (fun c7 => ?_)
      · have h := h.1 c7
        exact pw_vret eX2_takeWord_98 h
      · have h := h.2 c7
        refine pw_aload_n eX2_takeWord_93 rfl rfl ?_
        refine pw_lconst (v := 0) eX2_takeWord_94 ⟨by decide, by decide⟩ rfl ?_
        refine pf_RX2_28 rfl eX2_takeWord_95 ?_
        exact pw_vret eX2_takeWord_98 h
    · have h := h.2 c5
      refine pw_aload_n eX2_takeWord_30 rfl rfl ?_
      refine gf_RX2_9 rfl eX2_takeWord_31 sh22 ?_
      refine pw_aload_n eX2_takeWord_34 rfl rfl ?_
      refine gf_RX2_22 rfl eX2_takeWord_35 sh22 ?_
      obtain ⟨ob8, h⟩ := h
      refine pw_bald eX2_takeWord_38 sh23 ob8 ?_
      refine pw_bipush eX2_takeWord_39 ⟨by decide, by decide⟩ (by decide) ?_
      refine pw_icmp_gt eX2_takeWord_41 (fun c9 => ?_) (fun c9 => ?_)
      · have h := h.1 c9
        refine pw_aload_n eX2_takeWord_79 rfl rfl ?_
        refine gf_RX2_22 rfl eX2_takeWord_80 sh22 ?_
        refine pw_aload_n eX2_takeWord_83 rfl rfl ?_
        refine gf_RX2_19 rfl eX2_takeWord_84 sh22 ?_
        obtain ⟨ob10, h⟩ := h
        refine pw_isub eX2_takeWord_87 ob10 ?_
        refine pw_bipush eX2_takeWord_88 ⟨by decide, by decide⟩ (by decide) ?_
        refine pw_icmp_le eX2_takeWord_90 (fun c11 => ?_) (fun c11 => ?_)
        · have h := h.1 c11
          exact pw_vret eX2_takeWord_98 h
        · have h := h.2 c11
          refine pw_aload_n eX2_takeWord_93 rfl rfl ?_
          refine pw_lconst (v := 0) eX2_takeWord_94 ⟨by decide, by decide⟩ rfl ?_
          refine pf_RX2_28 rfl eX2_takeWord_95 ?_
          exact pw_vret eX2_takeWord_98 h
      · have h := h.2 c9
        refine pw_aload_n eX2_takeWord_44 rfl rfl ?_
        refine pw_aload_n eX2_takeWord_45 rfl rfl ?_
        refine gf_RX2_28 rfl eX2_takeWord_46 ?_
        refine pw_bipush eX2_takeWord_49 ⟨by decide, by decide⟩ (by decide) ?_
        refine pw_lshl eX2_takeWord_51 ?_
        refine pw_aload_n eX2_takeWord_52 rfl rfl ?_
        refine gf_RX2_9 rfl eX2_takeWord_53 sh22 ?_
        refine pw_aload_n eX2_takeWord_56 rfl rfl ?_
        refine gf_RX2_22 rfl eX2_takeWord_57 sh22 ?_
        obtain ⟨ob12, h⟩ := h
        refine pw_bald eX2_takeWord_60 sh23 ob12 ?_
        refine pw_i2l eX2_takeWord_61 ?_
        refine pw_lor eX2_takeWord_62 ?_
        refine pf_RX2_28 rfl eX2_takeWord_63 ?_
        refine pw_aload_n eX2_takeWord_66 rfl rfl ?_
        refine pw_dup eX2_takeWord_67 rfl ?_
        refine gf_RX2_22 rfl eX2_takeWord_68 sh22 ?_
        refine pw_iconst eX2_takeWord_71 ⟨by decide, by decide⟩ ?_
        obtain ⟨ob13, h⟩ := h
        refine pw_iadd eX2_takeWord_72 ob13 ?_
        refine pf_RX2_22 rfl eX2_takeWord_73 sh22 ?_
        refine pw_goto eX2_takeWord_76 ?_
        exact h
set_option maxRecDepth 100000 in
theorem rg_X2_takeNumber_0 {S : Sx} {Q : Option PV → Zm → Prop} {mem : Zm}   
    (h : PW S mX2_takeNumber Q 10 [some (Aq 22)] [] (mup (mup mem 22 4 2) 22 6 0)) :
    PW S mX2_takeNumber Q 0 [some (Aq 22)] [] mem := by
  refine pw_aload_n eX2_takeNumber_0 rfl rfl ?_
  refine pw_iconst eX2_takeNumber_1 ⟨by decide, by decide⟩ ?_
  refine pf_RX2_25 rfl eX2_takeNumber_2 sh22 ?_
  refine pw_aload_n eX2_takeNumber_5 rfl rfl ?_
  refine pw_iconst eX2_takeNumber_6 ⟨by decide, by decide⟩ ?_
  refine pf_RX2_32 rfl eX2_takeNumber_7 sh22 ?_
  exact h

set_option maxRecDepth 100000 in
theorem rg_X2_takeNumber_10 {S : Sx} {Q : Option PV → Zm → Prop} {mem : Zm}   
    (h : (((mem 22 1 ≤ mem 22 3) → (Q none mem)) ∧ (¬ (mem 22 1 ≤ mem 22 3) → ((0 ≤ mem 22 3 ∧ mem 22 3 < 120) ∧ (((mem 23 (mem 22 3).toNat < 48) → (Q none mem)) ∧ (¬ (mem 23 (mem 22 3).toNat < 48) → ((0 ≤ mem 22 3 ∧ mem 22 3 < 120) ∧ (((57 < mem 23 (mem 22 3).toNat) → (Q none mem)) ∧ (¬ (57 < mem 23 (mem 22 3).toNat) → ((((999 < mem 22 6) → ((in32 ((mem 22 3) + 1)) ∧ PW S mX2_takeNumber Q 10 [some (Aq 22)] [] (mup mem 22 3 ((mem 22 3) + 1)))) ∧ (¬ (999 < mem 22 6) → ((in32 ((mem 22 6) * 10)) ∧ (0 ≤ mem 22 3 ∧ mem 22 3 < 120) ∧ (in32 (((mem 22 6) * 10) + (mem 23 (mem 22 3).toNat))) ∧ (in32 ((((mem 22 6) * 10) + (mem 23 (mem 22 3).toNat)) - 48)) ∧ (in32 (((mup mem 22 6 ((((mem 22 6) * 10) + (mem 23 (mem 22 3).toNat)) - 48)) 22 3) + 1)) ∧ PW S mX2_takeNumber Q 10 [some (Aq 22)] [] (mup (mup mem 22 6 ((((mem 22 6) * 10) + (mem 23 (mem 22 3).toNat)) - 48)) 22 3 (((mup mem 22 6 ((((mem 22 6) * 10) + (mem 23 (mem 22 3).toNat)) - 48)) 22 3) + 1))))))))))))))) :
    PW S mX2_takeNumber Q 10 [some (Aq 22)] [] mem := by
  refine pw_aload_n eX2_takeNumber_10 rfl rfl ?_
  refine gf_RX2_22 rfl eX2_takeNumber_11 sh22 ?_
  refine pw_aload_n eX2_takeNumber_14 rfl rfl ?_
  refine gf_RX2_15 rfl eX2_takeNumber_15 sh22 ?_
  refine pw_icmp_ge eX2_takeNumber_18 (fun c1 => ?_) (fun c1 => ?_)
  · have h := h.1 c1
    exact pw_vret eX2_takeNumber_96 h
  · have h := h.2 c1
    refine pw_aload_n eX2_takeNumber_21 rfl rfl ?_
    refine gf_RX2_9 rfl eX2_takeNumber_22 sh22 ?_
    refine pw_aload_n eX2_takeNumber_25 rfl rfl ?_
    refine gf_RX2_22 rfl eX2_takeNumber_26 sh22 ?_
    obtain ⟨ob2, h⟩ := h
    refine pw_bald eX2_takeNumber_29 sh23 ob2 ?_
    refine pw_bipush eX2_takeNumber_30 ⟨by decide, by decide⟩ (by decide) ?_
    refine pw_icmp_lt eX2_takeNumber_32 (fun c3 => ?_) (fun c3 => ?_)
    · have h := h.1 c3
      exact pw_vret eX2_takeNumber_96 h
    · have h := h.2 c3
      refine pw_aload_n eX2_takeNumber_35 rfl rfl ?_
      refine gf_RX2_9 rfl eX2_takeNumber_36 sh22 ?_
      refine pw_aload_n eX2_takeNumber_39 rfl rfl ?_
      refine gf_RX2_22 rfl eX2_takeNumber_40 sh22 ?_
      obtain ⟨ob4, h⟩ := h
      refine pw_bald eX2_takeNumber_43 sh23 ob4 ?_
      refine pw_bipush eX2_takeNumber_44 ⟨by decide, by decide⟩ (by decide) ?_
      refine pw_icmp_gt eX2_takeNumber_46 (fun c5 => ?_) (fun c5 => ?_)
      · have h := h.1 c5
        exact pw_vret eX2_takeNumber_96 h
      · have h := h.2 c5
        refine pw_aload_n eX2_takeNumber_49 rfl rfl ?_
        refine gf_RX2_32 rfl eX2_takeNumber_50 sh22 ?_
        refine pw_sipush eX2_takeNumber_53 ⟨by decide, by decide⟩ (by decide) ?_
        refine pw_icmp_gt eX2_takeNumber_56 (fun c6 => ?_) (fun c6 => ?_)
        · have h := h.1 c6
          refine pw_aload_n eX2_takeNumber_83 rfl rfl ?_
          refine pw_dup eX2_takeNumber_84 rfl ?_
          refine gf_RX2_22 rfl eX2_takeNumber_85 sh22 ?_
          refine pw_iconst eX2_takeNumber_88 ⟨by decide, by decide⟩ ?_
          obtain ⟨ob7, h⟩ := h
          refine pw_iadd eX2_takeNumber_89 ob7 ?_
          refine pf_RX2_22 rfl eX2_takeNumber_90 sh22 ?_
          refine pw_goto eX2_takeNumber_93 ?_
          exact h
        · have h := h.2 c6
          refine pw_aload_n eX2_takeNumber_59 rfl rfl ?_
          refine pw_aload_n eX2_takeNumber_60 rfl rfl ?_
          refine gf_RX2_32 rfl eX2_takeNumber_61 sh22 ?_
          refine pw_bipush eX2_takeNumber_64 ⟨by decide, by decide⟩ (by decide) ?_
          obtain ⟨ob8, h⟩ := h
          refine pw_imul eX2_takeNumber_66 ob8 ?_
          refine pw_aload_n eX2_takeNumber_67 rfl rfl ?_
          refine gf_RX2_9 rfl eX2_takeNumber_68 sh22 ?_
          refine pw_aload_n eX2_takeNumber_71 rfl rfl ?_
          refine gf_RX2_22 rfl eX2_takeNumber_72 sh22 ?_
          obtain ⟨ob9, h⟩ := h
          refine pw_bald eX2_takeNumber_75 sh23 ob9 ?_
          obtain ⟨ob10, h⟩ := h
          refine pw_iadd eX2_takeNumber_76 ob10 ?_
          refine pw_bipush eX2_takeNumber_77 ⟨by decide, by decide⟩ (by decide) ?_
          obtain ⟨ob11, h⟩ := h
          refine pw_isub eX2_takeNumber_79 ob11 ?_
          refine pf_RX2_32 rfl eX2_takeNumber_80 sh22 ?_
          refine pw_aload_n eX2_takeNumber_83 rfl rfl ?_
          refine pw_dup eX2_takeNumber_84 rfl ?_
          refine gf_RX2_22 rfl eX2_takeNumber_85 sh22 ?_
          refine pw_iconst eX2_takeNumber_88 ⟨by decide, by decide⟩ ?_
          obtain ⟨ob12, h⟩ := h
          refine pw_iadd eX2_takeNumber_89 ob12 ?_
          refine pf_RX2_22 rfl eX2_takeNumber_90 sh22 ?_
          refine pw_goto eX2_takeNumber_93 ?_
          exact h
set_option maxRecDepth 100000 in
theorem rg_X3_within_0 {S : Sx} {Q : Option PV → Zm → Prop} {mem : Zm}   {x0 x1 x2 : Int} 
    (h : (((x0 < x1) → (Q (some (Iq 0)) mem)) ∧ (¬ (x0 < x1) → ((((x2 < x0) → (Q (some (Iq 0)) mem)) ∧ (¬ (x2 < x0) → (Q (some (Iq 1)) mem))))))) :
    PW S mX3_within Q 0 [some (Iq x0), some (Iq x1), some (Iq x2)] [] mem := by
  refine pw_iload_n eX3_within_0 rfl rfl ?_
  refine pw_iload_n eX3_within_1 rfl rfl ?_
  refine pw_icmp_lt eX3_within_2 (fun c1 => ?_) (fun c1 => ?_)
  · have h := h.1 c1
    refine pw_iconst eX3_within_14 ⟨by decide, by decide⟩ ?_
    exact pw_iret eX3_within_15 h
  · have h := h.2 c1
    refine pw_iload_n eX3_within_5 rfl rfl ?_
    refine pw_iload_n eX3_within_6 rfl rfl ?_
    refine pw_icmp_gt eX3_within_7 (fun c2 => ?_) (fun c2 => ?_)
    · have h := h.1 c2
      refine pw_iconst eX3_within_14 ⟨by decide, by decide⟩ ?_
      exact pw_iret eX3_within_15 h
    · have h := h.2 c2
      refine pw_iconst eX3_within_10 ⟨by decide, by decide⟩ ?_
      refine pw_goto eX3_within_11 ?_
      exact pw_iret eX3_within_15 h
set_option maxRecDepth 100000 in
theorem rg_X3_seed_0 {S : Sx} {Q : Option PV → Zm → Prop} {mem : Zm}   {x1 : Int} 
    (h : Q (some (Iq (mem 1 9))) (mup mem 1 9 x1)) :
    PW S mX3_seed Q 0 [some (Aq 0), some (Iq x1), none] [] mem := by
  refine pw_aload_n eX3_seed_0 rfl rfl ?_
  refine gf_RX3_10 rfl eX3_seed_1 sh0 ?_
  refine gf_RX3_174 rfl eX3_seed_4 (shR isR1) ?_
  refine pw_istore_n (ls2 := [some (Aq 0), some (Iq x1), some (Iq (mem 1 9))]) eX3_seed_7 rfl (by decide) rfl ?_
  refine pw_aload_n eX3_seed_8 rfl rfl ?_
  refine gf_RX3_10 rfl eX3_seed_9 sh0 ?_
  refine pw_iload_n eX3_seed_12 rfl rfl ?_
  refine pf_RX3_174 rfl eX3_seed_13 (shR isR1) ?_
  refine pw_iload_n eX3_seed_16 rfl rfl ?_
  exact pw_iret eX3_seed_17 h
set_option maxRecDepth 100000 in
theorem rg_X3_wipe_0 {S : Sx} {Q : Option PV → Zm → Prop} {mem : Zm}   
    (h : Q (some (Iq (mem 22 1))) (mup mem 22 1 0)) :
    PW S mX3_wipe Q 0 [some (Aq 0), none] [] mem := by
  refine pw_aload_n eX3_wipe_0 rfl rfl ?_
  refine gf_RX3_29 rfl eX3_wipe_1 sh0 ?_
  refine gf_RX3_177 rfl eX3_wipe_4 sh22 ?_
  refine pw_istore_n (ls2 := [some (Aq 0), some (Iq (mem 22 1))]) eX3_wipe_7 rfl (by decide) rfl ?_
  refine pw_aload_n eX3_wipe_8 rfl rfl ?_
  refine gf_RX3_29 rfl eX3_wipe_9 sh0 ?_
  refine pw_iconst eX3_wipe_12 ⟨by decide, by decide⟩ ?_
  refine pf_RX3_177 rfl eX3_wipe_13 sh22 ?_
  refine pw_iload_n eX3_wipe_16 rfl rfl ?_
  exact pw_iret eX3_wipe_17 h
set_option maxRecDepth 100000 in
theorem rg_X3_tear_0 {S : Sx} {Q : Option PV → Zm → Prop} {mem : Zm}   
    (h : (((mem 0 3 = 0) → (Q (some (Iq 0)) (mup mem 0 3 0))) ∧ (¬ (mem 0 3 = 0) → (Q (some (Iq 1)) (mup mem 0 3 0))))) :
    PW S mX3_tear Q 0 [some (Aq 0), none] [] mem := by
  refine pw_aload_n eX3_tear_0 rfl rfl ?_
  refine gf_RX3_22 rfl eX3_tear_1 sh0 ?_
  refine pw_if_eq eX3_tear_4 (fun c1 => ?_) (fun c1 => ?_)
  · have h := h.1 c1
    refine pw_iconst eX3_tear_11 ⟨by decide, by decide⟩ ?_
    refine pw_istore_n (ls2 := [some (Aq 0), some (Iq 0)]) eX3_tear_12 rfl (by decide) rfl ?_
    refine pw_aload_n eX3_tear_13 rfl rfl ?_
    refine pw_iconst eX3_tear_14 ⟨by decide, by decide⟩ ?_
    refine pf_RX3_22 rfl eX3_tear_15 sh0 (Or.inl rfl) ?_
    refine pw_iload_n eX3_tear_18 rfl rfl ?_
    exact pw_iret eX3_tear_19 h
  · have h := h.2 c1
    refine pw_iconst eX3_tear_7 ⟨by decide, by decide⟩ ?_
    refine pw_goto eX3_tear_8 ?_
    refine pw_istore_n (ls2 := [some (Aq 0), some (Iq 1)]) eX3_tear_12 rfl (by decide) rfl ?_
    refine pw_aload_n eX3_tear_13 rfl rfl ?_
    refine pw_iconst eX3_tear_14 ⟨by decide, by decide⟩ ?_
    refine pf_RX3_22 rfl eX3_tear_15 sh0 (Or.inl rfl) ?_
    refine pw_iload_n eX3_tear_18 rfl rfl ?_
    exact pw_iret eX3_tear_19 h
set_option maxRecDepth 100000 in
theorem rg_X3_power_0 {S : Sx} {Q : Option PV → Zm → Prop} {mem : Zm}   {x0 x1 : Int} 
    (h : PW S mX3_power Q 5 [some (Iq x0), some (Iq x1), some (Jq 1), none, some (Iq 0)] [] mem) :
    PW S mX3_power Q 0 [some (Iq x0), some (Iq x1), none, none, none] [] mem := by
  refine pw_lconst (v := 1) eX3_power_0 ⟨by decide, by decide⟩ rfl ?_
  refine pw_lstore_n (ls2 := [some (Iq x0), some (Iq x1), some (Jq 1), none, none]) eX3_power_1 rfl (by decide) rfl ?_
  refine pw_iconst eX3_power_2 ⟨by decide, by decide⟩ ?_
  refine pw_istore (ls2 := [some (Iq x0), some (Iq x1), some (Jq 1), none, some (Iq 0)]) eX3_power_3 (by decide) rfl ?_
  exact h

set_option maxRecDepth 100000 in
theorem rg_X3_power_5 {S : Sx} {Q : Option PV → Zm → Prop} {mem : Zm}   {x0 x1 x2 x4 : Int} 
    (h : (((x1 ≤ x4) → (Q (some (Jq x2)) mem)) ∧ (¬ (x1 ≤ x4) → ((in32 (x4 + 1)) ∧ PW S mX3_power Q 5 [some (Iq x0), some (Iq x1), some (Jq (wrL (x2 * x0))), none, some (Iq (x4 + 1))] [] mem)))) :
    PW S mX3_power Q 5 [some (Iq x0), some (Iq x1), some (Jq x2), none, some (Iq x4)] [] mem := by
  refine pw_iload eX3_power_5 rfl ?_
  refine pw_iload_n eX3_power_7 rfl rfl ?_
  refine pw_icmp_ge eX3_power_8 (fun c1 => ?_) (fun c1 => ?_)
  · have h := h.1 c1
    refine pw_lload_n eX3_power_22 rfl rfl ?_
    exact pw_lret eX3_power_23 h
  · have h := h.2 c1
    refine pw_lload_n eX3_power_11 rfl rfl ?_
    refine pw_iload_n eX3_power_12 rfl rfl ?_
    refine pw_i2l eX3_power_13 ?_
    refine pw_lmul eX3_power_14 ?_
    refine pw_lstore_n (ls2 := [some (Iq x0), some (Iq x1), some (Jq (wrL (x2 * x0))), none, some (Iq x4)]) eX3_power_15 rfl (by decide) rfl ?_
    obtain ⟨ob2, h⟩ := h
    refine pw_iinc (ls2 := [some (Iq x0), some (Iq x1), some (Jq (wrL (x2 * x0))), none, some (Iq (x4 + 1))]) eX3_power_16 rfl ob2 rfl ?_
    refine pw_goto eX3_power_19 ?_
    exact h
set_option maxRecDepth 100000 in
theorem rg_X4_isIn_0 {S : Sx} {Q : Option PV → Zm → Prop} {mem : Zm}   {x0 x2 x4 : Int} 
    (h : (((cmpL x0 x2 < 0) → (Q (some (Iq 0)) mem)) ∧ (¬ (cmpL x0 x2 < 0) → ((((0 < cmpL x0 x4) → (Q (some (Iq 0)) mem)) ∧ (¬ (0 < cmpL x0 x4) → (Q (some (Iq 1)) mem))))))) :
    PW S mX4_isIn Q 0 [some (Jq x0), none, some (Jq x2), none, some (Jq x4), none] [] mem := by
  refine pw_lload_n eX4_isIn_0 rfl rfl ?_
  refine pw_lload_n eX4_isIn_1 rfl rfl ?_
  refine pw_lcmp eX4_isIn_2 ?_
  refine pw_if_lt eX4_isIn_3 (fun c1 => ?_) (fun c1 => ?_)
  · have h := h.1 c1
    refine pw_iconst eX4_isIn_17 ⟨by decide, by decide⟩ ?_
    exact pw_iret eX4_isIn_18 h
  · have h := h.2 c1
    refine pw_lload_n eX4_isIn_6 rfl rfl ?_
    refine pw_lload eX4_isIn_7 rfl ?_
    refine pw_lcmp eX4_isIn_9 ?_
    refine pw_if_gt eX4_isIn_10 (fun c2 => ?_) (fun c2 => ?_)
    · have h := h.1 c2
      refine pw_iconst eX4_isIn_17 ⟨by decide, by decide⟩ ?_
      exact pw_iret eX4_isIn_18 h
    · have h := h.2 c2
      refine pw_iconst eX4_isIn_13 ⟨by decide, by decide⟩ ?_
      refine pw_goto eX4_isIn_14 ?_
      exact pw_iret eX4_isIn_18 h
set_option maxRecDepth 100000 in
theorem rg_X4_isSum_0 {S : Sx} {Q : Option PV → Zm → Prop} {mem : Zm}   {x0 : Int} 
    (h : (((x0 < 0) → (Q (some (Iq 0)) mem)) ∧ (¬ (x0 < 0) → ((((8 ≤ x0) → (Q (some (Iq 0)) mem)) ∧ (¬ (8 ≤ x0) → (Q (some (Iq 1)) mem))))))) :
    PW S mX4_isSum Q 0 [some (Iq x0)] [] mem := by
  refine pw_iload_n eX4_isSum_0 rfl rfl ?_
  refine pw_if_lt eX4_isSum_1 (fun c1 => ?_) (fun c1 => ?_)
  · have h := h.1 c1
    refine pw_iconst eX4_isSum_14 ⟨by decide, by decide⟩ ?_
    exact pw_iret eX4_isSum_15 h
  · have h := h.2 c1
    refine pw_iload_n eX4_isSum_4 rfl rfl ?_
    refine pw_bipush eX4_isSum_5 ⟨by decide, by decide⟩ (by decide) ?_
    refine pw_icmp_ge eX4_isSum_7 (fun c2 => ?_) (fun c2 => ?_)
    · have h := h.1 c2
      refine pw_iconst eX4_isSum_14 ⟨by decide, by decide⟩ ?_
      exact pw_iret eX4_isSum_15 h
    · have h := h.2 c2
      refine pw_iconst eX4_isSum_10 ⟨by decide, by decide⟩ ?_
      refine pw_goto eX4_isSum_11 ?_
      exact pw_iret eX4_isSum_15 h
set_option maxRecDepth 100000 in
theorem rg_X4_isChild_0 {S : Sx} {Q : Option PV → Zm → Prop} {mem : Zm}   {x1 : Int} 
    (h : (((x1 < 0) → (Q (some (Iq 0)) mem)) ∧ (¬ (x1 < 0) → ((((mem 35 0 ≤ x1) → (Q (some (Iq 0)) mem)) ∧ (¬ (mem 35 0 ≤ x1) → (Q (some (Iq 1)) mem))))))) :
    PW S mX4_isChild Q 0 [some (Aq 34), some (Iq x1)] [] mem := by
  refine pw_iload_n eX4_isChild_0 rfl rfl ?_
  refine pw_if_lt eX4_isChild_1 (fun c1 => ?_) (fun c1 => ?_)
  · have h := h.1 c1
    refine pw_iconst eX4_isChild_18 ⟨by decide, by decide⟩ ?_
    exact pw_iret eX4_isChild_19 h
  · have h := h.2 c1
    refine pw_iload_n eX4_isChild_4 rfl rfl ?_
    refine pw_aload_n eX4_isChild_5 rfl rfl ?_
    refine gf_RX4_7 rfl eX4_isChild_6 sh34 ?_
    refine pw_iconst eX4_isChild_9 ⟨by decide, by decide⟩ ?_
    refine pw_iald eX4_isChild_10 sh35 (by decide) ?_
    refine pw_icmp_ge eX4_isChild_11 (fun c2 => ?_) (fun c2 => ?_)
    · have h := h.1 c2
      refine pw_iconst eX4_isChild_18 ⟨by decide, by decide⟩ ?_
      exact pw_iret eX4_isChild_19 h
    · have h := h.2 c2
      refine pw_iconst eX4_isChild_14 ⟨by decide, by decide⟩ ?_
      refine pw_goto eX4_isChild_15 ?_
      exact pw_iret eX4_isChild_19 h
set_option maxRecDepth 100000 in
theorem rg_X4_at_0 {S : Sx} {Q : Option PV → Zm → Prop} {mem : Zm}   {x0 x1 : Int} 
    (h : (in32 (14 * x0)) ∧ (in32 (12 + (14 * x0))) ∧ (in32 ((12 + (14 * x0)) + x1)) ∧ Q (some (Iq ((12 + (14 * x0)) + x1))) mem) :
    PW S mX4_at Q 0 [some (Iq x0), some (Iq x1)] [] mem := by
  refine pw_bipush eX4_at_0 ⟨by decide, by decide⟩ (by decide) ?_
  refine pw_bipush eX4_at_2 ⟨by decide, by decide⟩ (by decide) ?_
  refine pw_iload_n eX4_at_4 rfl rfl ?_
  obtain ⟨ob1, h⟩ := h
  refine pw_imul eX4_at_5 ob1 ?_
  obtain ⟨ob2, h⟩ := h
  refine pw_iadd eX4_at_6 ob2 ?_
  refine pw_iload_n eX4_at_7 rfl rfl ?_
  obtain ⟨ob3, h⟩ := h
  refine pw_iadd eX4_at_8 ob3 ?_
  exact pw_iret eX4_at_9 h
set_option maxRecDepth 100000 in
theorem rg_X4_its_0 {S : Sx} {Q : Option PV → Zm → Prop} {mem : Zm}   {x1 x2 : Int} 
    (h : (in32 (14 * x1)) ∧ (in32 (12 + (14 * x1))) ∧ (in32 ((12 + (14 * x1)) + x2)) ∧ (0 ≤ (12 + (14 * x1)) + x2 ∧ (12 + (14 * x1)) + x2 < 134) ∧ Q (some (Iq (mem 35 ((12 + (14 * x1)) + x2).toNat))) mem) :
    PW S mX4_its Q 0 [some (Aq 34), some (Iq x1), some (Iq x2)] [] mem := by
  refine pw_aload_n eX4_its_0 rfl rfl ?_
  refine gf_RX4_7 rfl eX4_its_1 sh34 ?_
  refine pw_bipush eX4_its_4 ⟨by decide, by decide⟩ (by decide) ?_
  refine pw_bipush eX4_its_6 ⟨by decide, by decide⟩ (by decide) ?_
  refine pw_iload_n eX4_its_8 rfl rfl ?_
  obtain ⟨ob1, h⟩ := h
  refine pw_imul eX4_its_9 ob1 ?_
  obtain ⟨ob2, h⟩ := h
  refine pw_iadd eX4_its_10 ob2 ?_
  refine pw_iload_n eX4_its_11 rfl rfl ?_
  obtain ⟨ob3, h⟩ := h
  refine pw_iadd eX4_its_12 ob3 ?_
  obtain ⟨ob4, h⟩ := h
  refine pw_iald eX4_its_13 sh35 ob4 ?_
  exact pw_iret eX4_its_14 h
set_option maxRecDepth 100000 in
theorem rg_X4_becomes_0 {S : Sx} {Q : Option PV → Zm → Prop} {mem : Zm}   {x1 x2 : Int} 
    (h : (0 ≤ x1 ∧ x1 < 134) ∧ (0 ≤ x1 ∧ x1 < 134) ∧ Q (some (Iq (mem 35 (x1).toNat))) (mup mem 35 (x1).toNat x2)) :
    PW S mX4_becomes Q 0 [some (Aq 34), some (Iq x1), some (Iq x2), none] [] mem := by
  refine pw_aload_n eX4_becomes_0 rfl rfl ?_
  refine gf_RX4_7 rfl eX4_becomes_1 sh34 ?_
  refine pw_iload_n eX4_becomes_4 rfl rfl ?_
  obtain ⟨ob1, h⟩ := h
  refine pw_iald eX4_becomes_5 sh35 ob1 ?_
  refine pw_istore_n (ls2 := [some (Aq 34), some (Iq x1), some (Iq x2), some (Iq (mem 35 (x1).toNat))]) eX4_becomes_6 rfl (by decide) rfl ?_
  refine pw_aload_n eX4_becomes_7 rfl rfl ?_
  refine gf_RX4_7 rfl eX4_becomes_8 sh34 ?_
  refine pw_iload_n eX4_becomes_11 rfl rfl ?_
  refine pw_iload_n eX4_becomes_12 rfl rfl ?_
  obtain ⟨ob2, h⟩ := h
  refine pw_iast eX4_becomes_13 sh35 ob2 ?_
  refine pw_iload_n eX4_becomes_14 rfl rfl ?_
  exact pw_iret eX4_becomes_15 h
set_option maxRecDepth 100000 in
theorem rg_X4_least_0 {S : Sx} {Q : Option PV → Zm → Prop} {mem : Zm}   {x0 x1 : Int} 
    (h : (((x1 ≤ x0) → (Q (some (Iq x1)) mem)) ∧ (¬ (x1 ≤ x0) → (Q (some (Iq x0)) mem)))) :
    PW S mX4_least Q 0 [some (Iq x0), some (Iq x1)] [] mem := by
  refine pw_iload_n eX4_least_0 rfl rfl ?_
  refine pw_iload_n eX4_least_1 rfl rfl ?_
  refine pw_icmp_ge eX4_least_2 (fun c1 => ?_) (fun c1 => ?_)
  · have h := h.1 c1
    refine pw_iload_n eX4_least_9 rfl rfl ?_
    exact pw_iret eX4_least_10 h
  · have h := h.2 c1
    refine pw_iload_n eX4_least_5 rfl rfl ?_
    refine pw_goto eX4_least_6 ?_
    exact pw_iret eX4_least_10 h
set_option maxRecDepth 100000 in
theorem rg_X4_greatest_0 {S : Sx} {Q : Option PV → Zm → Prop} {mem : Zm}   {x0 x1 : Int} 
    (h : (((x0 ≤ x1) → (Q (some (Iq x1)) mem)) ∧ (¬ (x0 ≤ x1) → (Q (some (Iq x0)) mem)))) :
    PW S mX4_greatest Q 0 [some (Iq x0), some (Iq x1)] [] mem := by
  refine pw_iload_n eX4_greatest_0 rfl rfl ?_
  refine pw_iload_n eX4_greatest_1 rfl rfl ?_
  refine pw_icmp_le eX4_greatest_2 (fun c1 => ?_) (fun c1 => ?_)
  · have h := h.1 c1
    refine pw_iload_n eX4_greatest_9 rfl rfl ?_
    exact pw_iret eX4_greatest_10 h
  · have h := h.2 c1
    refine pw_iload_n eX4_greatest_5 rfl rfl ?_
    refine pw_goto eX4_greatest_6 ?_
    exact pw_iret eX4_greatest_10 h
set_option maxRecDepth 100000 in
theorem rg_X4_many_0 {S : Sx} {Q : Option PV → Zm → Prop} {mem : Zm}   {x0 : Int} 
    (h : PW S mX4_many Q 4 [some (Iq x0), some (Iq 0), some (Iq x0)] [] mem) :
    PW S mX4_many Q 0 [some (Iq x0), none, none] [] mem := by
  refine pw_iconst eX4_many_0 ⟨by decide, by decide⟩ ?_
  refine pw_istore_n (ls2 := [some (Iq x0), some (Iq 0), none]) eX4_many_1 rfl (by decide) rfl ?_
  refine pw_iload_n eX4_many_2 rfl rfl ?_
  refine pw_istore_n (ls2 := [some (Iq x0), some (Iq 0), some (Iq x0)]) eX4_many_3 rfl (by decide) rfl ?_
  exact h

set_option maxRecDepth 100000 in
theorem rg_X4_many_4 {S : Sx} {Q : Option PV → Zm → Prop} {mem : Zm}   {x0 x1 x2 : Int} 
    (h : (((x2 = 0) → (Q (some (Iq x1)) mem)) ∧ (¬ (x2 = 0) → ((in32 (x1 + 1)) ∧ (in32 (x2 - 1)) ∧ PW S mX4_many Q 4 [some (Iq x0), some (Iq (x1 + 1)), some (Iq (bAnd x2 (x2 - 1)))] [] mem)))) :
    PW S mX4_many Q 4 [some (Iq x0), some (Iq x1), some (Iq x2)] [] mem := by
  refine pw_iload_n eX4_many_4 rfl rfl ?_
  refine pw_if_eq eX4_many_5 (fun c1 => ?_) (fun c1 => ?_)
  · have h := h.1 c1
    refine pw_iload_n eX4_many_20 rfl rfl ?_
    exact pw_iret eX4_many_21 h
  · have h := h.2 c1
    obtain ⟨ob2, h⟩ := h
    refine pw_iinc (ls2 := [some (Iq x0), some (Iq (x1 + 1)), some (Iq x2)]) eX4_many_8 rfl ob2 rfl ?_
    refine pw_iload_n eX4_many_11 rfl rfl ?_
    refine pw_iload_n eX4_many_12 rfl rfl ?_
    refine pw_iconst eX4_many_13 ⟨by decide, by decide⟩ ?_
    obtain ⟨ob3, h⟩ := h
    refine pw_isub eX4_many_14 ob3 ?_
    refine pw_iand eX4_many_15 ?_
    refine pw_istore_n (ls2 := [some (Iq x0), some (Iq (x1 + 1)), some (Iq (bAnd x2 (x2 - 1)))]) eX4_many_16 rfl (by decide) rfl ?_
    refine pw_goto eX4_many_17 ?_
    exact h
set_option maxRecDepth 100000 in
theorem rg_X4_pays_0 {S : Sx} {Q : Option PV → Zm → Prop} {mem : Zm}   {x0 : Int} 
    (h : (((x0 = 2) → (Q (some (Iq 2)) mem)) ∧ ((x0 = 3) → (Q (some (Iq 2)) mem)) ∧ ((x0 = 4) → (Q (some (Iq 2)) mem)) ∧ ((x0 = 5) → (Q (some (Iq 0)) mem)) ∧ ((x0 = 6) → (Q (some (Iq 0)) mem)) ∧ ((x0 < 2 ∨ 6 < x0) → (Q (some (Iq 1)) mem)))) :
    PW S mX4_pays Q 0 [some (Iq x0)] [] mem := by
  refine pw_iload_n eX4_pays_0 rfl rfl ?_
  obtain ⟨hk0, hk1, hk2, hk3, hk4, hkd⟩ := h
  refine pw_tsw (ps := [(2, 36), (3, 36), (4, 36), (5, 38), (6, 38)]) (td := 40) eX4_pays_1 rfl (by decide) (by decide) rfl ⟨fun c1 => ?_, fun c1 => ?_, fun c1 => ?_, fun c1 => ?_, fun c1 => ?_, trivial⟩ (fun c1 => ?_)
  · have h := hk0 c1
    refine pw_iconst eX4_pays_36 ⟨by decide, by decide⟩ ?_
    exact pw_iret eX4_pays_37 h
  · have h := hk1 c1
    refine pw_iconst eX4_pays_36 ⟨by decide, by decide⟩ ?_
    exact pw_iret eX4_pays_37 h
  · have h := hk2 c1
    refine pw_iconst eX4_pays_36 ⟨by decide, by decide⟩ ?_
    exact pw_iret eX4_pays_37 h
  · have h := hk3 c1
    refine pw_iconst eX4_pays_38 ⟨by decide, by decide⟩ ?_
    exact pw_iret eX4_pays_39 h
  · have h := hk4 c1
    refine pw_iconst eX4_pays_38 ⟨by decide, by decide⟩ ?_
    exact pw_iret eX4_pays_39 h
  · have h := hkd c1
    refine pw_iconst eX4_pays_40 ⟨by decide, by decide⟩ ?_
    exact pw_iret eX4_pays_41 h
set_option maxRecDepth 100000 in
theorem rg_X4_oneForSeven_0 {S : Sx} {Q : Option PV → Zm → Prop} {mem : Zm}   {x0 : Int} 
    (h : (((x0 = 7) → (Q (some (Iq 1)) mem)) ∧ (¬ (x0 = 7) → (Q (some (Iq x0)) mem)))) :
    PW S mX4_oneForSeven Q 0 [some (Iq x0)] [] mem := by
  refine pw_iload_n eX4_oneForSeven_0 rfl rfl ?_
  refine pw_bipush eX4_oneForSeven_1 ⟨by decide, by decide⟩ (by decide) ?_
  refine pw_icmp_ne eX4_oneForSeven_3 (fun c1 => ?_) (fun c1 => ?_)
  · have h := h.2 c1
    refine pw_iload_n eX4_oneForSeven_10 rfl rfl ?_
    exact pw_iret eX4_oneForSeven_11 h
  · have h := h.1 (Classical.not_not.mp c1)
    refine pw_iconst eX4_oneForSeven_6 ⟨by decide, by decide⟩ ?_
    refine pw_goto eX4_oneForSeven_7 ?_
    exact pw_iret eX4_oneForSeven_11 h
set_option maxRecDepth 100000 in
theorem rg_X4_isLetter_0 {S : Sx} {Q : Option PV → Zm → Prop} {mem : Zm}   {x0 : Int} 
    (h : (((x0 < 97) → (Q (some (Iq 0)) mem)) ∧ (¬ (x0 < 97) → ((((122 < x0) → (Q (some (Iq 0)) mem)) ∧ (¬ (122 < x0) → (Q (some (Iq 1)) mem))))))) :
    PW S mX4_isLetter Q 0 [some (Iq x0)] [] mem := by
  refine pw_iload_n eX4_isLetter_0 rfl rfl ?_
  refine pw_bipush eX4_isLetter_1 ⟨by decide, by decide⟩ (by decide) ?_
  refine pw_icmp_lt eX4_isLetter_3 (fun c1 => ?_) (fun c1 => ?_)
  · have h := h.1 c1
    refine pw_iconst eX4_isLetter_16 ⟨by decide, by decide⟩ ?_
    exact pw_iret eX4_isLetter_17 h
  · have h := h.2 c1
    refine pw_iload_n eX4_isLetter_6 rfl rfl ?_
    refine pw_bipush eX4_isLetter_7 ⟨by decide, by decide⟩ (by decide) ?_
    refine pw_icmp_gt eX4_isLetter_9 (fun c2 => ?_) (fun c2 => ?_)
    · have h := h.1 c2
      refine pw_iconst eX4_isLetter_16 ⟨by decide, by decide⟩ ?_
      exact pw_iret eX4_isLetter_17 h
    · have h := h.2 c2
      refine pw_iconst eX4_isLetter_12 ⟨by decide, by decide⟩ ?_
      refine pw_goto eX4_isLetter_13 ?_
      exact pw_iret eX4_isLetter_17 h
set_option maxRecDepth 100000 in
theorem rg_X4_isDigit_0 {S : Sx} {Q : Option PV → Zm → Prop} {mem : Zm}   {x0 : Int} 
    (h : (((x0 < 48) → (Q (some (Iq 0)) mem)) ∧ (¬ (x0 < 48) → ((((57 < x0) → (Q (some (Iq 0)) mem)) ∧ (¬ (57 < x0) → (Q (some (Iq 1)) mem))))))) :
    PW S mX4_isDigit Q 0 [some (Iq x0)] [] mem := by
  refine pw_iload_n eX4_isDigit_0 rfl rfl ?_
  refine pw_bipush eX4_isDigit_1 ⟨by decide, by decide⟩ (by decide) ?_
  refine pw_icmp_lt eX4_isDigit_3 (fun c1 => ?_) (fun c1 => ?_)
  · have h := h.1 c1
    refine pw_iconst eX4_isDigit_16 ⟨by decide, by decide⟩ ?_
    exact pw_iret eX4_isDigit_17 h
  · have h := h.2 c1
    refine pw_iload_n eX4_isDigit_6 rfl rfl ?_
    refine pw_bipush eX4_isDigit_7 ⟨by decide, by decide⟩ (by decide) ?_
    refine pw_icmp_gt eX4_isDigit_9 (fun c2 => ?_) (fun c2 => ?_)
    · have h := h.1 c2
      refine pw_iconst eX4_isDigit_16 ⟨by decide, by decide⟩ ?_
      exact pw_iret eX4_isDigit_17 h
    · have h := h.2 c2
      refine pw_iconst eX4_isDigit_12 ⟨by decide, by decide⟩ ?_
      refine pw_goto eX4_isDigit_13 ?_
      exact pw_iret eX4_isDigit_17 h
set_option maxRecDepth 100000 in
theorem rg_X4_byteAt_0 {S : Sx} {Q : Option PV → Zm → Prop} {mem : Zm}   {x1 : Int} 
    (h : (((mem 34 7 ≤ x1) → (Q (some (Iq (-1))) mem)) ∧ (¬ (mem 34 7 ≤ x1) → ((0 ≤ x1 ∧ x1 < 120) ∧ Q (some (Iq (mem 40 (x1).toNat))) mem)))) :
    PW S mX4_byteAt Q 0 [some (Aq 34), some (Iq x1)] [] mem := by
  refine pw_iload_n eX4_byteAt_0 rfl rfl ?_
  refine pw_aload_n eX4_byteAt_1 rfl rfl ?_
  refine gf_RX4_202 rfl eX4_byteAt_2 sh34 ?_
  refine pw_icmp_ge eX4_byteAt_5 (fun c1 => ?_) (fun c1 => ?_)
  · have h := h.1 c1
    refine pw_iconst eX4_byteAt_17 ⟨by decide, by decide⟩ ?_
    exact pw_iret eX4_byteAt_18 h
  · have h := h.2 c1
    refine pw_aload_n eX4_byteAt_8 rfl rfl ?_
    refine gf_RX4_25 rfl eX4_byteAt_9 sh34 ?_
    refine pw_iload_n eX4_byteAt_12 rfl rfl ?_
    obtain ⟨ob2, h⟩ := h
    refine pw_iald eX4_byteAt_13 sh40 ob2 ?_
    refine pw_goto eX4_byteAt_14 ?_
    exact pw_iret eX4_byteAt_18 h
set_option maxRecDepth 100000 in
theorem rg_X4_isWord_0 {S : Sx} {Q : Option PV → Zm → Prop} {mem : Zm}   {x1 : Int} 
    (h : (((mem 34 13 = 1) → ((in32 ((mem 34 15) - (mem 34 14))) ∧ ((((mem 34 15) - (mem 34 14) = x1) → (Q (some (Iq 1)) mem)) ∧ (¬ ((mem 34 15) - (mem 34 14) = x1) → (Q (some (Iq 0)) mem))))) ∧ (¬ (mem 34 13 = 1) → (Q (some (Iq 0)) mem)))) :
    PW S mX4_isWord Q 0 [some (Aq 34), some (Iq x1)] [] mem := by
  refine pw_aload_n eX4_isWord_0 rfl rfl ?_
  refine gf_RX4_220 rfl eX4_isWord_1 sh34 ?_
  refine pw_iconst eX4_isWord_4 ⟨by decide, by decide⟩ ?_
  refine pw_icmp_ne eX4_isWord_5 (fun c1 => ?_) (fun c1 => ?_)
  · have h := h.2 c1
    refine pw_iconst eX4_isWord_25 ⟨by decide, by decide⟩ ?_
    exact pw_iret eX4_isWord_26 h
  · have h := h.1 (Classical.not_not.mp c1)
    refine pw_aload_n eX4_isWord_8 rfl rfl ?_
    refine gf_RX4_205 rfl eX4_isWord_9 sh34 ?_
    refine pw_aload_n eX4_isWord_12 rfl rfl ?_
    refine gf_RX4_208 rfl eX4_isWord_13 sh34 ?_
    obtain ⟨ob2, h⟩ := h
    refine pw_isub eX4_isWord_16 ob2 ?_
    refine pw_iload_n eX4_isWord_17 rfl rfl ?_
    refine pw_icmp_ne eX4_isWord_18 (fun c3 => ?_) (fun c3 => ?_)
    · have h := h.2 c3
      refine pw_iconst eX4_isWord_25 ⟨by decide, by decide⟩ ?_
      exact pw_iret eX4_isWord_26 h
    · have h := h.1 (Classical.not_not.mp c3)
      refine pw_iconst eX4_isWord_21 ⟨by decide, by decide⟩ ?_
      refine pw_goto eX4_isWord_22 ?_
      exact pw_iret eX4_isWord_26 h
set_option maxRecDepth 100000 in
theorem rg_X4_fails_0 {S : Sx} {Q : Option PV → Zm → Prop} {mem : Zm}   
    (h : Q (some (Iq 0)) (mup mem 34 17 (mem 34 14))) :
    PW S mX4_fails Q 0 [some (Aq 34)] [] mem := by
  refine pw_aload_n eX4_fails_0 rfl rfl ?_
  refine pw_aload_n eX4_fails_1 rfl rfl ?_
  refine gf_RX4_208 rfl eX4_fails_2 sh34 ?_
  refine pf_RX4_226 rfl eX4_fails_5 sh34 ?_
  refine pw_iconst eX4_fails_8 ⟨by decide, by decide⟩ ?_
  exact pw_iret eX4_fails_9 h
set_option maxRecDepth 100000 in
theorem rg_X4_isSheet_0 {S : Sx} {Q : Option PV → Zm → Prop} {mem : Zm}   {x0 : Int} 
    (h : (((x0 < 0) → (Q (some (Iq 0)) mem)) ∧ (¬ (x0 < 0) → ((((4 ≤ x0) → (Q (some (Iq 0)) mem)) ∧ (¬ (4 ≤ x0) → (Q (some (Iq 1)) mem))))))) :
    PW S mX4_isSheet Q 0 [some (Iq x0)] [] mem := by
  refine pw_iload_n eX4_isSheet_0 rfl rfl ?_
  refine pw_if_lt eX4_isSheet_1 (fun c1 => ?_) (fun c1 => ?_)
  · have h := h.1 c1
    refine pw_iconst eX4_isSheet_13 ⟨by decide, by decide⟩ ?_
    exact pw_iret eX4_isSheet_14 h
  · have h := h.2 c1
    refine pw_iload_n eX4_isSheet_4 rfl rfl ?_
    refine pw_iconst eX4_isSheet_5 ⟨by decide, by decide⟩ ?_
    refine pw_icmp_ge eX4_isSheet_6 (fun c2 => ?_) (fun c2 => ?_)
    · have h := h.1 c2
      refine pw_iconst eX4_isSheet_13 ⟨by decide, by decide⟩ ?_
      exact pw_iret eX4_isSheet_14 h
    · have h := h.2 c2
      refine pw_iconst eX4_isSheet_9 ⟨by decide, by decide⟩ ?_
      refine pw_goto eX4_isSheet_10 ?_
      exact pw_iret eX4_isSheet_14 h
set_option maxRecDepth 100000 in
theorem rg_X4_isUnder_0 {S : Sx} {Q : Option PV → Zm → Prop} {mem : Zm}   {x0 x1 : Int} 
    (h : (((x1 = 0) → (Q (some (Iq 1)) mem)) ∧ (¬ (x1 = 0) → ((((x0 = x1) → (Q (some (Iq 1)) mem)) ∧ (¬ (x0 = x1) → ((((x1 = 2) → ((((x0 = 3) → (Q (some (Iq 1)) mem)) ∧ (¬ (x0 = 3) → ((((x0 = 4) → (Q (some (Iq 1)) mem)) ∧ (¬ (x0 = 4) → ((((x1 = 3) → ((((x0 = 4) → (Q (some (Iq 1)) mem)) ∧ (¬ (x0 = 4) → ((((x1 = 1) → ((((x0 = 6) → (Q (some (Iq 1)) mem)) ∧ (¬ (x0 = 6) → (Q (some (Iq 0)) mem))))) ∧ (¬ (x1 = 1) → (Q (some (Iq 0)) mem)))))))) ∧ (¬ (x1 = 3) → ((((x1 = 1) → ((((x0 = 6) → (Q (some (Iq 1)) mem)) ∧ (¬ (x0 = 6) → (Q (some (Iq 0)) mem))))) ∧ (¬ (x1 = 1) → (Q (some (Iq 0)) mem)))))))))))))) ∧ (¬ (x1 = 2) → ((((x1 = 3) → ((((x0 = 4) → (Q (some (Iq 1)) mem)) ∧ (¬ (x0 = 4) → ((((x1 = 1) → ((((x0 = 6) → (Q (some (Iq 1)) mem)) ∧ (¬ (x0 = 6) → (Q (some (Iq 0)) mem))))) ∧ (¬ (x1 = 1) → (Q (some (Iq 0)) mem)))))))) ∧ (¬ (x1 = 3) → ((((x1 = 1) → ((((x0 = 6) → (Q (some (Iq 1)) mem)) ∧ (¬ (x0 = 6) → (Q (some (Iq 0)) mem))))) ∧ (¬ (x1 = 1) → (Q (some (Iq 0)) mem)))))))))))))))) :
    PW S mX4_isUnder Q 0 [some (Iq x0), some (Iq x1)] [] mem := by
  refine pw_iload_n eX4_isUnder_0 rfl rfl ?_
  refine pw_if_eq eX4_isUnder_1 (fun c1 => ?_) (fun c1 => ?_)
  · have h := h.1 c1
    refine pw_iconst eX4_isUnder_45 ⟨by decide, by decide⟩ ?_
    refine pw_goto eX4_isUnder_46 ?_
    exact pw_iret eX4_isUnder_50 h
  · have h := h.2 c1
    refine pw_iload_n eX4_isUnder_4 rfl rfl ?_
    refine pw_iload_n eX4_isUnder_5 rfl rfl ?_
    refine pw_icmp_eq eX4_isUnder_6 (fun c2 => ?_) (fun c2 => ?_)
    · have h := h.1 c2
      refine pw_iconst eX4_isUnder_45 ⟨by decide, by decide⟩ ?_
      refine pw_goto eX4_isUnder_46 ?_
      exact pw_iret eX4_isUnder_50 h
    · have h := h.2 c2
      refine pw_iload_n eX4_isUnder_9 rfl rfl ?_
      refine pw_iconst eX4_isUnder_10 ⟨by decide, by decide⟩ ?_
      refine pw_icmp_ne eX4_isUnder_11 (fun c3 => ?_) (fun c3 => ?_)
      · have h := h.2 c3
        refine pw_iload_n eX4_isUnder_24 rfl rfl ?_
        refine pw_iconst eX4_isUnder_25 ⟨by decide, by decide⟩ ?_
        refine pw_icmp_ne eX4_isUnder_26 (fun c4 => ?_) (fun c4 => ?_)
        · have h := h.2 c4
          refine pw_iload_n eX4_isUnder_34 rfl rfl ?_
          refine pw_iconst eX4_isUnder_35 ⟨by decide, by decide⟩ ?_
          refine pw_icmp_ne eX4_isUnder_36 (fun c5 => ?_) (fun c5 => ?_)
          · have h := h.2 c5
            refine pw_iconst eX4_isUnder_49 ⟨by decide, by decide⟩ ?_
            exact pw_iret eX4_isUnder_50 h
          · have h := h.1 (Classical.not_not.mp c5)
            refine pw_iload_n eX4_isUnder_39 rfl rfl ?_
            refine pw_bipush eX4_isUnder_40 ⟨by decide, by decide⟩ (by decide) ?_
            refine pw_icmp_ne eX4_isUnder_42 (fun c6 => ?_) (fun c6 => ?_)
            · have h := h.2 c6
              refine pw_iconst eX4_isUnder_49 ⟨by decide, by decide⟩ ?_
              exact pw_iret eX4_isUnder_50 h
            · have h := h.1 (Classical.not_not.mp c6)
              refine pw_iconst eX4_isUnder_45 ⟨by decide, by decide⟩ ?_
              refine pw_goto eX4_isUnder_46 ?_
              exact pw_iret eX4_isUnder_50 h
        · have h := h.1 (Classical.not_not.mp c4)
          refine pw_iload_n eX4_isUnder_29 rfl rfl ?_
          refine pw_iconst eX4_isUnder_30 ⟨by decide, by decide⟩ ?_
          refine pw_icmp_eq eX4_isUnder_31 (fun c7 => ?_) (fun c7 => ?_)
          · have h := h.1 c7
            refine pw_iconst eX4_isUnder_45 ⟨by decide, by decide⟩ ?_
            refine pw_goto eX4_isUnder_46 ?_
            exact pw_iret eX4_isUnder_50 h
          · have h := h.2 c7
            refine pw_iload_n eX4_isUnder_34 rfl rfl ?_
            refine pw_iconst eX4_isUnder_35 ⟨by decide, by decide⟩ ?_
            refine pw_icmp_ne eX4_isUnder_36 (fun c8 => ?_) (fun c8 => ?_)
            · have h := h.2 c8
              refine pw_iconst eX4_isUnder_49 ⟨by decide, by decide⟩ ?_
              exact pw_iret eX4_isUnder_50 h
            · have h := h.1 (Classical.not_not.mp c8)
              refine pw_iload_n eX4_isUnder_39 rfl rfl ?_
              refine pw_bipush eX4_isUnder_40 ⟨by decide, by decide⟩ (by decide) ?_
              refine pw_icmp_ne eX4_isUnder_42 (fun c9 => ?_) (fun c9 => ?_)
              · have h := h.2 c9
                refine pw_iconst eX4_isUnder_49 ⟨by decide, by decide⟩ ?_
                exact pw_iret eX4_isUnder_50 h
              · have h := h.1 (Classical.not_not.mp c9)
                refine pw_iconst eX4_isUnder_45 ⟨by decide, by decide⟩ ?_
                refine pw_goto eX4_isUnder_46 ?_
                exact pw_iret eX4_isUnder_50 h
      · have h := h.1 (Classical.not_not.mp c3)
        refine pw_iload_n eX4_isUnder_14 rfl rfl ?_
        refine pw_iconst eX4_isUnder_15 ⟨by decide, by decide⟩ ?_
        refine pw_icmp_eq eX4_isUnder_16 (fun c10 => ?_) (fun c10 => ?_)
        · have h := h.1 c10
          refine pw_iconst eX4_isUnder_45 ⟨by decide, by decide⟩ ?_
          refine pw_goto eX4_isUnder_46 ?_
          exact pw_iret eX4_isUnder_50 h
        · have h := h.2 c10
          refine pw_iload_n eX4_isUnder_19 rfl rfl ?_
          refine pw_iconst eX4_isUnder_20 ⟨by decide, by decide⟩ ?_
          refine pw_icmp_eq eX4_isUnder_21 (fun c11 => ?_) (fun c11 => ?_)
          · have h := h.1 c11
            refine pw_iconst eX4_isUnder_45 ⟨by decide, by decide⟩ ?_
            refine pw_goto eX4_isUnder_46 ?_
            exact pw_iret eX4_isUnder_50 h
          · have h := h.2 c11
            refine pw_iload_n eX4_isUnder_24 rfl rfl ?_
            refine pw_iconst eX4_isUnder_25 ⟨by decide, by decide⟩ ?_
            refine pw_icmp_ne eX4_isUnder_26 (fun c12 => ?_) (fun c12 => ?_)
            · have h := h.2 c12
              refine pw_iload_n eX4_isUnder_34 rfl rfl ?_
              refine pw_iconst eX4_isUnder_35 ⟨by decide, by decide⟩ ?_
              refine pw_icmp_ne eX4_isUnder_36 (fun c13 => ?_) (fun c13 => ?_)
              · have h := h.2 c13
                refine pw_iconst eX4_isUnder_49 ⟨by decide, by decide⟩ ?_
                exact pw_iret eX4_isUnder_50 h
              · have h := h.1 (Classical.not_not.mp c13)
                refine pw_iload_n eX4_isUnder_39 rfl rfl ?_
                refine pw_bipush eX4_isUnder_40 ⟨by decide, by decide⟩ (by decide) ?_
                refine pw_icmp_ne eX4_isUnder_42 (fun c14 => ?_) (fun c14 => ?_)
                · have h := h.2 c14
                  refine pw_iconst eX4_isUnder_49 ⟨by decide, by decide⟩ ?_
                  exact pw_iret eX4_isUnder_50 h
                · have h := h.1 (Classical.not_not.mp c14)
                  refine pw_iconst eX4_isUnder_45 ⟨by decide, by decide⟩ ?_
                  refine pw_goto eX4_isUnder_46 ?_
                  exact pw_iret eX4_isUnder_50 h
            · have h := h.1 (Classical.not_not.mp c12)
              refine pw_iload_n eX4_isUnder_29 rfl rfl ?_
              refine pw_iconst eX4_isUnder_30 ⟨by decide, by decide⟩ ?_
              refine pw_icmp_eq eX4_isUnder_31 (fun c15 => ?_) (fun c15 => ?_)
              · have h := h.1 c15
                refine pw_iconst eX4_isUnder_45 ⟨by decide, by decide⟩ ?_
                refine pw_goto eX4_isUnder_46 ?_
                exact pw_iret eX4_isUnder_50 h
              · have h := h.2 c15
                refine pw_iload_n eX4_isUnder_34 rfl rfl ?_
                refine pw_iconst eX4_isUnder_35 ⟨by decide, by decide⟩ ?_
                refine pw_icmp_ne eX4_isUnder_36 (fun c16 => ?_) (fun c16 => ?_)
                · have h := h.2 c16
                  refine pw_iconst eX4_isUnder_49 ⟨by decide, by decide⟩ ?_
                  exact pw_iret eX4_isUnder_50 h
                · have h := h.1 (Classical.not_not.mp c16)
                  refine pw_iload_n eX4_isUnder_39 rfl rfl ?_
                  refine pw_bipush eX4_isUnder_40 ⟨by decide, by decide⟩ (by decide) ?_
                  refine pw_icmp_ne eX4_isUnder_42 (fun c17 => ?_) (fun c17 => ?_)
                  · have h := h.2 c17
                    refine pw_iconst eX4_isUnder_49 ⟨by decide, by decide⟩ ?_
                    exact pw_iret eX4_isUnder_50 h
                  · have h := h.1 (Classical.not_not.mp c17)
                    refine pw_iconst eX4_isUnder_45 ⟨by decide, by decide⟩ ?_
                    refine pw_goto eX4_isUnder_46 ?_
                    exact pw_iret eX4_isUnder_50 h
set_option maxRecDepth 100000 in
theorem rg_X4_copyRow_0 {S : Sx} {Q : Option PV → Zm → Prop} {mem : Zm} {n0 : Nat} {n1 : Nat} {r0 : Nat} {r1 : Nat} (hr0 : shp r0 = (1, n0)) (hr1 : shp r1 = (1, n1))
    (h : PW S mX4_copyRow Q 2 [some (Aq r0), some (Aq r1), some (Iq 0)] [] mem) :
    PW S mX4_copyRow Q 0 [some (Aq r0), some (Aq r1), none] [] mem := by
  refine pw_iconst eX4_copyRow_0 ⟨by decide, by decide⟩ ?_
  refine pw_istore_n (ls2 := [some (Aq r0), some (Aq r1), some (Iq 0)]) eX4_copyRow_1 rfl (by decide) rfl ?_
  exact h

set_option maxRecDepth 100000 in
theorem rg_X4_copyRow_2 {S : Sx} {Q : Option PV → Zm → Prop} {mem : Zm} {n0 : Nat} {n1 : Nat} {r0 : Nat} {r1 : Nat} {x2 : Int} (hr0 : shp r0 = (1, n0)) (hr1 : shp r1 = (1, n1))
    (h : (((134 ≤ x2) → (Q none mem)) ∧ (¬ (134 ≤ x2) → ((0 ≤ x2 ∧ x2 < n0) ∧ (0 ≤ x2 ∧ x2 < n1) ∧ (in32 (x2 + 1)) ∧ PW S mX4_copyRow Q 2 [some (Aq r0), some (Aq r1), some (Iq (x2 + 1))] [] (mup mem r1 (x2).toNat (mem r0 (x2).toNat)))))) :
    PW S mX4_copyRow Q 2 [some (Aq r0), some (Aq r1), some (Iq x2)] [] mem := by
  refine pw_iload_n eX4_copyRow_2 rfl rfl ?_
  refine pw_sipush eX4_copyRow_3 ⟨by decide, by decide⟩ (by decide) ?_
  refine pw_icmp_ge eX4_copyRow_6 (fun c1 => ?_) (fun c1 => ?_)
  · have h := h.1 c1
    exact pw_vret eX4_copyRow_21 h
  · have h := h.2 c1
    refine pw_aload_n eX4_copyRow_9 rfl rfl ?_
    refine pw_iload_n eX4_copyRow_10 rfl rfl ?_
    refine pw_aload_n eX4_copyRow_11 rfl rfl ?_
    refine pw_iload_n eX4_copyRow_12 rfl rfl ?_
    obtain ⟨ob2, h⟩ := h
    refine pw_iald eX4_copyRow_13 hr0 ob2 ?_
    obtain ⟨ob3, h⟩ := h
    refine pw_iast eX4_copyRow_14 hr1 ob3 ?_
    obtain ⟨ob4, h⟩ := h
    refine pw_iinc (ls2 := [some (Aq r0), some (Aq r1), some (Iq (x2 + 1))]) eX4_copyRow_15 rfl ob4 rfl ?_
    refine pw_goto eX4_copyRow_18 ?_
    exact h
set_option maxRecDepth 100000 in
theorem rg_X4_finds_0 {S : Sx} {Q : Option PV → Zm → Prop} {mem : Zm}   {x1 : Int} 
    (h : (in32 ((mem 39 0) + 1)) ∧ (in32 ((-1000001) - x1)) ∧ (in32 (((-1000001) - x1) + 1)) ∧ (0 ≤ ((-1000001) - x1) + 1 ∧ ((-1000001) - x1) + 1 < 8) ∧ (in32 (((mup mem 39 0 ((mem 39 0) + 1)) 39 (((-1000001) - x1) + 1).toNat) + 1)) ∧ (0 ≤ ((-1000001) - x1) + 1 ∧ ((-1000001) - x1) + 1 < 8) ∧ Q (some (Iq x1)) (mup (mup mem 39 0 ((mem 39 0) + 1)) 39 (((-1000001) - x1) + 1).toNat (((mup mem 39 0 ((mem 39 0) + 1)) 39 (((-1000001) - x1) + 1).toNat) + 1))) :
    PW S mX4_finds Q 0 [some (Aq 34), some (Iq x1)] [] mem := by
  refine pw_aload_n eX4_finds_0 rfl rfl ?_
  refine gf_RX4_22 rfl eX4_finds_1 sh34 ?_
  refine pw_iconst eX4_finds_4 ⟨by decide, by decide⟩ ?_
  refine pw_dup2 eX4_finds_5 rfl rfl ?_
  refine pw_iald eX4_finds_6 sh39 (by decide) ?_
  refine pw_iconst eX4_finds_7 ⟨by decide, by decide⟩ ?_
  obtain ⟨ob1, h⟩ := h
  refine pw_iadd eX4_finds_8 ob1 ?_
  refine pw_iast eX4_finds_9 sh39 (by decide) ?_
  refine pw_aload_n eX4_finds_10 rfl rfl ?_
  refine gf_RX4_22 rfl eX4_finds_11 sh34 ?_
  refine pw_ldc (n := (-1000001)) eX4_finds_14 ⟨by decide, by decide⟩ kc_RX4_37 ?_
  refine pw_iload_n eX4_finds_16 rfl rfl ?_
  obtain ⟨ob2, h⟩ := h
  refine pw_isub eX4_finds_17 ob2 ?_
  refine pw_iconst eX4_finds_18 ⟨by decide, by decide⟩ ?_
  obtain ⟨ob3, h⟩ := h
  refine pw_iadd eX4_finds_19 ob3 ?_
  refine pw_dup2 eX4_finds_20 rfl rfl ?_
  obtain ⟨ob4, h⟩ := h
  refine pw_iald eX4_finds_21 sh39 ob4 ?_
  refine pw_iconst eX4_finds_22 ⟨by decide, by decide⟩ ?_
  obtain ⟨ob5, h⟩ := h
  refine pw_iadd eX4_finds_23 ob5 ?_
  obtain ⟨ob6, h⟩ := h
  refine pw_iast eX4_finds_24 sh39 ob6 ?_
  refine pw_iload_n eX4_finds_25 rfl rfl ?_
  exact pw_iret eX4_finds_26 h
set_option maxRecDepth 100000 in
theorem rg_X4_draw_0 {S : Sx} {Q : Option PV → Zm → Prop} {mem : Zm}   
    (h : Q (some (Iq (bUshr ((mup mem 35 2 (wr ((wr ((mem 35 2) * 1103515245)) + 12345))) 35 2) 8))) (mup mem 35 2 (wr ((wr ((mem 35 2) * 1103515245)) + 12345)))) :
    PW S mX4_draw Q 0 [some (Aq 34)] [] mem := by
  refine pw_aload_n eX4_draw_0 rfl rfl ?_
  refine gf_RX4_7 rfl eX4_draw_1 sh34 ?_
  refine pw_iconst eX4_draw_4 ⟨by decide, by decide⟩ ?_
  refine pw_aload_n eX4_draw_5 rfl rfl ?_
  refine gf_RX4_7 rfl eX4_draw_6 sh34 ?_
  refine pw_iconst eX4_draw_9 ⟨by decide, by decide⟩ ?_
  refine pw_iald eX4_draw_10 sh35 (by decide) ?_
  refine pw_ldc (n := 1103515245) eX4_draw_11 ⟨by decide, by decide⟩ kc_RX4_194 ?_
  refine pw_imulw eX4_draw_13 ?_
  refine pw_sipush eX4_draw_14 ⟨by decide, by decide⟩ (by decide) ?_
  refine pw_iaddw eX4_draw_17 ?_
  refine pw_iast eX4_draw_18 sh35 (by decide) ?_
  refine pw_aload_n eX4_draw_19 rfl rfl ?_
  refine gf_RX4_7 rfl eX4_draw_20 sh34 ?_
  refine pw_iconst eX4_draw_23 ⟨by decide, by decide⟩ ?_
  refine pw_iald eX4_draw_24 sh35 (by decide) ?_
  refine pw_bipush eX4_draw_25 ⟨by decide, by decide⟩ (by decide) ?_
  refine pw_iushr eX4_draw_27 ?_
  exact pw_iret eX4_draw_28 h
set_option maxRecDepth 100000 in
theorem rg_X4_wipe_0 {S : Sx} {Q : Option PV → Zm → Prop} {mem : Zm}   
    (h : Q (some (Iq (mem 34 7))) (mup mem 34 7 0)) :
    PW S mX4_wipe Q 0 [some (Aq 34), none] [] mem := by
  refine pw_aload_n eX4_wipe_0 rfl rfl ?_
  refine gf_RX4_202 rfl eX4_wipe_1 sh34 ?_
  refine pw_istore_n (ls2 := [some (Aq 34), some (Iq (mem 34 7))]) eX4_wipe_4 rfl (by decide) rfl ?_
  refine pw_aload_n eX4_wipe_5 rfl rfl ?_
  refine pw_iconst eX4_wipe_6 ⟨by decide, by decide⟩ ?_
  refine pf_RX4_202 rfl eX4_wipe_7 sh34 ?_
  refine pw_iload_n eX4_wipe_10 rfl rfl ?_
  exact pw_iret eX4_wipe_11 h
set_option maxRecDepth 100000 in
theorem rg_X4_tear_0 {S : Sx} {Q : Option PV → Zm → Prop} {mem : Zm}   
    (h : (((mem 34 4 = 0) → (Q (some (Iq 0)) (mup mem 34 4 0))) ∧ (¬ (mem 34 4 = 0) → (Q (some (Iq 1)) (mup mem 34 4 0))))) :
    PW S mX4_tear Q 0 [some (Aq 34), none] [] mem := by
  refine pw_aload_n eX4_tear_0 rfl rfl ?_
  refine gf_RX4_282 rfl eX4_tear_1 sh34 ?_
  refine pw_istore_n (ls2 := [some (Aq 34), some (Iq (mem 34 4))]) eX4_tear_4 rfl (by decide) rfl ?_
  refine pw_aload_n eX4_tear_5 rfl rfl ?_
  refine pw_iconst eX4_tear_6 ⟨by decide, by decide⟩ ?_
  refine pf_RX4_282 rfl eX4_tear_7 sh34 (Or.inl rfl) ?_
  refine pw_iload_n eX4_tear_10 rfl rfl ?_
  refine pw_if_eq eX4_tear_11 (fun c1 => ?_) (fun c1 => ?_)
  · have h := h.1 c1
    refine pw_iconst eX4_tear_18 ⟨by decide, by decide⟩ ?_
    exact pw_iret eX4_tear_19 h
  · have h := h.2 c1
    refine pw_iconst eX4_tear_14 ⟨by decide, by decide⟩ ?_
    refine pw_goto eX4_tear_15 ?_
    exact pw_iret eX4_tear_19 h
end RG

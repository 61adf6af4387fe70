section RG
set_option maxRecDepth 100000 in
theorem rg_J6_bitCount_0f7a4_0 {S : Sx} {Q : Option PV → Zm → Prop} {mem : Zm}   {x0 : Int} 
    (h : (in32 (x0 - (bAnd (bUshr x0 1) 1431655765))) ∧ (in32 ((bAnd (x0 - (bAnd (bUshr x0 1) 1431655765)) 858993459) + (bAnd (bUshr (x0 - (bAnd (bUshr x0 1) 1431655765)) 2) 858993459))) ∧ (in32 (((bAnd (x0 - (bAnd (bUshr x0 1) 1431655765)) 858993459) + (bAnd (bUshr (x0 - (bAnd (bUshr x0 1) 1431655765)) 2) 858993459)) + (bUshr ((bAnd (x0 - (bAnd (bUshr x0 1) 1431655765)) 858993459) + (bAnd (bUshr (x0 - (bAnd (bUshr x0 1) 1431655765)) 2) 858993459)) 4))) ∧ (in32 ((bAnd (((bAnd (x0 - (bAnd (bUshr x0 1) 1431655765)) 858993459) + (bAnd (bUshr (x0 - (bAnd (bUshr x0 1) 1431655765)) 2) 858993459)) + (bUshr ((bAnd (x0 - (bAnd (bUshr x0 1) 1431655765)) 858993459) + (bAnd (bUshr (x0 - (bAnd (bUshr x0 1) 1431655765)) 2) 858993459)) 4)) 252645135) + (bUshr (bAnd (((bAnd (x0 - (bAnd (bUshr x0 1) 1431655765)) 858993459) + (bAnd (bUshr (x0 - (bAnd (bUshr x0 1) 1431655765)) 2) 858993459)) + (bUshr ((bAnd (x0 - (bAnd (bUshr x0 1) 1431655765)) 858993459) + (bAnd (bUshr (x0 - (bAnd (bUshr x0 1) 1431655765)) 2) 858993459)) 4)) 252645135) 8))) ∧ (in32 (((bAnd (((bAnd (x0 - (bAnd (bUshr x0 1) 1431655765)) 858993459) + (bAnd (bUshr (x0 - (bAnd (bUshr x0 1) 1431655765)) 2) 858993459)) + (bUshr ((bAnd (x0 - (bAnd (bUshr x0 1) 1431655765)) 858993459) + (bAnd (bUshr (x0 - (bAnd (bUshr x0 1) 1431655765)) 2) 858993459)) 4)) 252645135) + (bUshr (bAnd (((bAnd (x0 - (bAnd (bUshr x0 1) 1431655765)) 858993459) + (bAnd (bUshr (x0 - (bAnd (bUshr x0 1) 1431655765)) 2) 858993459)) + (bUshr ((bAnd (x0 - (bAnd (bUshr x0 1) 1431655765)) 858993459) + (bAnd (bUshr (x0 - (bAnd (bUshr x0 1) 1431655765)) 2) 858993459)) 4)) 252645135) 8)) + (bUshr ((bAnd (((bAnd (x0 - (bAnd (bUshr x0 1) 1431655765)) 858993459) + (bAnd (bUshr (x0 - (bAnd (bUshr x0 1) 1431655765)) 2) 858993459)) + (bUshr ((bAnd (x0 - (bAnd (bUshr x0 1) 1431655765)) 858993459) + (bAnd (bUshr (x0 - (bAnd (bUshr x0 1) 1431655765)) 2) 858993459)) 4)) 252645135) + (bUshr (bAnd (((bAnd (x0 - (bAnd (bUshr x0 1) 1431655765)) 858993459) + (bAnd (bUshr (x0 - (bAnd (bUshr x0 1) 1431655765)) 2) 858993459)) + (bUshr ((bAnd (x0 - (bAnd (bUshr x0 1) 1431655765)) 858993459) + (bAnd (bUshr (x0 - (bAnd (bUshr x0 1) 1431655765)) 2) 858993459)) 4)) 252645135) 8)) 16))) ∧ Q (some (Iq (bAnd (((bAnd (((bAnd (x0 - (bAnd (bUshr x0 1) 1431655765)) 858993459) + (bAnd (bUshr (x0 - (bAnd (bUshr x0 1) 1431655765)) 2) 858993459)) + (bUshr ((bAnd (x0 - (bAnd (bUshr x0 1) 1431655765)) 858993459) + (bAnd (bUshr (x0 - (bAnd (bUshr x0 1) 1431655765)) 2) 858993459)) 4)) 252645135) + (bUshr (bAnd (((bAnd (x0 - (bAnd (bUshr x0 1) 1431655765)) 858993459) + (bAnd (bUshr (x0 - (bAnd (bUshr x0 1) 1431655765)) 2) 858993459)) + (bUshr ((bAnd (x0 - (bAnd (bUshr x0 1) 1431655765)) 858993459) + (bAnd (bUshr (x0 - (bAnd (bUshr x0 1) 1431655765)) 2) 858993459)) 4)) 252645135) 8)) + (bUshr ((bAnd (((bAnd (x0 - (bAnd (bUshr x0 1) 1431655765)) 858993459) + (bAnd (bUshr (x0 - (bAnd (bUshr x0 1) 1431655765)) 2) 858993459)) + (bUshr ((bAnd (x0 - (bAnd (bUshr x0 1) 1431655765)) 858993459) + (bAnd (bUshr (x0 - (bAnd (bUshr x0 1) 1431655765)) 2) 858993459)) 4)) 252645135) + (bUshr (bAnd (((bAnd (x0 - (bAnd (bUshr x0 1) 1431655765)) 858993459) + (bAnd (bUshr (x0 - (bAnd (bUshr x0 1) 1431655765)) 2) 858993459)) + (bUshr ((bAnd (x0 - (bAnd (bUshr x0 1) 1431655765)) 858993459) + (bAnd (bUshr (x0 - (bAnd (bUshr x0 1) 1431655765)) 2) 858993459)) 4)) 252645135) 8)) 16)) 63))) mem) :
    PW S mJ6_bitCount_0f7a4 Q 0 [some (Iq x0)] [] mem := by
  refine pw_iload_n eJ6_bitCount_0f7a4_0 rfl rfl ?_
  refine pw_iload_n eJ6_bitCount_0f7a4_1 rfl rfl ?_
  refine pw_iconst eJ6_bitCount_0f7a4_2 ⟨by decide, by decide⟩ ?_
  refine pw_iushr eJ6_bitCount_0f7a4_3 ?_
  refine pw_ldcw (n := 1431655765) eJ6_bitCount_0f7a4_4 ⟨by decide, by decide⟩ kc_RJ6_265 ?_
  refine pw_iand eJ6_bitCount_0f7a4_7 ?_
  obtain ⟨o1, h⟩ := h
  refine pw_isub eJ6_bitCount_0f7a4_8 o1 ?_
  refine pw_istore_n (ls2 := [some (Iq (x0 - (bAnd (bUshr x0 1) 1431655765)))]) eJ6_bitCount_0f7a4_9 rfl (by decide) rfl ?_
  refine pw_iload_n eJ6_bitCount_0f7a4_10 rfl rfl ?_
  refine pw_ldcw (n := 858993459) eJ6_bitCount_0f7a4_11 ⟨by decide, by decide⟩ kc_RJ6_266 ?_
  refine pw_iand eJ6_bitCount_0f7a4_14 ?_
  refine pw_iload_n eJ6_bitCount_0f7a4_15 rfl rfl ?_
  refine pw_iconst eJ6_bitCount_0f7a4_16 ⟨by decide, by decide⟩ ?_
  refine pw_iushr eJ6_bitCount_0f7a4_17 ?_
  refine pw_ldcw (n := 858993459) eJ6_bitCount_0f7a4_18 ⟨by decide, by decide⟩ kc_RJ6_266 ?_
  refine pw_iand eJ6_bitCount_0f7a4_21 ?_
  obtain ⟨o2, h⟩ := h
  refine pw_iadd eJ6_bitCount_0f7a4_22 o2 ?_
  refine pw_istore_n (ls2 := [some (Iq ((bAnd (x0 - (bAnd (bUshr x0 1) 1431655765)) 858993459) + (bAnd (bUshr (x0 - (bAnd (bUshr x0 1) 1431655765)) 2) 858993459)))]) eJ6_bitCount_0f7a4_23 rfl (by decide) rfl ?_
  refine pw_iload_n eJ6_bitCount_0f7a4_24 rfl rfl ?_
  refine pw_iload_n eJ6_bitCount_0f7a4_25 rfl rfl ?_
  refine pw_iconst eJ6_bitCount_0f7a4_26 ⟨by decide, by decide⟩ ?_
  refine pw_iushr eJ6_bitCount_0f7a4_27 ?_
  obtain ⟨o3, h⟩ := h
  refine pw_iadd eJ6_bitCount_0f7a4_28 o3 ?_
  refine pw_ldcw (n := 252645135) eJ6_bitCount_0f7a4_29 ⟨by decide, by decide⟩ kc_RJ6_267 ?_
  refine pw_iand eJ6_bitCount_0f7a4_32 ?_
  refine pw_istore_n (ls2 := [some (Iq (bAnd (((bAnd (x0 - (bAnd (bUshr x0 1) 1431655765)) 858993459) + (bAnd (bUshr (x0 - (bAnd (bUshr x0 1) 1431655765)) 2) 858993459)) + (bUshr ((bAnd (x0 - (bAnd (bUshr x0 1) 1431655765)) 858993459) + (bAnd (bUshr (x0 - (bAnd (bUshr x0 1) 1431655765)) 2) 858993459)) 4)) 252645135))]) eJ6_bitCount_0f7a4_33 rfl (by decide) rfl ?_
  refine pw_iload_n eJ6_bitCount_0f7a4_34 rfl rfl ?_
  refine pw_iload_n eJ6_bitCount_0f7a4_35 rfl rfl ?_
  refine pw_bipush eJ6_bitCount_0f7a4_36 ⟨by decide, by decide⟩ (by decide) ?_
  refine pw_iushr eJ6_bitCount_0f7a4_38 ?_
  obtain ⟨o4, h⟩ := h
  refine pw_iadd eJ6_bitCount_0f7a4_39 o4 ?_
  refine pw_istore_n (ls2 := [some (Iq ((bAnd (((bAnd (x0 - (bAnd (bUshr x0 1) 1431655765)) 858993459) + (bAnd (bUshr (x0 - (bAnd (bUshr x0 1) 1431655765)) 2) 858993459)) + (bUshr ((bAnd (x0 - (bAnd (bUshr x0 1) 1431655765)) 858993459) + (bAnd (bUshr (x0 - (bAnd (bUshr x0 1) 1431655765)) 2) 858993459)) 4)) 252645135) + (bUshr (bAnd (((bAnd (x0 - (bAnd (bUshr x0 1) 1431655765)) 858993459) + (bAnd (bUshr (x0 - (bAnd (bUshr x0 1) 1431655765)) 2) 858993459)) + (bUshr ((bAnd (x0 - (bAnd (bUshr x0 1) 1431655765)) 858993459) + (bAnd (bUshr (x0 - (bAnd (bUshr x0 1) 1431655765)) 2) 858993459)) 4)) 252645135) 8)))]) eJ6_bitCount_0f7a4_40 rfl (by decide) rfl ?_
  refine pw_iload_n eJ6_bitCount_0f7a4_41 rfl rfl ?_
  refine pw_iload_n eJ6_bitCount_0f7a4_42 rfl rfl ?_
  refine pw_bipush eJ6_bitCount_0f7a4_43 ⟨by decide, by decide⟩ (by decide) ?_
  refine pw_iushr eJ6_bitCount_0f7a4_45 ?_
  obtain ⟨o5, h⟩ := h
  refine pw_iadd eJ6_bitCount_0f7a4_46 o5 ?_
  refine pw_istore_n (ls2 := [some (Iq (((bAnd (((bAnd (x0 - (bAnd (bUshr x0 1) 1431655765)) 858993459) + (bAnd (bUshr (x0 - (bAnd (bUshr x0 1) 1431655765)) 2) 858993459)) + (bUshr ((bAnd (x0 - (bAnd (bUshr x0 1) 1431655765)) 858993459) + (bAnd (bUshr (x0 - (bAnd (bUshr x0 1) 1431655765)) 2) 858993459)) 4)) 252645135) + (bUshr (bAnd (((bAnd (x0 - (bAnd (bUshr x0 1) 1431655765)) 858993459) + (bAnd (bUshr (x0 - (bAnd (bUshr x0 1) 1431655765)) 2) 858993459)) + (bUshr ((bAnd (x0 - (bAnd (bUshr x0 1) 1431655765)) 858993459) + (bAnd (bUshr (x0 - (bAnd (bUshr x0 1) 1431655765)) 2) 858993459)) 4)) 252645135) 8)) + (bUshr ((bAnd (((bAnd (x0 - (bAnd (bUshr x0 1) 1431655765)) 858993459) + (bAnd (bUshr (x0 - (bAnd (bUshr x0 1) 1431655765)) 2) 858993459)) + (bUshr ((bAnd (x0 - (bAnd (bUshr x0 1) 1431655765)) 858993459) + (bAnd (bUshr (x0 - (bAnd (bUshr x0 1) 1431655765)) 2) 858993459)) 4)) 252645135) + (bUshr (bAnd (((bAnd (x0 - (bAnd (bUshr x0 1) 1431655765)) 858993459) + (bAnd (bUshr (x0 - (bAnd (bUshr x0 1) 1431655765)) 2) 858993459)) + (bUshr ((bAnd (x0 - (bAnd (bUshr x0 1) 1431655765)) 858993459) + (bAnd (bUshr (x0 - (bAnd (bUshr x0 1) 1431655765)) 2) 858993459)) 4)) 252645135) 8)) 16)))]) eJ6_bitCount_0f7a4_47 rfl (by decide) rfl ?_
  refine pw_iload_n eJ6_bitCount_0f7a4_48 rfl rfl ?_
  refine pw_bipush eJ6_bitCount_0f7a4_49 ⟨by decide, by decide⟩ (by decide) ?_
  refine pw_iand eJ6_bitCount_0f7a4_51 ?_
  exact pw_iret eJ6_bitCount_0f7a4_52 h
set_option maxRecDepth 100000 in
theorem rg_J9_min_7cf53_0 {S : Sx} {Q : Option PV → Zm → Prop} {mem : Zm}   {x0 x1 : Int} 
    (h : (((x1 < x0) → (Q (some (Iq x1)) mem)) ∧ (¬ (x1 < x0) → (Q (some (Iq x0)) mem)))) :
    PW S mJ9_min_7cf53 Q 0 [some (Iq x0), some (Iq x1)] [] mem := by
  refine pw_iload_n eJ9_min_7cf53_0 rfl rfl ?_
  refine pw_iload_n eJ9_min_7cf53_1 rfl rfl ?_
  refine pw_icmp_gt eJ9_min_7cf53_2 (fun c1 => ?_) (fun c1 => ?_)
  · have h := h.1 c1
    refine pw_iload_n eJ9_min_7cf53_9 rfl rfl ?_
    exact pw_iret eJ9_min_7cf53_10 h
  · have h := h.2 c1
    refine pw_iload_n eJ9_min_7cf53_5 rfl rfl ?_
    refine pw_goto eJ9_min_7cf53_6 ?_
    exact pw_iret eJ9_min_7cf53_10 h
set_option maxRecDepth 100000 in
theorem rg_J7_fill_53178_0 {S : Sx} {Q : Option PV → Zm → Prop} {mem : Zm} {n0 : Nat} {r0 : Nat} {x1 : Int} (hr0 : shp r0 = (1, n0))
    (h : (n0 < 2147483648) ∧ PW S mJ7_fill_53178 Q 5 [some (Aq r0), some (Iq x1), some (Iq 0), some (Iq ((n0 : Int)))] [] mem) :
    PW S mJ7_fill_53178 Q 0 [some (Aq r0), some (Iq x1), none, none] [] mem := by
  refine pw_iconst eJ7_fill_53178_0 ⟨by decide, by decide⟩ ?_
  refine pw_istore_n (ls2 := [some (Aq r0), some (Iq x1), some (Iq 0), none]) eJ7_fill_53178_1 rfl (by decide) rfl ?_
  refine pw_aload_n eJ7_fill_53178_2 rfl rfl ?_
  obtain ⟨o1, h⟩ := h
  refine pw_alen eJ7_fill_53178_3 hr0 o1 ?_
  refine pw_istore_n (ls2 := [some (Aq r0), some (Iq x1), some (Iq 0), some (Iq ((n0 : Int)))]) eJ7_fill_53178_4 rfl (by decide) rfl ?_
  exact h

set_option maxRecDepth 100000 in
theorem rg_J7_fill_53178_5 {S : Sx} {Q : Option PV → Zm → Prop} {mem : Zm} {n0 : Nat} {r0 : Nat} {x1 x2 x3 : Int} (hr0 : shp r0 = (1, n0))
    (h : (((x3 ≤ x2) → (Q none mem)) ∧ (¬ (x3 ≤ x2) → ((0 ≤ x2 ∧ x2 < n0) ∧ (in32 (x2 + 1)) ∧ PW S mJ7_fill_53178 Q 5 [some (Aq r0), some (Iq x1), some (Iq (x2 + 1)), some (Iq x3)] [] (mup mem r0 (x2).toNat x1))))) :
    PW S mJ7_fill_53178 Q 5 [some (Aq r0), some (Iq x1), some (Iq x2), some (Iq x3)] [] mem := by
  refine pw_iload_n eJ7_fill_53178_5 rfl rfl ?_
  refine pw_iload_n eJ7_fill_53178_6 rfl rfl ?_
  refine pw_icmp_ge eJ7_fill_53178_7 (fun c1 => ?_) (fun c1 => ?_)
  · have h := h.1 c1
    exact pw_vret eJ7_fill_53178_20 h
  · have h := h.2 c1
    refine pw_aload_n eJ7_fill_53178_10 rfl rfl ?_
    refine pw_iload_n eJ7_fill_53178_11 rfl rfl ?_
    refine pw_iload_n eJ7_fill_53178_12 rfl rfl ?_
    obtain ⟨o2, h⟩ := h
    refine pw_iast eJ7_fill_53178_13 hr0 o2 ?_
    obtain ⟨o3, h⟩ := h
    refine pw_iinc (ls2 := [some (Aq r0), some (Iq x1), some (Iq (x2 + 1)), some (Iq x3)]) eJ7_fill_53178_14 rfl o3 rfl ?_
    refine pw_goto eJ7_fill_53178_17 ?_
    exact h
set_option maxRecDepth 100000 in
theorem rg_X0_become_0 {S : Sx} {Q : Option PV → Zm → Prop} {mem : Zm}  {r0 : Nat} {r1 : Nat} (hr0 : isRoom r0) (hr1 : isRoom r1)
    (h : Q none (mup (mup (mup (mup (mcp (mcp (mcp (mcp mem (r1 + 1) (r0 + 1) 0 0 8) (r1 + 2) (r0 + 2) 0 0 48) (r1 + 3) (r0 + 3) 0 0 64) (r1 + 4) (r0 + 4) 0 0 10) r0 6 ((mcp (mcp (mcp (mcp mem (r1 + 1) (r0 + 1) 0 0 8) (r1 + 2) (r0 + 2) 0 0 48) (r1 + 3) (r0 + 3) 0 0 64) (r1 + 4) (r0 + 4) 0 0 10) r1 6)) r0 7 ((mup (mcp (mcp (mcp (mcp mem (r1 + 1) (r0 + 1) 0 0 8) (r1 + 2) (r0 + 2) 0 0 48) (r1 + 3) (r0 + 3) 0 0 64) (r1 + 4) (r0 + 4) 0 0 10) r0 6 ((mcp (mcp (mcp (mcp mem (r1 + 1) (r0 + 1) 0 0 8) (r1 + 2) (r0 + 2) 0 0 48) (r1 + 3) (r0 + 3) 0 0 64) (r1 + 4) (r0 + 4) 0 0 10) r1 6)) r1 7)) r0 8 ((mup (mup (mcp (mcp (mcp (mcp mem (r1 + 1) (r0 + 1) 0 0 8) (r1 + 2) (r0 + 2) 0 0 48) (r1 + 3) (r0 + 3) 0 0 64) (r1 + 4) (r0 + 4) 0 0 10) r0 6 ((mcp (mcp (mcp (mcp mem (r1 + 1) (r0 + 1) 0 0 8) (r1 + 2) (r0 + 2) 0 0 48) (r1 + 3) (r0 + 3) 0 0 64) (r1 + 4) (r0 + 4) 0 0 10) r1 6)) r0 7 ((mup (mcp (mcp (mcp (mcp mem (r1 + 1) (r0 + 1) 0 0 8) (r1 + 2) (r0 + 2) 0 0 48) (r1 + 3) (r0 + 3) 0 0 64) (r1 + 4) (r0 + 4) 0 0 10) r0 6 ((mcp (mcp (mcp (mcp mem (r1 + 1) (r0 + 1) 0 0 8) (r1 + 2) (r0 + 2) 0 0 48) (r1 + 3) (r0 + 3) 0 0 64) (r1 + 4) (r0 + 4) 0 0 10) r1 6)) r1 7)) r1 8)) r0 9 ((mup (mup (mup (mcp (mcp (mcp (mcp mem (r1 + 1) (r0 + 1) 0 0 8) (r1 + 2) (r0 + 2) 0 0 48) (r1 + 3) (r0 + 3) 0 0 64) (r1 + 4) (r0 + 4) 0 0 10) r0 6 ((mcp (mcp (mcp (mcp mem (r1 + 1) (r0 + 1) 0 0 8) (r1 + 2) (r0 + 2) 0 0 48) (r1 + 3) (r0 + 3) 0 0 64) (r1 + 4) (r0 + 4) 0 0 10) r1 6)) r0 7 ((mup (mcp (mcp (mcp (mcp mem (r1 + 1) (r0 + 1) 0 0 8) (r1 + 2) (r0 + 2) 0 0 48) (r1 + 3) (r0 + 3) 0 0 64) (r1 + 4) (r0 + 4) 0 0 10) r0 6 ((mcp (mcp (mcp (mcp mem (r1 + 1) (r0 + 1) 0 0 8) (r1 + 2) (r0 + 2) 0 0 48) (r1 + 3) (r0 + 3) 0 0 64) (r1 + 4) (r0 + 4) 0 0 10) r1 6)) r1 7)) r0 8 ((mup (mup (mcp (mcp (mcp (mcp mem (r1 + 1) (r0 + 1) 0 0 8) (r1 + 2) (r0 + 2) 0 0 48) (r1 + 3) (r0 + 3) 0 0 64) (r1 + 4) (r0 + 4) 0 0 10) r0 6 ((mcp (mcp (mcp (mcp mem (r1 + 1) (r0 + 1) 0 0 8) (r1 + 2) (r0 + 2) 0 0 48) (r1 + 3) (r0 + 3) 0 0 64) (r1 + 4) (r0 + 4) 0 0 10) r1 6)) r0 7 ((mup (mcp (mcp (mcp (mcp mem (r1 + 1) (r0 + 1) 0 0 8) (r1 + 2) (r0 + 2) 0 0 48) (r1 + 3) (r0 + 3) 0 0 64) (r1 + 4) (r0 + 4) 0 0 10) r0 6 ((mcp (mcp (mcp (mcp mem (r1 + 1) (r0 + 1) 0 0 8) (r1 + 2) (r0 + 2) 0 0 48) (r1 + 3) (r0 + 3) 0 0 64) (r1 + 4) (r0 + 4) 0 0 10) r1 6)) r1 7)) r1 8)) r1 9))) :
    PW S mX0_become Q 0 [some (Aq r0), some (Aq r1)] [] mem := by
  refine pw_aload_n eX0_become_0 rfl rfl ?_
  refine gf_RX0_9 rfl eX0_become_1 (shR hr1) ?_
  refine pw_iconst eX0_become_4 ⟨by decide, by decide⟩ ?_
  refine pw_aload_n eX0_become_5 rfl rfl ?_
  refine gf_RX0_9 rfl eX0_become_6 (shR hr0) ?_
  refine pw_iconst eX0_become_9 ⟨by decide, by decide⟩ ?_
  refine pw_bipush eX0_become_10 ⟨by decide, by decide⟩ (by decide) ?_
  refine pw_acopy eX0_become_12 lc_RX0_49 lc_nat lc_stt lc_ini (by decide) (by decide) rfl (shR1 hr1) (shR1 hr0) (by decide) ?_
  refine pw_aload_n eX0_become_15 rfl rfl ?_
  refine gf_RX0_15 rfl eX0_become_16 (shR hr1) ?_
  refine pw_iconst eX0_become_19 ⟨by decide, by decide⟩ ?_
  refine pw_aload_n eX0_become_20 rfl rfl ?_
  refine gf_RX0_15 rfl eX0_become_21 (shR hr0) ?_
  refine pw_iconst eX0_become_24 ⟨by decide, by decide⟩ ?_
  refine pw_bipush eX0_become_25 ⟨by decide, by decide⟩ (by decide) ?_
  refine pw_acopy eX0_become_27 lc_RX0_49 lc_nat lc_stt lc_ini (by decide) (by decide) rfl (shR2 hr1) (shR2 hr0) (by decide) ?_
  refine pw_aload_n eX0_become_30 rfl rfl ?_
  refine gf_RX0_18 rfl eX0_become_31 (shR hr1) ?_
  refine pw_iconst eX0_become_34 ⟨by decide, by decide⟩ ?_
  refine pw_aload_n eX0_become_35 rfl rfl ?_
  refine gf_RX0_18 rfl eX0_become_36 (shR hr0) ?_
  refine pw_iconst eX0_become_39 ⟨by decide, by decide⟩ ?_
  refine pw_bipush eX0_become_40 ⟨by decide, by decide⟩ (by decide) ?_
  refine pw_acopy eX0_become_42 lc_RX0_49 lc_nat lc_stt lc_ini (by decide) (by decide) rfl (shR3 hr1) (shR3 hr0) (by decide) ?_
  refine pw_aload_n eX0_become_45 rfl rfl ?_
  refine gf_RX0_21 rfl eX0_become_46 (shR hr1) ?_
  refine pw_iconst eX0_become_49 ⟨by decide, by decide⟩ ?_
  refine pw_aload_n eX0_become_50 rfl rfl ?_
  refine gf_RX0_21 rfl eX0_become_51 (shR hr0) ?_
  refine pw_iconst eX0_become_54 ⟨by decide, by decide⟩ ?_
  refine pw_bipush eX0_become_55 ⟨by decide, by decide⟩ (by decide) ?_
  refine pw_acopy eX0_become_57 lc_RX0_49 lc_nat lc_stt lc_ini (by decide) (by decide) rfl (shR4 hr1) (shR4 hr0) (by decide) ?_
  refine pw_aload_n eX0_become_60 rfl rfl ?_
  refine pw_aload_n eX0_become_61 rfl rfl ?_
  refine gf_RX0_30 rfl eX0_become_62 (shR hr1) ?_
  refine pf_RX0_30 rfl eX0_become_65 (shR hr0) ?_
  refine pw_aload_n eX0_become_68 rfl rfl ?_
  refine pw_aload_n eX0_become_69 rfl rfl ?_
  refine gf_RX0_34 rfl eX0_become_70 (shR hr1) ?_
  refine pf_RX0_34 rfl eX0_become_73 (shR hr0) ?_
  refine pw_aload_n eX0_become_76 rfl rfl ?_
  refine pw_aload_n eX0_become_77 rfl rfl ?_
  refine gf_RX0_37 rfl eX0_become_78 (shR hr1) ?_
  refine pf_RX0_37 rfl eX0_become_81 (shR hr0) ?_
  refine pw_aload_n eX0_become_84 rfl rfl ?_
  refine pw_aload_n eX0_become_85 rfl rfl ?_
  refine gf_RX0_40 rfl eX0_become_86 (shR hr1) ?_
  refine pf_RX0_40 rfl eX0_become_89 (shR hr0) ?_
  exact pw_vret eX0_become_92 h
set_option maxRecDepth 100000 in
theorem rg_X0_has_0 {S : Sx} {Q : Option PV → Zm → Prop} {mem : Zm}  {r0 : Nat} {x1 : Int} (hr0 : isRoom r0)
    (h : (((x1 < 0) → (Q (some (Iq 0)) mem)) ∧ (¬ (x1 < 0) → ((((mem r0 7 ≤ x1) → (Q (some (Iq 0)) mem)) ∧ (¬ (mem r0 7 ≤ x1) → (Q (some (Iq 1)) mem))))))) :
    PW S mX0_has Q 0 [some (Aq r0), some (Iq x1)] [] mem := by
  refine pw_iload_n eX0_has_0 rfl rfl ?_
  refine pw_if_lt eX0_has_1 (fun c1 => ?_) (fun c1 => ?_)
  · have h := h.1 c1
    refine pw_iconst eX0_has_16 ⟨by decide, by decide⟩ ?_
    exact pw_iret eX0_has_17 h
  · have h := h.2 c1
    refine pw_iload_n eX0_has_4 rfl rfl ?_
    refine pw_aload_n eX0_has_5 rfl rfl ?_
    refine gf_RX0_34 rfl eX0_has_6 (shR hr0) ?_
    refine pw_icmp_ge eX0_has_9 (fun c2 => ?_) (fun c2 => ?_)
    · have h := h.1 c2
      refine pw_iconst eX0_has_16 ⟨by decide, by decide⟩ ?_
      exact pw_iret eX0_has_17 h
    · have h := h.2 c2
      refine pw_iconst eX0_has_12 ⟨by decide, by decide⟩ ?_
      refine pw_goto eX0_has_13 ?_
      exact pw_iret eX0_has_17 h
set_option maxRecDepth 100000 in
theorem rg_X0_fact_0 {S : Sx} {Q : Option PV → Zm → Prop} {mem : Zm}  {r0 : Nat} {x1 x2 : Int} (hr0 : isRoom r0)
    (h : (in32 (x1 * 6)) ∧ (in32 ((x1 * 6) + x2)) ∧ (0 ≤ (x1 * 6) + x2 ∧ (x1 * 6) + x2 < 48) ∧ Q (some (Iq (mem (r0 + 2) ((x1 * 6) + x2).toNat))) mem) :
    PW S mX0_fact Q 0 [some (Aq r0), some (Iq x1), some (Iq x2)] [] mem := by
  refine pw_aload_n eX0_fact_0 rfl rfl ?_
  refine gf_RX0_15 rfl eX0_fact_1 (shR hr0) ?_
  refine pw_iload_n eX0_fact_4 rfl rfl ?_
  refine pw_bipush eX0_fact_5 ⟨by decide, by decide⟩ (by decide) ?_
  obtain ⟨o1, h⟩ := h
  refine pw_imul eX0_fact_7 o1 ?_
  refine pw_iload_n eX0_fact_8 rfl rfl ?_
  obtain ⟨o2, h⟩ := h
  refine pw_iadd eX0_fact_9 o2 ?_
  obtain ⟨o3, h⟩ := h
  refine pw_iald eX0_fact_10 (shR2 hr0) o3 ?_
  exact pw_iret eX0_fact_11 h
set_option maxRecDepth 100000 in
theorem rg_X0_setFact_0 {S : Sx} {Q : Option PV → Zm → Prop} {mem : Zm}  {r0 : Nat} {x1 x2 x3 : Int} (hr0 : isRoom r0)
    (h : (in32 (x1 * 6)) ∧ (in32 ((x1 * 6) + x2)) ∧ (0 ≤ (x1 * 6) + x2 ∧ (x1 * 6) + x2 < 48) ∧ Q none (mup mem (r0 + 2) ((x1 * 6) + x2).toNat x3)) :
    PW S mX0_setFact Q 0 [some (Aq r0), some (Iq x1), some (Iq x2), some (Iq x3)] [] mem := by
  refine pw_aload_n eX0_setFact_0 rfl rfl ?_
  refine gf_RX0_15 rfl eX0_setFact_1 (shR hr0) ?_
  refine pw_iload_n eX0_setFact_4 rfl rfl ?_
  refine pw_bipush eX0_setFact_5 ⟨by decide, by decide⟩ (by decide) ?_
  obtain ⟨o1, h⟩ := h
  refine pw_imul eX0_setFact_7 o1 ?_
  refine pw_iload_n eX0_setFact_8 rfl rfl ?_
  obtain ⟨o2, h⟩ := h
  refine pw_iadd eX0_setFact_9 o2 ?_
  refine pw_iload_n eX0_setFact_10 rfl rfl ?_
  obtain ⟨o3, h⟩ := h
  refine pw_iast eX0_setFact_11 (shR2 hr0) o3 ?_
  exact pw_vret eX0_setFact_12 h
set_option maxRecDepth 100000 in
theorem rg_X0_answerOf_0 {S : Sx} {Q : Option PV → Zm → Prop} {mem : Zm}  {r0 : Nat} {x1 x2 : Int} (hr0 : isRoom r0)
    (h : (in32 (x1 * 8)) ∧ (in32 ((x1 * 8) + x2)) ∧ (0 ≤ (x1 * 8) + x2 ∧ (x1 * 8) + x2 < 64) ∧ Q (some (Iq (mem (r0 + 3) ((x1 * 8) + x2).toNat))) mem) :
    PW S mX0_answerOf Q 0 [some (Aq r0), some (Iq x1), some (Iq x2)] [] mem := by
  refine pw_aload_n eX0_answerOf_0 rfl rfl ?_
  refine gf_RX0_18 rfl eX0_answerOf_1 (shR hr0) ?_
  refine pw_iload_n eX0_answerOf_4 rfl rfl ?_
  refine pw_bipush eX0_answerOf_5 ⟨by decide, by decide⟩ (by decide) ?_
  obtain ⟨o1, h⟩ := h
  refine pw_imul eX0_answerOf_7 o1 ?_
  refine pw_iload_n eX0_answerOf_8 rfl rfl ?_
  obtain ⟨o2, h⟩ := h
  refine pw_iadd eX0_answerOf_9 o2 ?_
  obtain ⟨o3, h⟩ := h
  refine pw_iald eX0_answerOf_10 (shR3 hr0) o3 ?_
  exact pw_iret eX0_answerOf_11 h
set_option maxRecDepth 100000 in
theorem rg_X0_addChild_0 {S : Sx} {Q : Option PV → Zm → Prop} {mem : Zm}  {r0 : Nat} {x1 x2 : Int} (hr0 : isRoom r0)
    (h : (∃ (m2 : Zm), Ct1 S mX0_setFact [Aq r0, Iq (mem r0 7), Iq 0, Iq x1] mem none m2 ∧ ((∃ (m5 : Zm), Ct1 S mX0_setFact [Aq r0, Iq (mem r0 7), Iq 1, Iq x2] m2 none m5 ∧ ((∃ (m8 : Zm), Ct1 S mX0_setFact [Aq r0, Iq (mem r0 7), Iq 2, Iq (-1)] m5 none m8 ∧ ((∃ (m11 : Zm), Ct1 S mX0_setFact [Aq r0, Iq (mem r0 7), Iq 3, Iq 0] m8 none m11 ∧ ((∃ (m14 : Zm), Ct1 S mX0_setFact [Aq r0, Iq (mem r0 7), Iq 4, Iq 5] m11 none m14 ∧ ((∃ (m17 : Zm), Ct1 S mX0_setFact [Aq r0, Iq (mem r0 7), Iq 5, Iq 0] m14 none m17 ∧ (PW S mX0_addChild Q 50 [some (Aq r0), some (Iq x1), some (Iq x2), some (Iq (mem r0 7)), some (Iq 0)] [] m17))))))))))))) :
    PW S mX0_addChild Q 0 [some (Aq r0), some (Iq x1), some (Iq x2), none, none] [] mem := by
  refine pw_aload_n eX0_addChild_0 rfl rfl ?_
  refine gf_RX0_34 rfl eX0_addChild_1 (shR hr0) ?_
  refine pw_istore_n (ls2 := [some (Aq r0), some (Iq x1), some (Iq x2), some (Iq (mem r0 7)), none]) eX0_addChild_4 rfl (by decide) rfl ?_
  refine pw_aload_n eX0_addChild_5 rfl rfl ?_
  refine pw_iload_n eX0_addChild_6 rfl rfl ?_
  refine pw_iconst eX0_addChild_7 ⟨by decide, by decide⟩ ?_
  refine pw_iload_n eX0_addChild_8 rfl rfl ?_
  obtain ⟨m2, hc3, h⟩ := h
  refine pw_cV (z := mX0_setFact) (av := [Iq (mem r0 7), Iq 0, Iq x1]) (st := []) eX0_addChild_9 lk_RX0_55 rfl (by decide) (by decide) (shR hr0) rfl rfl (Nat.le_of_ble_eq_true rfl) rfl hc3 ?_
  show PW S mX0_addChild Q 12 [some (Aq r0), some (Iq x1), some (Iq x2), some (Iq (mem r0 7)), none] [] m2
  refine pw_aload_n eX0_addChild_12 rfl rfl ?_
  refine pw_iload_n eX0_addChild_13 rfl rfl ?_
  refine pw_iconst eX0_addChild_14 ⟨by decide, by decide⟩ ?_
  refine pw_iload_n eX0_addChild_15 rfl rfl ?_
  obtain ⟨m5, hc6, h⟩ := h
  refine pw_cV (z := mX0_setFact) (av := [Iq (mem r0 7), Iq 1, Iq x2]) (st := []) eX0_addChild_16 lk_RX0_55 rfl (by decide) (by decide) (shR hr0) rfl rfl (Nat.le_of_ble_eq_true rfl) rfl hc6 ?_
  show PW S mX0_addChild Q 19 [some (Aq r0), some (Iq x1), some (Iq x2), some (Iq (mem r0 7)), none] [] m5
  refine pw_aload_n eX0_addChild_19 rfl rfl ?_
  refine pw_iload_n eX0_addChild_20 rfl rfl ?_
  refine pw_iconst eX0_addChild_21 ⟨by decide, by decide⟩ ?_
  refine pw_iconst eX0_addChild_22 ⟨by decide, by decide⟩ ?_
  obtain ⟨m8, hc9, h⟩ := h
  refine pw_cV (z := mX0_setFact) (av := [Iq (mem r0 7), Iq 2, Iq (-1)]) (st := []) eX0_addChild_23 lk_RX0_55 rfl (by decide) (by decide) (shR hr0) rfl rfl (Nat.le_of_ble_eq_true rfl) rfl hc9 ?_
  show PW S mX0_addChild Q 26 [some (Aq r0), some (Iq x1), some (Iq x2), some (Iq (mem r0 7)), none] [] m8
  refine pw_aload_n eX0_addChild_26 rfl rfl ?_
  refine pw_iload_n eX0_addChild_27 rfl rfl ?_
  refine pw_iconst eX0_addChild_28 ⟨by decide, by decide⟩ ?_
  refine pw_iconst eX0_addChild_29 ⟨by decide, by decide⟩ ?_
  obtain ⟨m11, hc12, h⟩ := h
  refine pw_cV (z := mX0_setFact) (av := [Iq (mem r0 7), Iq 3, Iq 0]) (st := []) eX0_addChild_30 lk_RX0_55 rfl (by decide) (by decide) (shR hr0) rfl rfl (Nat.le_of_ble_eq_true rfl) rfl hc12 ?_
  show PW S mX0_addChild Q 33 [some (Aq r0), some (Iq x1), some (Iq x2), some (Iq (mem r0 7)), none] [] m11
  refine pw_aload_n eX0_addChild_33 rfl rfl ?_
  refine pw_iload_n eX0_addChild_34 rfl rfl ?_
  refine pw_iconst eX0_addChild_35 ⟨by decide, by decide⟩ ?_
  refine pw_iconst eX0_addChild_36 ⟨by decide, by decide⟩ ?_
  obtain ⟨m14, hc15, h⟩ := h
  refine pw_cV (z := mX0_setFact) (av := [Iq (mem r0 7), Iq 4, Iq 5]) (st := []) eX0_addChild_37 lk_RX0_55 rfl (by decide) (by decide) (shR hr0) rfl rfl (Nat.le_of_ble_eq_true rfl) rfl hc15 ?_
  show PW S mX0_addChild Q 40 [some (Aq r0), some (Iq x1), some (Iq x2), some (Iq (mem r0 7)), none] [] m14
  refine pw_aload_n eX0_addChild_40 rfl rfl ?_
  refine pw_iload_n eX0_addChild_41 rfl rfl ?_
  refine pw_iconst eX0_addChild_42 ⟨by decide, by decide⟩ ?_
  refine pw_iconst eX0_addChild_43 ⟨by decide, by decide⟩ ?_
  obtain ⟨m17, hc18, h⟩ := h
  refine pw_cV (z := mX0_setFact) (av := [Iq (mem r0 7), Iq 5, Iq 0]) (st := []) eX0_addChild_44 lk_RX0_55 rfl (by decide) (by decide) (shR hr0) rfl rfl (Nat.le_of_ble_eq_true rfl) rfl hc18 ?_
  show PW S mX0_addChild Q 47 [some (Aq r0), some (Iq x1), some (Iq x2), some (Iq (mem r0 7)), none] [] m17
  refine pw_iconst eX0_addChild_47 ⟨by decide, by decide⟩ ?_
  refine pw_istore (ls2 := [some (Aq r0), some (Iq x1), some (Iq x2), some (Iq (mem r0 7)), some (Iq 0)]) eX0_addChild_48 (by decide) rfl ?_
  exact h

set_option maxRecDepth 100000 in
theorem rg_X0_addChild_50 {S : Sx} {Q : Option PV → Zm → Prop} {mem : Zm}  {r0 : Nat} {x1 x2 x3 x4 : Int} (hr0 : isRoom r0)
    (h : (((8 ≤ x4) → ((in32 ((mem r0 7) + 1)) ∧ Q (some (Iq x3)) (mup mem r0 7 ((mem r0 7) + 1)))) ∧ (¬ (8 ≤ x4) → ((in32 (x3 * 8)) ∧ (in32 ((x3 * 8) + x4)) ∧ (0 ≤ (x3 * 8) + x4 ∧ (x3 * 8) + x4 < 64) ∧ (in32 (x4 + 1)) ∧ PW S mX0_addChild Q 50 [some (Aq r0), some (Iq x1), some (Iq x2), some (Iq x3), some (Iq (x4 + 1))] [] (mup mem (r0 + 3) ((x3 * 8) + x4).toNat (-1)))))) :
    PW S mX0_addChild Q 50 [some (Aq r0), some (Iq x1), some (Iq x2), some (Iq x3), some (Iq x4)] [] mem := by
  refine pw_iload eX0_addChild_50 rfl ?_
  refine pw_bipush eX0_addChild_52 ⟨by decide, by decide⟩ (by decide) ?_
  refine pw_icmp_ge eX0_addChild_54 (fun c1 => ?_) (fun c1 => ?_)
  · have h := h.1 c1
    refine pw_aload_n eX0_addChild_76 rfl rfl ?_
    refine pw_dup eX0_addChild_77 rfl ?_
    refine gf_RX0_34 rfl eX0_addChild_78 (shR hr0) ?_
    refine pw_iconst eX0_addChild_81 ⟨by decide, by decide⟩ ?_
    obtain ⟨o2, h⟩ := h
    refine pw_iadd eX0_addChild_82 o2 ?_
    refine pf_RX0_34 rfl eX0_addChild_83 (shR hr0) ?_
    refine pw_iload_n eX0_addChild_86 rfl rfl ?_
    exact pw_iret eX0_addChild_87 h
  · have h := h.2 c1
    refine pw_aload_n eX0_addChild_57 rfl rfl ?_
    refine gf_RX0_18 rfl eX0_addChild_58 (shR hr0) ?_
    refine pw_iload_n eX0_addChild_61 rfl rfl ?_
    refine pw_bipush eX0_addChild_62 ⟨by decide, by decide⟩ (by decide) ?_
    obtain ⟨o3, h⟩ := h
    refine pw_imul eX0_addChild_64 o3 ?_
    refine pw_iload eX0_addChild_65 rfl ?_
    obtain ⟨o4, h⟩ := h
    refine pw_iadd eX0_addChild_67 o4 ?_
    refine pw_iconst eX0_addChild_68 ⟨by decide, by decide⟩ ?_
    obtain ⟨o5, h⟩ := h
    refine pw_iast eX0_addChild_69 (shR3 hr0) o5 ?_
    obtain ⟨o6, h⟩ := h
    refine pw_iinc (ls2 := [some (Aq r0), some (Iq x1), some (Iq x2), some (Iq x3), some (Iq (x4 + 1))]) eX0_addChild_70 rfl o6 rfl ?_
    refine pw_goto eX0_addChild_73 ?_
    exact h
set_option maxRecDepth 100000 in
theorem rg_X0_total_0 {S : Sx} {Q : Option PV → Zm → Prop} {mem : Zm}  {r0 : Nat} {x1 : Int} (hr0 : isRoom r0)
    (h : PW S mX0_total Q 4 [some (Aq r0), some (Iq x1), some (Iq 0), some (Iq 0)] [] mem) :
    PW S mX0_total Q 0 [some (Aq r0), some (Iq x1), none, none] [] mem := by
  refine pw_iconst eX0_total_0 ⟨by decide, by decide⟩ ?_
  refine pw_istore_n (ls2 := [some (Aq r0), some (Iq x1), some (Iq 0), none]) eX0_total_1 rfl (by decide) rfl ?_
  refine pw_iconst eX0_total_2 ⟨by decide, by decide⟩ ?_
  refine pw_istore_n (ls2 := [some (Aq r0), some (Iq x1), some (Iq 0), some (Iq 0)]) eX0_total_3 rfl (by decide) rfl ?_
  exact h

set_option maxRecDepth 100000 in
theorem rg_X0_total_4 {S : Sx} {Q : Option PV → Zm → Prop} {mem : Zm}  {r0 : Nat} {x1 x2 x3 : Int} (hr0 : isRoom r0)
    (h : (((mem r0 7 ≤ x3) → (Q (some (Iq x2)) mem)) ∧ (¬ (mem r0 7 ≤ x3) → ((∃ (v2 : Int) (m3 : Zm), Ct1 S mX0_fact [Aq r0, Iq x3, Iq x1] mem (some (Iq v2)) m3 ∧ ((in32 (x2 + v2)) ∧ (in32 (x3 + 1)) ∧ PW S mX0_total Q 4 [some (Aq r0), some (Iq x1), some (Iq (x2 + v2)), some (Iq (x3 + 1))] [] m3)))))) :
    PW S mX0_total Q 4 [some (Aq r0), some (Iq x1), some (Iq x2), some (Iq x3)] [] mem := by
  refine pw_iload_n eX0_total_4 rfl rfl ?_
  refine pw_aload_n eX0_total_5 rfl rfl ?_
  refine gf_RX0_34 rfl eX0_total_6 (shR hr0) ?_
  refine pw_icmp_ge eX0_total_9 (fun c1 => ?_) (fun c1 => ?_)
  · have h := h.1 c1
    refine pw_iload_n eX0_total_27 rfl rfl ?_
    exact pw_iret eX0_total_28 h
  · have h := h.2 c1
    refine pw_iload_n eX0_total_12 rfl rfl ?_
    refine pw_aload_n eX0_total_13 rfl rfl ?_
    refine pw_iload_n eX0_total_14 rfl rfl ?_
    refine pw_iload_n eX0_total_15 rfl rfl ?_
    obtain ⟨v2, m3, hc4, h⟩ := h
    refine pw_cV (z := mX0_fact) (av := [Iq x3, Iq x1]) (st := [Iq x2]) eX0_total_16 lk_RX0_59 rfl (by decide) (by decide) (shR hr0) rfl rfl (Nat.le_of_ble_eq_true rfl) rfl hc4 ?_
    show PW S mX0_total Q 19 [some (Aq r0), some (Iq x1), some (Iq x2), some (Iq x3)] [Iq v2, Iq x2] m3
    obtain ⟨o5, h⟩ := h
    refine pw_iadd eX0_total_19 o5 ?_
    refine pw_istore_n (ls2 := [some (Aq r0), some (Iq x1), some (Iq (x2 + v2)), some (Iq x3)]) eX0_total_20 rfl (by decide) rfl ?_
    obtain ⟨o6, h⟩ := h
    refine pw_iinc (ls2 := [some (Aq r0), some (Iq x1), some (Iq (x2 + v2)), some (Iq (x3 + 1))]) eX0_total_21 rfl o6 rfl ?_
    refine pw_goto eX0_total_24 ?_
    exact h
set_option maxRecDepth 100000 in
theorem rg_X0_price_0 {S : Sx} {Q : Option PV → Zm → Prop} {mem : Zm}  {r0 : Nat} {x1 : Int} (hr0 : isRoom r0)
    (h : (∃ (v1 : Int) (m2 : Zm), Ct1 S mX0_fact [Aq r0, Iq x1, Iq 0] mem (some (Iq v1)) m2 ∧ ((0 ≤ v1 ∧ v1 < 7) ∧ Q (some (Iq (tbP (v1).toNat))) m2))) :
    PW S mX0_price Q 0 [some (Aq r0), some (Iq x1)] [] mem := by
  refine pw_gsP eX0_price_0 rfl ?_
  refine pw_aload_n eX0_price_3 rfl rfl ?_
  refine pw_iload_n eX0_price_4 rfl rfl ?_
  refine pw_iconst eX0_price_5 ⟨by decide, by decide⟩ ?_
  obtain ⟨v1, m2, hc3, h⟩ := h
  refine pw_cV (z := mX0_fact) (av := [Iq x1, Iq 0]) (st := [Aq 100]) eX0_price_6 lk_RX0_59 rfl (by decide) (by decide) (shR hr0) rfl rfl (Nat.le_of_ble_eq_true rfl) rfl hc3 ?_
  show PW S mX0_price Q 9 [some (Aq r0), some (Iq x1)] [Iq v1, Aq 100] m2
  obtain ⟨o4, h⟩ := h
  refine pw_ialdP eX0_price_9 o4 ?_
  exact pw_iret eX0_price_10 h
set_option maxRecDepth 100000 in
theorem rg_X0_isLending_0 {S : Sx} {Q : Option PV → Zm → Prop} {mem : Zm}  {r0 : Nat} {x1 : Int} (hr0 : isRoom r0)
    (h : (∃ (v1 : Int) (m2 : Zm), Ct1 S mX0_fact [Aq r0, Iq x1, Iq 0] mem (some (Iq v1)) m2 ∧ ((((v1 = 4) → ((0 ≤ m2 r0 8) ∧ (((¬ (m2 r0 8) % 2 = 0) → (Q (some (Iq 0)) m2)) ∧ (¬ (¬ (m2 r0 8) % 2 = 0) → (Q (some (Iq 1)) m2))))) ∧ ((v1 = 5) → (Q (some (Iq 0)) m2)) ∧ ((v1 = 6) → ((∃ (v7 : Int) (m8 : Zm), Ct1 S mX0_fact [Aq r0, Iq x1, Iq 4] m2 (some (Iq v7)) m8 ∧ ((((20 ≤ v7) → (Q (some (Iq 0)) m8)) ∧ (¬ (20 ≤ v7) → (Q (some (Iq 1)) m8))))))) ∧ ((v1 < 4 ∨ 6 < v1) → (Q (some (Iq 1)) m2)))))) :
    PW S mX0_isLending Q 0 [some (Aq r0), some (Iq x1)] [] mem := by
  refine pw_aload_n eX0_isLending_0 rfl rfl ?_
  refine pw_iload_n eX0_isLending_1 rfl rfl ?_
  refine pw_iconst eX0_isLending_2 ⟨by decide, by decide⟩ ?_
  obtain ⟨v1, m2, hc3, h⟩ := h
  refine pw_cV (z := mX0_fact) (av := [Iq x1, Iq 0]) (st := []) eX0_isLending_3 lk_RX0_59 rfl (by decide) (by decide) (shR hr0) rfl rfl (Nat.le_of_ble_eq_true rfl) rfl hc3 ?_
  show PW S mX0_isLending Q 6 [some (Aq r0), some (Iq x1)] [Iq v1] m2
  obtain ⟨hk0, hk1, hk2, hkd⟩ := h
  refine pw_tsw (ps := [(4, 34), (5, 32), (6, 49)]) (td := 66) eX0_isLending_6 rfl (by decide) (by decide) rfl ⟨fun c4 => ?_, fun c4 => ?_, fun c4 => ?_, trivial⟩ (fun c4 => ?_)
  · have h := hk0 c4
    refine pw_aload_n eX0_isLending_34 rfl rfl ?_
    refine gf_RX0_37 rfl eX0_isLending_35 (shR hr0) ?_
    refine pw_iconst eX0_isLending_38 ⟨by decide, by decide⟩ ?_
    obtain ⟨o5, h⟩ := h
    refine pw_irem eX0_isLending_39 o5 (by decide) ?_
    refine pw_if_ne eX0_isLending_40 (fun c6 => ?_) (fun c6 => ?_)
    · have h := h.1 c6
      refine pw_iconst eX0_isLending_47 ⟨by decide, by decide⟩ ?_
      exact pw_iret eX0_isLending_48 h
    · have h := h.2 c6
      refine pw_iconst eX0_isLending_43 ⟨by decide, by decide⟩ ?_
      refine pw_goto eX0_isLending_44 ?_
      exact pw_iret eX0_isLending_48 h
  · have h := hk1 c4
    refine pw_iconst eX0_isLending_32 ⟨by decide, by decide⟩ ?_
    exact pw_iret eX0_isLending_33 h
  · have h := hk2 c4
    refine pw_aload_n eX0_isLending_49 rfl rfl ?_
    refine pw_iload_n eX0_isLending_50 rfl rfl ?_
    refine pw_iconst eX0_isLending_51 ⟨by decide, by decide⟩ ?_
    obtain ⟨v7, m8, hc9, h⟩ := h
    refine pw_cV (z := mX0_fact) (av := [Iq x1, Iq 4]) (st := []) eX0_isLending_52 lk_RX0_59 rfl (by decide) (by decide) (shR hr0) rfl rfl (Nat.le_of_ble_eq_true rfl) rfl hc9 ?_
    show PW S mX0_isLending Q 55 [some (Aq r0), some (Iq x1)] [Iq v7] m8
    refine pw_bipush eX0_isLending_55 ⟨by decide, by decide⟩ (by decide) ?_
    refine pw_icmp_ge eX0_isLending_57 (fun c10 => ?_) (fun c10 => ?_)
    · have h := h.1 c10
      refine pw_iconst eX0_isLending_64 ⟨by decide, by decide⟩ ?_
      exact pw_iret eX0_isLending_65 h
    · have h := h.2 c10
      refine pw_iconst eX0_isLending_60 ⟨by decide, by decide⟩ ?_
      refine pw_goto eX0_isLending_61 ?_
      exact pw_iret eX0_isLending_65 h
  · have h := hkd c4
    refine pw_iconst eX0_isLending_66 ⟨by decide, by decide⟩ ?_
    exact pw_iret eX0_isLending_67 h
set_option maxRecDepth 100000 in
theorem rg_X0_slipOf_0 {S : Sx} {Q : Option PV → Zm → Prop} {mem : Zm}  {r0 : Nat} {x1 x2 x3 : Int} (hr0 : isRoom r0)
    (h : (((¬ x3 = -1) → ((∃ (v2 : Int) (m3 : Zm), Ct1 S mX0_fact [Aq r0, Iq x1, Iq 0] mem (some (Iq v2)) m3 ∧ ((((v2 = 0) → (Q (some (Iq x3)) m3)) ∧ ((v2 = 1) → ((0 ≤ x2) ∧ (((¬ x2 % 4 = 0) → (Q (some (Iq x3)) m3)) ∧ (¬ (¬ x2 % 4 = 0) → (Q (some (Iq (-1))) m3))))) ∧ ((v2 = 2) → ((∃ (v8 : Int) (m9 : Zm), Ct1 S mX0_exchanged [Iq x2, Iq x3] m3 (some (Iq v8)) m9 ∧ (Q (some (Iq v8)) m9)))) ∧ ((v2 = 3) → ((∃ (v11 : Int) (m12 : Zm), Ct1 S mX0_exchanged [Iq x2, Iq x3] m3 (some (Iq v11)) m12 ∧ ((∃ (v14 : Int) (m15 : Zm), Ct1 S mX0_onesForSevens [Iq v11] m12 (some (Iq v14)) m15 ∧ (Q (some (Iq v14)) m15)))))) ∧ ((v2 = 4) → ((0 ≤ m3 r0 8) ∧ (((¬ (m3 r0 8) % 2 = 0) → (Q (some (Iq (-1))) m3)) ∧ (¬ (¬ (m3 r0 8) % 2 = 0) → ((∃ (v19 : Int) (m20 : Zm), Ct1 S mX0_exchanged [Iq x2, Iq x3] m3 (some (Iq v19)) m20 ∧ ((∃ (v22 : Int) (m23 : Zm), Ct1 S mX0_onesForSevens [Iq v19] m20 (some (Iq v22)) m23 ∧ (Q (some (Iq v22)) m23))))))))) ∧ ((v2 = 5) → (Q (some (Iq (-1))) m3)) ∧ ((v2 = 6) → ((0 ≤ x2) ∧ (((¬ x2 % 4 = 0) → (Q (some (Iq x3)) m3)) ∧ (¬ (¬ x2 % 4 = 0) → (Q (some (Iq (-1))) m3))))) ∧ ((v2 < 0 ∨ 6 < v2) → (Q (some (Iq (-1))) m3))))))) ∧ (¬ (¬ x3 = -1) → (Q (some (Iq (-1))) mem)))) :
    PW S mX0_slipOf Q 0 [some (Aq r0), some (Iq x1), some (Iq x2), some (Iq x3)] [] mem := by
  refine pw_iload_n eX0_slipOf_0 rfl rfl ?_
  refine pw_iconst eX0_slipOf_1 ⟨by decide, by decide⟩ ?_
  refine pw_icmp_ne eX0_slipOf_2 (fun c1 => ?_) (fun c1 => ?_)
  · have h := h.1 c1
    refine pw_aload_n eX0_slipOf_7 rfl rfl ?_
    refine pw_iload_n eX0_slipOf_8 rfl rfl ?_
    refine pw_iconst eX0_slipOf_9 ⟨by decide, by decide⟩ ?_
    obtain ⟨v2, m3, hc4, h⟩ := h
    refine pw_cV (z := mX0_fact) (av := [Iq x1, Iq 0]) (st := []) eX0_slipOf_10 lk_RX0_59 rfl (by decide) (by decide) (shR hr0) rfl rfl (Nat.le_of_ble_eq_true rfl) rfl hc4 ?_
    show PW S mX0_slipOf Q 13 [some (Aq r0), some (Iq x1), some (Iq x2), some (Iq x3)] [Iq v2] m3
    obtain ⟨hk0, hk1, hk2, hk3, hk4, hk5, hk6, hkd⟩ := h
    refine pw_tsw (ps := [(0, 56), (1, 58), (2, 70), (3, 76), (4, 85), (5, 107), (6, 58)]) (td := 107) eX0_slipOf_13 rfl (by decide) (by decide) rfl ⟨fun c5 => ?_, fun c5 => ?_, fun c5 => ?_, fun c5 => ?_, fun c5 => ?_, fun c5 => ?_, fun c5 => ?_, trivial⟩ (fun c5 => ?_)
    · have h := hk0 c5
      refine pw_iload_n eX0_slipOf_56 rfl rfl ?_
      exact pw_iret eX0_slipOf_57 h
    · have h := hk1 c5
      refine pw_iload_n eX0_slipOf_58 rfl rfl ?_
      refine pw_iconst eX0_slipOf_59 ⟨by decide, by decide⟩ ?_
      obtain ⟨o6, h⟩ := h
      refine pw_irem eX0_slipOf_60 o6 (by decide) ?_
      refine pw_if_ne eX0_slipOf_61 (fun c7 => ?_) (fun c7 => ?_)
      · have h := h.1 c7
        refine pw_iload_n eX0_slipOf_68 rfl rfl ?_
        exact pw_iret eX0_slipOf_69 h
      · have h := h.2 c7
        refine pw_iconst eX0_slipOf_64 ⟨by decide, by decide⟩ ?_
        refine pw_goto eX0_slipOf_65 ?_
        exact pw_iret eX0_slipOf_69 h
    · have h := hk2 c5
      refine pw_iload_n eX0_slipOf_70 rfl rfl ?_
      refine pw_iload_n eX0_slipOf_71 rfl rfl ?_
      obtain ⟨v8, m9, hc10, h⟩ := h
      refine pw_cS (z := mX0_exchanged) (av := [Iq x2, Iq x3]) (st := []) eX0_slipOf_72 lk_RX0_66 rfl (by decide) (by decide) (Nat.le_of_ble_eq_true rfl) rfl hc10 ?_
      show PW S mX0_slipOf Q 75 [some (Aq r0), some (Iq x1), some (Iq x2), some (Iq x3)] [Iq v8] m9
      exact pw_iret eX0_slipOf_75 h
    · have h := hk3 c5
      refine pw_iload_n eX0_slipOf_76 rfl rfl ?_
      refine pw_iload_n eX0_slipOf_77 rfl rfl ?_
      obtain ⟨v11, m12, hc13, h⟩ := h
      refine pw_cS (z := mX0_exchanged) (av := [Iq x2, Iq x3]) (st := []) eX0_slipOf_78 lk_RX0_66 rfl (by decide) (by decide) (Nat.le_of_ble_eq_true rfl) rfl hc13 ?_
      show PW S mX0_slipOf Q 81 [some (Aq r0), some (Iq x1), some (Iq x2), some (Iq x3)] [Iq v11] m12
      obtain ⟨v14, m15, hc16, h⟩ := h
      refine pw_cS (z := mX0_onesForSevens) (av := [Iq v11]) (st := []) eX0_slipOf_81 lk_RX0_69 rfl (by decide) (by decide) (Nat.le_of_ble_eq_true rfl) rfl hc16 ?_
      show PW S mX0_slipOf Q 84 [some (Aq r0), some (Iq x1), some (Iq x2), some (Iq x3)] [Iq v14] m15
      exact pw_iret eX0_slipOf_84 h
    · have h := hk4 c5
      refine pw_aload_n eX0_slipOf_85 rfl rfl ?_
      refine gf_RX0_37 rfl eX0_slipOf_86 (shR hr0) ?_
      refine pw_iconst eX0_slipOf_89 ⟨by decide, by decide⟩ ?_
      obtain ⟨o17, h⟩ := h
      refine pw_irem eX0_slipOf_90 o17 (by decide) ?_
      refine pw_if_ne eX0_slipOf_91 (fun c18 => ?_) (fun c18 => ?_)
      · have h := h.1 c18
        refine pw_iconst eX0_slipOf_105 ⟨by decide, by decide⟩ ?_
        exact pw_iret eX0_slipOf_106 h
      · have h := h.2 c18
        refine pw_iload_n eX0_slipOf_94 rfl rfl ?_
        refine pw_iload_n eX0_slipOf_95 rfl rfl ?_
        obtain ⟨v19, m20, hc21, h⟩ := h
        refine pw_cS (z := mX0_exchanged) (av := [Iq x2, Iq x3]) (st := []) eX0_slipOf_96 lk_RX0_66 rfl (by decide) (by decide) (Nat.le_of_ble_eq_true rfl) rfl hc21 ?_
        show PW S mX0_slipOf Q 99 [some (Aq r0), some (Iq x1), some (Iq x2), some (Iq x3)] [Iq v19] m20
        obtain ⟨v22, m23, hc24, h⟩ := h
        refine pw_cS (z := mX0_onesForSevens) (av := [Iq v19]) (st := []) eX0_slipOf_99 lk_RX0_69 rfl (by decide) (by decide) (Nat.le_of_ble_eq_true rfl) rfl hc24 ?_
        show PW S mX0_slipOf Q 102 [some (Aq r0), some (Iq x1), some (Iq x2), some (Iq x3)] [Iq v22] m23
        refine pw_goto eX0_slipOf_102 ?_
        exact pw_iret eX0_slipOf_106 h
    · have h := hk5 c5
      refine pw_iconst eX0_slipOf_107 ⟨by decide, by decide⟩ ?_
      exact pw_iret eX0_slipOf_108 h
    · have h := hk6 c5
      refine pw_iload_n eX0_slipOf_58 rfl rfl ?_
      refine pw_iconst eX0_slipOf_59 ⟨by decide, by decide⟩ ?_
      obtain ⟨o25, h⟩ := h
      refine pw_irem eX0_slipOf_60 o25 (by decide) ?_
      refine pw_if_ne eX0_slipOf_61 (fun c26 => ?_) (fun c26 => ?_)
      · have h := h.1 c26
        refine pw_iload_n eX0_slipOf_68 rfl rfl ?_
        exact pw_iret eX0_slipOf_69 h
      · have h := h.2 c26
        refine pw_iconst eX0_slipOf_64 ⟨by decide, by decide⟩ ?_
        refine pw_goto eX0_slipOf_65 ?_
        exact pw_iret eX0_slipOf_69 h
    · have h := hkd c5
      refine pw_iconst eX0_slipOf_107 ⟨by decide, by decide⟩ ?_
      exact pw_iret eX0_slipOf_108 h
  · have h := h.2 c1
    refine pw_iconst eX0_slipOf_5 ⟨by decide, by decide⟩ ?_
    exact pw_iret eX0_slipOf_6 h
set_option maxRecDepth 100000 in
theorem rg_X0_exchanged_0 {S : Sx} {Q : Option PV → Zm → Prop} {mem : Zm}   {x0 x1 : Int} 
    (h : (0 ≤ x0) ∧ (((¬ x0 % 2 = 0) → ((0 ≤ x1) ∧ (in32 ((x1 % 10) * 10)) ∧ (0 ≤ x1) ∧ (in32 (((x1 % 10) * 10) + (x1 / 10))) ∧ Q (some (Iq (((x1 % 10) * 10) + (x1 / 10)))) mem)) ∧ (¬ (¬ x0 % 2 = 0) → (Q (some (Iq x1)) mem)))) :
    PW S mX0_exchanged Q 0 [some (Iq x0), some (Iq x1)] [] mem := by
  refine pw_iload_n eX0_exchanged_0 rfl rfl ?_
  refine pw_iconst eX0_exchanged_1 ⟨by decide, by decide⟩ ?_
  obtain ⟨o1, h⟩ := h
  refine pw_irem eX0_exchanged_2 o1 (by decide) ?_
  refine pw_if_ne eX0_exchanged_3 (fun c2 => ?_) (fun c2 => ?_)
  · have h := h.1 c2
    refine pw_iload_n eX0_exchanged_10 rfl rfl ?_
    refine pw_bipush eX0_exchanged_11 ⟨by decide, by decide⟩ (by decide) ?_
    obtain ⟨o3, h⟩ := h
    refine pw_irem eX0_exchanged_13 o3 (by decide) ?_
    refine pw_bipush eX0_exchanged_14 ⟨by decide, by decide⟩ (by decide) ?_
    obtain ⟨o4, h⟩ := h
    refine pw_imul eX0_exchanged_16 o4 ?_
    refine pw_iload_n eX0_exchanged_17 rfl rfl ?_
    refine pw_bipush eX0_exchanged_18 ⟨by decide, by decide⟩ (by decide) ?_
    obtain ⟨o5, h⟩ := h
    refine pw_idiv eX0_exchanged_20 o5 (by decide) ?_
    obtain ⟨o6, h⟩ := h
    refine pw_iadd eX0_exchanged_21 o6 ?_
    exact pw_iret eX0_exchanged_22 h
  · have h := h.2 c2
    refine pw_iload_n eX0_exchanged_6 rfl rfl ?_
    refine pw_goto eX0_exchanged_7 ?_
    exact pw_iret eX0_exchanged_22 h
set_option maxRecDepth 100000 in
theorem rg_X0_onesForSevens_0 {S : Sx} {Q : Option PV → Zm → Prop} {mem : Zm}   {x0 : Int} 
    (h : (0 ≤ x0) ∧ (((¬ x0 / 10 = 7) → ((0 ≤ x0) ∧ (0 ≤ x0) ∧ (((¬ x0 % 10 = 7) → ((0 ≤ x0) ∧ (in32 ((x0 / 10) * 10)) ∧ (in32 (((x0 / 10) * 10) + (x0 % 10))) ∧ Q (some (Iq (((x0 / 10) * 10) + (x0 % 10)))) mem)) ∧ (¬ (¬ x0 % 10 = 7) → ((in32 ((x0 / 10) * 10)) ∧ (in32 (((x0 / 10) * 10) + 1)) ∧ Q (some (Iq (((x0 / 10) * 10) + 1))) mem))))) ∧ (¬ (¬ x0 / 10 = 7) → ((0 ≤ x0) ∧ (((¬ x0 % 10 = 7) → ((0 ≤ x0) ∧ (in32 ((1 * 10) + (x0 % 10))) ∧ Q (some (Iq ((1 * 10) + (x0 % 10)))) mem)) ∧ (¬ (¬ x0 % 10 = 7) → (Q (some (Iq ((1 * 10) + 1))) mem))))))) :
    PW S mX0_onesForSevens Q 0 [some (Iq x0), none, none] [] mem := by
  refine pw_iload_n eX0_onesForSevens_0 rfl rfl ?_
  refine pw_bipush eX0_onesForSevens_1 ⟨by decide, by decide⟩ (by decide) ?_
  obtain ⟨o1, h⟩ := h
  refine pw_idiv eX0_onesForSevens_3 o1 (by decide) ?_
  refine pw_bipush eX0_onesForSevens_4 ⟨by decide, by decide⟩ (by decide) ?_
  refine pw_icmp_ne eX0_onesForSevens_6 (fun c2 => ?_) (fun c2 => ?_)
  · have h := h.1 c2
    refine pw_iload_n eX0_onesForSevens_13 rfl rfl ?_
    refine pw_bipush eX0_onesForSevens_14 ⟨by decide, by decide⟩ (by decide) ?_
    obtain ⟨o3, h⟩ := h
    refine pw_idiv eX0_onesForSevens_16 o3 (by decide) ?_
    refine pw_istore_n (ls2 := [some (Iq x0), some (Iq (x0 / 10)), none]) eX0_onesForSevens_17 rfl (by decide) rfl ?_
    refine pw_iload_n eX0_onesForSevens_18 rfl rfl ?_
    refine pw_bipush eX0_onesForSevens_19 ⟨by decide, by decide⟩ (by decide) ?_
    obtain ⟨o4, h⟩ := h
    refine pw_irem eX0_onesForSevens_21 o4 (by decide) ?_
    refine pw_bipush eX0_onesForSevens_22 ⟨by decide, by decide⟩ (by decide) ?_
    refine pw_icmp_ne eX0_onesForSevens_24 (fun c5 => ?_) (fun c5 => ?_)
    · have h := h.1 c5
      refine pw_iload_n eX0_onesForSevens_31 rfl rfl ?_
      refine pw_bipush eX0_onesForSevens_32 ⟨by decide, by decide⟩ (by decide) ?_
      obtain ⟨o6, h⟩ := h
      refine pw_irem eX0_onesForSevens_34 o6 (by decide) ?_
      refine pw_istore_n (ls2 := [some (Iq x0), some (Iq (x0 / 10)), some (Iq (x0 % 10))]) eX0_onesForSevens_35 rfl (by decide) rfl ?_
      refine pw_iload_n eX0_onesForSevens_36 rfl rfl ?_
      refine pw_bipush eX0_onesForSevens_37 ⟨by decide, by decide⟩ (by decide) ?_
      obtain ⟨o7, h⟩ := h
      refine pw_imul eX0_onesForSevens_39 o7 ?_
      refine pw_iload_n eX0_onesForSevens_40 rfl rfl ?_
      obtain ⟨o8, h⟩ := h
      refine pw_iadd eX0_onesForSevens_41 o8 ?_
      exact pw_iret eX0_onesForSevens_42 h
    · have h := h.2 c5
      refine pw_iconst eX0_onesForSevens_27 ⟨by decide, by decide⟩ ?_
      refine pw_goto eX0_onesForSevens_28 ?_
      refine pw_istore_n (ls2 := [some (Iq x0), some (Iq (x0 / 10)), some (Iq 1)]) eX0_onesForSevens_35 rfl (by decide) rfl ?_
      refine pw_iload_n eX0_onesForSevens_36 rfl rfl ?_
      refine pw_bipush eX0_onesForSevens_37 ⟨by decide, by decide⟩ (by decide) ?_
      obtain ⟨o9, h⟩ := h
      refine pw_imul eX0_onesForSevens_39 o9 ?_
      refine pw_iload_n eX0_onesForSevens_40 rfl rfl ?_
      obtain ⟨o10, h⟩ := h
      refine pw_iadd eX0_onesForSevens_41 o10 ?_
      exact pw_iret eX0_onesForSevens_42 h
  · have h := h.2 c2
    refine pw_iconst eX0_onesForSevens_9 ⟨by decide, by decide⟩ ?_
    refine pw_goto eX0_onesForSevens_10 ?_
    refine pw_istore_n (ls2 := [some (Iq x0), some (Iq 1), none]) eX0_onesForSevens_17 rfl (by decide) rfl ?_
    refine pw_iload_n eX0_onesForSevens_18 rfl rfl ?_
    refine pw_bipush eX0_onesForSevens_19 ⟨by decide, by decide⟩ (by decide) ?_
    obtain ⟨o11, h⟩ := h
    refine pw_irem eX0_onesForSevens_21 o11 (by decide) ?_
    refine pw_bipush eX0_onesForSevens_22 ⟨by decide, by decide⟩ (by decide) ?_
    refine pw_icmp_ne eX0_onesForSevens_24 (fun c12 => ?_) (fun c12 => ?_)
    · have h := h.1 c12
      refine pw_iload_n eX0_onesForSevens_31 rfl rfl ?_
      refine pw_bipush eX0_onesForSevens_32 ⟨by decide, by decide⟩ (by decide) ?_
      obtain ⟨o13, h⟩ := h
      refine pw_irem eX0_onesForSevens_34 o13 (by decide) ?_
      refine pw_istore_n (ls2 := [some (Iq x0), some (Iq 1), some (Iq (x0 % 10))]) eX0_onesForSevens_35 rfl (by decide) rfl ?_
      refine pw_iload_n eX0_onesForSevens_36 rfl rfl ?_
      refine pw_bipush eX0_onesForSevens_37 ⟨by decide, by decide⟩ (by decide) ?_
      refine pw_imul eX0_onesForSevens_39 (by decide) ?_
      refine pw_iload_n eX0_onesForSevens_40 rfl rfl ?_
      obtain ⟨o14, h⟩ := h
      refine pw_iadd eX0_onesForSevens_41 o14 ?_
      exact pw_iret eX0_onesForSevens_42 h
    · have h := h.2 c12
      refine pw_iconst eX0_onesForSevens_27 ⟨by decide, by decide⟩ ?_
      refine pw_goto eX0_onesForSevens_28 ?_
      refine pw_istore_n (ls2 := [some (Iq x0), some (Iq 1), some (Iq 1)]) eX0_onesForSevens_35 rfl (by decide) rfl ?_
      refine pw_iload_n eX0_onesForSevens_36 rfl rfl ?_
      refine pw_bipush eX0_onesForSevens_37 ⟨by decide, by decide⟩ (by decide) ?_
      refine pw_imul eX0_onesForSevens_39 (by decide) ?_
      refine pw_iload_n eX0_onesForSevens_40 rfl rfl ?_
      refine pw_iadd eX0_onesForSevens_41 (by decide) ?_
      exact pw_iret eX0_onesForSevens_42 h
set_option maxRecDepth 100000 in
theorem rg_X0_passDays_0 {S : Sx} {Q : Option PV → Zm → Prop} {mem : Zm}  {r0 : Nat} {x1 : Int} (hr0 : isRoom r0)
    (h : PW S mX0_passDays Q 2 [some (Aq r0), some (Iq x1), some (Iq 0), none] [] mem) :
    PW S mX0_passDays Q 0 [some (Aq r0), some (Iq x1), none, none] [] mem := by
  refine pw_iconst eX0_passDays_0 ⟨by decide, by decide⟩ ?_
  refine pw_istore_n (ls2 := [some (Aq r0), some (Iq x1), some (Iq 0), none]) eX0_passDays_1 rfl (by decide) rfl ?_
  exact h

set_option maxRecDepth 100000 in
theorem rg_X0_passDays_2 {S : Sx} {Q : Option PV → Zm → Prop} {mem : Zm}  {r0 : Nat} {x1 x2 : Int} (hr0 : isRoom r0)
    (h : (((x1 ≤ x2) → (Q none mem)) ∧ (¬ (x1 ≤ x2) → (PW S mX0_passDays Q 9 [some (Aq r0), some (Iq x1), some (Iq x2), some (Iq 0)] [] mem)))) :
    PW S mX0_passDays Q 2 [some (Aq r0), some (Iq x1), some (Iq x2), none] [] mem := by
  refine pw_iload_n eX0_passDays_2 rfl rfl ?_
  refine pw_iload_n eX0_passDays_3 rfl rfl ?_
  refine pw_icmp_ge eX0_passDays_4 (fun c1 => ?_) (fun c1 => ?_)
  · have h := h.1 c1
    exact pw_vret eX0_passDays_42 h
  · have h := h.2 c1
    refine pw_iconst eX0_passDays_7 ⟨by decide, by decide⟩ ?_
    refine pw_istore_n (ls2 := [some (Aq r0), some (Iq x1), some (Iq x2), some (Iq 0)]) eX0_passDays_8 rfl (by decide) rfl ?_
    exact h

set_option maxRecDepth 100000 in
theorem rg_X0_passDays_9 {S : Sx} {Q : Option PV → Zm → Prop} {mem : Zm}  {r0 : Nat} {x1 x2 x3 : Int} (hr0 : isRoom r0)
    (h : (((mem r0 7 ≤ x3) → ((∃ (m3 : Zm), Ct1 S mX0_markAnswers [Aq r0] mem none m3 ∧ ((∃ (m6 : Zm), Ct1 S mX0_turnDay [Aq r0] m3 none m6 ∧ ((in32 (x2 + 1)) ∧ PW S mX0_passDays Q 2 [some (Aq r0), some (Iq x1), some (Iq (x2 + 1)), none] [] m6)))))) ∧ (¬ (mem r0 7 ≤ x3) → ((∃ (m10 : Zm), Ct1 S mX0_writeAnswers [Aq r0, Iq x3] mem none m10 ∧ ((in32 (x3 + 1)) ∧ PW S mX0_passDays Q 9 [some (Aq r0), some (Iq x1), some (Iq x2), some (Iq (x3 + 1))] [] m10)))))) :
    PW S mX0_passDays Q 9 [some (Aq r0), some (Iq x1), some (Iq x2), some (Iq x3)] [] mem := by
  refine pw_iload_n eX0_passDays_9 rfl rfl ?_
  refine pw_aload_n eX0_passDays_10 rfl rfl ?_
  refine gf_RX0_34 rfl eX0_passDays_11 (shR hr0) ?_
  refine pw_icmp_ge eX0_passDays_14 (fun c1 => ?_) (fun c1 => ?_)
  · have h := h.1 c1
    refine pw_aload_n eX0_passDays_28 rfl rfl ?_
    obtain ⟨m3, hc4, h⟩ := h
    refine pw_cV (z := mX0_markAnswers) (av := []) (st := []) eX0_passDays_29 lk_RX0_77 rfl (by decide) (by decide) (shR hr0) rfl rfl (Nat.le_of_ble_eq_true rfl) rfl hc4 ?_
    show PW S mX0_passDays Q 32 [some (Aq r0), some (Iq x1), some (Iq x2), some (Iq x3)] [] m3
    refine pw_aload_n eX0_passDays_32 rfl rfl ?_
    obtain ⟨m6, hc7, h⟩ := h
    refine pw_cV (z := mX0_turnDay) (av := []) (st := []) eX0_passDays_33 lk_RX0_80 rfl (by decide) (by decide) (shR hr0) rfl rfl (Nat.le_of_ble_eq_true rfl) rfl hc7 ?_
    show PW S mX0_passDays Q 36 [some (Aq r0), some (Iq x1), some (Iq x2), some (Iq x3)] [] m6
    obtain ⟨o8, h⟩ := h
    refine pw_iinc (ls2 := [some (Aq r0), some (Iq x1), some (Iq (x2 + 1)), some (Iq x3)]) eX0_passDays_36 rfl o8 rfl ?_
    refine pw_goto eX0_passDays_39 ?_
    exact pw_drop (bs := [true, true, true, false]) h
  · have h := h.2 c1
    refine pw_aload_n eX0_passDays_17 rfl rfl ?_
    refine pw_iload_n eX0_passDays_18 rfl rfl ?_
    obtain ⟨m10, hc11, h⟩ := h
    refine pw_cV (z := mX0_writeAnswers) (av := [Iq x3]) (st := []) eX0_passDays_19 lk_RX0_73 rfl (by decide) (by decide) (shR hr0) rfl rfl (Nat.le_of_ble_eq_true rfl) rfl hc11 ?_
    show PW S mX0_passDays Q 22 [some (Aq r0), some (Iq x1), some (Iq x2), some (Iq x3)] [] m10
    obtain ⟨o12, h⟩ := h
    refine pw_iinc (ls2 := [some (Aq r0), some (Iq x1), some (Iq x2), some (Iq (x3 + 1))]) eX0_passDays_22 rfl o12 rfl ?_
    refine pw_goto eX0_passDays_25 ?_
    exact h
set_option maxRecDepth 100000 in
theorem rg_X0_writeAnswers_0 {S : Sx} {Q : Option PV → Zm → Prop} {mem : Zm}  {r0 : Nat} {x1 : Int} (hr0 : isRoom r0)
    (h : (∃ (v1 : Int) (m2 : Zm), Ct1 S mX0_sourceToday [Aq r0, Iq x1] mem (some (Iq v1)) m2 ∧ ((∃ (v4 : Int) (m5 : Zm), Ct1 S mX0_fact [Aq r0, Iq x1, Iq 1] m2 (some (Iq v4)) m5 ∧ (PW S mX0_writeAnswers Q 22 [some (Aq r0), some (Iq x1), some (Iq v1), some (Iq v4), some (Iq 0), some (Iq 0), some (Iq 0), none] [] m5))))) :
    PW S mX0_writeAnswers Q 0 [some (Aq r0), some (Iq x1), none, none, none, none, none, none] [] mem := by
  refine pw_aload_n eX0_writeAnswers_0 rfl rfl ?_
  refine pw_iload_n eX0_writeAnswers_1 rfl rfl ?_
  obtain ⟨v1, m2, hc3, h⟩ := h
  refine pw_cV (z := mX0_sourceToday) (av := [Iq x1]) (st := []) eX0_writeAnswers_2 lk_RX0_83 rfl (by decide) (by decide) (shR hr0) rfl rfl (Nat.le_of_ble_eq_true rfl) rfl hc3 ?_
  show PW S mX0_writeAnswers Q 5 [some (Aq r0), some (Iq x1), none, none, none, none, none, none] [Iq v1] m2
  refine pw_istore_n (ls2 := [some (Aq r0), some (Iq x1), some (Iq v1), none, none, none, none, none]) eX0_writeAnswers_5 rfl (by decide) rfl ?_
  refine pw_aload_n eX0_writeAnswers_6 rfl rfl ?_
  refine pw_iload_n eX0_writeAnswers_7 rfl rfl ?_
  refine pw_iconst eX0_writeAnswers_8 ⟨by decide, by decide⟩ ?_
  obtain ⟨v4, m5, hc6, h⟩ := h
  refine pw_cV (z := mX0_fact) (av := [Iq x1, Iq 1]) (st := []) eX0_writeAnswers_9 lk_RX0_59 rfl (by decide) (by decide) (shR hr0) rfl rfl (Nat.le_of_ble_eq_true rfl) rfl hc6 ?_
  show PW S mX0_writeAnswers Q 12 [some (Aq r0), some (Iq x1), some (Iq v1), none, none, none, none, none] [Iq v4] m5
  refine pw_istore_n (ls2 := [some (Aq r0), some (Iq x1), some (Iq v1), some (Iq v4), none, none, none, none]) eX0_writeAnswers_12 rfl (by decide) rfl ?_
  refine pw_iconst eX0_writeAnswers_13 ⟨by decide, by decide⟩ ?_
  refine pw_istore (ls2 := [some (Aq r0), some (Iq x1), some (Iq v1), some (Iq v4), some (Iq 0), none, none, none]) eX0_writeAnswers_14 (by decide) rfl ?_
  refine pw_iconst eX0_writeAnswers_16 ⟨by decide, by decide⟩ ?_
  refine pw_istore (ls2 := [some (Aq r0), some (Iq x1), some (Iq v1), some (Iq v4), some (Iq 0), some (Iq 0), none, none]) eX0_writeAnswers_17 (by decide) rfl ?_
  refine pw_iconst eX0_writeAnswers_19 ⟨by decide, by decide⟩ ?_
  refine pw_istore (ls2 := [some (Aq r0), some (Iq x1), some (Iq v1), some (Iq v4), some (Iq 0), some (Iq 0), some (Iq 0), none]) eX0_writeAnswers_20 (by decide) rfl ?_
  exact h

set_option maxRecDepth 100000 in
theorem rg_X0_writeAnswers_22 {S : Sx} {Q : Option PV → Zm → Prop} {mem : Zm}  {r0 : Nat} {x1 x2 x3 x4 x5 x6 : Int} (hr0 : isRoom r0)
    (h : (((8 ≤ x6) → ((0 ≤ x1 ∧ x1 < 8) ∧ (0 ≤ x1 ∧ x1 < 8) ∧ (((x2 = -1) → (Q none (mup (mup mem (r0 + 5) (x1).toNat x4) (r0 + 6) (x1).toNat x5))) ∧ (¬ (x2 = -1) → ((∃ (m6 : Zm), Ct1 S mX0_payFor [Aq r0, Iq x1, Iq x2] (mup (mup mem (r0 + 5) (x1).toNat x4) (r0 + 6) (x1).toNat x5) none m6 ∧ (Q none m6))))))) ∧ (¬ (8 ≤ x6) → ((((¬ bAnd (bShr x3 x6) 1 = 1) → ((((x2 = -1) → ((in32 (x1 * 8)) ∧ (in32 ((x1 * 8) + x6)) ∧ (0 ≤ (x1 * 8) + x6 ∧ (x1 * 8) + x6 < 64) ∧ (0 ≤ x6 ∧ x6 < 8) ∧ (((¬ -1 = (mup mem (r0 + 3) ((x1 * 8) + x6).toNat (-1)) (r0 + 1) (x6).toNat) → ((in32 (x6 + 1)) ∧ PW S mX0_writeAnswers Q 22 [some (Aq r0), some (Iq x1), some (Iq x2), some (Iq x3), some (Iq x4), some (Iq x5), some (Iq (x6 + 1)), none] [] (mup mem (r0 + 3) ((x1 * 8) + x6).toNat (-1)))) ∧ (¬ (¬ -1 = (mup mem (r0 + 3) ((x1 * 8) + x6).toNat (-1)) (r0 + 1) (x6).toNat) → ((in32 (x5 + 1)) ∧ (in32 (x6 + 1)) ∧ PW S mX0_writeAnswers Q 22 [some (Aq r0), some (Iq x1), some (Iq x2), some (Iq x3), some (Iq x4), some (Iq (x5 + 1)), some (Iq (x6 + 1)), none] [] (mup mem (r0 + 3) ((x1 * 8) + x6).toNat (-1))))))) ∧ (¬ (x2 = -1) → ((∃ (v19 : Int) (m20 : Zm), Ct1 S mX0_answerOf [Aq r0, Iq x2, Iq x6] mem (some (Iq v19)) m20 ∧ ((∃ (v22 : Int) (m23 : Zm), Ct1 S mX0_slipOf [Aq r0, Iq x1, Iq x6, Iq v19] m20 (some (Iq v22)) m23 ∧ ((in32 (x1 * 8)) ∧ (in32 ((x1 * 8) + x6)) ∧ (0 ≤ (x1 * 8) + x6 ∧ (x1 * 8) + x6 < 64) ∧ (0 ≤ x6 ∧ x6 < 8) ∧ (((¬ v22 = (mup m23 (r0 + 3) ((x1 * 8) + x6).toNat v22) (r0 + 1) (x6).toNat) → ((((v22 = -1) → ((in32 (x6 + 1)) ∧ PW S mX0_writeAnswers Q 22 [some (Aq r0), some (Iq x1), some (Iq x2), some (Iq x3), some (Iq x4), some (Iq x5), some (Iq (x6 + 1)), none] [] (mup m23 (r0 + 3) ((x1 * 8) + x6).toNat v22))) ∧ (¬ (v22 = -1) → ((in32 (x6 + 1)) ∧ PW S mX0_writeAnswers Q 22 [some (Aq r0), some (Iq x1), some (Iq x2), some (Iq x3), some (Iq (bOr x4 (bShl 1 x6))), some (Iq x5), some (Iq (x6 + 1)), none] [] (mup m23 (r0 + 3) ((x1 * 8) + x6).toNat v22)))))) ∧ (¬ (¬ v22 = (mup m23 (r0 + 3) ((x1 * 8) + x6).toNat v22) (r0 + 1) (x6).toNat) → ((in32 (x5 + 1)) ∧ (in32 (x6 + 1)) ∧ PW S mX0_writeAnswers Q 22 [some (Aq r0), some (Iq x1), some (Iq x2), some (Iq x3), some (Iq x4), some (Iq (x5 + 1)), some (Iq (x6 + 1)), none] [] (mup m23 (r0 + 3) ((x1 * 8) + x6).toNat v22))))))))))))) ∧ (¬ (¬ bAnd (bShr x3 x6) 1 = 1) → ((0 ≤ x6 ∧ x6 < 8) ∧ (in32 (x1 * 8)) ∧ (in32 ((x1 * 8) + x6)) ∧ (0 ≤ (x1 * 8) + x6 ∧ (x1 * 8) + x6 < 64) ∧ (0 ≤ x6 ∧ x6 < 8) ∧ (((¬ mem (r0 + 1) (x6).toNat = (mup mem (r0 + 3) ((x1 * 8) + x6).toNat (mem (r0 + 1) (x6).toNat)) (r0 + 1) (x6).toNat) → ((((mem (r0 + 1) (x6).toNat = -1) → ((in32 (x6 + 1)) ∧ PW S mX0_writeAnswers Q 22 [some (Aq r0), some (Iq x1), some (Iq x2), some (Iq x3), some (Iq x4), some (Iq x5), some (Iq (x6 + 1)), none] [] (mup mem (r0 + 3) ((x1 * 8) + x6).toNat (mem (r0 + 1) (x6).toNat)))) ∧ (¬ (mem (r0 + 1) (x6).toNat = -1) → ((in32 (x6 + 1)) ∧ PW S mX0_writeAnswers Q 22 [some (Aq r0), some (Iq x1), some (Iq x2), some (Iq x3), some (Iq (bOr x4 (bShl 1 x6))), some (Iq x5), some (Iq (x6 + 1)), none] [] (mup mem (r0 + 3) ((x1 * 8) + x6).toNat (mem (r0 + 1) (x6).toNat))))))) ∧ (¬ (¬ mem (r0 + 1) (x6).toNat = (mup mem (r0 + 3) ((x1 * 8) + x6).toNat (mem (r0 + 1) (x6).toNat)) (r0 + 1) (x6).toNat) → ((in32 (x5 + 1)) ∧ (in32 (x6 + 1)) ∧ PW S mX0_writeAnswers Q 22 [some (Aq r0), some (Iq x1), some (Iq x2), some (Iq x3), some (Iq x4), some (Iq (x5 + 1)), some (Iq (x6 + 1)), none] [] (mup mem (r0 + 3) ((x1 * 8) + x6).toNat (mem (r0 + 1) (x6).toNat)))))))))))) :
    PW S mX0_writeAnswers Q 22 [some (Aq r0), some (Iq x1), some (Iq x2), some (Iq x3), some (Iq x4), some (Iq x5), some (Iq x6), none] [] mem := by
  refine pw_iload eX0_writeAnswers_22 rfl ?_
  refine pw_bipush eX0_writeAnswers_24 ⟨by decide, by decide⟩ (by decide) ?_
  refine pw_icmp_ge eX0_writeAnswers_26 (fun c1 => ?_) (fun c1 => ?_)
  · have h := h.1 c1
    refine pw_aload_n eX0_writeAnswers_128 rfl rfl ?_
    refine gf_RX0_24 rfl eX0_writeAnswers_129 (shR hr0) ?_
    refine pw_iload_n eX0_writeAnswers_132 rfl rfl ?_
    refine pw_iload eX0_writeAnswers_133 rfl ?_
    obtain ⟨o2, h⟩ := h
    refine pw_iast eX0_writeAnswers_135 (shR5 hr0) o2 ?_
    refine pw_aload_n eX0_writeAnswers_136 rfl rfl ?_
    refine gf_RX0_27 rfl eX0_writeAnswers_137 (shR hr0) ?_
    refine pw_iload_n eX0_writeAnswers_140 rfl rfl ?_
    refine pw_iload eX0_writeAnswers_141 rfl ?_
    obtain ⟨o3, h⟩ := h
    refine pw_iast eX0_writeAnswers_143 (shR6 hr0) o3 ?_
    refine pw_iload_n eX0_writeAnswers_144 rfl rfl ?_
    refine pw_iconst eX0_writeAnswers_145 ⟨by decide, by decide⟩ ?_
    refine pw_icmp_eq eX0_writeAnswers_146 (fun c4 => ?_) (fun c4 => ?_)
    · have h := h.1 c4
      exact pw_vret eX0_writeAnswers_155 h
    · have h := h.2 c4
      refine pw_aload_n eX0_writeAnswers_149 rfl rfl ?_
      refine pw_iload_n eX0_writeAnswers_150 rfl rfl ?_
      refine pw_iload_n eX0_writeAnswers_151 rfl rfl ?_
      obtain ⟨m6, hc7, h⟩ := h
      refine pw_cV (z := mX0_payFor) (av := [Iq x1, Iq x2]) (st := []) eX0_writeAnswers_152 lk_RX0_93 rfl (by decide) (by decide) (shR hr0) rfl rfl (Nat.le_of_ble_eq_true rfl) rfl hc7 ?_
      show PW S mX0_writeAnswers Q 155 [some (Aq r0), some (Iq x1), some (Iq x2), some (Iq x3), some (Iq x4), some (Iq x5), some (Iq x6), none] [] m6
      exact pw_vret eX0_writeAnswers_155 h
  · have h := h.2 c1
    refine pw_iconst eX0_writeAnswers_29 ⟨by decide, by decide⟩ ?_
    refine pw_istore (ls2 := [some (Aq r0), some (Iq x1), some (Iq x2), some (Iq x3), some (Iq x4), some (Iq x5), some (Iq x6), some (Iq (-1))]) eX0_writeAnswers_30 (by decide) rfl ?_
    refine pw_iload_n eX0_writeAnswers_32 rfl rfl ?_
    refine pw_iload eX0_writeAnswers_33 rfl ?_
    refine pw_ishr eX0_writeAnswers_35 ?_
    refine pw_iconst eX0_writeAnswers_36 ⟨by decide, by decide⟩ ?_
    refine pw_iand eX0_writeAnswers_37 ?_
    refine pw_iconst eX0_writeAnswers_38 ⟨by decide, by decide⟩ ?_
    refine pw_icmp_ne eX0_writeAnswers_39 (fun c8 => ?_) (fun c8 => ?_)
    · have h := h.1 c8
      refine pw_iload_n eX0_writeAnswers_54 rfl rfl ?_
      refine pw_iconst eX0_writeAnswers_55 ⟨by decide, by decide⟩ ?_
      refine pw_icmp_eq eX0_writeAnswers_56 (fun c9 => ?_) (fun c9 => ?_)
      · have h := h.1 c9
        refine pw_aload_n eX0_writeAnswers_75 rfl rfl ?_
        refine gf_RX0_18 rfl eX0_writeAnswers_76 (shR hr0) ?_
        refine pw_iload_n eX0_writeAnswers_79 rfl rfl ?_
        refine pw_bipush eX0_writeAnswers_80 ⟨by decide, by decide⟩ (by decide) ?_
        obtain ⟨o10, h⟩ := h
        refine pw_imul eX0_writeAnswers_82 o10 ?_
        refine pw_iload eX0_writeAnswers_83 rfl ?_
        obtain ⟨o11, h⟩ := h
        refine pw_iadd eX0_writeAnswers_85 o11 ?_
        refine pw_iload eX0_writeAnswers_86 rfl ?_
        obtain ⟨o12, h⟩ := h
        refine pw_iast eX0_writeAnswers_88 (shR3 hr0) o12 ?_
        refine pw_iload eX0_writeAnswers_89 rfl ?_
        refine pw_aload_n eX0_writeAnswers_91 rfl rfl ?_
        refine gf_RX0_9 rfl eX0_writeAnswers_92 (shR hr0) ?_
        refine pw_iload eX0_writeAnswers_95 rfl ?_
        obtain ⟨o13, h⟩ := h
        refine pw_iald eX0_writeAnswers_97 (shR1 hr0) o13 ?_
        refine pw_icmp_ne eX0_writeAnswers_98 (fun c14 => ?_) (fun c14 => ?_)
        · have h := h.1 c14
          refine pw_iload eX0_writeAnswers_107 rfl ?_
          refine pw_iconst eX0_writeAnswers_109 ⟨by decide, by decide⟩ ?_
          refine pw_icmp_eq eX0_writeAnswers_110 (fun c15 => ?_) (fun c15 => ?_)
          · skip
            obtain ⟨o16, h⟩ := h
            refine pw_iinc (ls2 := [some (Aq r0), some (Iq x1), some (Iq x2), some (Iq x3), some (Iq x4), some (Iq x5), some (Iq (x6 + 1)), some (Iq (-1))]) eX0_writeAnswers_122 rfl o16 rfl ?_
            refine pw_goto eX0_writeAnswers_125 ?_
            exact pw_drop (bs := [true, true, true, true, true, true, true, false]) h
          · exact absurd (by decide) c15
        · have h := h.2 c14
          obtain ⟨o17, h⟩ := h
          refine pw_iinc (ls2 := [some (Aq r0), some (Iq x1), some (Iq x2), some (Iq x3), some (Iq x4), some (Iq (x5 + 1)), some (Iq x6), some (Iq (-1))]) eX0_writeAnswers_101 rfl o17 rfl ?_
          refine pw_goto eX0_writeAnswers_104 ?_
          obtain ⟨o18, h⟩ := h
          refine pw_iinc (ls2 := [some (Aq r0), some (Iq x1), some (Iq x2), some (Iq x3), some (Iq x4), some (Iq (x5 + 1)), some (Iq (x6 + 1)), some (Iq (-1))]) eX0_writeAnswers_122 rfl o18 rfl ?_
          refine pw_goto eX0_writeAnswers_125 ?_
          exact pw_drop (bs := [true, true, true, true, true, true, true, false]) h
      · have h := h.2 c9
        refine pw_aload_n eX0_writeAnswers_59 rfl rfl ?_
        refine pw_iload_n eX0_writeAnswers_60 rfl rfl ?_
        refine pw_iload eX0_writeAnswers_61 rfl ?_
        refine pw_aload_n eX0_writeAnswers_63 rfl rfl ?_
        refine pw_iload_n eX0_writeAnswers_64 rfl rfl ?_
        refine pw_iload eX0_writeAnswers_65 rfl ?_
        obtain ⟨v19, m20, hc21, h⟩ := h
        refine pw_cV (z := mX0_answerOf) (av := [Iq x2, Iq x6]) (st := [Iq x6, Iq x1, Aq r0]) eX0_writeAnswers_67 lk_RX0_86 rfl (by decide) (by decide) (shR hr0) rfl rfl (Nat.le_of_ble_eq_true rfl) rfl hc21 ?_
        show PW S mX0_writeAnswers Q 70 [some (Aq r0), some (Iq x1), some (Iq x2), some (Iq x3), some (Iq x4), some (Iq x5), some (Iq x6), some (Iq (-1))] [Iq v19, Iq x6, Iq x1, Aq r0] m20
        obtain ⟨v22, m23, hc24, h⟩ := h
        refine pw_cV (z := mX0_slipOf) (av := [Iq x1, Iq x6, Iq v19]) (st := []) eX0_writeAnswers_70 lk_RX0_89 rfl (by decide) (by decide) (shR hr0) rfl rfl (Nat.le_of_ble_eq_true rfl) rfl hc24 ?_
        show PW S mX0_writeAnswers Q 73 [some (Aq r0), some (Iq x1), some (Iq x2), some (Iq x3), some (Iq x4), some (Iq x5), some (Iq x6), some (Iq (-1))] [Iq v22] m23
        refine pw_istore (ls2 := [some (Aq r0), some (Iq x1), some (Iq x2), some (Iq x3), some (Iq x4), some (Iq x5), some (Iq x6), some (Iq v22)]) eX0_writeAnswers_73 (by decide) rfl ?_
        refine pw_aload_n eX0_writeAnswers_75 rfl rfl ?_
        refine gf_RX0_18 rfl eX0_writeAnswers_76 (shR hr0) ?_
        refine pw_iload_n eX0_writeAnswers_79 rfl rfl ?_
        refine pw_bipush eX0_writeAnswers_80 ⟨by decide, by decide⟩ (by decide) ?_
        obtain ⟨o25, h⟩ := h
        refine pw_imul eX0_writeAnswers_82 o25 ?_
        refine pw_iload eX0_writeAnswers_83 rfl ?_
        obtain ⟨o26, h⟩ := h
        refine pw_iadd eX0_writeAnswers_85 o26 ?_
        refine pw_iload eX0_writeAnswers_86 rfl ?_
        obtain ⟨o27, h⟩ := h
        refine pw_iast eX0_writeAnswers_88 (shR3 hr0) o27 ?_
        refine pw_iload eX0_writeAnswers_89 rfl ?_
        refine pw_aload_n eX0_writeAnswers_91 rfl rfl ?_
        refine gf_RX0_9 rfl eX0_writeAnswers_92 (shR hr0) ?_
        refine pw_iload eX0_writeAnswers_95 rfl ?_
        obtain ⟨o28, h⟩ := h
        refine pw_iald eX0_writeAnswers_97 (shR1 hr0) o28 ?_
        refine pw_icmp_ne eX0_writeAnswers_98 (fun c29 => ?_) (fun c29 => ?_)
        · have h := h.1 c29
          refine pw_iload eX0_writeAnswers_107 rfl ?_
          refine pw_iconst eX0_writeAnswers_109 ⟨by decide, by decide⟩ ?_
          refine pw_icmp_eq eX0_writeAnswers_110 (fun c30 => ?_) (fun c30 => ?_)
          · have h := h.1 c30
            obtain ⟨o31, h⟩ := h
            refine pw_iinc (ls2 := [some (Aq r0), some (Iq x1), some (Iq x2), some (Iq x3), some (Iq x4), some (Iq x5), some (Iq (x6 + 1)), some (Iq v22)]) eX0_writeAnswers_122 rfl o31 rfl ?_
            refine pw_goto eX0_writeAnswers_125 ?_
            exact pw_drop (bs := [true, true, true, true, true, true, true, false]) h
          · have h := h.2 c30
            refine pw_iload eX0_writeAnswers_113 rfl ?_
            refine pw_iconst eX0_writeAnswers_115 ⟨by decide, by decide⟩ ?_
            refine pw_iload eX0_writeAnswers_116 rfl ?_
            refine pw_ishl eX0_writeAnswers_118 ?_
            refine pw_ior eX0_writeAnswers_119 ?_
            refine pw_istore (ls2 := [some (Aq r0), some (Iq x1), some (Iq x2), some (Iq x3), some (Iq (bOr x4 (bShl 1 x6))), some (Iq x5), some (Iq x6), some (Iq v22)]) eX0_writeAnswers_120 (by decide) rfl ?_
            obtain ⟨o32, h⟩ := h
            refine pw_iinc (ls2 := [some (Aq r0), some (Iq x1), some (Iq x2), some (Iq x3), some (Iq (bOr x4 (bShl 1 x6))), some (Iq x5), some (Iq (x6 + 1)), some (Iq v22)]) eX0_writeAnswers_122 rfl o32 rfl ?_
            refine pw_goto eX0_writeAnswers_125 ?_
            exact pw_drop (bs := [true, true, true, true, true, true, true, false]) h
        · have h := h.2 c29
          obtain ⟨o33, h⟩ := h
          refine pw_iinc (ls2 := [some (Aq r0), some (Iq x1), some (Iq x2), some (Iq x3), some (Iq x4), some (Iq (x5 + 1)), some (Iq x6), some (Iq v22)]) eX0_writeAnswers_101 rfl o33 rfl ?_
          refine pw_goto eX0_writeAnswers_104 ?_
          obtain ⟨o34, h⟩ := h
          refine pw_iinc (ls2 := [some (Aq r0), some (Iq x1), some (Iq x2), some (Iq x3), some (Iq x4), some (Iq (x5 + 1)), some (Iq (x6 + 1)), some (Iq v22)]) eX0_writeAnswers_122 rfl o34 rfl ?_
          refine pw_goto eX0_writeAnswers_125 ?_
          exact pw_drop (bs := [true, true, true, true, true, true, true, false]) h
    · have h := h.2 c8
      refine pw_aload_n eX0_writeAnswers_42 rfl rfl ?_
      refine gf_RX0_9 rfl eX0_writeAnswers_43 (shR hr0) ?_
      refine pw_iload eX0_writeAnswers_46 rfl ?_
      obtain ⟨o35, h⟩ := h
      refine pw_iald eX0_writeAnswers_48 (shR1 hr0) o35 ?_
      refine pw_istore (ls2 := [some (Aq r0), some (Iq x1), some (Iq x2), some (Iq x3), some (Iq x4), some (Iq x5), some (Iq x6), some (Iq (mem (r0 + 1) (x6).toNat))]) eX0_writeAnswers_49 (by decide) rfl ?_
      refine pw_goto eX0_writeAnswers_51 ?_
      refine pw_aload_n eX0_writeAnswers_75 rfl rfl ?_
      refine gf_RX0_18 rfl eX0_writeAnswers_76 (shR hr0) ?_
      refine pw_iload_n eX0_writeAnswers_79 rfl rfl ?_
      refine pw_bipush eX0_writeAnswers_80 ⟨by decide, by decide⟩ (by decide) ?_
      obtain ⟨o36, h⟩ := h
      refine pw_imul eX0_writeAnswers_82 o36 ?_
      refine pw_iload eX0_writeAnswers_83 rfl ?_
      obtain ⟨o37, h⟩ := h
      refine pw_iadd eX0_writeAnswers_85 o37 ?_
      refine pw_iload eX0_writeAnswers_86 rfl ?_
      obtain ⟨o38, h⟩ := h
      refine pw_iast eX0_writeAnswers_88 (shR3 hr0) o38 ?_
      refine pw_iload eX0_writeAnswers_89 rfl ?_
      refine pw_aload_n eX0_writeAnswers_91 rfl rfl ?_
      refine gf_RX0_9 rfl eX0_writeAnswers_92 (shR hr0) ?_
      refine pw_iload eX0_writeAnswers_95 rfl ?_
      obtain ⟨o39, h⟩ := h
      refine pw_iald eX0_writeAnswers_97 (shR1 hr0) o39 ?_
      refine pw_icmp_ne eX0_writeAnswers_98 (fun c40 => ?_) (fun c40 => ?_)
      · have h := h.1 c40
        refine pw_iload eX0_writeAnswers_107 rfl ?_
        refine pw_iconst eX0_writeAnswers_109 ⟨by decide, by decide⟩ ?_
        refine pw_icmp_eq eX0_writeAnswers_110 (fun c41 => ?_) (fun c41 => ?_)
        · have h := h.1 c41
          obtain ⟨o42, h⟩ := h
          refine pw_iinc (ls2 := [some (Aq r0), some (Iq x1), some (Iq x2), some (Iq x3), some (Iq x4), some (Iq x5), some (Iq (x6 + 1)), some (Iq (mem (r0 + 1) (x6).toNat))]) eX0_writeAnswers_122 rfl o42 rfl ?_
          refine pw_goto eX0_writeAnswers_125 ?_
          exact pw_drop (bs := [true, true, true, true, true, true, true, false]) h
        · have h := h.2 c41
          refine pw_iload eX0_writeAnswers_113 rfl ?_
          refine pw_iconst eX0_writeAnswers_115 ⟨by decide, by decide⟩ ?_
          refine pw_iload eX0_writeAnswers_116 rfl ?_
          refine pw_ishl eX0_writeAnswers_118 ?_
          refine pw_ior eX0_writeAnswers_119 ?_
          refine pw_istore (ls2 := [some (Aq r0), some (Iq x1), some (Iq x2), some (Iq x3), some (Iq (bOr x4 (bShl 1 x6))), some (Iq x5), some (Iq x6), some (Iq (mem (r0 + 1) (x6).toNat))]) eX0_writeAnswers_120 (by decide) rfl ?_
          obtain ⟨o43, h⟩ := h
          refine pw_iinc (ls2 := [some (Aq r0), some (Iq x1), some (Iq x2), some (Iq x3), some (Iq (bOr x4 (bShl 1 x6))), some (Iq x5), some (Iq (x6 + 1)), some (Iq (mem (r0 + 1) (x6).toNat))]) eX0_writeAnswers_122 rfl o43 rfl ?_
          refine pw_goto eX0_writeAnswers_125 ?_
          exact pw_drop (bs := [true, true, true, true, true, true, true, false]) h
      · have h := h.2 c40
        obtain ⟨o44, h⟩ := h
        refine pw_iinc (ls2 := [some (Aq r0), some (Iq x1), some (Iq x2), some (Iq x3), some (Iq x4), some (Iq (x5 + 1)), some (Iq x6), some (Iq (mem (r0 + 1) (x6).toNat))]) eX0_writeAnswers_101 rfl o44 rfl ?_
        refine pw_goto eX0_writeAnswers_104 ?_
        obtain ⟨o45, h⟩ := h
        refine pw_iinc (ls2 := [some (Aq r0), some (Iq x1), some (Iq x2), some (Iq x3), some (Iq x4), some (Iq (x5 + 1)), some (Iq (x6 + 1)), some (Iq (mem (r0 + 1) (x6).toNat))]) eX0_writeAnswers_122 rfl o45 rfl ?_
        refine pw_goto eX0_writeAnswers_125 ?_
        exact pw_drop (bs := [true, true, true, true, true, true, true, false]) h
set_option maxRecDepth 100000 in
theorem rg_X0_sourceToday_0 {S : Sx} {Q : Option PV → Zm → Prop} {mem : Zm}  {r0 : Nat} {x1 : Int} (hr0 : isRoom r0)
    (h : (∃ (v1 : Int) (m2 : Zm), Ct1 S mX0_fact [Aq r0, Iq x1, Iq 2] mem (some (Iq v1)) m2 ∧ ((∃ (v4 : Int) (m5 : Zm), Ct1 S mX0_has [Aq r0, Iq v1] m2 (some (Iq v4)) m5 ∧ ((((v4 = 0) → (Q (some (Iq (-1))) m5)) ∧ (¬ (v4 = 0) → ((∃ (v9 : Int) (m10 : Zm), Ct1 S mX0_isLending [Aq r0, Iq v1] m5 (some (Iq v9)) m10 ∧ ((((v9 = 0) → (Q (some (Iq (-1))) m10)) ∧ (¬ (v9 = 0) → ((∃ (v14 : Int) (m15 : Zm), Ct1 S mX0_fact [Aq r0, Iq x1, Iq 4] m10 (some (Iq v14)) m15 ∧ ((∃ (v17 : Int) (m18 : Zm), Ct1 S mX0_price [Aq r0, Iq x1] m15 (some (Iq v17)) m18 ∧ ((((v14 < v17) → (Q (some (Iq (-1))) m18)) ∧ (¬ (v14 < v17) → (Q (some (Iq v1)) m18)))))))))))))))))))) :
    PW S mX0_sourceToday Q 0 [some (Aq r0), some (Iq x1), none, none] [] mem := by
  refine pw_aload_n eX0_sourceToday_0 rfl rfl ?_
  refine pw_iload_n eX0_sourceToday_1 rfl rfl ?_
  refine pw_iconst eX0_sourceToday_2 ⟨by decide, by decide⟩ ?_
  obtain ⟨v1, m2, hc3, h⟩ := h
  refine pw_cV (z := mX0_fact) (av := [Iq x1, Iq 2]) (st := []) eX0_sourceToday_3 lk_RX0_59 rfl (by decide) (by decide) (shR hr0) rfl rfl (Nat.le_of_ble_eq_true rfl) rfl hc3 ?_
  show PW S mX0_sourceToday Q 6 [some (Aq r0), some (Iq x1), none, none] [Iq v1] m2
  refine pw_istore_n (ls2 := [some (Aq r0), some (Iq x1), some (Iq v1), none]) eX0_sourceToday_6 rfl (by decide) rfl ?_
  refine pw_aload_n eX0_sourceToday_7 rfl rfl ?_
  refine pw_iload_n eX0_sourceToday_8 rfl rfl ?_
  obtain ⟨v4, m5, hc6, h⟩ := h
  refine pw_cV (z := mX0_has) (av := [Iq v1]) (st := []) eX0_sourceToday_9 lk_RX0_97 rfl (by decide) (by decide) (shR hr0) rfl rfl (Nat.le_of_ble_eq_true rfl) rfl hc6 ?_
  show PW S mX0_sourceToday Q 12 [some (Aq r0), some (Iq x1), some (Iq v1), none] [Iq v4] m5
  refine pw_if_eq eX0_sourceToday_12 (fun c7 => ?_) (fun c7 => ?_)
  · have h := h.1 c7
    refine pw_iconst eX0_sourceToday_41 ⟨by decide, by decide⟩ ?_
    refine pw_istore_n (ls2 := [some (Aq r0), some (Iq x1), some (Iq v1), some (Iq 0)]) eX0_sourceToday_42 rfl (by decide) rfl ?_
    refine pw_iload_n eX0_sourceToday_43 rfl rfl ?_
    refine pw_if_eq eX0_sourceToday_44 (fun c8 => ?_) (fun c8 => ?_)
    · skip
      refine pw_iconst eX0_sourceToday_51 ⟨by decide, by decide⟩ ?_
      exact pw_iret eX0_sourceToday_52 h
    · exact absurd (by decide) c8
  · have h := h.2 c7
    refine pw_aload_n eX0_sourceToday_15 rfl rfl ?_
    refine pw_iload_n eX0_sourceToday_16 rfl rfl ?_
    obtain ⟨v9, m10, hc11, h⟩ := h
    refine pw_cV (z := mX0_isLending) (av := [Iq v1]) (st := []) eX0_sourceToday_17 lk_RX0_101 rfl (by decide) (by decide) (shR hr0) rfl rfl (Nat.le_of_ble_eq_true rfl) rfl hc11 ?_
    show PW S mX0_sourceToday Q 20 [some (Aq r0), some (Iq x1), some (Iq v1), none] [Iq v9] m10
    refine pw_if_eq eX0_sourceToday_20 (fun c12 => ?_) (fun c12 => ?_)
    · have h := h.1 c12
      refine pw_iconst eX0_sourceToday_41 ⟨by decide, by decide⟩ ?_
      refine pw_istore_n (ls2 := [some (Aq r0), some (Iq x1), some (Iq v1), some (Iq 0)]) eX0_sourceToday_42 rfl (by decide) rfl ?_
      refine pw_iload_n eX0_sourceToday_43 rfl rfl ?_
      refine pw_if_eq eX0_sourceToday_44 (fun c13 => ?_) (fun c13 => ?_)
      · skip
        refine pw_iconst eX0_sourceToday_51 ⟨by decide, by decide⟩ ?_
        exact pw_iret eX0_sourceToday_52 h
      · exact absurd (by decide) c13
    · have h := h.2 c12
      refine pw_aload_n eX0_sourceToday_23 rfl rfl ?_
      refine pw_iload_n eX0_sourceToday_24 rfl rfl ?_
      refine pw_iconst eX0_sourceToday_25 ⟨by decide, by decide⟩ ?_
      obtain ⟨v14, m15, hc16, h⟩ := h
      refine pw_cV (z := mX0_fact) (av := [Iq x1, Iq 4]) (st := []) eX0_sourceToday_26 lk_RX0_59 rfl (by decide) (by decide) (shR hr0) rfl rfl (Nat.le_of_ble_eq_true rfl) rfl hc16 ?_
      show PW S mX0_sourceToday Q 29 [some (Aq r0), some (Iq x1), some (Iq v1), none] [Iq v14] m15
      refine pw_aload_n eX0_sourceToday_29 rfl rfl ?_
      refine pw_iload_n eX0_sourceToday_30 rfl rfl ?_
      obtain ⟨v17, m18, hc19, h⟩ := h
      refine pw_cV (z := mX0_price) (av := [Iq x1]) (st := [Iq v14]) eX0_sourceToday_31 lk_RX0_104 rfl (by decide) (by decide) (shR hr0) rfl rfl (Nat.le_of_ble_eq_true rfl) rfl hc19 ?_
      show PW S mX0_sourceToday Q 34 [some (Aq r0), some (Iq x1), some (Iq v1), none] [Iq v17, Iq v14] m18
      refine pw_icmp_lt eX0_sourceToday_34 (fun c20 => ?_) (fun c20 => ?_)
      · have h := h.1 c20
        refine pw_iconst eX0_sourceToday_41 ⟨by decide, by decide⟩ ?_
        refine pw_istore_n (ls2 := [some (Aq r0), some (Iq x1), some (Iq v1), some (Iq 0)]) eX0_sourceToday_42 rfl (by decide) rfl ?_
        refine pw_iload_n eX0_sourceToday_43 rfl rfl ?_
        refine pw_if_eq eX0_sourceToday_44 (fun c21 => ?_) (fun c21 => ?_)
        · skip
          refine pw_iconst eX0_sourceToday_51 ⟨by decide, by decide⟩ ?_
          exact pw_iret eX0_sourceToday_52 h
        · exact absurd (by decide) c21
      · have h := h.2 c20
        refine pw_iconst eX0_sourceToday_37 ⟨by decide, by decide⟩ ?_
        refine pw_goto eX0_sourceToday_38 ?_
        refine pw_istore_n (ls2 := [some (Aq r0), some (Iq x1), some (Iq v1), some (Iq 1)]) eX0_sourceToday_42 rfl (by decide) rfl ?_
        refine pw_iload_n eX0_sourceToday_43 rfl rfl ?_
        refine pw_if_eq eX0_sourceToday_44 (fun c22 => ?_) (fun c22 => ?_)
        · exact absurd c22 (by decide)
        · skip
          refine pw_iload_n eX0_sourceToday_47 rfl rfl ?_
          refine pw_goto eX0_sourceToday_48 ?_
          exact pw_iret eX0_sourceToday_52 h
set_option maxRecDepth 100000 in
theorem rg_X0_payFor_0 {S : Sx} {Q : Option PV → Zm → Prop} {mem : Zm}  {r0 : Nat} {x1 x2 : Int} (hr0 : isRoom r0)
    (h : (∃ (v1 : Int) (m2 : Zm), Ct1 S mX0_price [Aq r0, Iq x1] mem (some (Iq v1)) m2 ∧ ((∃ (v4 : Int) (m5 : Zm), Ct1 S mX0_fact [Aq r0, Iq x1, Iq 4] m2 (some (Iq v4)) m5 ∧ ((in32 (v4 - v1)) ∧ (∃ (m9 : Zm), Ct1 S mX0_setFact [Aq r0, Iq x1, Iq 4, Iq (v4 - v1)] m5 none m9 ∧ ((∃ (v11 : Int) (m12 : Zm), Ct1 S mX0_fact [Aq r0, Iq x2, Iq 4] m9 (some (Iq v11)) m12 ∧ ((in32 (v11 + v1)) ∧ (∃ (v15 : Int) (m16 : Zm), Ct1 S mJ9_min_7cf53 [Iq 999, Iq (v11 + v1)] m12 (some (Iq v15)) m16 ∧ ((∃ (m19 : Zm), Ct1 S mX0_setFact [Aq r0, Iq x2, Iq 4, Iq v15] m16 none m19 ∧ (Q none m19))))))))))))) :
    PW S mX0_payFor Q 0 [some (Aq r0), some (Iq x1), some (Iq x2), none] [] mem := by
  refine pw_aload_n eX0_payFor_0 rfl rfl ?_
  refine pw_iload_n eX0_payFor_1 rfl rfl ?_
  obtain ⟨v1, m2, hc3, h⟩ := h
  refine pw_cV (z := mX0_price) (av := [Iq x1]) (st := []) eX0_payFor_2 lk_RX0_104 rfl (by decide) (by decide) (shR hr0) rfl rfl (Nat.le_of_ble_eq_true rfl) rfl hc3 ?_
  show PW S mX0_payFor Q 5 [some (Aq r0), some (Iq x1), some (Iq x2), none] [Iq v1] m2
  refine pw_istore_n (ls2 := [some (Aq r0), some (Iq x1), some (Iq x2), some (Iq v1)]) eX0_payFor_5 rfl (by decide) rfl ?_
  refine pw_aload_n eX0_payFor_6 rfl rfl ?_
  refine pw_iload_n eX0_payFor_7 rfl rfl ?_
  refine pw_iconst eX0_payFor_8 ⟨by decide, by decide⟩ ?_
  refine pw_aload_n eX0_payFor_9 rfl rfl ?_
  refine pw_iload_n eX0_payFor_10 rfl rfl ?_
  refine pw_iconst eX0_payFor_11 ⟨by decide, by decide⟩ ?_
  obtain ⟨v4, m5, hc6, h⟩ := h
  refine pw_cV (z := mX0_fact) (av := [Iq x1, Iq 4]) (st := [Iq 4, Iq x1, Aq r0]) eX0_payFor_12 lk_RX0_59 rfl (by decide) (by decide) (shR hr0) rfl rfl (Nat.le_of_ble_eq_true rfl) rfl hc6 ?_
  show PW S mX0_payFor Q 15 [some (Aq r0), some (Iq x1), some (Iq x2), some (Iq v1)] [Iq v4, Iq 4, Iq x1, Aq r0] m5
  refine pw_iload_n eX0_payFor_15 rfl rfl ?_
  obtain ⟨o7, h⟩ := h
  refine pw_isub eX0_payFor_16 o7 ?_
  obtain ⟨m9, hc10, h⟩ := h
  refine pw_cV (z := mX0_setFact) (av := [Iq x1, Iq 4, Iq (v4 - v1)]) (st := []) eX0_payFor_17 lk_RX0_55 rfl (by decide) (by decide) (shR hr0) rfl rfl (Nat.le_of_ble_eq_true rfl) rfl hc10 ?_
  show PW S mX0_payFor Q 20 [some (Aq r0), some (Iq x1), some (Iq x2), some (Iq v1)] [] m9
  refine pw_aload_n eX0_payFor_20 rfl rfl ?_
  refine pw_iload_n eX0_payFor_21 rfl rfl ?_
  refine pw_iconst eX0_payFor_22 ⟨by decide, by decide⟩ ?_
  refine pw_sipush eX0_payFor_23 ⟨by decide, by decide⟩ (by decide) ?_
  refine pw_aload_n eX0_payFor_26 rfl rfl ?_
  refine pw_iload_n eX0_payFor_27 rfl rfl ?_
  refine pw_iconst eX0_payFor_28 ⟨by decide, by decide⟩ ?_
  obtain ⟨v11, m12, hc13, h⟩ := h
  refine pw_cV (z := mX0_fact) (av := [Iq x2, Iq 4]) (st := [Iq 999, Iq 4, Iq x2, Aq r0]) eX0_payFor_29 lk_RX0_59 rfl (by decide) (by decide) (shR hr0) rfl rfl (Nat.le_of_ble_eq_true rfl) rfl hc13 ?_
  show PW S mX0_payFor Q 32 [some (Aq r0), some (Iq x1), some (Iq x2), some (Iq v1)] [Iq v11, Iq 999, Iq 4, Iq x2, Aq r0] m12
  refine pw_iload_n eX0_payFor_32 rfl rfl ?_
  obtain ⟨o14, h⟩ := h
  refine pw_iadd eX0_payFor_33 o14 ?_
  obtain ⟨v15, m16, hc17, h⟩ := h
  refine pw_cS (z := mJ9_min_7cf53) (av := [Iq 999, Iq (v11 + v1)]) (st := [Iq 4, Iq x2, Aq r0]) eX0_payFor_34 lk_RX0_107 rfl (by decide) (by decide) (Nat.le_of_ble_eq_true rfl) rfl hc17 ?_
  show PW S mX0_payFor Q 37 [some (Aq r0), some (Iq x1), some (Iq x2), some (Iq v1)] [Iq v15, Iq 4, Iq x2, Aq r0] m16
  obtain ⟨m19, hc20, h⟩ := h
  refine pw_cV (z := mX0_setFact) (av := [Iq x2, Iq 4, Iq v15]) (st := []) eX0_payFor_37 lk_RX0_55 rfl (by decide) (by decide) (shR hr0) rfl rfl (Nat.le_of_ble_eq_true rfl) rfl hc20 ?_
  show PW S mX0_payFor Q 40 [some (Aq r0), some (Iq x1), some (Iq x2), some (Iq v1)] [] m19
  exact pw_vret eX0_payFor_40 h
set_option maxRecDepth 100000 in
theorem rg_X0_markAnswers_0 {S : Sx} {Q : Option PV → Zm → Prop} {mem : Zm}  {r0 : Nat} (hr0 : isRoom r0)
    (h : (∃ (v1 : Int) (m2 : Zm), Ct1 S mX0_childrenAlike [Aq r0] mem (some (Iq v1)) m2 ∧ (PW S mX0_markAnswers Q 7 [some (Aq r0), some (Iq v1), some (Iq 0)] [] m2))) :
    PW S mX0_markAnswers Q 0 [some (Aq r0), none, none] [] mem := by
  refine pw_aload_n eX0_markAnswers_0 rfl rfl ?_
  obtain ⟨v1, m2, hc3, h⟩ := h
  refine pw_cV (z := mX0_childrenAlike) (av := []) (st := []) eX0_markAnswers_1 lk_RX0_112 rfl (by decide) (by decide) (shR hr0) rfl rfl (Nat.le_of_ble_eq_true rfl) rfl hc3 ?_
  show PW S mX0_markAnswers Q 4 [some (Aq r0), none, none] [Iq v1] m2
  refine pw_istore_n (ls2 := [some (Aq r0), some (Iq v1), none]) eX0_markAnswers_4 rfl (by decide) rfl ?_
  refine pw_iconst eX0_markAnswers_5 ⟨by decide, by decide⟩ ?_
  refine pw_istore_n (ls2 := [some (Aq r0), some (Iq v1), some (Iq 0)]) eX0_markAnswers_6 rfl (by decide) rfl ?_
  exact h

set_option maxRecDepth 100000 in
theorem rg_X0_markAnswers_7 {S : Sx} {Q : Option PV → Zm → Prop} {mem : Zm}  {r0 : Nat} {x1 x2 : Int} (hr0 : isRoom r0)
    (h : (((mem r0 7 ≤ x2) → (Q none mem)) ∧ (¬ (mem r0 7 ≤ x2) → ((((¬ bAnd (bShr x1 x2) 1 = 1) → ((∃ (v3 : Int) (m4 : Zm), Ct1 S mX0_fact [Aq r0, Iq x2, Iq 3] mem (some (Iq v3)) m4 ∧ ((0 ≤ x2 ∧ x2 < 8) ∧ (in32 (v3 + (m4 (r0 + 6) (x2).toNat))) ∧ (∃ (v8 : Int) (m9 : Zm), Ct1 S mJ9_min_7cf53 [Iq 9999, Iq (v3 + (m4 (r0 + 6) (x2).toNat))] m4 (some (Iq v8)) m9 ∧ ((∃ (m12 : Zm), Ct1 S mX0_setFact [Aq r0, Iq x2, Iq 3, Iq v8] m9 none m12 ∧ ((in32 (x2 + 1)) ∧ PW S mX0_markAnswers Q 7 [some (Aq r0), some (Iq x1), some (Iq (x2 + 1))] [] m12)))))))) ∧ (¬ (¬ bAnd (bShr x1 x2) 1 = 1) → ((∃ (v15 : Int) (m16 : Zm), Ct1 S mX0_fact [Aq r0, Iq x2, Iq 5] mem (some (Iq v15)) m16 ∧ ((in32 (v15 + 1)) ∧ (∃ (v19 : Int) (m20 : Zm), Ct1 S mJ9_min_7cf53 [Iq 9999, Iq (v15 + 1)] m16 (some (Iq v19)) m20 ∧ ((∃ (m23 : Zm), Ct1 S mX0_setFact [Aq r0, Iq x2, Iq 5, Iq v19] m20 none m23 ∧ ((∃ (v25 : Int) (m26 : Zm), Ct1 S mX0_fact [Aq r0, Iq x2, Iq 1] m23 (some (Iq v25)) m26 ∧ ((0 ≤ m26 r0 8) ∧ (∃ (m30 : Zm), Ct1 S mX0_setFact [Aq r0, Iq x2, Iq 1, Iq (bOr v25 (bShl 1 ((m26 r0 8) % 8)))] m26 none m30 ∧ ((in32 (x2 + 1)) ∧ PW S mX0_markAnswers Q 7 [some (Aq r0), some (Iq x1), some (Iq (x2 + 1))] [] m30))))))))))))))))) :
    PW S mX0_markAnswers Q 7 [some (Aq r0), some (Iq x1), some (Iq x2)] [] mem := by
  refine pw_iload_n eX0_markAnswers_7 rfl rfl ?_
  refine pw_aload_n eX0_markAnswers_8 rfl rfl ?_
  refine gf_RX0_34 rfl eX0_markAnswers_9 (shR hr0) ?_
  refine pw_icmp_ge eX0_markAnswers_12 (fun c1 => ?_) (fun c1 => ?_)
  · have h := h.1 c1
    exact pw_vret eX0_markAnswers_100 h
  · have h := h.2 c1
    refine pw_iload_n eX0_markAnswers_15 rfl rfl ?_
    refine pw_iload_n eX0_markAnswers_16 rfl rfl ?_
    refine pw_ishr eX0_markAnswers_17 ?_
    refine pw_iconst eX0_markAnswers_18 ⟨by decide, by decide⟩ ?_
    refine pw_iand eX0_markAnswers_19 ?_
    refine pw_iconst eX0_markAnswers_20 ⟨by decide, by decide⟩ ?_
    refine pw_icmp_ne eX0_markAnswers_21 (fun c2 => ?_) (fun c2 => ?_)
    · have h := h.1 c2
      refine pw_aload_n eX0_markAnswers_69 rfl rfl ?_
      refine pw_iload_n eX0_markAnswers_70 rfl rfl ?_
      refine pw_iconst eX0_markAnswers_71 ⟨by decide, by decide⟩ ?_
      refine pw_sipush eX0_markAnswers_72 ⟨by decide, by decide⟩ (by decide) ?_
      refine pw_aload_n eX0_markAnswers_75 rfl rfl ?_
      refine pw_iload_n eX0_markAnswers_76 rfl rfl ?_
      refine pw_iconst eX0_markAnswers_77 ⟨by decide, by decide⟩ ?_
      obtain ⟨v3, m4, hc5, h⟩ := h
      refine pw_cV (z := mX0_fact) (av := [Iq x2, Iq 3]) (st := [Iq 9999, Iq 3, Iq x2, Aq r0]) eX0_markAnswers_78 lk_RX0_59 rfl (by decide) (by decide) (shR hr0) rfl rfl (Nat.le_of_ble_eq_true rfl) rfl hc5 ?_
      show PW S mX0_markAnswers Q 81 [some (Aq r0), some (Iq x1), some (Iq x2)] [Iq v3, Iq 9999, Iq 3, Iq x2, Aq r0] m4
      refine pw_aload_n eX0_markAnswers_81 rfl rfl ?_
      refine gf_RX0_27 rfl eX0_markAnswers_82 (shR hr0) ?_
      refine pw_iload_n eX0_markAnswers_85 rfl rfl ?_
      obtain ⟨o6, h⟩ := h
      refine pw_iald eX0_markAnswers_86 (shR6 hr0) o6 ?_
      obtain ⟨o7, h⟩ := h
      refine pw_iadd eX0_markAnswers_87 o7 ?_
      obtain ⟨v8, m9, hc10, h⟩ := h
      refine pw_cS (z := mJ9_min_7cf53) (av := [Iq 9999, Iq (v3 + (m4 (r0 + 6) (x2).toNat))]) (st := [Iq 3, Iq x2, Aq r0]) eX0_markAnswers_88 lk_RX0_107 rfl (by decide) (by decide) (Nat.le_of_ble_eq_true rfl) rfl hc10 ?_
      show PW S mX0_markAnswers Q 91 [some (Aq r0), some (Iq x1), some (Iq x2)] [Iq v8, Iq 3, Iq x2, Aq r0] m9
      obtain ⟨m12, hc13, h⟩ := h
      refine pw_cV (z := mX0_setFact) (av := [Iq x2, Iq 3, Iq v8]) (st := []) eX0_markAnswers_91 lk_RX0_55 rfl (by decide) (by decide) (shR hr0) rfl rfl (Nat.le_of_ble_eq_true rfl) rfl hc13 ?_
      show PW S mX0_markAnswers Q 94 [some (Aq r0), some (Iq x1), some (Iq x2)] [] m12
      obtain ⟨o14, h⟩ := h
      refine pw_iinc (ls2 := [some (Aq r0), some (Iq x1), some (Iq (x2 + 1))]) eX0_markAnswers_94 rfl o14 rfl ?_
      refine pw_goto eX0_markAnswers_97 ?_
      exact h
    · have h := h.2 c2
      refine pw_aload_n eX0_markAnswers_24 rfl rfl ?_
      refine pw_iload_n eX0_markAnswers_25 rfl rfl ?_
      refine pw_iconst eX0_markAnswers_26 ⟨by decide, by decide⟩ ?_
      refine pw_sipush eX0_markAnswers_27 ⟨by decide, by decide⟩ (by decide) ?_
      refine pw_aload_n eX0_markAnswers_30 rfl rfl ?_
      refine pw_iload_n eX0_markAnswers_31 rfl rfl ?_
      refine pw_iconst eX0_markAnswers_32 ⟨by decide, by decide⟩ ?_
      obtain ⟨v15, m16, hc17, h⟩ := h
      refine pw_cV (z := mX0_fact) (av := [Iq x2, Iq 5]) (st := [Iq 9999, Iq 5, Iq x2, Aq r0]) eX0_markAnswers_33 lk_RX0_59 rfl (by decide) (by decide) (shR hr0) rfl rfl (Nat.le_of_ble_eq_true rfl) rfl hc17 ?_
      show PW S mX0_markAnswers Q 36 [some (Aq r0), some (Iq x1), some (Iq x2)] [Iq v15, Iq 9999, Iq 5, Iq x2, Aq r0] m16
      refine pw_iconst eX0_markAnswers_36 ⟨by decide, by decide⟩ ?_
      obtain ⟨o18, h⟩ := h
      refine pw_iadd eX0_markAnswers_37 o18 ?_
      obtain ⟨v19, m20, hc21, h⟩ := h
      refine pw_cS (z := mJ9_min_7cf53) (av := [Iq 9999, Iq (v15 + 1)]) (st := [Iq 5, Iq x2, Aq r0]) eX0_markAnswers_38 lk_RX0_107 rfl (by decide) (by decide) (Nat.le_of_ble_eq_true rfl) rfl hc21 ?_
      show PW S mX0_markAnswers Q 41 [some (Aq r0), some (Iq x1), some (Iq x2)] [Iq v19, Iq 5, Iq x2, Aq r0] m20
      obtain ⟨m23, hc24, h⟩ := h
      refine pw_cV (z := mX0_setFact) (av := [Iq x2, Iq 5, Iq v19]) (st := []) eX0_markAnswers_41 lk_RX0_55 rfl (by decide) (by decide) (shR hr0) rfl rfl (Nat.le_of_ble_eq_true rfl) rfl hc24 ?_
      show PW S mX0_markAnswers Q 44 [some (Aq r0), some (Iq x1), some (Iq x2)] [] m23
      refine pw_aload_n eX0_markAnswers_44 rfl rfl ?_
      refine pw_iload_n eX0_markAnswers_45 rfl rfl ?_
      refine pw_iconst eX0_markAnswers_46 ⟨by decide, by decide⟩ ?_
      refine pw_aload_n eX0_markAnswers_47 rfl rfl ?_
      refine pw_iload_n eX0_markAnswers_48 rfl rfl ?_
      refine pw_iconst eX0_markAnswers_49 ⟨by decide, by decide⟩ ?_
      obtain ⟨v25, m26, hc27, h⟩ := h
      refine pw_cV (z := mX0_fact) (av := [Iq x2, Iq 1]) (st := [Iq 1, Iq x2, Aq r0]) eX0_markAnswers_50 lk_RX0_59 rfl (by decide) (by decide) (shR hr0) rfl rfl (Nat.le_of_ble_eq_true rfl) rfl hc27 ?_
      show PW S mX0_markAnswers Q 53 [some (Aq r0), some (Iq x1), some (Iq x2)] [Iq v25, Iq 1, Iq x2, Aq r0] m26
      refine pw_iconst eX0_markAnswers_53 ⟨by decide, by decide⟩ ?_
      refine pw_aload_n eX0_markAnswers_54 rfl rfl ?_
      refine gf_RX0_37 rfl eX0_markAnswers_55 (shR hr0) ?_
      refine pw_bipush eX0_markAnswers_58 ⟨by decide, by decide⟩ (by decide) ?_
      obtain ⟨o28, h⟩ := h
      refine pw_irem eX0_markAnswers_60 o28 (by decide) ?_
      refine pw_ishl eX0_markAnswers_61 ?_
      refine pw_ior eX0_markAnswers_62 ?_
      obtain ⟨m30, hc31, h⟩ := h
      refine pw_cV (z := mX0_setFact) (av := [Iq x2, Iq 1, Iq (bOr v25 (bShl 1 ((m26 r0 8) % 8)))]) (st := []) eX0_markAnswers_63 lk_RX0_55 rfl (by decide) (by decide) (shR hr0) rfl rfl (Nat.le_of_ble_eq_true rfl) rfl hc31 ?_
      show PW S mX0_markAnswers Q 66 [some (Aq r0), some (Iq x1), some (Iq x2)] [] m30
      refine pw_goto eX0_markAnswers_66 ?_
      obtain ⟨o32, h⟩ := h
      refine pw_iinc (ls2 := [some (Aq r0), some (Iq x1), some (Iq (x2 + 1))]) eX0_markAnswers_94 rfl o32 rfl ?_
      refine pw_goto eX0_markAnswers_97 ?_
      exact h
set_option maxRecDepth 100000 in
theorem rg_X0_turnDay_0 {S : Sx} {Q : Option PV → Zm → Prop} {mem : Zm}  {r0 : Nat} (hr0 : isRoom r0)
    (h : PW S mX0_turnDay Q 2 [some (Aq r0), some (Iq 0)] [] mem) :
    PW S mX0_turnDay Q 0 [some (Aq r0), none] [] mem := by
  refine pw_iconst eX0_turnDay_0 ⟨by decide, by decide⟩ ?_
  refine pw_istore_n (ls2 := [some (Aq r0), some (Iq 0)]) eX0_turnDay_1 rfl (by decide) rfl ?_
  exact h

set_option maxRecDepth 100000 in
theorem rg_X0_turnDay_2 {S : Sx} {Q : Option PV → Zm → Prop} {mem : Zm}  {r0 : Nat} {x1 : Int} (hr0 : isRoom r0)
    (h : (((8 ≤ x1) → ((in32 ((mem r0 8) + 1)) ∧ (∃ (v3 : Int) (m4 : Zm), Ct1 S mJ9_min_7cf53 [Iq 99999, Iq ((mem r0 8) + 1)] mem (some (Iq v3)) m4 ∧ (Q none (mup m4 r0 8 v3))))) ∧ (¬ (8 ≤ x1) → ((0 ≤ x1 ∧ x1 < 8) ∧ (in32 (3 * (mem (r0 + 1) (x1).toNat))) ∧ (in32 ((3 * (mem (r0 + 1) (x1).toNat)) + x1)) ∧ (in32 (((3 * (mem (r0 + 1) (x1).toNat)) + x1) + 1)) ∧ (0 ≤ ((3 * (mem (r0 + 1) (x1).toNat)) + x1) + 1) ∧ (0 ≤ x1 ∧ x1 < 8) ∧ (in32 (x1 + 1)) ∧ PW S mX0_turnDay Q 2 [some (Aq r0), some (Iq (x1 + 1))] [] (mup mem (r0 + 1) (x1).toNat ((((3 * (mem (r0 + 1) (x1).toNat)) + x1) + 1) % 100)))))) :
    PW S mX0_turnDay Q 2 [some (Aq r0), some (Iq x1)] [] mem := by
  refine pw_iload_n eX0_turnDay_2 rfl rfl ?_
  refine pw_bipush eX0_turnDay_3 ⟨by decide, by decide⟩ (by decide) ?_
  refine pw_icmp_ge eX0_turnDay_5 (fun c1 => ?_) (fun c1 => ?_)
  · have h := h.1 c1
    refine pw_aload_n eX0_turnDay_35 rfl rfl ?_
    refine pw_ldc (n := 99999) eX0_turnDay_36 ⟨by decide, by decide⟩ kc_RX0_116 ?_
    refine pw_aload_n eX0_turnDay_38 rfl rfl ?_
    refine gf_RX0_37 rfl eX0_turnDay_39 (shR hr0) ?_
    refine pw_iconst eX0_turnDay_42 ⟨by decide, by decide⟩ ?_
    obtain ⟨o2, h⟩ := h
    refine pw_iadd eX0_turnDay_43 o2 ?_
    obtain ⟨v3, m4, hc5, h⟩ := h
    refine pw_cS (z := mJ9_min_7cf53) (av := [Iq 99999, Iq ((mem r0 8) + 1)]) (st := [Aq r0]) eX0_turnDay_44 lk_RX0_107 rfl (by decide) (by decide) (Nat.le_of_ble_eq_true rfl) rfl hc5 ?_
    show PW S mX0_turnDay Q 47 [some (Aq r0), some (Iq x1)] [Iq v3, Aq r0] m4
    refine pf_RX0_37 rfl eX0_turnDay_47 (shR hr0) ?_
    exact pw_vret eX0_turnDay_50 h
  · have h := h.2 c1
    refine pw_aload_n eX0_turnDay_8 rfl rfl ?_
    refine gf_RX0_9 rfl eX0_turnDay_9 (shR hr0) ?_
    refine pw_iload_n eX0_turnDay_12 rfl rfl ?_
    refine pw_iconst eX0_turnDay_13 ⟨by decide, by decide⟩ ?_
    refine pw_aload_n eX0_turnDay_14 rfl rfl ?_
    refine gf_RX0_9 rfl eX0_turnDay_15 (shR hr0) ?_
    refine pw_iload_n eX0_turnDay_18 rfl rfl ?_
    obtain ⟨o6, h⟩ := h
    refine pw_iald eX0_turnDay_19 (shR1 hr0) o6 ?_
    obtain ⟨o7, h⟩ := h
    refine pw_imul eX0_turnDay_20 o7 ?_
    refine pw_iload_n eX0_turnDay_21 rfl rfl ?_
    obtain ⟨o8, h⟩ := h
    refine pw_iadd eX0_turnDay_22 o8 ?_
    refine pw_iconst eX0_turnDay_23 ⟨by decide, by decide⟩ ?_
    obtain ⟨o9, h⟩ := h
    refine pw_iadd eX0_turnDay_24 o9 ?_
    refine pw_bipush eX0_turnDay_25 ⟨by decide, by decide⟩ (by decide) ?_
    obtain ⟨o10, h⟩ := h
    refine pw_irem eX0_turnDay_27 o10 (by decide) ?_
    obtain ⟨o11, h⟩ := h
    refine pw_iast eX0_turnDay_28 (shR1 hr0) o11 ?_
    obtain ⟨o12, h⟩ := h
    refine pw_iinc (ls2 := [some (Aq r0), some (Iq (x1 + 1))]) eX0_turnDay_29 rfl o12 rfl ?_
    refine pw_goto eX0_turnDay_32 ?_
    exact h
set_option maxRecDepth 100000 in
theorem rg_X0_childrenAlike_0 {S : Sx} {Q : Option PV → Zm → Prop} {mem : Zm}  {r0 : Nat} (hr0 : isRoom r0)
    (h : PW S mX0_childrenAlike Q 4 [some (Aq r0), some (Iq 0), some (Iq 0), none, none] [] mem) :
    PW S mX0_childrenAlike Q 0 [some (Aq r0), none, none, none, none] [] mem := by
  refine pw_iconst eX0_childrenAlike_0 ⟨by decide, by decide⟩ ?_
  refine pw_istore_n (ls2 := [some (Aq r0), some (Iq 0), none, none, none]) eX0_childrenAlike_1 rfl (by decide) rfl ?_
  refine pw_iconst eX0_childrenAlike_2 ⟨by decide, by decide⟩ ?_
  refine pw_istore_n (ls2 := [some (Aq r0), some (Iq 0), some (Iq 0), none, none]) eX0_childrenAlike_3 rfl (by decide) rfl ?_
  exact h

set_option maxRecDepth 100000 in
theorem rg_X0_childrenAlike_4 {S : Sx} {Q : Option PV → Zm → Prop} {mem : Zm}  {r0 : Nat} {x1 x2 : Int} (hr0 : isRoom r0)
    (h : (((mem r0 7 ≤ x2) → (Q (some (Iq x1)) mem)) ∧ (¬ (mem r0 7 ≤ x2) → ((in32 (x2 + 1)) ∧ PW S mX0_childrenAlike Q 16 [some (Aq r0), some (Iq x1), some (Iq x2), some (Iq (x2 + 1)), none] [] mem)))) :
    PW S mX0_childrenAlike Q 4 [some (Aq r0), some (Iq x1), some (Iq x2), none, none] [] mem := by
  refine pw_iload_n eX0_childrenAlike_4 rfl rfl ?_
  refine pw_aload_n eX0_childrenAlike_5 rfl rfl ?_
  refine gf_RX0_34 rfl eX0_childrenAlike_6 (shR hr0) ?_
  refine pw_icmp_ge eX0_childrenAlike_9 (fun c1 => ?_) (fun c1 => ?_)
  · have h := h.1 c1
    refine pw_iload_n eX0_childrenAlike_91 rfl rfl ?_
    exact pw_iret eX0_childrenAlike_92 h
  · have h := h.2 c1
    refine pw_iload_n eX0_childrenAlike_12 rfl rfl ?_
    refine pw_iconst eX0_childrenAlike_13 ⟨by decide, by decide⟩ ?_
    obtain ⟨o2, h⟩ := h
    refine pw_iadd eX0_childrenAlike_14 o2 ?_
    refine pw_istore_n (ls2 := [some (Aq r0), some (Iq x1), some (Iq x2), some (Iq (x2 + 1)), none]) eX0_childrenAlike_15 rfl (by decide) rfl ?_
    exact h

set_option maxRecDepth 100000 in
theorem rg_X0_childrenAlike_16 {S : Sx} {Q : Option PV → Zm → Prop} {mem : Zm}  {r0 : Nat} {x1 x2 x3 : Int} (hr0 : isRoom r0)
    (h : (((mem r0 7 ≤ x3) → ((in32 (x2 + 1)) ∧ PW S mX0_childrenAlike Q 4 [some (Aq r0), some (Iq x1), some (Iq (x2 + 1)), none, none] [] mem)) ∧ (¬ (mem r0 7 ≤ x3) → ((0 ≤ x2 ∧ x2 < 8) ∧ (0 ≤ x3 ∧ x3 < 8) ∧ (∃ (v5 : Int) (m6 : Zm), Ct1 S mJ6_bitCount_0f7a4 [Iq (bAnd (mem (r0 + 5) (x2).toNat) (mem (r0 + 5) (x3).toNat))] mem (some (Iq v5)) m6 ∧ ((((v5 < m6 r0 6) → ((in32 (x3 + 1)) ∧ PW S mX0_childrenAlike Q 16 [some (Aq r0), some (Iq x1), some (Iq x2), some (Iq (x3 + 1)), none] [] m6)) ∧ (¬ (v5 < m6 r0 6) → ((∃ (v10 : Int) (m11 : Zm), Ct1 S mX0_sameAmong [Aq r0, Iq (bAnd (mem (r0 + 5) (x2).toNat) (mem (r0 + 5) (x3).toNat)), Iq x2, Iq x3] m6 (some (Iq v10)) m11 ∧ ((∃ (v13 : Int) (m14 : Zm), Ct1 S mJ6_bitCount_0f7a4 [Iq v10] m11 (some (Iq v13)) m14 ∧ ((((v13 < m14 r0 6) → ((in32 (x3 + 1)) ∧ PW S mX0_childrenAlike Q 16 [some (Aq r0), some (Iq x1), some (Iq x2), some (Iq (x3 + 1)), none] [] m14)) ∧ (¬ (v13 < m14 r0 6) → ((in32 (x3 + 1)) ∧ PW S mX0_childrenAlike Q 16 [some (Aq r0), some (Iq (bOr x1 (bOr (bShl 1 x2) (bShl 1 x3)))), some (Iq x2), some (Iq (x3 + 1)), none] [] m14)))))))))))))))) :
    PW S mX0_childrenAlike Q 16 [some (Aq r0), some (Iq x1), some (Iq x2), some (Iq x3), none] [] mem := by
  refine pw_iload_n eX0_childrenAlike_16 rfl rfl ?_
  refine pw_aload_n eX0_childrenAlike_17 rfl rfl ?_
  refine gf_RX0_34 rfl eX0_childrenAlike_18 (shR hr0) ?_
  refine pw_icmp_ge eX0_childrenAlike_21 (fun c1 => ?_) (fun c1 => ?_)
  · have h := h.1 c1
    obtain ⟨o2, h⟩ := h
    refine pw_iinc (ls2 := [some (Aq r0), some (Iq x1), some (Iq (x2 + 1)), some (Iq x3), none]) eX0_childrenAlike_85 rfl o2 rfl ?_
    refine pw_goto eX0_childrenAlike_88 ?_
    exact pw_drop (bs := [true, true, true, false, false]) h
  · have h := h.2 c1
    refine pw_aload_n eX0_childrenAlike_24 rfl rfl ?_
    refine gf_RX0_24 rfl eX0_childrenAlike_25 (shR hr0) ?_
    refine pw_iload_n eX0_childrenAlike_28 rfl rfl ?_
    obtain ⟨o3, h⟩ := h
    refine pw_iald eX0_childrenAlike_29 (shR5 hr0) o3 ?_
    refine pw_aload_n eX0_childrenAlike_30 rfl rfl ?_
    refine gf_RX0_24 rfl eX0_childrenAlike_31 (shR hr0) ?_
    refine pw_iload_n eX0_childrenAlike_34 rfl rfl ?_
    obtain ⟨o4, h⟩ := h
    refine pw_iald eX0_childrenAlike_35 (shR5 hr0) o4 ?_
    refine pw_iand eX0_childrenAlike_36 ?_
    refine pw_istore (ls2 := [some (Aq r0), some (Iq x1), some (Iq x2), some (Iq x3), some (Iq (bAnd (mem (r0 + 5) (x2).toNat) (mem (r0 + 5) (x3).toNat)))]) eX0_childrenAlike_37 (by decide) rfl ?_
    refine pw_iload eX0_childrenAlike_39 rfl ?_
    obtain ⟨v5, m6, hc7, h⟩ := h
    refine pw_cS (z := mJ6_bitCount_0f7a4) (av := [Iq (bAnd (mem (r0 + 5) (x2).toNat) (mem (r0 + 5) (x3).toNat))]) (st := []) eX0_childrenAlike_41 lk_RX0_117 rfl (by decide) (by decide) (Nat.le_of_ble_eq_true rfl) rfl hc7 ?_
    show PW S mX0_childrenAlike Q 44 [some (Aq r0), some (Iq x1), some (Iq x2), some (Iq x3), some (Iq (bAnd (mem (r0 + 5) (x2).toNat) (mem (r0 + 5) (x3).toNat)))] [Iq v5] m6
    refine pw_aload_n eX0_childrenAlike_44 rfl rfl ?_
    refine gf_RX0_30 rfl eX0_childrenAlike_45 (shR hr0) ?_
    refine pw_icmp_lt eX0_childrenAlike_48 (fun c8 => ?_) (fun c8 => ?_)
    · have h := h.1 c8
      obtain ⟨o9, h⟩ := h
      refine pw_iinc (ls2 := [some (Aq r0), some (Iq x1), some (Iq x2), some (Iq (x3 + 1)), some (Iq (bAnd (mem (r0 + 5) (x2).toNat) (mem (r0 + 5) (x3).toNat)))]) eX0_childrenAlike_79 rfl o9 rfl ?_
      refine pw_goto eX0_childrenAlike_82 ?_
      exact pw_drop (bs := [true, true, true, true, false]) h
    · have h := h.2 c8
      refine pw_aload_n eX0_childrenAlike_51 rfl rfl ?_
      refine pw_iload eX0_childrenAlike_52 rfl ?_
      refine pw_iload_n eX0_childrenAlike_54 rfl rfl ?_
      refine pw_iload_n eX0_childrenAlike_55 rfl rfl ?_
      obtain ⟨v10, m11, hc12, h⟩ := h
      refine pw_cV (z := mX0_sameAmong) (av := [Iq (bAnd (mem (r0 + 5) (x2).toNat) (mem (r0 + 5) (x3).toNat)), Iq x2, Iq x3]) (st := []) eX0_childrenAlike_56 lk_RX0_122 rfl (by decide) (by decide) (shR hr0) rfl rfl (Nat.le_of_ble_eq_true rfl) rfl hc12 ?_
      show PW S mX0_childrenAlike Q 59 [some (Aq r0), some (Iq x1), some (Iq x2), some (Iq x3), some (Iq (bAnd (mem (r0 + 5) (x2).toNat) (mem (r0 + 5) (x3).toNat)))] [Iq v10] m11
      obtain ⟨v13, m14, hc15, h⟩ := h
      refine pw_cS (z := mJ6_bitCount_0f7a4) (av := [Iq v10]) (st := []) eX0_childrenAlike_59 lk_RX0_117 rfl (by decide) (by decide) (Nat.le_of_ble_eq_true rfl) rfl hc15 ?_
      show PW S mX0_childrenAlike Q 62 [some (Aq r0), some (Iq x1), some (Iq x2), some (Iq x3), some (Iq (bAnd (mem (r0 + 5) (x2).toNat) (mem (r0 + 5) (x3).toNat)))] [Iq v13] m14
      refine pw_aload_n eX0_childrenAlike_62 rfl rfl ?_
      refine gf_RX0_30 rfl eX0_childrenAlike_63 (shR hr0) ?_
      refine pw_icmp_lt eX0_childrenAlike_66 (fun c16 => ?_) (fun c16 => ?_)
      · have h := h.1 c16
        obtain ⟨o17, h⟩ := h
        refine pw_iinc (ls2 := [some (Aq r0), some (Iq x1), some (Iq x2), some (Iq (x3 + 1)), some (Iq (bAnd (mem (r0 + 5) (x2).toNat) (mem (r0 + 5) (x3).toNat)))]) eX0_childrenAlike_79 rfl o17 rfl ?_
        refine pw_goto eX0_childrenAlike_82 ?_
        exact pw_drop (bs := [true, true, true, true, false]) h
      · have h := h.2 c16
        refine pw_iload_n eX0_childrenAlike_69 rfl rfl ?_
        refine pw_iconst eX0_childrenAlike_70 ⟨by decide, by decide⟩ ?_
        refine pw_iload_n eX0_childrenAlike_71 rfl rfl ?_
        refine pw_ishl eX0_childrenAlike_72 ?_
        refine pw_iconst eX0_childrenAlike_73 ⟨by decide, by decide⟩ ?_
        refine pw_iload_n eX0_childrenAlike_74 rfl rfl ?_
        refine pw_ishl eX0_childrenAlike_75 ?_
        refine pw_ior eX0_childrenAlike_76 ?_
        refine pw_ior eX0_childrenAlike_77 ?_
        refine pw_istore_n (ls2 := [some (Aq r0), some (Iq (bOr x1 (bOr (bShl 1 x2) (bShl 1 x3)))), some (Iq x2), some (Iq x3), some (Iq (bAnd (mem (r0 + 5) (x2).toNat) (mem (r0 + 5) (x3).toNat)))]) eX0_childrenAlike_78 rfl (by decide) rfl ?_
        obtain ⟨o18, h⟩ := h
        refine pw_iinc (ls2 := [some (Aq r0), some (Iq (bOr x1 (bOr (bShl 1 x2) (bShl 1 x3)))), some (Iq x2), some (Iq (x3 + 1)), some (Iq (bAnd (mem (r0 + 5) (x2).toNat) (mem (r0 + 5) (x3).toNat)))]) eX0_childrenAlike_79 rfl o18 rfl ?_
        refine pw_goto eX0_childrenAlike_82 ?_
        exact pw_drop (bs := [true, true, true, true, false]) h
set_option maxRecDepth 100000 in
theorem rg_X0_alikeSums_0 {S : Sx} {Q : Option PV → Zm → Prop} {mem : Zm}  {r0 : Nat} {x1 x2 : Int} (hr0 : isRoom r0)
    (h : (∃ (v1 : Int) (m2 : Zm), Ct1 S mX0_wrongSums [Aq r0, Iq x1] mem (some (Iq v1)) m2 ∧ ((∃ (v4 : Int) (m5 : Zm), Ct1 S mX0_wrongSums [Aq r0, Iq x2] m2 (some (Iq v4)) m5 ∧ ((∃ (v7 : Int) (m8 : Zm), Ct1 S mX0_sameAmong [Aq r0, Iq (bAnd v1 v4), Iq x1, Iq x2] m5 (some (Iq v7)) m8 ∧ (Q (some (Iq v7)) m8))))))) :
    PW S mX0_alikeSums Q 0 [some (Aq r0), some (Iq x1), some (Iq x2)] [] mem := by
  refine pw_aload_n eX0_alikeSums_0 rfl rfl ?_
  refine pw_aload_n eX0_alikeSums_1 rfl rfl ?_
  refine pw_iload_n eX0_alikeSums_2 rfl rfl ?_
  obtain ⟨v1, m2, hc3, h⟩ := h
  refine pw_cV (z := mX0_wrongSums) (av := [Iq x1]) (st := [Aq r0]) eX0_alikeSums_3 lk_RX0_125 rfl (by decide) (by decide) (shR hr0) rfl rfl (Nat.le_of_ble_eq_true rfl) rfl hc3 ?_
  show PW S mX0_alikeSums Q 6 [some (Aq r0), some (Iq x1), some (Iq x2)] [Iq v1, Aq r0] m2
  refine pw_aload_n eX0_alikeSums_6 rfl rfl ?_
  refine pw_iload_n eX0_alikeSums_7 rfl rfl ?_
  obtain ⟨v4, m5, hc6, h⟩ := h
  refine pw_cV (z := mX0_wrongSums) (av := [Iq x2]) (st := [Iq v1, Aq r0]) eX0_alikeSums_8 lk_RX0_125 rfl (by decide) (by decide) (shR hr0) rfl rfl (Nat.le_of_ble_eq_true rfl) rfl hc6 ?_
  show PW S mX0_alikeSums Q 11 [some (Aq r0), some (Iq x1), some (Iq x2)] [Iq v4, Iq v1, Aq r0] m5
  refine pw_iand eX0_alikeSums_11 ?_
  refine pw_iload_n eX0_alikeSums_12 rfl rfl ?_
  refine pw_iload_n eX0_alikeSums_13 rfl rfl ?_
  obtain ⟨v7, m8, hc9, h⟩ := h
  refine pw_cV (z := mX0_sameAmong) (av := [Iq (bAnd v1 v4), Iq x1, Iq x2]) (st := []) eX0_alikeSums_14 lk_RX0_122 rfl (by decide) (by decide) (shR hr0) rfl rfl (Nat.le_of_ble_eq_true rfl) rfl hc9 ?_
  show PW S mX0_alikeSums Q 17 [some (Aq r0), some (Iq x1), some (Iq x2)] [Iq v7] m8
  exact pw_iret eX0_alikeSums_17 h
set_option maxRecDepth 100000 in
theorem rg_X0_sameAmong_0 {S : Sx} {Q : Option PV → Zm → Prop} {mem : Zm}  {r0 : Nat} {x1 x2 x3 : Int} (hr0 : isRoom r0)
    (h : PW S mX0_sameAmong Q 6 [some (Aq r0), some (Iq x1), some (Iq x2), some (Iq x3), some (Iq 0), some (Iq 0)] [] mem) :
    PW S mX0_sameAmong Q 0 [some (Aq r0), some (Iq x1), some (Iq x2), some (Iq x3), none, none] [] mem := by
  refine pw_iconst eX0_sameAmong_0 ⟨by decide, by decide⟩ ?_
  refine pw_istore (ls2 := [some (Aq r0), some (Iq x1), some (Iq x2), some (Iq x3), some (Iq 0), none]) eX0_sameAmong_1 (by decide) rfl ?_
  refine pw_iconst eX0_sameAmong_3 ⟨by decide, by decide⟩ ?_
  refine pw_istore (ls2 := [some (Aq r0), some (Iq x1), some (Iq x2), some (Iq x3), some (Iq 0), some (Iq 0)]) eX0_sameAmong_4 (by decide) rfl ?_
  exact h

set_option maxRecDepth 100000 in
theorem rg_X0_sameAmong_6 {S : Sx} {Q : Option PV → Zm → Prop} {mem : Zm}  {r0 : Nat} {x1 x2 x3 x4 x5 : Int} (hr0 : isRoom r0)
    (h : (((8 ≤ x5) → (Q (some (Iq x4)) mem)) ∧ (¬ (8 ≤ x5) → ((((¬ bAnd (bShr x1 x5) 1 = 1) → ((in32 (x5 + 1)) ∧ PW S mX0_sameAmong Q 6 [some (Aq r0), some (Iq x1), some (Iq x2), some (Iq x3), some (Iq x4), some (Iq (x5 + 1))] [] mem)) ∧ (¬ (¬ bAnd (bShr x1 x5) 1 = 1) → ((∃ (v4 : Int) (m5 : Zm), Ct1 S mX0_answerOf [Aq r0, Iq x2, Iq x5] mem (some (Iq v4)) m5 ∧ ((∃ (v7 : Int) (m8 : Zm), Ct1 S mX0_answerOf [Aq r0, Iq x3, Iq x5] m5 (some (Iq v7)) m8 ∧ ((((¬ v4 = v7) → ((in32 (x5 + 1)) ∧ PW S mX0_sameAmong Q 6 [some (Aq r0), some (Iq x1), some (Iq x2), some (Iq x3), some (Iq x4), some (Iq (x5 + 1))] [] m8)) ∧ (¬ (¬ v4 = v7) → ((in32 (x5 + 1)) ∧ PW S mX0_sameAmong Q 6 [some (Aq r0), some (Iq x1), some (Iq x2), some (Iq x3), some (Iq (bOr x4 (bShl 1 x5))), some (Iq (x5 + 1))] [] m8)))))))))))))) :
    PW S mX0_sameAmong Q 6 [some (Aq r0), some (Iq x1), some (Iq x2), some (Iq x3), some (Iq x4), some (Iq x5)] [] mem := by
  refine pw_iload eX0_sameAmong_6 rfl ?_
  refine pw_bipush eX0_sameAmong_8 ⟨by decide, by decide⟩ (by decide) ?_
  refine pw_icmp_ge eX0_sameAmong_10 (fun c1 => ?_) (fun c1 => ?_)
  · have h := h.1 c1
    refine pw_iload eX0_sameAmong_55 rfl ?_
    exact pw_iret eX0_sameAmong_57 h
  · have h := h.2 c1
    refine pw_iload_n eX0_sameAmong_13 rfl rfl ?_
    refine pw_iload eX0_sameAmong_14 rfl ?_
    refine pw_ishr eX0_sameAmong_16 ?_
    refine pw_iconst eX0_sameAmong_17 ⟨by decide, by decide⟩ ?_
    refine pw_iand eX0_sameAmong_18 ?_
    refine pw_iconst eX0_sameAmong_19 ⟨by decide, by decide⟩ ?_
    refine pw_icmp_ne eX0_sameAmong_20 (fun c2 => ?_) (fun c2 => ?_)
    · have h := h.1 c2
      obtain ⟨o3, h⟩ := h
      refine pw_iinc (ls2 := [some (Aq r0), some (Iq x1), some (Iq x2), some (Iq x3), some (Iq x4), some (Iq (x5 + 1))]) eX0_sameAmong_49 rfl o3 rfl ?_
      refine pw_goto eX0_sameAmong_52 ?_
      exact h
    · have h := h.2 c2
      refine pw_aload_n eX0_sameAmong_23 rfl rfl ?_
      refine pw_iload_n eX0_sameAmong_24 rfl rfl ?_
      refine pw_iload eX0_sameAmong_25 rfl ?_
      obtain ⟨v4, m5, hc6, h⟩ := h
      refine pw_cV (z := mX0_answerOf) (av := [Iq x2, Iq x5]) (st := []) eX0_sameAmong_27 lk_RX0_86 rfl (by decide) (by decide) (shR hr0) rfl rfl (Nat.le_of_ble_eq_true rfl) rfl hc6 ?_
      show PW S mX0_sameAmong Q 30 [some (Aq r0), some (Iq x1), some (Iq x2), some (Iq x3), some (Iq x4), some (Iq x5)] [Iq v4] m5
      refine pw_aload_n eX0_sameAmong_30 rfl rfl ?_
      refine pw_iload_n eX0_sameAmong_31 rfl rfl ?_
      refine pw_iload eX0_sameAmong_32 rfl ?_
      obtain ⟨v7, m8, hc9, h⟩ := h
      refine pw_cV (z := mX0_answerOf) (av := [Iq x3, Iq x5]) (st := [Iq v4]) eX0_sameAmong_34 lk_RX0_86 rfl (by decide) (by decide) (shR hr0) rfl rfl (Nat.le_of_ble_eq_true rfl) rfl hc9 ?_
      show PW S mX0_sameAmong Q 37 [some (Aq r0), some (Iq x1), some (Iq x2), some (Iq x3), some (Iq x4), some (Iq x5)] [Iq v7, Iq v4] m8
      refine pw_icmp_ne eX0_sameAmong_37 (fun c10 => ?_) (fun c10 => ?_)
      · have h := h.1 c10
        obtain ⟨o11, h⟩ := h
        refine pw_iinc (ls2 := [some (Aq r0), some (Iq x1), some (Iq x2), some (Iq x3), some (Iq x4), some (Iq (x5 + 1))]) eX0_sameAmong_49 rfl o11 rfl ?_
        refine pw_goto eX0_sameAmong_52 ?_
        exact h
      · have h := h.2 c10
        refine pw_iload eX0_sameAmong_40 rfl ?_
        refine pw_iconst eX0_sameAmong_42 ⟨by decide, by decide⟩ ?_
        refine pw_iload eX0_sameAmong_43 rfl ?_
        refine pw_ishl eX0_sameAmong_45 ?_
        refine pw_ior eX0_sameAmong_46 ?_
        refine pw_istore (ls2 := [some (Aq r0), some (Iq x1), some (Iq x2), some (Iq x3), some (Iq (bOr x4 (bShl 1 x5))), some (Iq x5)]) eX0_sameAmong_47 (by decide) rfl ?_
        obtain ⟨o12, h⟩ := h
        refine pw_iinc (ls2 := [some (Aq r0), some (Iq x1), some (Iq x2), some (Iq x3), some (Iq (bOr x4 (bShl 1 x5))), some (Iq (x5 + 1))]) eX0_sameAmong_49 rfl o12 rfl ?_
        refine pw_goto eX0_sameAmong_52 ?_
        exact h
set_option maxRecDepth 100000 in
theorem rg_X0_wrongSums_0 {S : Sx} {Q : Option PV → Zm → Prop} {mem : Zm}  {r0 : Nat} {x1 : Int} (hr0 : isRoom r0)
    (h : PW S mX0_wrongSums Q 4 [some (Aq r0), some (Iq x1), some (Iq 0), some (Iq 0), none] [] mem) :
    PW S mX0_wrongSums Q 0 [some (Aq r0), some (Iq x1), none, none, none] [] mem := by
  refine pw_iconst eX0_wrongSums_0 ⟨by decide, by decide⟩ ?_
  refine pw_istore_n (ls2 := [some (Aq r0), some (Iq x1), some (Iq 0), none, none]) eX0_wrongSums_1 rfl (by decide) rfl ?_
  refine pw_iconst eX0_wrongSums_2 ⟨by decide, by decide⟩ ?_
  refine pw_istore_n (ls2 := [some (Aq r0), some (Iq x1), some (Iq 0), some (Iq 0), none]) eX0_wrongSums_3 rfl (by decide) rfl ?_
  exact h

set_option maxRecDepth 100000 in
theorem rg_X0_wrongSums_4 {S : Sx} {Q : Option PV → Zm → Prop} {mem : Zm}  {r0 : Nat} {x1 x2 x3 : Int} (hr0 : isRoom r0)
    (h : (((8 ≤ x3) → (Q (some (Iq x2)) mem)) ∧ (¬ (8 ≤ x3) → ((∃ (v2 : Int) (m3 : Zm), Ct1 S mX0_answerOf [Aq r0, Iq x1, Iq x3] mem (some (Iq v2)) m3 ∧ ((((v2 = -1) → ((in32 (x3 + 1)) ∧ PW S mX0_wrongSums Q 4 [some (Aq r0), some (Iq x1), some (Iq x2), some (Iq (x3 + 1)), none] [] m3)) ∧ (¬ (v2 = -1) → ((0 ≤ x3 ∧ x3 < 8) ∧ (((v2 = m3 (r0 + 1) (x3).toNat) → ((in32 (x3 + 1)) ∧ PW S mX0_wrongSums Q 4 [some (Aq r0), some (Iq x1), some (Iq x2), some (Iq (x3 + 1)), none] [] m3)) ∧ (¬ (v2 = m3 (r0 + 1) (x3).toNat) → ((in32 (x3 + 1)) ∧ PW S mX0_wrongSums Q 4 [some (Aq r0), some (Iq x1), some (Iq (bOr x2 (bShl 1 x3))), some (Iq (x3 + 1)), none] [] m3)))))))))))) :
    PW S mX0_wrongSums Q 4 [some (Aq r0), some (Iq x1), some (Iq x2), some (Iq x3), none] [] mem := by
  refine pw_iload_n eX0_wrongSums_4 rfl rfl ?_
  refine pw_bipush eX0_wrongSums_5 ⟨by decide, by decide⟩ (by decide) ?_
  refine pw_icmp_ge eX0_wrongSums_7 (fun c1 => ?_) (fun c1 => ?_)
  · have h := h.1 c1
    refine pw_iload_n eX0_wrongSums_47 rfl rfl ?_
    exact pw_iret eX0_wrongSums_48 h
  · have h := h.2 c1
    refine pw_aload_n eX0_wrongSums_10 rfl rfl ?_
    refine pw_iload_n eX0_wrongSums_11 rfl rfl ?_
    refine pw_iload_n eX0_wrongSums_12 rfl rfl ?_
    obtain ⟨v2, m3, hc4, h⟩ := h
    refine pw_cV (z := mX0_answerOf) (av := [Iq x1, Iq x3]) (st := []) eX0_wrongSums_13 lk_RX0_86 rfl (by decide) (by decide) (shR hr0) rfl rfl (Nat.le_of_ble_eq_true rfl) rfl hc4 ?_
    show PW S mX0_wrongSums Q 16 [some (Aq r0), some (Iq x1), some (Iq x2), some (Iq x3), none] [Iq v2] m3
    refine pw_istore (ls2 := [some (Aq r0), some (Iq x1), some (Iq x2), some (Iq x3), some (Iq v2)]) eX0_wrongSums_16 (by decide) rfl ?_
    refine pw_iload eX0_wrongSums_18 rfl ?_
    refine pw_iconst eX0_wrongSums_20 ⟨by decide, by decide⟩ ?_
    refine pw_icmp_eq eX0_wrongSums_21 (fun c5 => ?_) (fun c5 => ?_)
    · have h := h.1 c5
      obtain ⟨o6, h⟩ := h
      refine pw_iinc (ls2 := [some (Aq r0), some (Iq x1), some (Iq x2), some (Iq (x3 + 1)), some (Iq v2)]) eX0_wrongSums_41 rfl o6 rfl ?_
      refine pw_goto eX0_wrongSums_44 ?_
      exact pw_drop (bs := [true, true, true, true, false]) h
    · have h := h.2 c5
      refine pw_iload eX0_wrongSums_24 rfl ?_
      refine pw_aload_n eX0_wrongSums_26 rfl rfl ?_
      refine gf_RX0_9 rfl eX0_wrongSums_27 (shR hr0) ?_
      refine pw_iload_n eX0_wrongSums_30 rfl rfl ?_
      obtain ⟨o7, h⟩ := h
      refine pw_iald eX0_wrongSums_31 (shR1 hr0) o7 ?_
      refine pw_icmp_eq eX0_wrongSums_32 (fun c8 => ?_) (fun c8 => ?_)
      · have h := h.1 c8
        obtain ⟨o9, h⟩ := h
        refine pw_iinc (ls2 := [some (Aq r0), some (Iq x1), some (Iq x2), some (Iq (x3 + 1)), some (Iq v2)]) eX0_wrongSums_41 rfl o9 rfl ?_
        refine pw_goto eX0_wrongSums_44 ?_
        exact pw_drop (bs := [true, true, true, true, false]) h
      · have h := h.2 c8
        refine pw_iload_n eX0_wrongSums_35 rfl rfl ?_
        refine pw_iconst eX0_wrongSums_36 ⟨by decide, by decide⟩ ?_
        refine pw_iload_n eX0_wrongSums_37 rfl rfl ?_
        refine pw_ishl eX0_wrongSums_38 ?_
        refine pw_ior eX0_wrongSums_39 ?_
        refine pw_istore_n (ls2 := [some (Aq r0), some (Iq x1), some (Iq (bOr x2 (bShl 1 x3))), some (Iq x3), some (Iq v2)]) eX0_wrongSums_40 rfl (by decide) rfl ?_
        obtain ⟨o10, h⟩ := h
        refine pw_iinc (ls2 := [some (Aq r0), some (Iq x1), some (Iq (bOr x2 (bShl 1 x3))), some (Iq (x3 + 1)), some (Iq v2)]) eX0_wrongSums_41 rfl o10 rfl ?_
        refine pw_goto eX0_wrongSums_44 ?_
        exact pw_drop (bs := [true, true, true, true, false]) h
set_option maxRecDepth 100000 in
theorem rg_X0_draw_0 {S : Sx} {Q : Option PV → Zm → Prop} {mem : Zm}  {r0 : Nat} (hr0 : isRoom r0)
    (h : Q (some (Iq (bUshr ((mup mem r0 9 (wr ((wr ((mem r0 9) * 1103515245)) + 12345))) r0 9) 8))) (mup mem r0 9 (wr ((wr ((mem r0 9) * 1103515245)) + 12345)))) :
    PW S mX0_draw Q 0 [some (Aq r0)] [] mem := by
  refine pw_aload_n eX0_draw_0 rfl rfl ?_
  refine pw_aload_n eX0_draw_1 rfl rfl ?_
  refine gf_RX0_40 rfl eX0_draw_2 (shR hr0) ?_
  refine pw_ldc (n := 1103515245) eX0_draw_5 ⟨by decide, by decide⟩ kc_RX0_128 ?_
  refine pw_imulw eX0_draw_7 ?_
  refine pw_sipush eX0_draw_8 ⟨by decide, by decide⟩ (by decide) ?_
  refine pw_iaddw eX0_draw_11 ?_
  refine pf_RX0_40 rfl eX0_draw_12 (shR hr0) ?_
  refine pw_aload_n eX0_draw_15 rfl rfl ?_
  refine gf_RX0_40 rfl eX0_draw_16 (shR hr0) ?_
  refine pw_bipush eX0_draw_19 ⟨by decide, by decide⟩ (by decide) ?_
  refine pw_iushr eX0_draw_21 ?_
  exact pw_iret eX0_draw_22 h
set_option maxRecDepth 100000 in
theorem rg_X0_answeredSums_0 {S : Sx} {Q : Option PV → Zm → Prop} {mem : Zm}  {r0 : Nat} {x1 : Int} (hr0 : isRoom r0)
    (h : PW S mX0_answeredSums Q 4 [some (Aq r0), some (Iq x1), some (Iq 0), some (Iq 0)] [] mem) :
    PW S mX0_answeredSums Q 0 [some (Aq r0), some (Iq x1), none, none] [] mem := by
  refine pw_iconst eX0_answeredSums_0 ⟨by decide, by decide⟩ ?_
  refine pw_istore_n (ls2 := [some (Aq r0), some (Iq x1), some (Iq 0), none]) eX0_answeredSums_1 rfl (by decide) rfl ?_
  refine pw_iconst eX0_answeredSums_2 ⟨by decide, by decide⟩ ?_
  refine pw_istore_n (ls2 := [some (Aq r0), some (Iq x1), some (Iq 0), some (Iq 0)]) eX0_answeredSums_3 rfl (by decide) rfl ?_
  exact h

set_option maxRecDepth 100000 in
theorem rg_X0_answeredSums_4 {S : Sx} {Q : Option PV → Zm → Prop} {mem : Zm}  {r0 : Nat} {x1 x2 x3 : Int} (hr0 : isRoom r0)
    (h : (((8 ≤ x3) → (Q (some (Iq x2)) mem)) ∧ (¬ (8 ≤ x3) → ((∃ (v2 : Int) (m3 : Zm), Ct1 S mX0_answerOf [Aq r0, Iq x1, Iq x3] mem (some (Iq v2)) m3 ∧ ((((v2 = -1) → ((in32 (x3 + 1)) ∧ PW S mX0_answeredSums Q 4 [some (Aq r0), some (Iq x1), some (Iq x2), some (Iq (x3 + 1))] [] m3)) ∧ (¬ (v2 = -1) → ((in32 (x3 + 1)) ∧ PW S mX0_answeredSums Q 4 [some (Aq r0), some (Iq x1), some (Iq (bOr x2 (bShl 1 x3))), some (Iq (x3 + 1))] [] m3))))))))) :
    PW S mX0_answeredSums Q 4 [some (Aq r0), some (Iq x1), some (Iq x2), some (Iq x3)] [] mem := by
  refine pw_iload_n eX0_answeredSums_4 rfl rfl ?_
  refine pw_bipush eX0_answeredSums_5 ⟨by decide, by decide⟩ (by decide) ?_
  refine pw_icmp_ge eX0_answeredSums_7 (fun c1 => ?_) (fun c1 => ?_)
  · have h := h.1 c1
    refine pw_iload_n eX0_answeredSums_32 rfl rfl ?_
    exact pw_iret eX0_answeredSums_33 h
  · have h := h.2 c1
    refine pw_aload_n eX0_answeredSums_10 rfl rfl ?_
    refine pw_iload_n eX0_answeredSums_11 rfl rfl ?_
    refine pw_iload_n eX0_answeredSums_12 rfl rfl ?_
    obtain ⟨v2, m3, hc4, h⟩ := h
    refine pw_cV (z := mX0_answerOf) (av := [Iq x1, Iq x3]) (st := []) eX0_answeredSums_13 lk_RX0_86 rfl (by decide) (by decide) (shR hr0) rfl rfl (Nat.le_of_ble_eq_true rfl) rfl hc4 ?_
    show PW S mX0_answeredSums Q 16 [some (Aq r0), some (Iq x1), some (Iq x2), some (Iq x3)] [Iq v2] m3
    refine pw_iconst eX0_answeredSums_16 ⟨by decide, by decide⟩ ?_
    refine pw_icmp_eq eX0_answeredSums_17 (fun c5 => ?_) (fun c5 => ?_)
    · have h := h.1 c5
      obtain ⟨o6, h⟩ := h
      refine pw_iinc (ls2 := [some (Aq r0), some (Iq x1), some (Iq x2), some (Iq (x3 + 1))]) eX0_answeredSums_26 rfl o6 rfl ?_
      refine pw_goto eX0_answeredSums_29 ?_
      exact h
    · have h := h.2 c5
      refine pw_iload_n eX0_answeredSums_20 rfl rfl ?_
      refine pw_iconst eX0_answeredSums_21 ⟨by decide, by decide⟩ ?_
      refine pw_iload_n eX0_answeredSums_22 rfl rfl ?_
      refine pw_ishl eX0_answeredSums_23 ?_
      refine pw_ior eX0_answeredSums_24 ?_
      refine pw_istore_n (ls2 := [some (Aq r0), some (Iq x1), some (Iq (bOr x2 (bShl 1 x3))), some (Iq x3)]) eX0_answeredSums_25 rfl (by decide) rfl ?_
      obtain ⟨o7, h⟩ := h
      refine pw_iinc (ls2 := [some (Aq r0), some (Iq x1), some (Iq (bOr x2 (bShl 1 x3))), some (Iq (x3 + 1))]) eX0_answeredSums_26 rfl o7 rfl ?_
      refine pw_goto eX0_answeredSums_29 ?_
      exact h
set_option maxRecDepth 100000 in
theorem rg_X0_copiedChildren_0 {S : Sx} {Q : Option PV → Zm → Prop} {mem : Zm}  {r0 : Nat} (hr0 : isRoom r0)
    (h : PW S mX0_copiedChildren Q 4 [some (Aq r0), some (Iq 0), some (Iq 0), none] [] mem) :
    PW S mX0_copiedChildren Q 0 [some (Aq r0), none, none, none] [] mem := by
  refine pw_iconst eX0_copiedChildren_0 ⟨by decide, by decide⟩ ?_
  refine pw_istore_n (ls2 := [some (Aq r0), some (Iq 0), none, none]) eX0_copiedChildren_1 rfl (by decide) rfl ?_
  refine pw_iconst eX0_copiedChildren_2 ⟨by decide, by decide⟩ ?_
  refine pw_istore_n (ls2 := [some (Aq r0), some (Iq 0), some (Iq 0), none]) eX0_copiedChildren_3 rfl (by decide) rfl ?_
  exact h

set_option maxRecDepth 100000 in
theorem rg_X0_copiedChildren_4 {S : Sx} {Q : Option PV → Zm → Prop} {mem : Zm}  {r0 : Nat} {x1 x2 : Int} (hr0 : isRoom r0)
    (h : (((mem r0 7 ≤ x2) → (Q (some (Iq x1)) mem)) ∧ (¬ (mem r0 7 ≤ x2) → ((∃ (v2 : Int) (m3 : Zm), Ct1 S mX0_fact [Aq r0, Iq x2, Iq 2] mem (some (Iq v2)) m3 ∧ ((((v2 = -1) → ((in32 (x2 + 1)) ∧ PW S mX0_copiedChildren Q 4 [some (Aq r0), some (Iq x1), some (Iq (x2 + 1)), none] [] m3)) ∧ (¬ (v2 = -1) → ((in32 (x2 + 1)) ∧ PW S mX0_copiedChildren Q 4 [some (Aq r0), some (Iq (bOr x1 (bShl 1 v2))), some (Iq (x2 + 1)), none] [] m3))))))))) :
    PW S mX0_copiedChildren Q 4 [some (Aq r0), some (Iq x1), some (Iq x2), none] [] mem := by
  refine pw_iload_n eX0_copiedChildren_4 rfl rfl ?_
  refine pw_aload_n eX0_copiedChildren_5 rfl rfl ?_
  refine gf_RX0_34 rfl eX0_copiedChildren_6 (shR hr0) ?_
  refine pw_icmp_ge eX0_copiedChildren_9 (fun c1 => ?_) (fun c1 => ?_)
  · have h := h.1 c1
    refine pw_iload_n eX0_copiedChildren_36 rfl rfl ?_
    exact pw_iret eX0_copiedChildren_37 h
  · have h := h.2 c1
    refine pw_aload_n eX0_copiedChildren_12 rfl rfl ?_
    refine pw_iload_n eX0_copiedChildren_13 rfl rfl ?_
    refine pw_iconst eX0_copiedChildren_14 ⟨by decide, by decide⟩ ?_
    obtain ⟨v2, m3, hc4, h⟩ := h
    refine pw_cV (z := mX0_fact) (av := [Iq x2, Iq 2]) (st := []) eX0_copiedChildren_15 lk_RX0_59 rfl (by decide) (by decide) (shR hr0) rfl rfl (Nat.le_of_ble_eq_true rfl) rfl hc4 ?_
    show PW S mX0_copiedChildren Q 18 [some (Aq r0), some (Iq x1), some (Iq x2), none] [Iq v2] m3
    refine pw_istore_n (ls2 := [some (Aq r0), some (Iq x1), some (Iq x2), some (Iq v2)]) eX0_copiedChildren_18 rfl (by decide) rfl ?_
    refine pw_iload_n eX0_copiedChildren_19 rfl rfl ?_
    refine pw_iconst eX0_copiedChildren_20 ⟨by decide, by decide⟩ ?_
    refine pw_icmp_eq eX0_copiedChildren_21 (fun c5 => ?_) (fun c5 => ?_)
    · have h := h.1 c5
      obtain ⟨o6, h⟩ := h
      refine pw_iinc (ls2 := [some (Aq r0), some (Iq x1), some (Iq (x2 + 1)), some (Iq v2)]) eX0_copiedChildren_30 rfl o6 rfl ?_
      refine pw_goto eX0_copiedChildren_33 ?_
      exact pw_drop (bs := [true, true, true, false]) h
    · have h := h.2 c5
      refine pw_iload_n eX0_copiedChildren_24 rfl rfl ?_
      refine pw_iconst eX0_copiedChildren_25 ⟨by decide, by decide⟩ ?_
      refine pw_iload_n eX0_copiedChildren_26 rfl rfl ?_
      refine pw_ishl eX0_copiedChildren_27 ?_
      refine pw_ior eX0_copiedChildren_28 ?_
      refine pw_istore_n (ls2 := [some (Aq r0), some (Iq (bOr x1 (bShl 1 v2))), some (Iq x2), some (Iq v2)]) eX0_copiedChildren_29 rfl (by decide) rfl ?_
      obtain ⟨o7, h⟩ := h
      refine pw_iinc (ls2 := [some (Aq r0), some (Iq (bOr x1 (bShl 1 v2))), some (Iq (x2 + 1)), some (Iq v2)]) eX0_copiedChildren_30 rfl o7 rfl ?_
      refine pw_goto eX0_copiedChildren_33 ?_
      exact pw_drop (bs := [true, true, true, false]) h
set_option maxRecDepth 100000 in
theorem rg_X0_bestChildren_0 {S : Sx} {Q : Option PV → Zm → Prop} {mem : Zm}  {r0 : Nat} (hr0 : isRoom r0)
    (h : PW S mX0_bestChildren Q 6 [some (Aq r0), some (Iq 0), some (Iq (-1)), some (Iq 0), none] [] mem) :
    PW S mX0_bestChildren Q 0 [some (Aq r0), none, none, none, none] [] mem := by
  refine pw_iconst eX0_bestChildren_0 ⟨by decide, by decide⟩ ?_
  refine pw_istore_n (ls2 := [some (Aq r0), some (Iq 0), none, none, none]) eX0_bestChildren_1 rfl (by decide) rfl ?_
  refine pw_iconst eX0_bestChildren_2 ⟨by decide, by decide⟩ ?_
  refine pw_istore_n (ls2 := [some (Aq r0), some (Iq 0), some (Iq (-1)), none, none]) eX0_bestChildren_3 rfl (by decide) rfl ?_
  refine pw_iconst eX0_bestChildren_4 ⟨by decide, by decide⟩ ?_
  refine pw_istore_n (ls2 := [some (Aq r0), some (Iq 0), some (Iq (-1)), some (Iq 0), none]) eX0_bestChildren_5 rfl (by decide) rfl ?_
  exact h

set_option maxRecDepth 100000 in
theorem rg_X0_bestChildren_6 {S : Sx} {Q : Option PV → Zm → Prop} {mem : Zm}  {r0 : Nat} {x1 x2 x3 : Int} (hr0 : isRoom r0)
    (h : (((mem r0 7 ≤ x3) → (Q (some (Iq x1)) mem)) ∧ (¬ (mem r0 7 ≤ x3) → ((∃ (v2 : Int) (m3 : Zm), Ct1 S mX0_fact [Aq r0, Iq x3, Iq 3] mem (some (Iq v2)) m3 ∧ ((((v2 ≤ x2) → ((((¬ v2 = x2) → ((in32 (x3 + 1)) ∧ PW S mX0_bestChildren Q 6 [some (Aq r0), some (Iq x1), some (Iq x2), some (Iq (x3 + 1)), none] [] m3)) ∧ (¬ (¬ v2 = x2) → ((in32 (x3 + 1)) ∧ PW S mX0_bestChildren Q 6 [some (Aq r0), some (Iq (bOr x1 (bShl 1 x3))), some (Iq x2), some (Iq (x3 + 1)), none] [] m3))))) ∧ (¬ (v2 ≤ x2) → ((((¬ v2 = v2) → ((in32 (x3 + 1)) ∧ PW S mX0_bestChildren Q 6 [some (Aq r0), some (Iq 0), some (Iq v2), some (Iq (x3 + 1)), none] [] m3)) ∧ (¬ (¬ v2 = v2) → ((in32 (x3 + 1)) ∧ PW S mX0_bestChildren Q 6 [some (Aq r0), some (Iq (bOr 0 (bShl 1 x3))), some (Iq v2), some (Iq (x3 + 1)), none] [] m3)))))))))))) :
    PW S mX0_bestChildren Q 6 [some (Aq r0), some (Iq x1), some (Iq x2), some (Iq x3), none] [] mem := by
  refine pw_iload_n eX0_bestChildren_6 rfl rfl ?_
  refine pw_aload_n eX0_bestChildren_7 rfl rfl ?_
  refine gf_RX0_34 rfl eX0_bestChildren_8 (shR hr0) ?_
  refine pw_icmp_ge eX0_bestChildren_11 (fun c1 => ?_) (fun c1 => ?_)
  · have h := h.1 c1
    refine pw_iload_n eX0_bestChildren_51 rfl rfl ?_
    exact pw_iret eX0_bestChildren_52 h
  · have h := h.2 c1
    refine pw_aload_n eX0_bestChildren_14 rfl rfl ?_
    refine pw_iload_n eX0_bestChildren_15 rfl rfl ?_
    refine pw_iconst eX0_bestChildren_16 ⟨by decide, by decide⟩ ?_
    obtain ⟨v2, m3, hc4, h⟩ := h
    refine pw_cV (z := mX0_fact) (av := [Iq x3, Iq 3]) (st := []) eX0_bestChildren_17 lk_RX0_59 rfl (by decide) (by decide) (shR hr0) rfl rfl (Nat.le_of_ble_eq_true rfl) rfl hc4 ?_
    show PW S mX0_bestChildren Q 20 [some (Aq r0), some (Iq x1), some (Iq x2), some (Iq x3), none] [Iq v2] m3
    refine pw_istore (ls2 := [some (Aq r0), some (Iq x1), some (Iq x2), some (Iq x3), some (Iq v2)]) eX0_bestChildren_20 (by decide) rfl ?_
    refine pw_iload eX0_bestChildren_22 rfl ?_
    refine pw_iload_n eX0_bestChildren_24 rfl rfl ?_
    refine pw_icmp_le eX0_bestChildren_25 (fun c5 => ?_) (fun c5 => ?_)
    · have h := h.1 c5
      refine pw_iload eX0_bestChildren_33 rfl ?_
      refine pw_iload_n eX0_bestChildren_35 rfl rfl ?_
      refine pw_icmp_ne eX0_bestChildren_36 (fun c6 => ?_) (fun c6 => ?_)
      · have h := h.1 c6
        obtain ⟨o7, h⟩ := h
        refine pw_iinc (ls2 := [some (Aq r0), some (Iq x1), some (Iq x2), some (Iq (x3 + 1)), some (Iq v2)]) eX0_bestChildren_45 rfl o7 rfl ?_
        refine pw_goto eX0_bestChildren_48 ?_
        exact pw_drop (bs := [true, true, true, true, false]) h
      · have h := h.2 c6
        refine pw_iload_n eX0_bestChildren_39 rfl rfl ?_
        refine pw_iconst eX0_bestChildren_40 ⟨by decide, by decide⟩ ?_
        refine pw_iload_n eX0_bestChildren_41 rfl rfl ?_
        refine pw_ishl eX0_bestChildren_42 ?_
        refine pw_ior eX0_bestChildren_43 ?_
        refine pw_istore_n (ls2 := [some (Aq r0), some (Iq (bOr x1 (bShl 1 x3))), some (Iq x2), some (Iq x3), some (Iq v2)]) eX0_bestChildren_44 rfl (by decide) rfl ?_
        obtain ⟨o8, h⟩ := h
        refine pw_iinc (ls2 := [some (Aq r0), some (Iq (bOr x1 (bShl 1 x3))), some (Iq x2), some (Iq (x3 + 1)), some (Iq v2)]) eX0_bestChildren_45 rfl o8 rfl ?_
        refine pw_goto eX0_bestChildren_48 ?_
        exact pw_drop (bs := [true, true, true, true, false]) h
    · have h := h.2 c5
      refine pw_iload eX0_bestChildren_28 rfl ?_
      refine pw_istore_n (ls2 := [some (Aq r0), some (Iq x1), some (Iq v2), some (Iq x3), some (Iq v2)]) eX0_bestChildren_30 rfl (by decide) rfl ?_
      refine pw_iconst eX0_bestChildren_31 ⟨by decide, by decide⟩ ?_
      refine pw_istore_n (ls2 := [some (Aq r0), some (Iq 0), some (Iq v2), some (Iq x3), some (Iq v2)]) eX0_bestChildren_32 rfl (by decide) rfl ?_
      refine pw_iload eX0_bestChildren_33 rfl ?_
      refine pw_iload_n eX0_bestChildren_35 rfl rfl ?_
      refine pw_icmp_ne eX0_bestChildren_36 (fun c9 => ?_) (fun c9 => ?_)
      · have h := h.1 c9
        obtain ⟨o10, h⟩ := h
        refine pw_iinc (ls2 := [some (Aq r0), some (Iq 0), some (Iq v2), some (Iq (x3 + 1)), some (Iq v2)]) eX0_bestChildren_45 rfl o10 rfl ?_
        refine pw_goto eX0_bestChildren_48 ?_
        exact pw_drop (bs := [true, true, true, true, false]) h
      · have h := h.2 c9
        refine pw_iload_n eX0_bestChildren_39 rfl rfl ?_
        refine pw_iconst eX0_bestChildren_40 ⟨by decide, by decide⟩ ?_
        refine pw_iload_n eX0_bestChildren_41 rfl rfl ?_
        refine pw_ishl eX0_bestChildren_42 ?_
        refine pw_ior eX0_bestChildren_43 ?_
        refine pw_istore_n (ls2 := [some (Aq r0), some (Iq (bOr 0 (bShl 1 x3))), some (Iq v2), some (Iq x3), some (Iq v2)]) eX0_bestChildren_44 rfl (by decide) rfl ?_
        obtain ⟨o11, h⟩ := h
        refine pw_iinc (ls2 := [some (Aq r0), some (Iq (bOr 0 (bShl 1 x3))), some (Iq v2), some (Iq (x3 + 1)), some (Iq v2)]) eX0_bestChildren_45 rfl o11 rfl ?_
        refine pw_goto eX0_bestChildren_48 ?_
        exact pw_drop (bs := [true, true, true, true, false]) h
set_option maxRecDepth 100000 in
theorem rg_X0_unknownSums_0 {S : Sx} {Q : Option PV → Zm → Prop} {mem : Zm}  {r0 : Nat} (hr0 : isRoom r0)
    (h : PW S mX0_unknownSums Q 4 [some (Aq r0), some (Iq 0), some (Iq 0)] [] mem) :
    PW S mX0_unknownSums Q 0 [some (Aq r0), none, none] [] mem := by
  refine pw_iconst eX0_unknownSums_0 ⟨by decide, by decide⟩ ?_
  refine pw_istore_n (ls2 := [some (Aq r0), some (Iq 0), none]) eX0_unknownSums_1 rfl (by decide) rfl ?_
  refine pw_iconst eX0_unknownSums_2 ⟨by decide, by decide⟩ ?_
  refine pw_istore_n (ls2 := [some (Aq r0), some (Iq 0), some (Iq 0)]) eX0_unknownSums_3 rfl (by decide) rfl ?_
  exact h

set_option maxRecDepth 100000 in
theorem rg_X0_unknownSums_4 {S : Sx} {Q : Option PV → Zm → Prop} {mem : Zm}  {r0 : Nat} {x1 x2 : Int} (hr0 : isRoom r0)
    (h : (((mem r0 7 ≤ x2) → (Q (some (Iq (bAnd 255 (bXor x1 (-1))))) mem)) ∧ (¬ (mem r0 7 ≤ x2) → ((∃ (v2 : Int) (m3 : Zm), Ct1 S mX0_fact [Aq r0, Iq x2, Iq 1] mem (some (Iq v2)) m3 ∧ ((in32 (x2 + 1)) ∧ PW S mX0_unknownSums Q 4 [some (Aq r0), some (Iq (bOr x1 v2)), some (Iq (x2 + 1))] [] m3)))))) :
    PW S mX0_unknownSums Q 4 [some (Aq r0), some (Iq x1), some (Iq x2)] [] mem := by
  refine pw_iload_n eX0_unknownSums_4 rfl rfl ?_
  refine pw_aload_n eX0_unknownSums_5 rfl rfl ?_
  refine gf_RX0_34 rfl eX0_unknownSums_6 (shR hr0) ?_
  refine pw_icmp_ge eX0_unknownSums_9 (fun c1 => ?_) (fun c1 => ?_)
  · have h := h.1 c1
    refine pw_sipush eX0_unknownSums_27 ⟨by decide, by decide⟩ (by decide) ?_
    refine pw_iload_n eX0_unknownSums_30 rfl rfl ?_
    refine pw_iconst eX0_unknownSums_31 ⟨by decide, by decide⟩ ?_
    refine pw_ixor eX0_unknownSums_32 ?_
    refine pw_iand eX0_unknownSums_33 ?_
    exact pw_iret eX0_unknownSums_34 h
  · have h := h.2 c1
    refine pw_iload_n eX0_unknownSums_12 rfl rfl ?_
    refine pw_aload_n eX0_unknownSums_13 rfl rfl ?_
    refine pw_iload_n eX0_unknownSums_14 rfl rfl ?_
    refine pw_iconst eX0_unknownSums_15 ⟨by decide, by decide⟩ ?_
    obtain ⟨v2, m3, hc4, h⟩ := h
    refine pw_cV (z := mX0_fact) (av := [Iq x2, Iq 1]) (st := [Iq x1]) eX0_unknownSums_16 lk_RX0_59 rfl (by decide) (by decide) (shR hr0) rfl rfl (Nat.le_of_ble_eq_true rfl) rfl hc4 ?_
    show PW S mX0_unknownSums Q 19 [some (Aq r0), some (Iq x1), some (Iq x2)] [Iq v2, Iq x1] m3
    refine pw_ior eX0_unknownSums_19 ?_
    refine pw_istore_n (ls2 := [some (Aq r0), some (Iq (bOr x1 v2)), some (Iq x2)]) eX0_unknownSums_20 rfl (by decide) rfl ?_
    obtain ⟨o5, h⟩ := h
    refine pw_iinc (ls2 := [some (Aq r0), some (Iq (bOr x1 v2)), some (Iq (x2 + 1))]) eX0_unknownSums_21 rfl o5 rfl ?_
    refine pw_goto eX0_unknownSums_24 ?_
    exact h
set_option maxRecDepth 100000 in
theorem rg_X0_chainLength_0 {S : Sx} {Q : Option PV → Zm → Prop} {mem : Zm}  {r0 : Nat} {x1 : Int} (hr0 : isRoom r0)
    (h : PW S mX0_chainLength Q 4 [some (Aq r0), some (Iq x1), some (Iq x1), some (Iq 0), none] [] mem) :
    PW S mX0_chainLength Q 0 [some (Aq r0), some (Iq x1), none, none, none] [] mem := by
  refine pw_iload_n eX0_chainLength_0 rfl rfl ?_
  refine pw_istore_n (ls2 := [some (Aq r0), some (Iq x1), some (Iq x1), none, none]) eX0_chainLength_1 rfl (by decide) rfl ?_
  refine pw_iconst eX0_chainLength_2 ⟨by decide, by decide⟩ ?_
  refine pw_istore_n (ls2 := [some (Aq r0), some (Iq x1), some (Iq x1), some (Iq 0), none]) eX0_chainLength_3 rfl (by decide) rfl ?_
  exact h

set_option maxRecDepth 100000 in
theorem rg_X0_chainLength_4 {S : Sx} {Q : Option PV → Zm → Prop} {mem : Zm}  {r0 : Nat} {x1 x2 x3 : Int} (hr0 : isRoom r0)
    (h : (((8 ≤ x3) → (Q (some (Iq 8)) mem)) ∧ (¬ (8 ≤ x3) → ((∃ (v2 : Int) (m3 : Zm), Ct1 S mX0_fact [Aq r0, Iq x2, Iq 2] mem (some (Iq v2)) m3 ∧ ((∃ (v5 : Int) (m6 : Zm), Ct1 S mX0_has [Aq r0, Iq v2] m3 (some (Iq v5)) m6 ∧ ((((¬ v5 = 0) → ((in32 (x3 + 1)) ∧ PW S mX0_chainLength Q 4 [some (Aq r0), some (Iq x1), some (Iq v2), some (Iq (x3 + 1)), none] [] m6)) ∧ (¬ (¬ v5 = 0) → (Q (some (Iq x3)) m6))))))))))) :
    PW S mX0_chainLength Q 4 [some (Aq r0), some (Iq x1), some (Iq x2), some (Iq x3), none] [] mem := by
  refine pw_iload_n eX0_chainLength_4 rfl rfl ?_
  refine pw_bipush eX0_chainLength_5 ⟨by decide, by decide⟩ (by decide) ?_
  refine pw_icmp_ge eX0_chainLength_7 (fun c1 => ?_) (fun c1 => ?_)
  · have h := h.1 c1
    refine pw_bipush eX0_chainLength_38 ⟨by decide, by decide⟩ (by decide) ?_
    exact pw_iret eX0_chainLength_40 h
  · have h := h.2 c1
    refine pw_aload_n eX0_chainLength_10 rfl rfl ?_
    refine pw_iload_n eX0_chainLength_11 rfl rfl ?_
    refine pw_iconst eX0_chainLength_12 ⟨by decide, by decide⟩ ?_
    obtain ⟨v2, m3, hc4, h⟩ := h
    refine pw_cV (z := mX0_fact) (av := [Iq x2, Iq 2]) (st := []) eX0_chainLength_13 lk_RX0_59 rfl (by decide) (by decide) (shR hr0) rfl rfl (Nat.le_of_ble_eq_true rfl) rfl hc4 ?_
    show PW S mX0_chainLength Q 16 [some (Aq r0), some (Iq x1), some (Iq x2), some (Iq x3), none] [Iq v2] m3
    refine pw_istore (ls2 := [some (Aq r0), some (Iq x1), some (Iq x2), some (Iq x3), some (Iq v2)]) eX0_chainLength_16 (by decide) rfl ?_
    refine pw_aload_n eX0_chainLength_18 rfl rfl ?_
    refine pw_iload eX0_chainLength_19 rfl ?_
    obtain ⟨v5, m6, hc7, h⟩ := h
    refine pw_cV (z := mX0_has) (av := [Iq v2]) (st := []) eX0_chainLength_21 lk_RX0_97 rfl (by decide) (by decide) (shR hr0) rfl rfl (Nat.le_of_ble_eq_true rfl) rfl hc7 ?_
    show PW S mX0_chainLength Q 24 [some (Aq r0), some (Iq x1), some (Iq x2), some (Iq x3), some (Iq v2)] [Iq v5] m6
    refine pw_if_ne eX0_chainLength_24 (fun c8 => ?_) (fun c8 => ?_)
    · have h := h.1 c8
      refine pw_iload eX0_chainLength_29 rfl ?_
      refine pw_istore_n (ls2 := [some (Aq r0), some (Iq x1), some (Iq v2), some (Iq x3), some (Iq v2)]) eX0_chainLength_31 rfl (by decide) rfl ?_
      obtain ⟨o9, h⟩ := h
      refine pw_iinc (ls2 := [some (Aq r0), some (Iq x1), some (Iq v2), some (Iq (x3 + 1)), some (Iq v2)]) eX0_chainLength_32 rfl o9 rfl ?_
      refine pw_goto eX0_chainLength_35 ?_
      exact pw_drop (bs := [true, true, true, true, false]) h
    · have h := h.2 c8
      refine pw_iload_n eX0_chainLength_27 rfl rfl ?_
      exact pw_iret eX0_chainLength_28 h
set_option maxRecDepth 100000 in
theorem rg_X0_takenSpots_0 {S : Sx} {Q : Option PV → Zm → Prop} {mem : Zm}  {r0 : Nat} (hr0 : isRoom r0)
    (h : PW S mX0_takenSpots Q 4 [some (Aq r0), some (Iq 0), some (Iq 0)] [] mem) :
    PW S mX0_takenSpots Q 0 [some (Aq r0), none, none] [] mem := by
  refine pw_iconst eX0_takenSpots_0 ⟨by decide, by decide⟩ ?_
  refine pw_istore_n (ls2 := [some (Aq r0), some (Iq 0), none]) eX0_takenSpots_1 rfl (by decide) rfl ?_
  refine pw_iconst eX0_takenSpots_2 ⟨by decide, by decide⟩ ?_
  refine pw_istore_n (ls2 := [some (Aq r0), some (Iq 0), some (Iq 0)]) eX0_takenSpots_3 rfl (by decide) rfl ?_
  exact h

set_option maxRecDepth 100000 in
theorem rg_X0_takenSpots_4 {S : Sx} {Q : Option PV → Zm → Prop} {mem : Zm}  {r0 : Nat} {x1 x2 : Int} (hr0 : isRoom r0)
    (h : (((10 ≤ x2) → (Q (some (Iq x1)) mem)) ∧ (¬ (10 ≤ x2) → ((0 ≤ x2 ∧ x2 < 10) ∧ (((mem (r0 + 4) (x2).toNat = -1) → ((in32 (x2 + 1)) ∧ PW S mX0_takenSpots Q 4 [some (Aq r0), some (Iq x1), some (Iq (x2 + 1))] [] mem)) ∧ (¬ (mem (r0 + 4) (x2).toNat = -1) → ((in32 (x1 + 1)) ∧ (in32 (x2 + 1)) ∧ PW S mX0_takenSpots Q 4 [some (Aq r0), some (Iq (x1 + 1)), some (Iq (x2 + 1))] [] mem))))))) :
    PW S mX0_takenSpots Q 4 [some (Aq r0), some (Iq x1), some (Iq x2)] [] mem := by
  refine pw_iload_n eX0_takenSpots_4 rfl rfl ?_
  refine pw_bipush eX0_takenSpots_5 ⟨by decide, by decide⟩ (by decide) ?_
  refine pw_icmp_ge eX0_takenSpots_7 (fun c1 => ?_) (fun c1 => ?_)
  · have h := h.1 c1
    refine pw_iload_n eX0_takenSpots_29 rfl rfl ?_
    exact pw_iret eX0_takenSpots_30 h
  · have h := h.2 c1
    refine pw_aload_n eX0_takenSpots_10 rfl rfl ?_
    refine gf_RX0_21 rfl eX0_takenSpots_11 (shR hr0) ?_
    refine pw_iload_n eX0_takenSpots_14 rfl rfl ?_
    obtain ⟨o2, h⟩ := h
    refine pw_iald eX0_takenSpots_15 (shR4 hr0) o2 ?_
    refine pw_iconst eX0_takenSpots_16 ⟨by decide, by decide⟩ ?_
    refine pw_icmp_eq eX0_takenSpots_17 (fun c3 => ?_) (fun c3 => ?_)
    · have h := h.1 c3
      obtain ⟨o4, h⟩ := h
      refine pw_iinc (ls2 := [some (Aq r0), some (Iq x1), some (Iq (x2 + 1))]) eX0_takenSpots_23 rfl o4 rfl ?_
      refine pw_goto eX0_takenSpots_26 ?_
      exact h
    · have h := h.2 c3
      obtain ⟨o5, h⟩ := h
      refine pw_iinc (ls2 := [some (Aq r0), some (Iq (x1 + 1)), some (Iq x2)]) eX0_takenSpots_20 rfl o5 rfl ?_
      obtain ⟨o6, h⟩ := h
      refine pw_iinc (ls2 := [some (Aq r0), some (Iq (x1 + 1)), some (Iq (x2 + 1))]) eX0_takenSpots_23 rfl o6 rfl ?_
      refine pw_goto eX0_takenSpots_26 ?_
      exact h
end RG

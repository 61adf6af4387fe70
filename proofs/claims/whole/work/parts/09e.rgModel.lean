section RG
set_option maxRecDepth 100000 in
theorem rg_X4_isIn_0 {S : Sx} {Q : Option PV → Zm → Prop} {mem : Zm}   {x0 x2 x4 : Int} 
    (h : (((cmpL x0 x2 < 0) → (Q (some (Iq 0)) mem)) ∧ (¬ (cmpL x0 x2 < 0) → ((((0 < cmpL x0 x4) → (Q (some (Iq 0)) mem)) ∧ (¬ (0 < cmpL x0 x4) → (Q (some (Iq 1)) mem))))))) :
    PW S mX4_isIn Q 0 [some (Jq x0), none, some (Jq x2), none, some (Jq x4), none] [] mem := by
  refine pw_lload_n eX4_isIn_0 rfl rfl ?_
  refine pw_lload_n eX4_isIn_1 rfl rfl ?_
  refine pw_lcmp eX4_isIn_2 ?_
  refine pw_if_lt eX4_isIn_3 (fun c1 => ?_) (fun c1 => ?_)
  · have h := h.1 c1
    refine pw_iconst eX4_isIn_17 ⟨by decide, by decide⟩ ?_
    exact pw_iret eX4_isIn_18 h
  · have h := h.2 c1
    refine pw_lload_n eX4_isIn_6 rfl rfl ?_
    refine pw_lload eX4_isIn_7 rfl ?_
    refine pw_lcmp eX4_isIn_9 ?_
    refine pw_if_gt eX4_isIn_10 (fun c2 => ?_) (fun c2 => ?_)
    · have h := h.1 c2
      refine pw_iconst eX4_isIn_17 ⟨by decide, by decide⟩ ?_
      exact pw_iret eX4_isIn_18 h
    · have h := h.2 c2
      refine pw_iconst eX4_isIn_13 ⟨by decide, by decide⟩ ?_
      refine pw_goto eX4_isIn_14 ?_
      exact pw_iret eX4_isIn_18 h
set_option maxRecDepth 100000 in
theorem rg_X4_finds_0 {S : Sx} {Q : Option PV → Zm → Prop} {mem : Zm}   {x1 : Int} 
    (h : (in32 ((mem 39 0) + 1)) ∧ (in32 ((-1000001) - x1)) ∧ (in32 (((-1000001) - x1) + 1)) ∧ (0 ≤ ((-1000001) - x1) + 1 ∧ ((-1000001) - x1) + 1 < 8) ∧ (in32 (((mup mem 39 0 ((mem 39 0) + 1)) 39 (((-1000001) - x1) + 1).toNat) + 1)) ∧ (0 ≤ ((-1000001) - x1) + 1 ∧ ((-1000001) - x1) + 1 < 8) ∧ Q (some (Iq x1)) (mup (mup mem 39 0 ((mem 39 0) + 1)) 39 (((-1000001) - x1) + 1).toNat (((mup mem 39 0 ((mem 39 0) + 1)) 39 (((-1000001) - x1) + 1).toNat) + 1))) :
    PW S mX4_finds Q 0 [some (Aq 34), some (Iq x1)] [] mem := by
  refine pw_aload_n eX4_finds_0 rfl rfl ?_
  refine gf_RX4_22 rfl eX4_finds_1 sh34 ?_
  refine pw_iconst eX4_finds_4 ⟨by decide, by decide⟩ ?_
  refine pw_dup2 eX4_finds_5 rfl rfl ?_
  refine pw_iald eX4_finds_6 sh39 (by decide) ?_
  refine pw_iconst eX4_finds_7 ⟨by decide, by decide⟩ ?_
  obtain ⟨o1, h⟩ := h
  refine pw_iadd eX4_finds_8 o1 ?_
  refine pw_iast eX4_finds_9 sh39 (by decide) ?_
  refine pw_aload_n eX4_finds_10 rfl rfl ?_
  refine gf_RX4_22 rfl eX4_finds_11 sh34 ?_
  refine pw_ldc (n := (-1000001)) eX4_finds_14 ⟨by decide, by decide⟩ kc_RX4_37 ?_
  refine pw_iload_n eX4_finds_16 rfl rfl ?_
  obtain ⟨o2, h⟩ := h
  refine pw_isub eX4_finds_17 o2 ?_
  refine pw_iconst eX4_finds_18 ⟨by decide, by decide⟩ ?_
  obtain ⟨o3, h⟩ := h
  refine pw_iadd eX4_finds_19 o3 ?_
  refine pw_dup2 eX4_finds_20 rfl rfl ?_
  obtain ⟨o4, h⟩ := h
  refine pw_iald eX4_finds_21 sh39 o4 ?_
  refine pw_iconst eX4_finds_22 ⟨by decide, by decide⟩ ?_
  obtain ⟨o5, h⟩ := h
  refine pw_iadd eX4_finds_23 o5 ?_
  obtain ⟨o6, h⟩ := h
  refine pw_iast eX4_finds_24 sh39 o6 ?_
  refine pw_iload_n eX4_finds_25 rfl rfl ?_
  exact pw_iret eX4_finds_26 h
set_option maxRecDepth 100000 in
theorem rg_X4_becomes_0 {S : Sx} {Q : Option PV → Zm → Prop} {mem : Zm}   {x1 x2 : Int} 
    (h : (0 ≤ x1 ∧ x1 < 134) ∧ (0 ≤ x1 ∧ x1 < 134) ∧ Q (some (Iq (mem 35 (x1).toNat))) (mup mem 35 (x1).toNat x2)) :
    PW S mX4_becomes Q 0 [some (Aq 34), some (Iq x1), some (Iq x2), none] [] mem := by
  refine pw_aload_n eX4_becomes_0 rfl rfl ?_
  refine gf_RX4_7 rfl eX4_becomes_1 sh34 ?_
  refine pw_iload_n eX4_becomes_4 rfl rfl ?_
  obtain ⟨o1, h⟩ := h
  refine pw_iald eX4_becomes_5 sh35 o1 ?_
  refine pw_istore_n (ls2 := [some (Aq 34), some (Iq x1), some (Iq x2), some (Iq (mem 35 (x1).toNat))]) eX4_becomes_6 rfl (by decide) rfl ?_
  refine pw_aload_n eX4_becomes_7 rfl rfl ?_
  refine gf_RX4_7 rfl eX4_becomes_8 sh34 ?_
  refine pw_iload_n eX4_becomes_11 rfl rfl ?_
  refine pw_iload_n eX4_becomes_12 rfl rfl ?_
  obtain ⟨o2, h⟩ := h
  refine pw_iast eX4_becomes_13 sh35 o2 ?_
  refine pw_iload_n eX4_becomes_14 rfl rfl ?_
  exact pw_iret eX4_becomes_15 h
set_option maxRecDepth 100000 in
theorem rg_X4_copyRow_0 {S : Sx} {Q : Option PV → Zm → Prop} {mem : Zm} {n0 : Nat} {n1 : Nat} {r0 : Nat} {r1 : Nat} (hr0 : shp r0 = (1, n0)) (hr1 : shp r1 = (1, n1))
    (h : PW S mX4_copyRow Q 2 [some (Aq r0), some (Aq r1), some (Iq 0)] [] mem) :
    PW S mX4_copyRow Q 0 [some (Aq r0), some (Aq r1), none] [] mem := by
  refine pw_iconst eX4_copyRow_0 ⟨by decide, by decide⟩ ?_
  refine pw_istore_n (ls2 := [some (Aq r0), some (Aq r1), some (Iq 0)]) eX4_copyRow_1 rfl (by decide) rfl ?_
  exact h

set_option maxRecDepth 100000 in
theorem rg_X4_copyRow_2 {S : Sx} {Q : Option PV → Zm → Prop} {mem : Zm} {n0 : Nat} {n1 : Nat} {r0 : Nat} {r1 : Nat} {x2 : Int} (hr0 : shp r0 = (1, n0)) (hr1 : shp r1 = (1, n1))
    (h : (((134 ≤ x2) → (Q none mem)) ∧ (¬ (134 ≤ x2) → ((0 ≤ x2 ∧ x2 < n0) ∧ (0 ≤ x2 ∧ x2 < n1) ∧ (in32 (x2 + 1)) ∧ PW S mX4_copyRow Q 2 [some (Aq r0), some (Aq r1), some (Iq (x2 + 1))] [] (mup mem r1 (x2).toNat (mem r0 (x2).toNat)))))) :
    PW S mX4_copyRow Q 2 [some (Aq r0), some (Aq r1), some (Iq x2)] [] mem := by
  refine pw_iload_n eX4_copyRow_2 rfl rfl ?_
  refine pw_sipush eX4_copyRow_3 ⟨by decide, by decide⟩ (by decide) ?_
  refine pw_icmp_ge eX4_copyRow_6 (fun c1 => ?_) (fun c1 => ?_)
  · have h := h.1 c1
    exact pw_vret eX4_copyRow_21 h
  · have h := h.2 c1
    refine pw_aload_n eX4_copyRow_9 rfl rfl ?_
    refine pw_iload_n eX4_copyRow_10 rfl rfl ?_
    refine pw_aload_n eX4_copyRow_11 rfl rfl ?_
    refine pw_iload_n eX4_copyRow_12 rfl rfl ?_
    obtain ⟨o2, h⟩ := h
    refine pw_iald eX4_copyRow_13 hr0 o2 ?_
    obtain ⟨o3, h⟩ := h
    refine pw_iast eX4_copyRow_14 hr1 o3 ?_
    obtain ⟨o4, h⟩ := h
    refine pw_iinc (ls2 := [some (Aq r0), some (Aq r1), some (Iq (x2 + 1))]) eX4_copyRow_15 rfl o4 rfl ?_
    refine pw_goto eX4_copyRow_18 ?_
    exact h
set_option maxRecDepth 100000 in
theorem rg_X4_isSum_0 {S : Sx} {Q : Option PV → Zm → Prop} {mem : Zm}   {x0 : Int} 
    (h : (((x0 < 0) → (Q (some (Iq 0)) mem)) ∧ (¬ (x0 < 0) → ((((8 ≤ x0) → (Q (some (Iq 0)) mem)) ∧ (¬ (8 ≤ x0) → (Q (some (Iq 1)) mem))))))) :
    PW S mX4_isSum Q 0 [some (Iq x0)] [] mem := by
  refine pw_iload_n eX4_isSum_0 rfl rfl ?_
  refine pw_if_lt eX4_isSum_1 (fun c1 => ?_) (fun c1 => ?_)
  · have h := h.1 c1
    refine pw_iconst eX4_isSum_14 ⟨by decide, by decide⟩ ?_
    exact pw_iret eX4_isSum_15 h
  · have h := h.2 c1
    refine pw_iload_n eX4_isSum_4 rfl rfl ?_
    refine pw_bipush eX4_isSum_5 ⟨by decide, by decide⟩ (by decide) ?_
    refine pw_icmp_ge eX4_isSum_7 (fun c2 => ?_) (fun c2 => ?_)
    · have h := h.1 c2
      refine pw_iconst eX4_isSum_14 ⟨by decide, by decide⟩ ?_
      exact pw_iret eX4_isSum_15 h
    · have h := h.2 c2
      refine pw_iconst eX4_isSum_10 ⟨by decide, by decide⟩ ?_
      refine pw_goto eX4_isSum_11 ?_
      exact pw_iret eX4_isSum_15 h
set_option maxRecDepth 100000 in
theorem rg_X4_isChild_0 {S : Sx} {Q : Option PV → Zm → Prop} {mem : Zm}   {x1 : Int} 
    (h : (((x1 < 0) → (Q (some (Iq 0)) mem)) ∧ (¬ (x1 < 0) → ((((mem 35 0 ≤ x1) → (Q (some (Iq 0)) mem)) ∧ (¬ (mem 35 0 ≤ x1) → (Q (some (Iq 1)) mem))))))) :
    PW S mX4_isChild Q 0 [some (Aq 34), some (Iq x1)] [] mem := by
  refine pw_iload_n eX4_isChild_0 rfl rfl ?_
  refine pw_if_lt eX4_isChild_1 (fun c1 => ?_) (fun c1 => ?_)
  · have h := h.1 c1
    refine pw_iconst eX4_isChild_18 ⟨by decide, by decide⟩ ?_
    exact pw_iret eX4_isChild_19 h
  · have h := h.2 c1
    refine pw_iload_n eX4_isChild_4 rfl rfl ?_
    refine pw_aload_n eX4_isChild_5 rfl rfl ?_
    refine gf_RX4_7 rfl eX4_isChild_6 sh34 ?_
    refine pw_iconst eX4_isChild_9 ⟨by decide, by decide⟩ ?_
    refine pw_iald eX4_isChild_10 sh35 (by decide) ?_
    refine pw_icmp_ge eX4_isChild_11 (fun c2 => ?_) (fun c2 => ?_)
    · have h := h.1 c2
      refine pw_iconst eX4_isChild_18 ⟨by decide, by decide⟩ ?_
      exact pw_iret eX4_isChild_19 h
    · have h := h.2 c2
      refine pw_iconst eX4_isChild_14 ⟨by decide, by decide⟩ ?_
      refine pw_goto eX4_isChild_15 ?_
      exact pw_iret eX4_isChild_19 h
set_option maxRecDepth 100000 in
theorem rg_X4_at_0 {S : Sx} {Q : Option PV → Zm → Prop} {mem : Zm}   {x0 x1 : Int} 
    (h : (in32 (14 * x0)) ∧ (in32 (12 + (14 * x0))) ∧ (in32 ((12 + (14 * x0)) + x1)) ∧ Q (some (Iq ((12 + (14 * x0)) + x1))) mem) :
    PW S mX4_at Q 0 [some (Iq x0), some (Iq x1)] [] mem := by
  refine pw_bipush eX4_at_0 ⟨by decide, by decide⟩ (by decide) ?_
  refine pw_bipush eX4_at_2 ⟨by decide, by decide⟩ (by decide) ?_
  refine pw_iload_n eX4_at_4 rfl rfl ?_
  obtain ⟨o1, h⟩ := h
  refine pw_imul eX4_at_5 o1 ?_
  obtain ⟨o2, h⟩ := h
  refine pw_iadd eX4_at_6 o2 ?_
  refine pw_iload_n eX4_at_7 rfl rfl ?_
  obtain ⟨o3, h⟩ := h
  refine pw_iadd eX4_at_8 o3 ?_
  exact pw_iret eX4_at_9 h
set_option maxRecDepth 100000 in
theorem rg_X4_its_0 {S : Sx} {Q : Option PV → Zm → Prop} {mem : Zm}   {x1 x2 : Int} 
    (h : (in32 (14 * x1)) ∧ (in32 (12 + (14 * x1))) ∧ (in32 ((12 + (14 * x1)) + x2)) ∧ (0 ≤ (12 + (14 * x1)) + x2 ∧ (12 + (14 * x1)) + x2 < 134) ∧ Q (some (Iq (mem 35 ((12 + (14 * x1)) + x2).toNat))) mem) :
    PW S mX4_its Q 0 [some (Aq 34), some (Iq x1), some (Iq x2)] [] mem := by
  refine pw_aload_n eX4_its_0 rfl rfl ?_
  refine gf_RX4_7 rfl eX4_its_1 sh34 ?_
  refine pw_bipush eX4_its_4 ⟨by decide, by decide⟩ (by decide) ?_
  refine pw_bipush eX4_its_6 ⟨by decide, by decide⟩ (by decide) ?_
  refine pw_iload_n eX4_its_8 rfl rfl ?_
  obtain ⟨o1, h⟩ := h
  refine pw_imul eX4_its_9 o1 ?_
  obtain ⟨o2, h⟩ := h
  refine pw_iadd eX4_its_10 o2 ?_
  refine pw_iload_n eX4_its_11 rfl rfl ?_
  obtain ⟨o3, h⟩ := h
  refine pw_iadd eX4_its_12 o3 ?_
  obtain ⟨o4, h⟩ := h
  refine pw_iald eX4_its_13 sh35 o4 ?_
  exact pw_iret eX4_its_14 h
set_option maxRecDepth 100000 in
theorem rg_X4_least_0 {S : Sx} {Q : Option PV → Zm → Prop} {mem : Zm}   {x0 x1 : Int} 
    (h : (((x1 ≤ x0) → (Q (some (Iq x1)) mem)) ∧ (¬ (x1 ≤ x0) → (Q (some (Iq x0)) mem)))) :
    PW S mX4_least Q 0 [some (Iq x0), some (Iq x1)] [] mem := by
  refine pw_iload_n eX4_least_0 rfl rfl ?_
  refine pw_iload_n eX4_least_1 rfl rfl ?_
  refine pw_icmp_ge eX4_least_2 (fun c1 => ?_) (fun c1 => ?_)
  · have h := h.1 c1
    refine pw_iload_n eX4_least_9 rfl rfl ?_
    exact pw_iret eX4_least_10 h
  · have h := h.2 c1
    refine pw_iload_n eX4_least_5 rfl rfl ?_
    refine pw_goto eX4_least_6 ?_
    exact pw_iret eX4_least_10 h
set_option maxRecDepth 100000 in
theorem rg_X4_greatest_0 {S : Sx} {Q : Option PV → Zm → Prop} {mem : Zm}   {x0 x1 : Int} 
    (h : (((x0 ≤ x1) → (Q (some (Iq x1)) mem)) ∧ (¬ (x0 ≤ x1) → (Q (some (Iq x0)) mem)))) :
    PW S mX4_greatest Q 0 [some (Iq x0), some (Iq x1)] [] mem := by
  refine pw_iload_n eX4_greatest_0 rfl rfl ?_
  refine pw_iload_n eX4_greatest_1 rfl rfl ?_
  refine pw_icmp_le eX4_greatest_2 (fun c1 => ?_) (fun c1 => ?_)
  · have h := h.1 c1
    refine pw_iload_n eX4_greatest_9 rfl rfl ?_
    exact pw_iret eX4_greatest_10 h
  · have h := h.2 c1
    refine pw_iload_n eX4_greatest_5 rfl rfl ?_
    refine pw_goto eX4_greatest_6 ?_
    exact pw_iret eX4_greatest_10 h
set_option maxRecDepth 100000 in
theorem rg_X4_orNone_0 {S : Sx} {Q : Option PV → Zm → Prop} {mem : Zm}   {x1 : Int} 
    (h : (((0 ≤ x1) → (Q (some (Iq x1)) mem)) ∧ (¬ (0 ≤ x1) → ((∃ (v2 : Int) (m3 : Zm), Ct1 S mX4_finds [Aq 34, Iq (-1000004)] mem (some (Iq v2)) m3 ∧ (Q (some (Iq v2)) m3)))))) :
    PW S mX4_orNone Q 0 [some (Aq 34), some (Iq x1)] [] mem := by
  refine pw_iload_n eX4_orNone_0 rfl rfl ?_
  refine pw_if_ge eX4_orNone_1 (fun c1 => ?_) (fun c1 => ?_)
  · have h := h.1 c1
    refine pw_iload_n eX4_orNone_13 rfl rfl ?_
    exact pw_iret eX4_orNone_14 h
  · have h := h.2 c1
    refine pw_aload_n eX4_orNone_4 rfl rfl ?_
    refine pw_ldc (n := (-1000004)) eX4_orNone_5 ⟨by decide, by decide⟩ kc_RX4_38 ?_
    obtain ⟨v2, m3, hc4, h⟩ := h
    refine pw_cV (z := mX4_finds) (av := [Iq (-1000004)]) (st := []) eX4_orNone_7 lk_RX4_39 rfl (by decide) (by decide) sh34 rfl rfl (Nat.le_of_ble_eq_true rfl) rfl hc4 ?_
    show PW S mX4_orNone Q 10 [some (Aq 34), some (Iq x1)] [Iq v2] m3
    refine pw_goto eX4_orNone_10 ?_
    exact pw_iret eX4_orNone_14 h
set_option maxRecDepth 100000 in
theorem rg_X4_many_0 {S : Sx} {Q : Option PV → Zm → Prop} {mem : Zm}   {x0 : Int} 
    (h : PW S mX4_many Q 4 [some (Iq x0), some (Iq 0), some (Iq x0)] [] mem) :
    PW S mX4_many Q 0 [some (Iq x0), none, none] [] mem := by
  refine pw_iconst eX4_many_0 ⟨by decide, by decide⟩ ?_
  refine pw_istore_n (ls2 := [some (Iq x0), some (Iq 0), none]) eX4_many_1 rfl (by decide) rfl ?_
  refine pw_iload_n eX4_many_2 rfl rfl ?_
  refine pw_istore_n (ls2 := [some (Iq x0), some (Iq 0), some (Iq x0)]) eX4_many_3 rfl (by decide) rfl ?_
  exact h

set_option maxRecDepth 100000 in
theorem rg_X4_many_4 {S : Sx} {Q : Option PV → Zm → Prop} {mem : Zm}   {x0 x1 x2 : Int} 
    (h : (((x2 = 0) → (Q (some (Iq x1)) mem)) ∧ (¬ (x2 = 0) → ((in32 (x1 + 1)) ∧ (in32 (x2 - 1)) ∧ PW S mX4_many Q 4 [some (Iq x0), some (Iq (x1 + 1)), some (Iq (bAnd x2 (x2 - 1)))] [] mem)))) :
    PW S mX4_many Q 4 [some (Iq x0), some (Iq x1), some (Iq x2)] [] mem := by
  refine pw_iload_n eX4_many_4 rfl rfl ?_
  refine pw_if_eq eX4_many_5 (fun c1 => ?_) (fun c1 => ?_)
  · have h := h.1 c1
    refine pw_iload_n eX4_many_20 rfl rfl ?_
    exact pw_iret eX4_many_21 h
  · have h := h.2 c1
    obtain ⟨o2, h⟩ := h
    refine pw_iinc (ls2 := [some (Iq x0), some (Iq (x1 + 1)), some (Iq x2)]) eX4_many_8 rfl o2 rfl ?_
    refine pw_iload_n eX4_many_11 rfl rfl ?_
    refine pw_iload_n eX4_many_12 rfl rfl ?_
    refine pw_iconst eX4_many_13 ⟨by decide, by decide⟩ ?_
    obtain ⟨o3, h⟩ := h
    refine pw_isub eX4_many_14 o3 ?_
    refine pw_iand eX4_many_15 ?_
    refine pw_istore_n (ls2 := [some (Iq x0), some (Iq (x1 + 1)), some (Iq (bAnd x2 (x2 - 1)))]) eX4_many_16 rfl (by decide) rfl ?_
    refine pw_goto eX4_many_17 ?_
    exact h
set_option maxRecDepth 100000 in
theorem rg_X4_right_0 {S : Sx} {Q : Option PV → Zm → Prop} {mem : Zm}   {x1 x2 : Int} 
    (h : (∃ (v1 : Int) (m2 : Zm), Ct1 S mX4_isSum [Iq x1] mem (some (Iq v1)) m2 ∧ ((((v1 = 0) → ((∃ (v5 : Int) (m6 : Zm), Ct1 S mX4_finds [Aq 34, Iq (-1000001)] m2 (some (Iq v5)) m6 ∧ (Q (some (Iq v5)) m6)))) ∧ (¬ (v1 = 0) → ((∃ (v8 : Int) (m9 : Zm), Ct1 S mX4_isIn [Jq x2, Jq 0, Jq 99] m2 (some (Iq v8)) m9 ∧ ((((v8 = 0) → ((∃ (v12 : Int) (m13 : Zm), Ct1 S mX4_finds [Aq 34, Iq (-1000001)] m9 (some (Iq v12)) m13 ∧ (Q (some (Iq v12)) m13)))) ∧ (¬ (v8 = 0) → ((in32 (4 + x1)) ∧ (∃ (v16 : Int) (m17 : Zm), Ct1 S mX4_becomes [Aq 34, Iq (4 + x1), Iq x2] m9 (some (Iq v16)) m17 ∧ (Q (some (Iq v16)) m17))))))))))))) :
    PW S mX4_right Q 0 [some (Aq 34), some (Iq x1), some (Iq x2)] [] mem := by
  refine pw_iload_n eX4_right_0 rfl rfl ?_
  obtain ⟨v1, m2, hc3, h⟩ := h
  refine pw_cS (z := mX4_isSum) (av := [Iq x1]) (st := []) eX4_right_1 lk_RX4_43 rfl (by decide) (by decide) (Nat.le_of_ble_eq_true rfl) rfl hc3 ?_
  show PW S mX4_right Q 4 [some (Aq 34), some (Iq x1), some (Iq x2)] [Iq v1] m2
  refine pw_if_eq eX4_right_4 (fun c4 => ?_) (fun c4 => ?_)
  · have h := h.1 c4
    refine pw_aload_n eX4_right_30 rfl rfl ?_
    refine pw_ldc (n := (-1000001)) eX4_right_31 ⟨by decide, by decide⟩ kc_RX4_37 ?_
    obtain ⟨v5, m6, hc7, h⟩ := h
    refine pw_cV (z := mX4_finds) (av := [Iq (-1000001)]) (st := []) eX4_right_33 lk_RX4_39 rfl (by decide) (by decide) sh34 rfl rfl (Nat.le_of_ble_eq_true rfl) rfl hc7 ?_
    show PW S mX4_right Q 36 [some (Aq 34), some (Iq x1), some (Iq x2)] [Iq v5] m6
    exact pw_iret eX4_right_36 h
  · have h := h.2 c4
    refine pw_iload_n eX4_right_7 rfl rfl ?_
    refine pw_i2l eX4_right_8 ?_
    refine pw_lconst (v := 0) eX4_right_9 ⟨by decide, by decide⟩ rfl ?_
    refine pw_ldc2 (n := 99) eX4_right_10 ⟨by decide, by decide⟩ kc_RX4_47 ?_
    obtain ⟨v8, m9, hc10, h⟩ := h
    refine pw_cS (z := mX4_isIn) (av := [Jq x2, Jq 0, Jq 99]) (st := []) eX4_right_13 lk_RX4_49 rfl (by decide) (by decide) (Nat.le_of_ble_eq_true rfl) rfl hc10 ?_
    show PW S mX4_right Q 16 [some (Aq 34), some (Iq x1), some (Iq x2)] [Iq v8] m9
    refine pw_if_eq eX4_right_16 (fun c11 => ?_) (fun c11 => ?_)
    · have h := h.1 c11
      refine pw_aload_n eX4_right_30 rfl rfl ?_
      refine pw_ldc (n := (-1000001)) eX4_right_31 ⟨by decide, by decide⟩ kc_RX4_37 ?_
      obtain ⟨v12, m13, hc14, h⟩ := h
      refine pw_cV (z := mX4_finds) (av := [Iq (-1000001)]) (st := []) eX4_right_33 lk_RX4_39 rfl (by decide) (by decide) sh34 rfl rfl (Nat.le_of_ble_eq_true rfl) rfl hc14 ?_
      show PW S mX4_right Q 36 [some (Aq 34), some (Iq x1), some (Iq x2)] [Iq v12] m13
      exact pw_iret eX4_right_36 h
    · have h := h.2 c11
      refine pw_aload_n eX4_right_19 rfl rfl ?_
      refine pw_iconst eX4_right_20 ⟨by decide, by decide⟩ ?_
      refine pw_iload_n eX4_right_21 rfl rfl ?_
      obtain ⟨o15, h⟩ := h
      refine pw_iadd eX4_right_22 o15 ?_
      refine pw_iload_n eX4_right_23 rfl rfl ?_
      obtain ⟨v16, m17, hc18, h⟩ := h
      refine pw_cV (z := mX4_becomes) (av := [Iq (4 + x1), Iq x2]) (st := []) eX4_right_24 lk_RX4_53 rfl (by decide) (by decide) sh34 rfl rfl (Nat.le_of_ble_eq_true rfl) rfl hc18 ?_
      show PW S mX4_right Q 27 [some (Aq 34), some (Iq x1), some (Iq x2)] [Iq v16] m17
      refine pw_goto eX4_right_27 ?_
      exact pw_iret eX4_right_36 h
set_option maxRecDepth 100000 in
theorem rg_X4_isRight_0 {S : Sx} {Q : Option PV → Zm → Prop} {mem : Zm}   {x1 : Int} 
    (h : (∃ (v1 : Int) (m2 : Zm), Ct1 S mX4_isSum [Iq x1] mem (some (Iq v1)) m2 ∧ ((((v1 = 0) → ((∃ (v5 : Int) (m6 : Zm), Ct1 S mX4_finds [Aq 34, Iq (-1000001)] m2 (some (Iq v5)) m6 ∧ (Q (some (Iq v5)) m6)))) ∧ (¬ (v1 = 0) → ((in32 (4 + x1)) ∧ (0 ≤ 4 + x1 ∧ 4 + x1 < 134) ∧ Q (some (Iq (m2 35 (4 + x1).toNat))) m2)))))) :
    PW S mX4_isRight Q 0 [some (Aq 34), some (Iq x1)] [] mem := by
  refine pw_iload_n eX4_isRight_0 rfl rfl ?_
  obtain ⟨v1, m2, hc3, h⟩ := h
  refine pw_cS (z := mX4_isSum) (av := [Iq x1]) (st := []) eX4_isRight_1 lk_RX4_43 rfl (by decide) (by decide) (Nat.le_of_ble_eq_true rfl) rfl hc3 ?_
  show PW S mX4_isRight Q 4 [some (Aq 34), some (Iq x1)] [Iq v1] m2
  refine pw_if_eq eX4_isRight_4 (fun c4 => ?_) (fun c4 => ?_)
  · have h := h.1 c4
    refine pw_aload_n eX4_isRight_18 rfl rfl ?_
    refine pw_ldc (n := (-1000001)) eX4_isRight_19 ⟨by decide, by decide⟩ kc_RX4_37 ?_
    obtain ⟨v5, m6, hc7, h⟩ := h
    refine pw_cV (z := mX4_finds) (av := [Iq (-1000001)]) (st := []) eX4_isRight_21 lk_RX4_39 rfl (by decide) (by decide) sh34 rfl rfl (Nat.le_of_ble_eq_true rfl) rfl hc7 ?_
    show PW S mX4_isRight Q 24 [some (Aq 34), some (Iq x1)] [Iq v5] m6
    exact pw_iret eX4_isRight_24 h
  · have h := h.2 c4
    refine pw_aload_n eX4_isRight_7 rfl rfl ?_
    refine gf_RX4_7 rfl eX4_isRight_8 sh34 ?_
    refine pw_iconst eX4_isRight_11 ⟨by decide, by decide⟩ ?_
    refine pw_iload_n eX4_isRight_12 rfl rfl ?_
    obtain ⟨o8, h⟩ := h
    refine pw_iadd eX4_isRight_13 o8 ?_
    obtain ⟨o9, h⟩ := h
    refine pw_iald eX4_isRight_14 sh35 o9 ?_
    refine pw_goto eX4_isRight_15 ?_
    exact pw_iret eX4_isRight_24 h
set_option maxRecDepth 100000 in
theorem rg_X4_limit_0 {S : Sx} {Q : Option PV → Zm → Prop} {mem : Zm}   {x1 : Int} 
    (h : (∃ (v1 : Int) (m2 : Zm), Ct1 S mX4_isIn [Jq x1, Jq 1, Jq 9] mem (some (Iq v1)) m2 ∧ ((((v1 = 0) → ((∃ (v5 : Int) (m6 : Zm), Ct1 S mX4_finds [Aq 34, Iq (-1000001)] m2 (some (Iq v5)) m6 ∧ (Q (some (Iq v5)) m6)))) ∧ (¬ (v1 = 0) → ((∃ (v8 : Int) (m9 : Zm), Ct1 S mX4_becomes [Aq 34, Iq 3, Iq x1] m2 (some (Iq v8)) m9 ∧ (Q (some (Iq v8)) m9)))))))) :
    PW S mX4_limit Q 0 [some (Aq 34), some (Iq x1)] [] mem := by
  refine pw_iload_n eX4_limit_0 rfl rfl ?_
  refine pw_i2l eX4_limit_1 ?_
  refine pw_lconst (v := 1) eX4_limit_2 ⟨by decide, by decide⟩ rfl ?_
  refine pw_ldc2 (n := 9) eX4_limit_3 ⟨by decide, by decide⟩ kc_RX4_57 ?_
  obtain ⟨v1, m2, hc3, h⟩ := h
  refine pw_cS (z := mX4_isIn) (av := [Jq x1, Jq 1, Jq 9]) (st := []) eX4_limit_6 lk_RX4_49 rfl (by decide) (by decide) (Nat.le_of_ble_eq_true rfl) rfl hc3 ?_
  show PW S mX4_limit Q 9 [some (Aq 34), some (Iq x1)] [Iq v1] m2
  refine pw_if_eq eX4_limit_9 (fun c4 => ?_) (fun c4 => ?_)
  · have h := h.1 c4
    refine pw_aload_n eX4_limit_21 rfl rfl ?_
    refine pw_ldc (n := (-1000001)) eX4_limit_22 ⟨by decide, by decide⟩ kc_RX4_37 ?_
    obtain ⟨v5, m6, hc7, h⟩ := h
    refine pw_cV (z := mX4_finds) (av := [Iq (-1000001)]) (st := []) eX4_limit_24 lk_RX4_39 rfl (by decide) (by decide) sh34 rfl rfl (Nat.le_of_ble_eq_true rfl) rfl hc7 ?_
    show PW S mX4_limit Q 27 [some (Aq 34), some (Iq x1)] [Iq v5] m6
    exact pw_iret eX4_limit_27 h
  · have h := h.2 c4
    refine pw_aload_n eX4_limit_12 rfl rfl ?_
    refine pw_iconst eX4_limit_13 ⟨by decide, by decide⟩ ?_
    refine pw_iload_n eX4_limit_14 rfl rfl ?_
    obtain ⟨v8, m9, hc10, h⟩ := h
    refine pw_cV (z := mX4_becomes) (av := [Iq 3, Iq x1]) (st := []) eX4_limit_15 lk_RX4_53 rfl (by decide) (by decide) sh34 rfl rfl (Nat.le_of_ble_eq_true rfl) rfl hc10 ?_
    show PW S mX4_limit Q 18 [some (Aq 34), some (Iq x1)] [Iq v8] m9
    refine pw_goto eX4_limit_18 ?_
    exact pw_iret eX4_limit_27 h
set_option maxRecDepth 100000 in
theorem rg_X4_comes_0 {S : Sx} {Q : Option PV → Zm → Prop} {mem : Zm}   {x1 x2 : Int} 
    (h : (∃ (v1 : Int) (m2 : Zm), Ct1 S mX4_at [Iq (mem 35 0), Iq 0] mem (some (Iq v1)) m2 ∧ ((0 ≤ v1 ∧ v1 < 134) ∧ (∃ (v5 : Int) (m6 : Zm), Ct1 S mX4_at [Iq (mem 35 0), Iq 1] (mup m2 35 (v1).toNat x1) (some (Iq v5)) m6 ∧ ((0 ≤ v5 ∧ v5 < 134) ∧ (∃ (v9 : Int) (m10 : Zm), Ct1 S mX4_at [Iq (mem 35 0), Iq 2] (mup m6 35 (v5).toNat x2) (some (Iq v9)) m10 ∧ ((0 ≤ v9 ∧ v9 < 134) ∧ (∃ (v13 : Int) (m14 : Zm), Ct1 S mX4_at [Iq (mem 35 0), Iq 3] (mup m10 35 (v9).toNat (-1)) (some (Iq v13)) m14 ∧ ((0 ≤ v13 ∧ v13 < 134) ∧ (∃ (v17 : Int) (m18 : Zm), Ct1 S mX4_at [Iq (mem 35 0), Iq 4] (mup m14 35 (v13).toNat 0) (some (Iq v17)) m18 ∧ ((0 ≤ v17 ∧ v17 < 134) ∧ (∃ (v21 : Int) (m22 : Zm), Ct1 S mX4_at [Iq (mem 35 0), Iq 5] (mup m18 35 (v17).toNat 5) (some (Iq v21)) m22 ∧ ((0 ≤ v21 ∧ v21 < 134) ∧ PW S mX4_comes Q 76 [some (Aq 34), some (Iq x1), some (Iq x2), some (Iq (mem 35 0)), some (Iq 0)] [] (mup m22 35 (v21).toNat 0)))))))))))))) :
    PW S mX4_comes Q 0 [some (Aq 34), some (Iq x1), some (Iq x2), none, none] [] mem := by
  refine pw_aload_n eX4_comes_0 rfl rfl ?_
  refine gf_RX4_7 rfl eX4_comes_1 sh34 ?_
  refine pw_iconst eX4_comes_4 ⟨by decide, by decide⟩ ?_
  refine pw_iald eX4_comes_5 sh35 (by decide) ?_
  refine pw_istore_n (ls2 := [some (Aq 34), some (Iq x1), some (Iq x2), some (Iq (mem 35 0)), none]) eX4_comes_6 rfl (by decide) rfl ?_
  refine pw_aload_n eX4_comes_7 rfl rfl ?_
  refine gf_RX4_7 rfl eX4_comes_8 sh34 ?_
  refine pw_iload_n eX4_comes_11 rfl rfl ?_
  refine pw_iconst eX4_comes_12 ⟨by decide, by decide⟩ ?_
  obtain ⟨v1, m2, hc3, h⟩ := h
  refine pw_cS (z := mX4_at) (av := [Iq (mem 35 0), Iq 0]) (st := [Aq 35]) eX4_comes_13 lk_RX4_59 rfl (by decide) (by decide) (Nat.le_of_ble_eq_true rfl) rfl hc3 ?_
  show PW S mX4_comes Q 16 [some (Aq 34), some (Iq x1), some (Iq x2), some (Iq (mem 35 0)), none] [Iq v1, Aq 35] m2
  refine pw_iload_n eX4_comes_16 rfl rfl ?_
  obtain ⟨o4, h⟩ := h
  refine pw_iast eX4_comes_17 sh35 o4 ?_
  refine pw_aload_n eX4_comes_18 rfl rfl ?_
  refine gf_RX4_7 rfl eX4_comes_19 sh34 ?_
  refine pw_iload_n eX4_comes_22 rfl rfl ?_
  refine pw_iconst eX4_comes_23 ⟨by decide, by decide⟩ ?_
  obtain ⟨v5, m6, hc7, h⟩ := h
  refine pw_cS (z := mX4_at) (av := [Iq (mem 35 0), Iq 1]) (st := [Aq 35]) eX4_comes_24 lk_RX4_59 rfl (by decide) (by decide) (Nat.le_of_ble_eq_true rfl) rfl hc7 ?_
  show PW S mX4_comes Q 27 [some (Aq 34), some (Iq x1), some (Iq x2), some (Iq (mem 35 0)), none] [Iq v5, Aq 35] m6
  refine pw_iload_n eX4_comes_27 rfl rfl ?_
  obtain ⟨o8, h⟩ := h
  refine pw_iast eX4_comes_28 sh35 o8 ?_
  refine pw_aload_n eX4_comes_29 rfl rfl ?_
  refine gf_RX4_7 rfl eX4_comes_30 sh34 ?_
  refine pw_iload_n eX4_comes_33 rfl rfl ?_
  refine pw_iconst eX4_comes_34 ⟨by decide, by decide⟩ ?_
  obtain ⟨v9, m10, hc11, h⟩ := h
  refine pw_cS (z := mX4_at) (av := [Iq (mem 35 0), Iq 2]) (st := [Aq 35]) eX4_comes_35 lk_RX4_59 rfl (by decide) (by decide) (Nat.le_of_ble_eq_true rfl) rfl hc11 ?_
  show PW S mX4_comes Q 38 [some (Aq 34), some (Iq x1), some (Iq x2), some (Iq (mem 35 0)), none] [Iq v9, Aq 35] m10
  refine pw_iconst eX4_comes_38 ⟨by decide, by decide⟩ ?_
  obtain ⟨o12, h⟩ := h
  refine pw_iast eX4_comes_39 sh35 o12 ?_
  refine pw_aload_n eX4_comes_40 rfl rfl ?_
  refine gf_RX4_7 rfl eX4_comes_41 sh34 ?_
  refine pw_iload_n eX4_comes_44 rfl rfl ?_
  refine pw_iconst eX4_comes_45 ⟨by decide, by decide⟩ ?_
  obtain ⟨v13, m14, hc15, h⟩ := h
  refine pw_cS (z := mX4_at) (av := [Iq (mem 35 0), Iq 3]) (st := [Aq 35]) eX4_comes_46 lk_RX4_59 rfl (by decide) (by decide) (Nat.le_of_ble_eq_true rfl) rfl hc15 ?_
  show PW S mX4_comes Q 49 [some (Aq 34), some (Iq x1), some (Iq x2), some (Iq (mem 35 0)), none] [Iq v13, Aq 35] m14
  refine pw_iconst eX4_comes_49 ⟨by decide, by decide⟩ ?_
  obtain ⟨o16, h⟩ := h
  refine pw_iast eX4_comes_50 sh35 o16 ?_
  refine pw_aload_n eX4_comes_51 rfl rfl ?_
  refine gf_RX4_7 rfl eX4_comes_52 sh34 ?_
  refine pw_iload_n eX4_comes_55 rfl rfl ?_
  refine pw_iconst eX4_comes_56 ⟨by decide, by decide⟩ ?_
  obtain ⟨v17, m18, hc19, h⟩ := h
  refine pw_cS (z := mX4_at) (av := [Iq (mem 35 0), Iq 4]) (st := [Aq 35]) eX4_comes_57 lk_RX4_59 rfl (by decide) (by decide) (Nat.le_of_ble_eq_true rfl) rfl hc19 ?_
  show PW S mX4_comes Q 60 [some (Aq 34), some (Iq x1), some (Iq x2), some (Iq (mem 35 0)), none] [Iq v17, Aq 35] m18
  refine pw_iconst eX4_comes_60 ⟨by decide, by decide⟩ ?_
  obtain ⟨o20, h⟩ := h
  refine pw_iast eX4_comes_61 sh35 o20 ?_
  refine pw_aload_n eX4_comes_62 rfl rfl ?_
  refine gf_RX4_7 rfl eX4_comes_63 sh34 ?_
  refine pw_iload_n eX4_comes_66 rfl rfl ?_
  refine pw_iconst eX4_comes_67 ⟨by decide, by decide⟩ ?_
  obtain ⟨v21, m22, hc23, h⟩ := h
  refine pw_cS (z := mX4_at) (av := [Iq (mem 35 0), Iq 5]) (st := [Aq 35]) eX4_comes_68 lk_RX4_59 rfl (by decide) (by decide) (Nat.le_of_ble_eq_true rfl) rfl hc23 ?_
  show PW S mX4_comes Q 71 [some (Aq 34), some (Iq x1), some (Iq x2), some (Iq (mem 35 0)), none] [Iq v21, Aq 35] m22
  refine pw_iconst eX4_comes_71 ⟨by decide, by decide⟩ ?_
  obtain ⟨o24, h⟩ := h
  refine pw_iast eX4_comes_72 sh35 o24 ?_
  refine pw_iconst eX4_comes_73 ⟨by decide, by decide⟩ ?_
  refine pw_istore (ls2 := [some (Aq 34), some (Iq x1), some (Iq x2), some (Iq (mem 35 0)), some (Iq 0)]) eX4_comes_74 (by decide) rfl ?_
  exact h

set_option maxRecDepth 100000 in
theorem rg_X4_comes_76 {S : Sx} {Q : Option PV → Zm → Prop} {mem : Zm}   {x1 x2 x3 x4 : Int} 
    (h : (((8 ≤ x4) → ((in32 ((mem 35 0) + 1)) ∧ Q none (mup mem 35 0 ((mem 35 0) + 1)))) ∧ (¬ (8 ≤ x4) → ((in32 (6 + x4)) ∧ (∃ (v4 : Int) (m5 : Zm), Ct1 S mX4_at [Iq x3, Iq (6 + x4)] mem (some (Iq v4)) m5 ∧ ((0 ≤ v4 ∧ v4 < 134) ∧ (in32 (x4 + 1)) ∧ PW S mX4_comes Q 76 [some (Aq 34), some (Iq x1), some (Iq x2), some (Iq x3), some (Iq (x4 + 1))] [] (mup m5 35 (v4).toNat (-1)))))))) :
    PW S mX4_comes Q 76 [some (Aq 34), some (Iq x1), some (Iq x2), some (Iq x3), some (Iq x4)] [] mem := by
  refine pw_iload eX4_comes_76 rfl ?_
  refine pw_bipush eX4_comes_78 ⟨by decide, by decide⟩ (by decide) ?_
  refine pw_icmp_ge eX4_comes_80 (fun c1 => ?_) (fun c1 => ?_)
  · have h := h.1 c1
    refine pw_aload_n eX4_comes_104 rfl rfl ?_
    refine gf_RX4_7 rfl eX4_comes_105 sh34 ?_
    refine pw_iconst eX4_comes_108 ⟨by decide, by decide⟩ ?_
    refine pw_dup2 eX4_comes_109 rfl rfl ?_
    refine pw_iald eX4_comes_110 sh35 (by decide) ?_
    refine pw_iconst eX4_comes_111 ⟨by decide, by decide⟩ ?_
    obtain ⟨o2, h⟩ := h
    refine pw_iadd eX4_comes_112 o2 ?_
    refine pw_iast eX4_comes_113 sh35 (by decide) ?_
    exact pw_vret eX4_comes_114 h
  · have h := h.2 c1
    refine pw_aload_n eX4_comes_83 rfl rfl ?_
    refine gf_RX4_7 rfl eX4_comes_84 sh34 ?_
    refine pw_iload_n eX4_comes_87 rfl rfl ?_
    refine pw_bipush eX4_comes_88 ⟨by decide, by decide⟩ (by decide) ?_
    refine pw_iload eX4_comes_90 rfl ?_
    obtain ⟨o3, h⟩ := h
    refine pw_iadd eX4_comes_92 o3 ?_
    obtain ⟨v4, m5, hc6, h⟩ := h
    refine pw_cS (z := mX4_at) (av := [Iq x3, Iq (6 + x4)]) (st := [Aq 35]) eX4_comes_93 lk_RX4_59 rfl (by decide) (by decide) (Nat.le_of_ble_eq_true rfl) rfl hc6 ?_
    show PW S mX4_comes Q 96 [some (Aq 34), some (Iq x1), some (Iq x2), some (Iq x3), some (Iq x4)] [Iq v4, Aq 35] m5
    refine pw_iconst eX4_comes_96 ⟨by decide, by decide⟩ ?_
    obtain ⟨o7, h⟩ := h
    refine pw_iast eX4_comes_97 sh35 o7 ?_
    obtain ⟨o8, h⟩ := h
    refine pw_iinc (ls2 := [some (Aq 34), some (Iq x1), some (Iq x2), some (Iq x3), some (Iq (x4 + 1))]) eX4_comes_98 rfl o8 rfl ?_
    refine pw_goto eX4_comes_101 ?_
    exact h
set_option maxRecDepth 100000 in
theorem rg_X4_child_0 {S : Sx} {Q : Option PV → Zm → Prop} {mem : Zm}   {x1 x2 : Int} 
    (h : (∃ (v1 : Int) (m2 : Zm), Ct1 S mX4_isIn [Jq x1, Jq 0, Jq 6] mem (some (Iq v1)) m2 ∧ ((((v1 = 0) → ((∃ (v5 : Int) (m6 : Zm), Ct1 S mX4_finds [Aq 34, Iq (-1000001)] m2 (some (Iq v5)) m6 ∧ (Q (some (Iq v5)) m6)))) ∧ (¬ (v1 = 0) → ((∃ (v8 : Int) (m9 : Zm), Ct1 S mX4_isIn [Jq x2, Jq 0, Jq 255] m2 (some (Iq v8)) m9 ∧ ((((¬ v8 = 0) → ((((¬ m9 35 0 = 8) → ((∃ (m14 : Zm), Ct1 S mX4_comes [Aq 34, Iq x1, Iq x2] m9 none m14 ∧ ((in32 ((m14 35 0) - 1)) ∧ Q (some (Iq ((m14 35 0) - 1))) m14)))) ∧ (¬ (¬ m9 35 0 = 8) → ((∃ (v17 : Int) (m18 : Zm), Ct1 S mX4_finds [Aq 34, Iq (-1000002)] m9 (some (Iq v17)) m18 ∧ (Q (some (Iq v17)) m18))))))) ∧ (¬ (¬ v8 = 0) → ((∃ (v20 : Int) (m21 : Zm), Ct1 S mX4_finds [Aq 34, Iq (-1000001)] m9 (some (Iq v20)) m21 ∧ (Q (some (Iq v20)) m21))))))))))))) :
    PW S mX4_child Q 0 [some (Aq 34), some (Iq x1), some (Iq x2)] [] mem := by
  refine pw_iload_n eX4_child_0 rfl rfl ?_
  refine pw_i2l eX4_child_1 ?_
  refine pw_lconst (v := 0) eX4_child_2 ⟨by decide, by decide⟩ rfl ?_
  refine pw_ldc2 (n := 6) eX4_child_3 ⟨by decide, by decide⟩ kc_RX4_62 ?_
  obtain ⟨v1, m2, hc3, h⟩ := h
  refine pw_cS (z := mX4_isIn) (av := [Jq x1, Jq 0, Jq 6]) (st := []) eX4_child_6 lk_RX4_49 rfl (by decide) (by decide) (Nat.le_of_ble_eq_true rfl) rfl hc3 ?_
  show PW S mX4_child Q 9 [some (Aq 34), some (Iq x1), some (Iq x2)] [Iq v1] m2
  refine pw_if_eq eX4_child_9 (fun c4 => ?_) (fun c4 => ?_)
  · have h := h.1 c4
    refine pw_aload_n eX4_child_24 rfl rfl ?_
    refine pw_ldc (n := (-1000001)) eX4_child_25 ⟨by decide, by decide⟩ kc_RX4_37 ?_
    obtain ⟨v5, m6, hc7, h⟩ := h
    refine pw_cV (z := mX4_finds) (av := [Iq (-1000001)]) (st := []) eX4_child_27 lk_RX4_39 rfl (by decide) (by decide) sh34 rfl rfl (Nat.le_of_ble_eq_true rfl) rfl hc7 ?_
    show PW S mX4_child Q 30 [some (Aq 34), some (Iq x1), some (Iq x2)] [Iq v5] m6
    exact pw_iret eX4_child_30 h
  · have h := h.2 c4
    refine pw_iload_n eX4_child_12 rfl rfl ?_
    refine pw_i2l eX4_child_13 ?_
    refine pw_lconst (v := 0) eX4_child_14 ⟨by decide, by decide⟩ rfl ?_
    refine pw_ldc2 (n := 255) eX4_child_15 ⟨by decide, by decide⟩ kc_RX4_64 ?_
    obtain ⟨v8, m9, hc10, h⟩ := h
    refine pw_cS (z := mX4_isIn) (av := [Jq x2, Jq 0, Jq 255]) (st := []) eX4_child_18 lk_RX4_49 rfl (by decide) (by decide) (Nat.le_of_ble_eq_true rfl) rfl hc10 ?_
    show PW S mX4_child Q 21 [some (Aq 34), some (Iq x1), some (Iq x2)] [Iq v8] m9
    refine pw_if_ne eX4_child_21 (fun c11 => ?_) (fun c11 => ?_)
    · have h := h.1 c11
      refine pw_aload_n eX4_child_31 rfl rfl ?_
      refine gf_RX4_7 rfl eX4_child_32 sh34 ?_
      refine pw_iconst eX4_child_35 ⟨by decide, by decide⟩ ?_
      refine pw_iald eX4_child_36 sh35 (by decide) ?_
      refine pw_bipush eX4_child_37 ⟨by decide, by decide⟩ (by decide) ?_
      refine pw_icmp_ne eX4_child_39 (fun c12 => ?_) (fun c12 => ?_)
      · have h := h.1 c12
        refine pw_aload_n eX4_child_49 rfl rfl ?_
        refine pw_iload_n eX4_child_50 rfl rfl ?_
        refine pw_iload_n eX4_child_51 rfl rfl ?_
        obtain ⟨m14, hc15, h⟩ := h
        refine pw_cV (z := mX4_comes) (av := [Iq x1, Iq x2]) (st := []) eX4_child_52 lk_RX4_67 rfl (by decide) (by decide) sh34 rfl rfl (Nat.le_of_ble_eq_true rfl) rfl hc15 ?_
        show PW S mX4_child Q 55 [some (Aq 34), some (Iq x1), some (Iq x2)] [] m14
        refine pw_aload_n eX4_child_55 rfl rfl ?_
        refine gf_RX4_7 rfl eX4_child_56 sh34 ?_
        refine pw_iconst eX4_child_59 ⟨by decide, by decide⟩ ?_
        refine pw_iald eX4_child_60 sh35 (by decide) ?_
        refine pw_iconst eX4_child_61 ⟨by decide, by decide⟩ ?_
        obtain ⟨o16, h⟩ := h
        refine pw_isub eX4_child_62 o16 ?_
        exact pw_iret eX4_child_63 h
      · have h := h.2 c12
        refine pw_aload_n eX4_child_42 rfl rfl ?_
        refine pw_ldc (n := (-1000002)) eX4_child_43 ⟨by decide, by decide⟩ kc_RX4_66 ?_
        obtain ⟨v17, m18, hc19, h⟩ := h
        refine pw_cV (z := mX4_finds) (av := [Iq (-1000002)]) (st := []) eX4_child_45 lk_RX4_39 rfl (by decide) (by decide) sh34 rfl rfl (Nat.le_of_ble_eq_true rfl) rfl hc19 ?_
        show PW S mX4_child Q 48 [some (Aq 34), some (Iq x1), some (Iq x2)] [Iq v17] m18
        exact pw_iret eX4_child_48 h
    · have h := h.2 c11
      refine pw_aload_n eX4_child_24 rfl rfl ?_
      refine pw_ldc (n := (-1000001)) eX4_child_25 ⟨by decide, by decide⟩ kc_RX4_37 ?_
      obtain ⟨v20, m21, hc22, h⟩ := h
      refine pw_cV (z := mX4_finds) (av := [Iq (-1000001)]) (st := []) eX4_child_27 lk_RX4_39 rfl (by decide) (by decide) sh34 rfl rfl (Nat.le_of_ble_eq_true rfl) rfl hc22 ?_
      show PW S mX4_child Q 30 [some (Aq 34), some (Iq x1), some (Iq x2)] [Iq v20] m21
      exact pw_iret eX4_child_30 h
set_option maxRecDepth 100000 in
theorem rg_X4_pays_0 {S : Sx} {Q : Option PV → Zm → Prop} {mem : Zm}   {x0 : Int} 
    (h : (((x0 = 2) → (Q (some (Iq 2)) mem)) ∧ ((x0 = 3) → (Q (some (Iq 2)) mem)) ∧ ((x0 = 4) → (Q (some (Iq 2)) mem)) ∧ ((x0 = 5) → (Q (some (Iq 0)) mem)) ∧ ((x0 = 6) → (Q (some (Iq 0)) mem)) ∧ ((x0 < 2 ∨ 6 < x0) → (Q (some (Iq 1)) mem)))) :
    PW S mX4_pays Q 0 [some (Iq x0)] [] mem := by
  refine pw_iload_n eX4_pays_0 rfl rfl ?_
  obtain ⟨hk0, hk1, hk2, hk3, hk4, hkd⟩ := h
  refine pw_tsw (ps := [(2, 36), (3, 36), (4, 36), (5, 38), (6, 38)]) (td := 40) eX4_pays_1 rfl (by decide) (by decide) rfl ⟨fun c1 => ?_, fun c1 => ?_, fun c1 => ?_, fun c1 => ?_, fun c1 => ?_, trivial⟩ (fun c1 => ?_)
  · have h := hk0 c1
    refine pw_iconst eX4_pays_36 ⟨by decide, by decide⟩ ?_
    exact pw_iret eX4_pays_37 h
  · have h := hk1 c1
    refine pw_iconst eX4_pays_36 ⟨by decide, by decide⟩ ?_
    exact pw_iret eX4_pays_37 h
  · have h := hk2 c1
    refine pw_iconst eX4_pays_36 ⟨by decide, by decide⟩ ?_
    exact pw_iret eX4_pays_37 h
  · have h := hk3 c1
    refine pw_iconst eX4_pays_38 ⟨by decide, by decide⟩ ?_
    exact pw_iret eX4_pays_39 h
  · have h := hk4 c1
    refine pw_iconst eX4_pays_38 ⟨by decide, by decide⟩ ?_
    exact pw_iret eX4_pays_39 h
  · have h := hkd c1
    refine pw_iconst eX4_pays_40 ⟨by decide, by decide⟩ ?_
    exact pw_iret eX4_pays_41 h
set_option maxRecDepth 100000 in
theorem rg_X4_lends_0 {S : Sx} {Q : Option PV → Zm → Prop} {mem : Zm}   {x1 : Int} 
    (h : (∃ (v1 : Int) (m2 : Zm), Ct1 S mX4_its [Aq 34, Iq x1, Iq 0] mem (some (Iq v1)) m2 ∧ ((((v1 = 4) → ((0 ≤ m2 35 1) ∧ (((¬ (m2 35 1) % 2 = 0) → (Q (some (Iq 0)) m2)) ∧ (¬ (¬ (m2 35 1) % 2 = 0) → (Q (some (Iq 1)) m2))))) ∧ ((v1 = 5) → (Q (some (Iq 0)) m2)) ∧ ((v1 = 6) → ((∃ (v7 : Int) (m8 : Zm), Ct1 S mX4_its [Aq 34, Iq x1, Iq 4] m2 (some (Iq v7)) m8 ∧ ((((20 ≤ v7) → (Q (some (Iq 0)) m8)) ∧ (¬ (20 ≤ v7) → (Q (some (Iq 1)) m8))))))) ∧ ((v1 < 4 ∨ 6 < v1) → (Q (some (Iq 1)) m2)))))) :
    PW S mX4_lends Q 0 [some (Aq 34), some (Iq x1)] [] mem := by
  refine pw_aload_n eX4_lends_0 rfl rfl ?_
  refine pw_iload_n eX4_lends_1 rfl rfl ?_
  refine pw_iconst eX4_lends_2 ⟨by decide, by decide⟩ ?_
  obtain ⟨v1, m2, hc3, h⟩ := h
  refine pw_cV (z := mX4_its) (av := [Iq x1, Iq 0]) (st := []) eX4_lends_3 lk_RX4_71 rfl (by decide) (by decide) sh34 rfl rfl (Nat.le_of_ble_eq_true rfl) rfl hc3 ?_
  show PW S mX4_lends Q 6 [some (Aq 34), some (Iq x1)] [Iq v1] m2
  obtain ⟨hk0, hk1, hk2, hkd⟩ := h
  refine pw_tsw (ps := [(4, 32), (5, 49), (6, 51)]) (td := 68) eX4_lends_6 rfl (by decide) (by decide) rfl ⟨fun c4 => ?_, fun c4 => ?_, fun c4 => ?_, trivial⟩ (fun c4 => ?_)
  · have h := hk0 c4
    refine pw_aload_n eX4_lends_32 rfl rfl ?_
    refine gf_RX4_7 rfl eX4_lends_33 sh34 ?_
    refine pw_iconst eX4_lends_36 ⟨by decide, by decide⟩ ?_
    refine pw_iald eX4_lends_37 sh35 (by decide) ?_
    refine pw_iconst eX4_lends_38 ⟨by decide, by decide⟩ ?_
    obtain ⟨o5, h⟩ := h
    refine pw_irem eX4_lends_39 o5 (by decide) ?_
    refine pw_if_ne eX4_lends_40 (fun c6 => ?_) (fun c6 => ?_)
    · have h := h.1 c6
      refine pw_iconst eX4_lends_47 ⟨by decide, by decide⟩ ?_
      exact pw_iret eX4_lends_48 h
    · have h := h.2 c6
      refine pw_iconst eX4_lends_43 ⟨by decide, by decide⟩ ?_
      refine pw_goto eX4_lends_44 ?_
      exact pw_iret eX4_lends_48 h
  · have h := hk1 c4
    refine pw_iconst eX4_lends_49 ⟨by decide, by decide⟩ ?_
    exact pw_iret eX4_lends_50 h
  · have h := hk2 c4
    refine pw_aload_n eX4_lends_51 rfl rfl ?_
    refine pw_iload_n eX4_lends_52 rfl rfl ?_
    refine pw_iconst eX4_lends_53 ⟨by decide, by decide⟩ ?_
    obtain ⟨v7, m8, hc9, h⟩ := h
    refine pw_cV (z := mX4_its) (av := [Iq x1, Iq 4]) (st := []) eX4_lends_54 lk_RX4_71 rfl (by decide) (by decide) sh34 rfl rfl (Nat.le_of_ble_eq_true rfl) rfl hc9 ?_
    show PW S mX4_lends Q 57 [some (Aq 34), some (Iq x1)] [Iq v7] m8
    refine pw_bipush eX4_lends_57 ⟨by decide, by decide⟩ (by decide) ?_
    refine pw_icmp_ge eX4_lends_59 (fun c10 => ?_) (fun c10 => ?_)
    · have h := h.1 c10
      refine pw_iconst eX4_lends_66 ⟨by decide, by decide⟩ ?_
      exact pw_iret eX4_lends_67 h
    · have h := h.2 c10
      refine pw_iconst eX4_lends_62 ⟨by decide, by decide⟩ ?_
      refine pw_goto eX4_lends_63 ?_
      exact pw_iret eX4_lends_67 h
  · have h := hkd c4
    refine pw_iconst eX4_lends_68 ⟨by decide, by decide⟩ ?_
    exact pw_iret eX4_lends_69 h
set_option maxRecDepth 100000 in
theorem rg_X4_oneForSeven_0 {S : Sx} {Q : Option PV → Zm → Prop} {mem : Zm}   {x0 : Int} 
    (h : (((¬ x0 = 7) → (Q (some (Iq x0)) mem)) ∧ (¬ (¬ x0 = 7) → (Q (some (Iq 1)) mem)))) :
    PW S mX4_oneForSeven Q 0 [some (Iq x0)] [] mem := by
  refine pw_iload_n eX4_oneForSeven_0 rfl rfl ?_
  refine pw_bipush eX4_oneForSeven_1 ⟨by decide, by decide⟩ (by decide) ?_
  refine pw_icmp_ne eX4_oneForSeven_3 (fun c1 => ?_) (fun c1 => ?_)
  · have h := h.1 c1
    refine pw_iload_n eX4_oneForSeven_10 rfl rfl ?_
    exact pw_iret eX4_oneForSeven_11 h
  · have h := h.2 c1
    refine pw_iconst eX4_oneForSeven_6 ⟨by decide, by decide⟩ ?_
    refine pw_goto eX4_oneForSeven_7 ?_
    exact pw_iret eX4_oneForSeven_11 h
set_option maxRecDepth 100000 in
theorem rg_X4_slipsOf_0 {S : Sx} {Q : Option PV → Zm → Prop} {mem : Zm}   {x1 x2 x3 : Int} 
    (h : (((0 ≤ x3) → ((0 ≤ x2) ∧ (((¬ x2 % 2 = 1) → ((0 ≤ x3) ∧ (∃ (v5 : Int) (m6 : Zm), Ct1 S mX4_oneForSeven [Iq (x3 / 10)] mem (some (Iq v5)) m6 ∧ ((in32 (10 * v5)) ∧ (0 ≤ x3) ∧ (∃ (v10 : Int) (m11 : Zm), Ct1 S mX4_oneForSeven [Iq (x3 % 10)] m6 (some (Iq v10)) m11 ∧ ((in32 ((10 * v5) + v10)) ∧ (((x1 = 1) → ((0 ≤ x2) ∧ (((¬ x2 % 4 = 0) → (Q (some (Iq x3)) m11)) ∧ (¬ (¬ x2 % 4 = 0) → (Q (some (Iq (-1))) m11))))) ∧ ((x1 = 2) → (Q (some (Iq x3)) m11)) ∧ ((x1 = 3) → (Q (some (Iq ((10 * v5) + v10))) m11)) ∧ ((x1 = 4) → ((0 ≤ m11 35 1) ∧ (((¬ (m11 35 1) % 2 = 1) → (Q (some (Iq ((10 * v5) + v10))) m11)) ∧ (¬ (¬ (m11 35 1) % 2 = 1) → (Q (some (Iq (-1))) m11))))) ∧ ((x1 = 5) → (Q (some (Iq (-1))) m11)) ∧ ((x1 = 6) → ((0 ≤ x2) ∧ (((¬ x2 % 4 = 0) → (Q (some (Iq x3)) m11)) ∧ (¬ (¬ x2 % 4 = 0) → (Q (some (Iq (-1))) m11))))) ∧ ((x1 < 1 ∨ 6 < x1) → (Q (some (Iq x3)) m11))))))))) ∧ (¬ (¬ x2 % 2 = 1) → ((0 ≤ x3) ∧ (in32 ((x3 % 10) * 10)) ∧ (0 ≤ x3) ∧ (in32 (((x3 % 10) * 10) + (x3 / 10))) ∧ (0 ≤ ((x3 % 10) * 10) + (x3 / 10)) ∧ (∃ (v26 : Int) (m27 : Zm), Ct1 S mX4_oneForSeven [Iq ((((x3 % 10) * 10) + (x3 / 10)) / 10)] mem (some (Iq v26)) m27 ∧ ((in32 (10 * v26)) ∧ (0 ≤ ((x3 % 10) * 10) + (x3 / 10)) ∧ (∃ (v31 : Int) (m32 : Zm), Ct1 S mX4_oneForSeven [Iq ((((x3 % 10) * 10) + (x3 / 10)) % 10)] m27 (some (Iq v31)) m32 ∧ ((in32 ((10 * v26) + v31)) ∧ (((x1 = 1) → ((0 ≤ x2) ∧ (((¬ x2 % 4 = 0) → (Q (some (Iq x3)) m32)) ∧ (¬ (¬ x2 % 4 = 0) → (Q (some (Iq (-1))) m32))))) ∧ ((x1 = 2) → (Q (some (Iq (((x3 % 10) * 10) + (x3 / 10)))) m32)) ∧ ((x1 = 3) → (Q (some (Iq ((10 * v26) + v31))) m32)) ∧ ((x1 = 4) → ((0 ≤ m32 35 1) ∧ (((¬ (m32 35 1) % 2 = 1) → (Q (some (Iq ((10 * v26) + v31))) m32)) ∧ (¬ (¬ (m32 35 1) % 2 = 1) → (Q (some (Iq (-1))) m32))))) ∧ ((x1 = 5) → (Q (some (Iq (-1))) m32)) ∧ ((x1 = 6) → ((0 ≤ x2) ∧ (((¬ x2 % 4 = 0) → (Q (some (Iq x3)) m32)) ∧ (¬ (¬ x2 % 4 = 0) → (Q (some (Iq (-1))) m32))))) ∧ ((x1 < 1 ∨ 6 < x1) → (Q (some (Iq x3)) m32)))))))))))) ∧ (¬ (0 ≤ x3) → (Q (some (Iq (-1))) mem)))) :
    PW S mX4_slipsOf Q 0 [some (Aq 34), some (Iq x1), some (Iq x2), some (Iq x3), none, none] [] mem := by
  refine pw_iload_n eX4_slipsOf_0 rfl rfl ?_
  refine pw_if_ge eX4_slipsOf_1 (fun c1 => ?_) (fun c1 => ?_)
  · have h := h.1 c1
    refine pw_iload_n eX4_slipsOf_6 rfl rfl ?_
    refine pw_iconst eX4_slipsOf_7 ⟨by decide, by decide⟩ ?_
    obtain ⟨o2, h⟩ := h
    refine pw_irem eX4_slipsOf_8 o2 (by decide) ?_
    refine pw_iconst eX4_slipsOf_9 ⟨by decide, by decide⟩ ?_
    refine pw_icmp_ne eX4_slipsOf_10 (fun c3 => ?_) (fun c3 => ?_)
    · have h := h.1 c3
      refine pw_iload_n eX4_slipsOf_28 rfl rfl ?_
      refine pw_istore (ls2 := [some (Aq 34), some (Iq x1), some (Iq x2), some (Iq x3), some (Iq x3), none]) eX4_slipsOf_29 (by decide) rfl ?_
      refine pw_bipush eX4_slipsOf_31 ⟨by decide, by decide⟩ (by decide) ?_
      refine pw_iload eX4_slipsOf_33 rfl ?_
      refine pw_bipush eX4_slipsOf_35 ⟨by decide, by decide⟩ (by decide) ?_
      obtain ⟨o4, h⟩ := h
      refine pw_idiv eX4_slipsOf_37 o4 (by decide) ?_
      obtain ⟨v5, m6, hc7, h⟩ := h
      refine pw_cS (z := mX4_oneForSeven) (av := [Iq (x3 / 10)]) (st := [Iq 10]) eX4_slipsOf_38 lk_RX4_74 rfl (by decide) (by decide) (Nat.le_of_ble_eq_true rfl) rfl hc7 ?_
      show PW S mX4_slipsOf Q 41 [some (Aq 34), some (Iq x1), some (Iq x2), some (Iq x3), some (Iq x3), none] [Iq v5, Iq 10] m6
      obtain ⟨o8, h⟩ := h
      refine pw_imul eX4_slipsOf_41 o8 ?_
      refine pw_iload eX4_slipsOf_42 rfl ?_
      refine pw_bipush eX4_slipsOf_44 ⟨by decide, by decide⟩ (by decide) ?_
      obtain ⟨o9, h⟩ := h
      refine pw_irem eX4_slipsOf_46 o9 (by decide) ?_
      obtain ⟨v10, m11, hc12, h⟩ := h
      refine pw_cS (z := mX4_oneForSeven) (av := [Iq (x3 % 10)]) (st := [Iq (10 * v5)]) eX4_slipsOf_47 lk_RX4_74 rfl (by decide) (by decide) (Nat.le_of_ble_eq_true rfl) rfl hc12 ?_
      show PW S mX4_slipsOf Q 50 [some (Aq 34), some (Iq x1), some (Iq x2), some (Iq x3), some (Iq x3), none] [Iq v10, Iq (10 * v5)] m11
      obtain ⟨o13, h⟩ := h
      refine pw_iadd eX4_slipsOf_50 o13 ?_
      refine pw_istore (ls2 := [some (Aq 34), some (Iq x1), some (Iq x2), some (Iq x3), some (Iq x3), some (Iq ((10 * v5) + v10))]) eX4_slipsOf_51 (by decide) rfl ?_
      refine pw_iload_n eX4_slipsOf_53 rfl rfl ?_
      obtain ⟨hk0, hk1, hk2, hk3, hk4, hk5, hkd⟩ := h
      refine pw_tsw (ps := [(1, 92), (2, 104), (3, 107), (4, 110), (5, 129), (6, 92)]) (td := 131) eX4_slipsOf_54 rfl (by decide) (by decide) rfl ⟨fun c14 => ?_, fun c14 => ?_, fun c14 => ?_, fun c14 => ?_, fun c14 => ?_, fun c14 => ?_, trivial⟩ (fun c14 => ?_)
      · have h := hk0 c14
        refine pw_iload_n eX4_slipsOf_92 rfl rfl ?_
        refine pw_iconst eX4_slipsOf_93 ⟨by decide, by decide⟩ ?_
        obtain ⟨o15, h⟩ := h
        refine pw_irem eX4_slipsOf_94 o15 (by decide) ?_
        refine pw_if_ne eX4_slipsOf_95 (fun c16 => ?_) (fun c16 => ?_)
        · have h := h.1 c16
          refine pw_iload_n eX4_slipsOf_102 rfl rfl ?_
          exact pw_iret eX4_slipsOf_103 h
        · have h := h.2 c16
          refine pw_iconst eX4_slipsOf_98 ⟨by decide, by decide⟩ ?_
          refine pw_goto eX4_slipsOf_99 ?_
          exact pw_iret eX4_slipsOf_103 h
      · have h := hk1 c14
        refine pw_iload eX4_slipsOf_104 rfl ?_
        exact pw_iret eX4_slipsOf_106 h
      · have h := hk2 c14
        refine pw_iload eX4_slipsOf_107 rfl ?_
        exact pw_iret eX4_slipsOf_109 h
      · have h := hk3 c14
        refine pw_aload_n eX4_slipsOf_110 rfl rfl ?_
        refine gf_RX4_7 rfl eX4_slipsOf_111 sh34 ?_
        refine pw_iconst eX4_slipsOf_114 ⟨by decide, by decide⟩ ?_
        refine pw_iald eX4_slipsOf_115 sh35 (by decide) ?_
        refine pw_iconst eX4_slipsOf_116 ⟨by decide, by decide⟩ ?_
        obtain ⟨o17, h⟩ := h
        refine pw_irem eX4_slipsOf_117 o17 (by decide) ?_
        refine pw_iconst eX4_slipsOf_118 ⟨by decide, by decide⟩ ?_
        refine pw_icmp_ne eX4_slipsOf_119 (fun c18 => ?_) (fun c18 => ?_)
        · have h := h.1 c18
          refine pw_iload eX4_slipsOf_126 rfl ?_
          exact pw_iret eX4_slipsOf_128 h
        · have h := h.2 c18
          refine pw_iconst eX4_slipsOf_122 ⟨by decide, by decide⟩ ?_
          refine pw_goto eX4_slipsOf_123 ?_
          exact pw_iret eX4_slipsOf_128 h
      · have h := hk4 c14
        refine pw_iconst eX4_slipsOf_129 ⟨by decide, by decide⟩ ?_
        exact pw_iret eX4_slipsOf_130 h
      · have h := hk5 c14
        refine pw_iload_n eX4_slipsOf_92 rfl rfl ?_
        refine pw_iconst eX4_slipsOf_93 ⟨by decide, by decide⟩ ?_
        obtain ⟨o19, h⟩ := h
        refine pw_irem eX4_slipsOf_94 o19 (by decide) ?_
        refine pw_if_ne eX4_slipsOf_95 (fun c20 => ?_) (fun c20 => ?_)
        · have h := h.1 c20
          refine pw_iload_n eX4_slipsOf_102 rfl rfl ?_
          exact pw_iret eX4_slipsOf_103 h
        · have h := h.2 c20
          refine pw_iconst eX4_slipsOf_98 ⟨by decide, by decide⟩ ?_
          refine pw_goto eX4_slipsOf_99 ?_
          exact pw_iret eX4_slipsOf_103 h
      · have h := hkd c14
        refine pw_iload_n eX4_slipsOf_131 rfl rfl ?_
        exact pw_iret eX4_slipsOf_132 h
    · have h := h.2 c3
      refine pw_iload_n eX4_slipsOf_13 rfl rfl ?_
      refine pw_bipush eX4_slipsOf_14 ⟨by decide, by decide⟩ (by decide) ?_
      obtain ⟨o21, h⟩ := h
      refine pw_irem eX4_slipsOf_16 o21 (by decide) ?_
      refine pw_bipush eX4_slipsOf_17 ⟨by decide, by decide⟩ (by decide) ?_
      obtain ⟨o22, h⟩ := h
      refine pw_imul eX4_slipsOf_19 o22 ?_
      refine pw_iload_n eX4_slipsOf_20 rfl rfl ?_
      refine pw_bipush eX4_slipsOf_21 ⟨by decide, by decide⟩ (by decide) ?_
      obtain ⟨o23, h⟩ := h
      refine pw_idiv eX4_slipsOf_23 o23 (by decide) ?_
      obtain ⟨o24, h⟩ := h
      refine pw_iadd eX4_slipsOf_24 o24 ?_
      refine pw_goto eX4_slipsOf_25 ?_
      refine pw_istore (ls2 := [some (Aq 34), some (Iq x1), some (Iq x2), some (Iq x3), some (Iq (((x3 % 10) * 10) + (x3 / 10))), none]) eX4_slipsOf_29 (by decide) rfl ?_
      refine pw_bipush eX4_slipsOf_31 ⟨by decide, by decide⟩ (by decide) ?_
      refine pw_iload eX4_slipsOf_33 rfl ?_
      refine pw_bipush eX4_slipsOf_35 ⟨by decide, by decide⟩ (by decide) ?_
      obtain ⟨o25, h⟩ := h
      refine pw_idiv eX4_slipsOf_37 o25 (by decide) ?_
      obtain ⟨v26, m27, hc28, h⟩ := h
      refine pw_cS (z := mX4_oneForSeven) (av := [Iq ((((x3 % 10) * 10) + (x3 / 10)) / 10)]) (st := [Iq 10]) eX4_slipsOf_38 lk_RX4_74 rfl (by decide) (by decide) (Nat.le_of_ble_eq_true rfl) rfl hc28 ?_
      show PW S mX4_slipsOf Q 41 [some (Aq 34), some (Iq x1), some (Iq x2), some (Iq x3), some (Iq (((x3 % 10) * 10) + (x3 / 10))), none] [Iq v26, Iq 10] m27
      obtain ⟨o29, h⟩ := h
      refine pw_imul eX4_slipsOf_41 o29 ?_
      refine pw_iload eX4_slipsOf_42 rfl ?_
      refine pw_bipush eX4_slipsOf_44 ⟨by decide, by decide⟩ (by decide) ?_
      obtain ⟨o30, h⟩ := h
      refine pw_irem eX4_slipsOf_46 o30 (by decide) ?_
      obtain ⟨v31, m32, hc33, h⟩ := h
      refine pw_cS (z := mX4_oneForSeven) (av := [Iq ((((x3 % 10) * 10) + (x3 / 10)) % 10)]) (st := [Iq (10 * v26)]) eX4_slipsOf_47 lk_RX4_74 rfl (by decide) (by decide) (Nat.le_of_ble_eq_true rfl) rfl hc33 ?_
      show PW S mX4_slipsOf Q 50 [some (Aq 34), some (Iq x1), some (Iq x2), some (Iq x3), some (Iq (((x3 % 10) * 10) + (x3 / 10))), none] [Iq v31, Iq (10 * v26)] m32
      obtain ⟨o34, h⟩ := h
      refine pw_iadd eX4_slipsOf_50 o34 ?_
      refine pw_istore (ls2 := [some (Aq 34), some (Iq x1), some (Iq x2), some (Iq x3), some (Iq (((x3 % 10) * 10) + (x3 / 10))), some (Iq ((10 * v26) + v31))]) eX4_slipsOf_51 (by decide) rfl ?_
      refine pw_iload_n eX4_slipsOf_53 rfl rfl ?_
      obtain ⟨hk0, hk1, hk2, hk3, hk4, hk5, hkd⟩ := h
      refine pw_tsw (ps := [(1, 92), (2, 104), (3, 107), (4, 110), (5, 129), (6, 92)]) (td := 131) eX4_slipsOf_54 rfl (by decide) (by decide) rfl ⟨fun c35 => ?_, fun c35 => ?_, fun c35 => ?_, fun c35 => ?_, fun c35 => ?_, fun c35 => ?_, trivial⟩ (fun c35 => ?_)
      · have h := hk0 c35
        refine pw_iload_n eX4_slipsOf_92 rfl rfl ?_
        refine pw_iconst eX4_slipsOf_93 ⟨by decide, by decide⟩ ?_
        obtain ⟨o36, h⟩ := h
        refine pw_irem eX4_slipsOf_94 o36 (by decide) ?_
        refine pw_if_ne eX4_slipsOf_95 (fun c37 => ?_) (fun c37 => ?_)
        · have h := h.1 c37
          refine pw_iload_n eX4_slipsOf_102 rfl rfl ?_
          exact pw_iret eX4_slipsOf_103 h
        · have h := h.2 c37
          refine pw_iconst eX4_slipsOf_98 ⟨by decide, by decide⟩ ?_
          refine pw_goto eX4_slipsOf_99 ?_
          exact pw_iret eX4_slipsOf_103 h
      · have h := hk1 c35
        refine pw_iload eX4_slipsOf_104 rfl ?_
        exact pw_iret eX4_slipsOf_106 h
      · have h := hk2 c35
        refine pw_iload eX4_slipsOf_107 rfl ?_
        exact pw_iret eX4_slipsOf_109 h
      · have h := hk3 c35
        refine pw_aload_n eX4_slipsOf_110 rfl rfl ?_
        refine gf_RX4_7 rfl eX4_slipsOf_111 sh34 ?_
        refine pw_iconst eX4_slipsOf_114 ⟨by decide, by decide⟩ ?_
        refine pw_iald eX4_slipsOf_115 sh35 (by decide) ?_
        refine pw_iconst eX4_slipsOf_116 ⟨by decide, by decide⟩ ?_
        obtain ⟨o38, h⟩ := h
        refine pw_irem eX4_slipsOf_117 o38 (by decide) ?_
        refine pw_iconst eX4_slipsOf_118 ⟨by decide, by decide⟩ ?_
        refine pw_icmp_ne eX4_slipsOf_119 (fun c39 => ?_) (fun c39 => ?_)
        · have h := h.1 c39
          refine pw_iload eX4_slipsOf_126 rfl ?_
          exact pw_iret eX4_slipsOf_128 h
        · have h := h.2 c39
          refine pw_iconst eX4_slipsOf_122 ⟨by decide, by decide⟩ ?_
          refine pw_goto eX4_slipsOf_123 ?_
          exact pw_iret eX4_slipsOf_128 h
      · have h := hk4 c35
        refine pw_iconst eX4_slipsOf_129 ⟨by decide, by decide⟩ ?_
        exact pw_iret eX4_slipsOf_130 h
      · have h := hk5 c35
        refine pw_iload_n eX4_slipsOf_92 rfl rfl ?_
        refine pw_iconst eX4_slipsOf_93 ⟨by decide, by decide⟩ ?_
        obtain ⟨o40, h⟩ := h
        refine pw_irem eX4_slipsOf_94 o40 (by decide) ?_
        refine pw_if_ne eX4_slipsOf_95 (fun c41 => ?_) (fun c41 => ?_)
        · have h := h.1 c41
          refine pw_iload_n eX4_slipsOf_102 rfl rfl ?_
          exact pw_iret eX4_slipsOf_103 h
        · have h := h.2 c41
          refine pw_iconst eX4_slipsOf_98 ⟨by decide, by decide⟩ ?_
          refine pw_goto eX4_slipsOf_99 ?_
          exact pw_iret eX4_slipsOf_103 h
      · have h := hkd c35
        refine pw_iload_n eX4_slipsOf_131 rfl rfl ?_
        exact pw_iret eX4_slipsOf_132 h
  · have h := h.2 c1
    refine pw_iconst eX4_slipsOf_4 ⟨by decide, by decide⟩ ?_
    exact pw_iret eX4_slipsOf_5 h
set_option maxRecDepth 100000 in
theorem rg_X4_answered_0 {S : Sx} {Q : Option PV → Zm → Prop} {mem : Zm}   {x1 : Int} 
    (h : PW S mX4_answered Q 4 [some (Aq 34), some (Iq x1), some (Iq 0), some (Iq 0)] [] mem) :
    PW S mX4_answered Q 0 [some (Aq 34), some (Iq x1), none, none] [] mem := by
  refine pw_iconst eX4_answered_0 ⟨by decide, by decide⟩ ?_
  refine pw_istore_n (ls2 := [some (Aq 34), some (Iq x1), some (Iq 0), none]) eX4_answered_1 rfl (by decide) rfl ?_
  refine pw_iconst eX4_answered_2 ⟨by decide, by decide⟩ ?_
  refine pw_istore_n (ls2 := [some (Aq 34), some (Iq x1), some (Iq 0), some (Iq 0)]) eX4_answered_3 rfl (by decide) rfl ?_
  exact h

set_option maxRecDepth 100000 in
theorem rg_X4_answered_4 {S : Sx} {Q : Option PV → Zm → Prop} {mem : Zm}   {x1 x2 x3 : Int} 
    (h : (((8 ≤ x3) → (Q (some (Iq x2)) mem)) ∧ (¬ (8 ≤ x3) → ((in32 (6 + x3)) ∧ (∃ (v3 : Int) (m4 : Zm), Ct1 S mX4_its [Aq 34, Iq x1, Iq (6 + x3)] mem (some (Iq v3)) m4 ∧ ((((v3 = -1) → ((in32 (x3 + 1)) ∧ PW S mX4_answered Q 4 [some (Aq 34), some (Iq x1), some (Iq (bOr x2 0)), some (Iq (x3 + 1))] [] m4)) ∧ (¬ (v3 = -1) → ((in32 (x3 + 1)) ∧ PW S mX4_answered Q 4 [some (Aq 34), some (Iq x1), some (Iq (bOr x2 (bShl 1 x3))), some (Iq (x3 + 1))] [] m4))))))))) :
    PW S mX4_answered Q 4 [some (Aq 34), some (Iq x1), some (Iq x2), some (Iq x3)] [] mem := by
  refine pw_iload_n eX4_answered_4 rfl rfl ?_
  refine pw_bipush eX4_answered_5 ⟨by decide, by decide⟩ (by decide) ?_
  refine pw_icmp_ge eX4_answered_7 (fun c1 => ?_) (fun c1 => ?_)
  · have h := h.1 c1
    refine pw_iload_n eX4_answered_39 rfl rfl ?_
    exact pw_iret eX4_answered_40 h
  · have h := h.2 c1
    refine pw_iload_n eX4_answered_10 rfl rfl ?_
    refine pw_aload_n eX4_answered_11 rfl rfl ?_
    refine pw_iload_n eX4_answered_12 rfl rfl ?_
    refine pw_bipush eX4_answered_13 ⟨by decide, by decide⟩ (by decide) ?_
    refine pw_iload_n eX4_answered_15 rfl rfl ?_
    obtain ⟨o2, h⟩ := h
    refine pw_iadd eX4_answered_16 o2 ?_
    obtain ⟨v3, m4, hc5, h⟩ := h
    refine pw_cV (z := mX4_its) (av := [Iq x1, Iq (6 + x3)]) (st := [Iq x2]) eX4_answered_17 lk_RX4_71 rfl (by decide) (by decide) sh34 rfl rfl (Nat.le_of_ble_eq_true rfl) rfl hc5 ?_
    show PW S mX4_answered Q 20 [some (Aq 34), some (Iq x1), some (Iq x2), some (Iq x3)] [Iq v3, Iq x2] m4
    refine pw_iconst eX4_answered_20 ⟨by decide, by decide⟩ ?_
    refine pw_icmp_eq eX4_answered_21 (fun c6 => ?_) (fun c6 => ?_)
    · have h := h.1 c6
      refine pw_iconst eX4_answered_30 ⟨by decide, by decide⟩ ?_
      refine pw_ior eX4_answered_31 ?_
      refine pw_istore_n (ls2 := [some (Aq 34), some (Iq x1), some (Iq (bOr x2 0)), some (Iq x3)]) eX4_answered_32 rfl (by decide) rfl ?_
      obtain ⟨o7, h⟩ := h
      refine pw_iinc (ls2 := [some (Aq 34), some (Iq x1), some (Iq (bOr x2 0)), some (Iq (x3 + 1))]) eX4_answered_33 rfl o7 rfl ?_
      refine pw_goto eX4_answered_36 ?_
      exact h
    · have h := h.2 c6
      refine pw_iconst eX4_answered_24 ⟨by decide, by decide⟩ ?_
      refine pw_iload_n eX4_answered_25 rfl rfl ?_
      refine pw_ishl eX4_answered_26 ?_
      refine pw_goto eX4_answered_27 ?_
      refine pw_ior eX4_answered_31 ?_
      refine pw_istore_n (ls2 := [some (Aq 34), some (Iq x1), some (Iq (bOr x2 (bShl 1 x3))), some (Iq x3)]) eX4_answered_32 rfl (by decide) rfl ?_
      obtain ⟨o8, h⟩ := h
      refine pw_iinc (ls2 := [some (Aq 34), some (Iq x1), some (Iq (bOr x2 (bShl 1 x3))), some (Iq (x3 + 1))]) eX4_answered_33 rfl o8 rfl ?_
      refine pw_goto eX4_answered_36 ?_
      exact h
set_option maxRecDepth 100000 in
theorem rg_X4_of_0 {S : Sx} {Q : Option PV → Zm → Prop} {mem : Zm}   {x1 x2 : Int} 
    (h : (∃ (v1 : Int) (m2 : Zm), Ct1 S mX4_isChild [Aq 34, Iq x1] mem (some (Iq v1)) m2 ∧ ((((v1 = 0) → ((∃ (v5 : Int) (m6 : Zm), Ct1 S mX4_finds [Aq 34, Iq (-1000001)] m2 (some (Iq v5)) m6 ∧ (Q (some (Iq v5)) m6)))) ∧ (¬ (v1 = 0) → ((∃ (v8 : Int) (m9 : Zm), Ct1 S mX4_isIn [Jq x2, Jq 0, Jq 8] m2 (some (Iq v8)) m9 ∧ ((((¬ v8 = 0) → ((((x2 = 6) → ((∃ (v13 : Int) (m14 : Zm), Ct1 S mX4_its [Aq 34, Iq x1, Iq 0] m9 (some (Iq v13)) m14 ∧ ((∃ (v16 : Int) (m17 : Zm), Ct1 S mX4_pays [Iq v13] m14 (some (Iq v16)) m17 ∧ (Q (some (Iq v16)) m17)))))) ∧ ((x2 = 7) → ((∃ (v19 : Int) (m20 : Zm), Ct1 S mX4_lends [Aq 34, Iq x1] m9 (some (Iq v19)) m20 ∧ ((((v19 = 0) → (Q (some (Iq 0)) m20)) ∧ (¬ (v19 = 0) → (Q (some (Iq 1)) m20))))))) ∧ ((x2 = 8) → ((∃ (v23 : Int) (m24 : Zm), Ct1 S mX4_answered [Aq 34, Iq x1] m9 (some (Iq v23)) m24 ∧ (Q (some (Iq v23)) m24)))) ∧ ((x2 < 6 ∨ 8 < x2) → ((∃ (v26 : Int) (m27 : Zm), Ct1 S mX4_its [Aq 34, Iq x1, Iq x2] m9 (some (Iq v26)) m27 ∧ (Q (some (Iq v26)) m27))))))) ∧ (¬ (¬ v8 = 0) → ((∃ (v29 : Int) (m30 : Zm), Ct1 S mX4_finds [Aq 34, Iq (-1000001)] m9 (some (Iq v29)) m30 ∧ (Q (some (Iq v29)) m30))))))))))))) :
    PW S mX4_of Q 0 [some (Aq 34), some (Iq x1), some (Iq x2)] [] mem := by
  refine pw_aload_n eX4_of_0 rfl rfl ?_
  refine pw_iload_n eX4_of_1 rfl rfl ?_
  obtain ⟨v1, m2, hc3, h⟩ := h
  refine pw_cV (z := mX4_isChild) (av := [Iq x1]) (st := []) eX4_of_2 lk_RX4_77 rfl (by decide) (by decide) sh34 rfl rfl (Nat.le_of_ble_eq_true rfl) rfl hc3 ?_
  show PW S mX4_of Q 5 [some (Aq 34), some (Iq x1), some (Iq x2)] [Iq v1] m2
  refine pw_if_eq eX4_of_5 (fun c4 => ?_) (fun c4 => ?_)
  · have h := h.1 c4
    refine pw_aload_n eX4_of_20 rfl rfl ?_
    refine pw_ldc (n := (-1000001)) eX4_of_21 ⟨by decide, by decide⟩ kc_RX4_37 ?_
    obtain ⟨v5, m6, hc7, h⟩ := h
    refine pw_cV (z := mX4_finds) (av := [Iq (-1000001)]) (st := []) eX4_of_23 lk_RX4_39 rfl (by decide) (by decide) sh34 rfl rfl (Nat.le_of_ble_eq_true rfl) rfl hc7 ?_
    show PW S mX4_of Q 26 [some (Aq 34), some (Iq x1), some (Iq x2)] [Iq v5] m6
    exact pw_iret eX4_of_26 h
  · have h := h.2 c4
    refine pw_iload_n eX4_of_8 rfl rfl ?_
    refine pw_i2l eX4_of_9 ?_
    refine pw_lconst (v := 0) eX4_of_10 ⟨by decide, by decide⟩ rfl ?_
    refine pw_ldc2 (n := 8) eX4_of_11 ⟨by decide, by decide⟩ kc_RX4_80 ?_
    obtain ⟨v8, m9, hc10, h⟩ := h
    refine pw_cS (z := mX4_isIn) (av := [Jq x2, Jq 0, Jq 8]) (st := []) eX4_of_14 lk_RX4_49 rfl (by decide) (by decide) (Nat.le_of_ble_eq_true rfl) rfl hc10 ?_
    show PW S mX4_of Q 17 [some (Aq 34), some (Iq x1), some (Iq x2)] [Iq v8] m9
    refine pw_if_ne eX4_of_17 (fun c11 => ?_) (fun c11 => ?_)
    · have h := h.1 c11
      refine pw_iload_n eX4_of_27 rfl rfl ?_
      obtain ⟨hk0, hk1, hk2, hkd⟩ := h
      refine pw_tsw (ps := [(6, 56), (7, 66), (8, 80)]) (td := 86) eX4_of_28 rfl (by decide) (by decide) rfl ⟨fun c12 => ?_, fun c12 => ?_, fun c12 => ?_, trivial⟩ (fun c12 => ?_)
      · have h := hk0 c12
        refine pw_aload_n eX4_of_56 rfl rfl ?_
        refine pw_iload_n eX4_of_57 rfl rfl ?_
        refine pw_iconst eX4_of_58 ⟨by decide, by decide⟩ ?_
        obtain ⟨v13, m14, hc15, h⟩ := h
        refine pw_cV (z := mX4_its) (av := [Iq x1, Iq 0]) (st := []) eX4_of_59 lk_RX4_71 rfl (by decide) (by decide) sh34 rfl rfl (Nat.le_of_ble_eq_true rfl) rfl hc15 ?_
        show PW S mX4_of Q 62 [some (Aq 34), some (Iq x1), some (Iq x2)] [Iq v13] m14
        obtain ⟨v16, m17, hc18, h⟩ := h
        refine pw_cS (z := mX4_pays) (av := [Iq v13]) (st := []) eX4_of_62 lk_RX4_82 rfl (by decide) (by decide) (Nat.le_of_ble_eq_true rfl) rfl hc18 ?_
        show PW S mX4_of Q 65 [some (Aq 34), some (Iq x1), some (Iq x2)] [Iq v16] m17
        exact pw_iret eX4_of_65 h
      · have h := hk1 c12
        refine pw_aload_n eX4_of_66 rfl rfl ?_
        refine pw_iload_n eX4_of_67 rfl rfl ?_
        obtain ⟨v19, m20, hc21, h⟩ := h
        refine pw_cV (z := mX4_lends) (av := [Iq x1]) (st := []) eX4_of_68 lk_RX4_85 rfl (by decide) (by decide) sh34 rfl rfl (Nat.le_of_ble_eq_true rfl) rfl hc21 ?_
        show PW S mX4_of Q 71 [some (Aq 34), some (Iq x1), some (Iq x2)] [Iq v19] m20
        refine pw_if_eq eX4_of_71 (fun c22 => ?_) (fun c22 => ?_)
        · have h := h.1 c22
          refine pw_iconst eX4_of_78 ⟨by decide, by decide⟩ ?_
          exact pw_iret eX4_of_79 h
        · have h := h.2 c22
          refine pw_iconst eX4_of_74 ⟨by decide, by decide⟩ ?_
          refine pw_goto eX4_of_75 ?_
          exact pw_iret eX4_of_79 h
      · have h := hk2 c12
        refine pw_aload_n eX4_of_80 rfl rfl ?_
        refine pw_iload_n eX4_of_81 rfl rfl ?_
        obtain ⟨v23, m24, hc25, h⟩ := h
        refine pw_cV (z := mX4_answered) (av := [Iq x1]) (st := []) eX4_of_82 lk_RX4_88 rfl (by decide) (by decide) sh34 rfl rfl (Nat.le_of_ble_eq_true rfl) rfl hc25 ?_
        show PW S mX4_of Q 85 [some (Aq 34), some (Iq x1), some (Iq x2)] [Iq v23] m24
        exact pw_iret eX4_of_85 h
      · have h := hkd c12
        refine pw_aload_n eX4_of_86 rfl rfl ?_
        refine pw_iload_n eX4_of_87 rfl rfl ?_
        refine pw_iload_n eX4_of_88 rfl rfl ?_
        obtain ⟨v26, m27, hc28, h⟩ := h
        refine pw_cV (z := mX4_its) (av := [Iq x1, Iq x2]) (st := []) eX4_of_89 lk_RX4_71 rfl (by decide) (by decide) sh34 rfl rfl (Nat.le_of_ble_eq_true rfl) rfl hc28 ?_
        show PW S mX4_of Q 92 [some (Aq 34), some (Iq x1), some (Iq x2)] [Iq v26] m27
        exact pw_iret eX4_of_92 h
    · have h := h.2 c11
      refine pw_aload_n eX4_of_20 rfl rfl ?_
      refine pw_ldc (n := (-1000001)) eX4_of_21 ⟨by decide, by decide⟩ kc_RX4_37 ?_
      obtain ⟨v29, m30, hc31, h⟩ := h
      refine pw_cV (z := mX4_finds) (av := [Iq (-1000001)]) (st := []) eX4_of_23 lk_RX4_39 rfl (by decide) (by decide) sh34 rfl rfl (Nat.le_of_ble_eq_true rfl) rfl hc31 ?_
      show PW S mX4_of Q 26 [some (Aq 34), some (Iq x1), some (Iq x2)] [Iq v29] m30
      exact pw_iret eX4_of_26 h
set_option maxRecDepth 100000 in
theorem rg_X4_may_0 {S : Sx} {Q : Option PV → Zm → Prop} {mem : Zm}   {x1 x2 x3 : Int} 
    (h : (((x2 = 0) → ((∃ (v2 : Int) (m3 : Zm), Ct1 S mX4_isIn [Jq x3, Jq 0, Jq 6] mem (some (Iq v2)) m3 ∧ (Q (some (Iq v2)) m3)))) ∧ ((x2 = 1) → ((∃ (v5 : Int) (m6 : Zm), Ct1 S mX4_isIn [Jq x3, Jq 0, Jq 255] mem (some (Iq v5)) m6 ∧ (Q (some (Iq v5)) m6)))) ∧ ((x2 = 2) → ((((x3 = -1) → (Q (some (Iq 1)) mem)) ∧ (¬ (x3 = -1) → ((∃ (v9 : Int) (m10 : Zm), Ct1 S mX4_isChild [Aq 34, Iq x3] mem (some (Iq v9)) m10 ∧ ((((v9 = 0) → (Q (some (Iq 0)) m10)) ∧ (¬ (v9 = 0) → ((((x3 = x1) → (Q (some (Iq 0)) m10)) ∧ (¬ (x3 = x1) → (Q (some (Iq 1)) m10))))))))))))) ∧ ((x2 = 3) → ((∃ (v14 : Int) (m15 : Zm), Ct1 S mX4_isIn [Jq x3, Jq 0, Jq 9999] mem (some (Iq v14)) m15 ∧ (Q (some (Iq v14)) m15)))) ∧ ((x2 = 4) → ((∃ (v17 : Int) (m18 : Zm), Ct1 S mX4_isIn [Jq x3, Jq 0, Jq 999] mem (some (Iq v17)) m18 ∧ (Q (some (Iq v17)) m18)))) ∧ ((x2 = 5) → ((∃ (v20 : Int) (m21 : Zm), Ct1 S mX4_isIn [Jq x3, Jq 0, Jq 9999] mem (some (Iq v20)) m21 ∧ (Q (some (Iq v20)) m21)))) ∧ ((x2 < 0 ∨ 5 < x2) → (Q (some (Iq 0)) mem)))) :
    PW S mX4_may Q 0 [some (Aq 34), some (Iq x1), some (Iq x2), some (Iq x3)] [] mem := by
  refine pw_iload_n eX4_may_0 rfl rfl ?_
  obtain ⟨hk0, hk1, hk2, hk3, hk4, hk5, hkd⟩ := h
  refine pw_tsw (ps := [(0, 40), (1, 50), (2, 60), (3, 94), (4, 84), (5, 94)]) (td := 104) eX4_may_1 rfl (by decide) (by decide) rfl ⟨fun c1 => ?_, fun c1 => ?_, fun c1 => ?_, fun c1 => ?_, fun c1 => ?_, fun c1 => ?_, trivial⟩ (fun c1 => ?_)
  · have h := hk0 c1
    refine pw_iload_n eX4_may_40 rfl rfl ?_
    refine pw_i2l eX4_may_41 ?_
    refine pw_lconst (v := 0) eX4_may_42 ⟨by decide, by decide⟩ rfl ?_
    refine pw_ldc2 (n := 6) eX4_may_43 ⟨by decide, by decide⟩ kc_RX4_62 ?_
    obtain ⟨v2, m3, hc4, h⟩ := h
    refine pw_cS (z := mX4_isIn) (av := [Jq x3, Jq 0, Jq 6]) (st := []) eX4_may_46 lk_RX4_49 rfl (by decide) (by decide) (Nat.le_of_ble_eq_true rfl) rfl hc4 ?_
    show PW S mX4_may Q 49 [some (Aq 34), some (Iq x1), some (Iq x2), some (Iq x3)] [Iq v2] m3
    exact pw_iret eX4_may_49 h
  · have h := hk1 c1
    refine pw_iload_n eX4_may_50 rfl rfl ?_
    refine pw_i2l eX4_may_51 ?_
    refine pw_lconst (v := 0) eX4_may_52 ⟨by decide, by decide⟩ rfl ?_
    refine pw_ldc2 (n := 255) eX4_may_53 ⟨by decide, by decide⟩ kc_RX4_64 ?_
    obtain ⟨v5, m6, hc7, h⟩ := h
    refine pw_cS (z := mX4_isIn) (av := [Jq x3, Jq 0, Jq 255]) (st := []) eX4_may_56 lk_RX4_49 rfl (by decide) (by decide) (Nat.le_of_ble_eq_true rfl) rfl hc7 ?_
    show PW S mX4_may Q 59 [some (Aq 34), some (Iq x1), some (Iq x2), some (Iq x3)] [Iq v5] m6
    exact pw_iret eX4_may_59 h
  · have h := hk2 c1
    refine pw_iload_n eX4_may_60 rfl rfl ?_
    refine pw_iconst eX4_may_61 ⟨by decide, by decide⟩ ?_
    refine pw_icmp_eq eX4_may_62 (fun c8 => ?_) (fun c8 => ?_)
    · have h := h.1 c8
      refine pw_iconst eX4_may_78 ⟨by decide, by decide⟩ ?_
      refine pw_goto eX4_may_79 ?_
      exact pw_iret eX4_may_83 h
    · have h := h.2 c8
      refine pw_aload_n eX4_may_65 rfl rfl ?_
      refine pw_iload_n eX4_may_66 rfl rfl ?_
      obtain ⟨v9, m10, hc11, h⟩ := h
      refine pw_cV (z := mX4_isChild) (av := [Iq x3]) (st := []) eX4_may_67 lk_RX4_77 rfl (by decide) (by decide) sh34 rfl rfl (Nat.le_of_ble_eq_true rfl) rfl hc11 ?_
      show PW S mX4_may Q 70 [some (Aq 34), some (Iq x1), some (Iq x2), some (Iq x3)] [Iq v9] m10
      refine pw_if_eq eX4_may_70 (fun c12 => ?_) (fun c12 => ?_)
      · have h := h.1 c12
        refine pw_iconst eX4_may_82 ⟨by decide, by decide⟩ ?_
        exact pw_iret eX4_may_83 h
      · have h := h.2 c12
        refine pw_iload_n eX4_may_73 rfl rfl ?_
        refine pw_iload_n eX4_may_74 rfl rfl ?_
        refine pw_icmp_eq eX4_may_75 (fun c13 => ?_) (fun c13 => ?_)
        · have h := h.1 c13
          refine pw_iconst eX4_may_82 ⟨by decide, by decide⟩ ?_
          exact pw_iret eX4_may_83 h
        · have h := h.2 c13
          refine pw_iconst eX4_may_78 ⟨by decide, by decide⟩ ?_
          refine pw_goto eX4_may_79 ?_
          exact pw_iret eX4_may_83 h
  · have h := hk3 c1
    refine pw_iload_n eX4_may_94 rfl rfl ?_
    refine pw_i2l eX4_may_95 ?_
    refine pw_lconst (v := 0) eX4_may_96 ⟨by decide, by decide⟩ rfl ?_
    refine pw_ldc2 (n := 9999) eX4_may_97 ⟨by decide, by decide⟩ kc_RX4_93 ?_
    obtain ⟨v14, m15, hc16, h⟩ := h
    refine pw_cS (z := mX4_isIn) (av := [Jq x3, Jq 0, Jq 9999]) (st := []) eX4_may_100 lk_RX4_49 rfl (by decide) (by decide) (Nat.le_of_ble_eq_true rfl) rfl hc16 ?_
    show PW S mX4_may Q 103 [some (Aq 34), some (Iq x1), some (Iq x2), some (Iq x3)] [Iq v14] m15
    exact pw_iret eX4_may_103 h
  · have h := hk4 c1
    refine pw_iload_n eX4_may_84 rfl rfl ?_
    refine pw_i2l eX4_may_85 ?_
    refine pw_lconst (v := 0) eX4_may_86 ⟨by decide, by decide⟩ rfl ?_
    refine pw_ldc2 (n := 999) eX4_may_87 ⟨by decide, by decide⟩ kc_RX4_91 ?_
    obtain ⟨v17, m18, hc19, h⟩ := h
    refine pw_cS (z := mX4_isIn) (av := [Jq x3, Jq 0, Jq 999]) (st := []) eX4_may_90 lk_RX4_49 rfl (by decide) (by decide) (Nat.le_of_ble_eq_true rfl) rfl hc19 ?_
    show PW S mX4_may Q 93 [some (Aq 34), some (Iq x1), some (Iq x2), some (Iq x3)] [Iq v17] m18
    exact pw_iret eX4_may_93 h
  · have h := hk5 c1
    refine pw_iload_n eX4_may_94 rfl rfl ?_
    refine pw_i2l eX4_may_95 ?_
    refine pw_lconst (v := 0) eX4_may_96 ⟨by decide, by decide⟩ rfl ?_
    refine pw_ldc2 (n := 9999) eX4_may_97 ⟨by decide, by decide⟩ kc_RX4_93 ?_
    obtain ⟨v20, m21, hc22, h⟩ := h
    refine pw_cS (z := mX4_isIn) (av := [Jq x3, Jq 0, Jq 9999]) (st := []) eX4_may_100 lk_RX4_49 rfl (by decide) (by decide) (Nat.le_of_ble_eq_true rfl) rfl hc22 ?_
    show PW S mX4_may Q 103 [some (Aq 34), some (Iq x1), some (Iq x2), some (Iq x3)] [Iq v20] m21
    exact pw_iret eX4_may_103 h
  · have h := hkd c1
    refine pw_iconst eX4_may_104 ⟨by decide, by decide⟩ ?_
    exact pw_iret eX4_may_105 h
set_option maxRecDepth 100000 in
theorem rg_X4_change_0 {S : Sx} {Q : Option PV → Zm → Prop} {mem : Zm}   {x1 x2 x3 : Int} 
    (h : (∃ (v1 : Int) (m2 : Zm), Ct1 S mX4_isChild [Aq 34, Iq x1] mem (some (Iq v1)) m2 ∧ ((((v1 = 0) → ((∃ (v5 : Int) (m6 : Zm), Ct1 S mX4_finds [Aq 34, Iq (-1000001)] m2 (some (Iq v5)) m6 ∧ (Q (some (Iq v5)) m6)))) ∧ (¬ (v1 = 0) → ((∃ (v8 : Int) (m9 : Zm), Ct1 S mX4_may [Aq 34, Iq x1, Iq x2, Iq x3] m2 (some (Iq v8)) m9 ∧ ((((v8 = 0) → ((∃ (v12 : Int) (m13 : Zm), Ct1 S mX4_finds [Aq 34, Iq (-1000001)] m9 (some (Iq v12)) m13 ∧ (Q (some (Iq v12)) m13)))) ∧ (¬ (v8 = 0) → ((∃ (v15 : Int) (m16 : Zm), Ct1 S mX4_at [Iq x1, Iq x2] m9 (some (Iq v15)) m16 ∧ ((∃ (v18 : Int) (m19 : Zm), Ct1 S mX4_becomes [Aq 34, Iq v15, Iq x3] m16 (some (Iq v18)) m19 ∧ (Q (some (Iq v18)) m19))))))))))))))) :
    PW S mX4_change Q 0 [some (Aq 34), some (Iq x1), some (Iq x2), some (Iq x3)] [] mem := by
  refine pw_aload_n eX4_change_0 rfl rfl ?_
  refine pw_iload_n eX4_change_1 rfl rfl ?_
  obtain ⟨v1, m2, hc3, h⟩ := h
  refine pw_cV (z := mX4_isChild) (av := [Iq x1]) (st := []) eX4_change_2 lk_RX4_77 rfl (by decide) (by decide) sh34 rfl rfl (Nat.le_of_ble_eq_true rfl) rfl hc3 ?_
  show PW S mX4_change Q 5 [some (Aq 34), some (Iq x1), some (Iq x2), some (Iq x3)] [Iq v1] m2
  refine pw_if_eq eX4_change_5 (fun c4 => ?_) (fun c4 => ?_)
  · have h := h.1 c4
    refine pw_aload_n eX4_change_31 rfl rfl ?_
    refine pw_ldc (n := (-1000001)) eX4_change_32 ⟨by decide, by decide⟩ kc_RX4_37 ?_
    obtain ⟨v5, m6, hc7, h⟩ := h
    refine pw_cV (z := mX4_finds) (av := [Iq (-1000001)]) (st := []) eX4_change_34 lk_RX4_39 rfl (by decide) (by decide) sh34 rfl rfl (Nat.le_of_ble_eq_true rfl) rfl hc7 ?_
    show PW S mX4_change Q 37 [some (Aq 34), some (Iq x1), some (Iq x2), some (Iq x3)] [Iq v5] m6
    exact pw_iret eX4_change_37 h
  · have h := h.2 c4
    refine pw_aload_n eX4_change_8 rfl rfl ?_
    refine pw_iload_n eX4_change_9 rfl rfl ?_
    refine pw_iload_n eX4_change_10 rfl rfl ?_
    refine pw_iload_n eX4_change_11 rfl rfl ?_
    obtain ⟨v8, m9, hc10, h⟩ := h
    refine pw_cV (z := mX4_may) (av := [Iq x1, Iq x2, Iq x3]) (st := []) eX4_change_12 lk_RX4_95 rfl (by decide) (by decide) sh34 rfl rfl (Nat.le_of_ble_eq_true rfl) rfl hc10 ?_
    show PW S mX4_change Q 15 [some (Aq 34), some (Iq x1), some (Iq x2), some (Iq x3)] [Iq v8] m9
    refine pw_if_eq eX4_change_15 (fun c11 => ?_) (fun c11 => ?_)
    · have h := h.1 c11
      refine pw_aload_n eX4_change_31 rfl rfl ?_
      refine pw_ldc (n := (-1000001)) eX4_change_32 ⟨by decide, by decide⟩ kc_RX4_37 ?_
      obtain ⟨v12, m13, hc14, h⟩ := h
      refine pw_cV (z := mX4_finds) (av := [Iq (-1000001)]) (st := []) eX4_change_34 lk_RX4_39 rfl (by decide) (by decide) sh34 rfl rfl (Nat.le_of_ble_eq_true rfl) rfl hc14 ?_
      show PW S mX4_change Q 37 [some (Aq 34), some (Iq x1), some (Iq x2), some (Iq x3)] [Iq v12] m13
      exact pw_iret eX4_change_37 h
    · have h := h.2 c11
      refine pw_aload_n eX4_change_18 rfl rfl ?_
      refine pw_iload_n eX4_change_19 rfl rfl ?_
      refine pw_iload_n eX4_change_20 rfl rfl ?_
      obtain ⟨v15, m16, hc17, h⟩ := h
      refine pw_cS (z := mX4_at) (av := [Iq x1, Iq x2]) (st := [Aq 34]) eX4_change_21 lk_RX4_59 rfl (by decide) (by decide) (Nat.le_of_ble_eq_true rfl) rfl hc17 ?_
      show PW S mX4_change Q 24 [some (Aq 34), some (Iq x1), some (Iq x2), some (Iq x3)] [Iq v15, Aq 34] m16
      refine pw_iload_n eX4_change_24 rfl rfl ?_
      obtain ⟨v18, m19, hc20, h⟩ := h
      refine pw_cV (z := mX4_becomes) (av := [Iq v15, Iq x3]) (st := []) eX4_change_25 lk_RX4_53 rfl (by decide) (by decide) sh34 rfl rfl (Nat.le_of_ble_eq_true rfl) rfl hc20 ?_
      show PW S mX4_change Q 28 [some (Aq 34), some (Iq x1), some (Iq x2), some (Iq x3)] [Iq v18] m19
      refine pw_goto eX4_change_28 ?_
      exact pw_iret eX4_change_37 h
set_option maxRecDepth 100000 in
theorem rg_X4_answer_0 {S : Sx} {Q : Option PV → Zm → Prop} {mem : Zm}   {x1 x2 : Int} 
    (h : (∃ (v1 : Int) (m2 : Zm), Ct1 S mX4_isChild [Aq 34, Iq x1] mem (some (Iq v1)) m2 ∧ ((((v1 = 0) → ((∃ (v5 : Int) (m6 : Zm), Ct1 S mX4_finds [Aq 34, Iq (-1000001)] m2 (some (Iq v5)) m6 ∧ (Q (some (Iq v5)) m6)))) ∧ (¬ (v1 = 0) → ((∃ (v8 : Int) (m9 : Zm), Ct1 S mX4_isSum [Iq x2] m2 (some (Iq v8)) m9 ∧ ((((v8 = 0) → ((∃ (v12 : Int) (m13 : Zm), Ct1 S mX4_finds [Aq 34, Iq (-1000001)] m9 (some (Iq v12)) m13 ∧ (Q (some (Iq v12)) m13)))) ∧ (¬ (v8 = 0) → ((in32 (6 + x2)) ∧ (∃ (v16 : Int) (m17 : Zm), Ct1 S mX4_its [Aq 34, Iq x1, Iq (6 + x2)] m9 (some (Iq v16)) m17 ∧ (Q (some (Iq v16)) m17))))))))))))) :
    PW S mX4_answer Q 0 [some (Aq 34), some (Iq x1), some (Iq x2)] [] mem := by
  refine pw_aload_n eX4_answer_0 rfl rfl ?_
  refine pw_iload_n eX4_answer_1 rfl rfl ?_
  obtain ⟨v1, m2, hc3, h⟩ := h
  refine pw_cV (z := mX4_isChild) (av := [Iq x1]) (st := []) eX4_answer_2 lk_RX4_77 rfl (by decide) (by decide) sh34 rfl rfl (Nat.le_of_ble_eq_true rfl) rfl hc3 ?_
  show PW S mX4_answer Q 5 [some (Aq 34), some (Iq x1), some (Iq x2)] [Iq v1] m2
  refine pw_if_eq eX4_answer_5 (fun c4 => ?_) (fun c4 => ?_)
  · have h := h.1 c4
    refine pw_aload_n eX4_answer_27 rfl rfl ?_
    refine pw_ldc (n := (-1000001)) eX4_answer_28 ⟨by decide, by decide⟩ kc_RX4_37 ?_
    obtain ⟨v5, m6, hc7, h⟩ := h
    refine pw_cV (z := mX4_finds) (av := [Iq (-1000001)]) (st := []) eX4_answer_30 lk_RX4_39 rfl (by decide) (by decide) sh34 rfl rfl (Nat.le_of_ble_eq_true rfl) rfl hc7 ?_
    show PW S mX4_answer Q 33 [some (Aq 34), some (Iq x1), some (Iq x2)] [Iq v5] m6
    exact pw_iret eX4_answer_33 h
  · have h := h.2 c4
    refine pw_iload_n eX4_answer_8 rfl rfl ?_
    obtain ⟨v8, m9, hc10, h⟩ := h
    refine pw_cS (z := mX4_isSum) (av := [Iq x2]) (st := []) eX4_answer_9 lk_RX4_43 rfl (by decide) (by decide) (Nat.le_of_ble_eq_true rfl) rfl hc10 ?_
    show PW S mX4_answer Q 12 [some (Aq 34), some (Iq x1), some (Iq x2)] [Iq v8] m9
    refine pw_if_eq eX4_answer_12 (fun c11 => ?_) (fun c11 => ?_)
    · have h := h.1 c11
      refine pw_aload_n eX4_answer_27 rfl rfl ?_
      refine pw_ldc (n := (-1000001)) eX4_answer_28 ⟨by decide, by decide⟩ kc_RX4_37 ?_
      obtain ⟨v12, m13, hc14, h⟩ := h
      refine pw_cV (z := mX4_finds) (av := [Iq (-1000001)]) (st := []) eX4_answer_30 lk_RX4_39 rfl (by decide) (by decide) sh34 rfl rfl (Nat.le_of_ble_eq_true rfl) rfl hc14 ?_
      show PW S mX4_answer Q 33 [some (Aq 34), some (Iq x1), some (Iq x2)] [Iq v12] m13
      exact pw_iret eX4_answer_33 h
    · have h := h.2 c11
      refine pw_aload_n eX4_answer_15 rfl rfl ?_
      refine pw_iload_n eX4_answer_16 rfl rfl ?_
      refine pw_bipush eX4_answer_17 ⟨by decide, by decide⟩ (by decide) ?_
      refine pw_iload_n eX4_answer_19 rfl rfl ?_
      obtain ⟨o15, h⟩ := h
      refine pw_iadd eX4_answer_20 o15 ?_
      obtain ⟨v16, m17, hc18, h⟩ := h
      refine pw_cV (z := mX4_its) (av := [Iq x1, Iq (6 + x2)]) (st := []) eX4_answer_21 lk_RX4_71 rfl (by decide) (by decide) sh34 rfl rfl (Nat.le_of_ble_eq_true rfl) rfl hc18 ?_
      show PW S mX4_answer Q 24 [some (Aq 34), some (Iq x1), some (Iq x2)] [Iq v16] m17
      refine pw_goto eX4_answer_24 ?_
      exact pw_iret eX4_answer_33 h
set_option maxRecDepth 100000 in
theorem rg_X4_slips_0 {S : Sx} {Q : Option PV → Zm → Prop} {mem : Zm}   {x1 x2 x3 : Int} 
    (h : (∃ (v1 : Int) (m2 : Zm), Ct1 S mX4_isChild [Aq 34, Iq x1] mem (some (Iq v1)) m2 ∧ ((((v1 = 0) → ((∃ (v5 : Int) (m6 : Zm), Ct1 S mX4_finds [Aq 34, Iq (-1000001)] m2 (some (Iq v5)) m6 ∧ (Q (some (Iq v5)) m6)))) ∧ (¬ (v1 = 0) → ((∃ (v8 : Int) (m9 : Zm), Ct1 S mX4_isSum [Iq x2] m2 (some (Iq v8)) m9 ∧ ((((v8 = 0) → ((∃ (v12 : Int) (m13 : Zm), Ct1 S mX4_finds [Aq 34, Iq (-1000001)] m9 (some (Iq v12)) m13 ∧ (Q (some (Iq v12)) m13)))) ∧ (¬ (v8 = 0) → ((∃ (v15 : Int) (m16 : Zm), Ct1 S mX4_isIn [Jq x3, Jq (-1), Jq 99] m9 (some (Iq v15)) m16 ∧ ((((v15 = 0) → ((∃ (v19 : Int) (m20 : Zm), Ct1 S mX4_finds [Aq 34, Iq (-1000001)] m16 (some (Iq v19)) m20 ∧ (Q (some (Iq v19)) m20)))) ∧ (¬ (v15 = 0) → ((∃ (v22 : Int) (m23 : Zm), Ct1 S mX4_its [Aq 34, Iq x1, Iq 0] m16 (some (Iq v22)) m23 ∧ ((∃ (v25 : Int) (m26 : Zm), Ct1 S mX4_slipsOf [Aq 34, Iq v22, Iq x2, Iq x3] m23 (some (Iq v25)) m26 ∧ (Q (some (Iq v25)) m26)))))))))))))))))))) :
    PW S mX4_slips Q 0 [some (Aq 34), some (Iq x1), some (Iq x2), some (Iq x3)] [] mem := by
  refine pw_aload_n eX4_slips_0 rfl rfl ?_
  refine pw_iload_n eX4_slips_1 rfl rfl ?_
  obtain ⟨v1, m2, hc3, h⟩ := h
  refine pw_cV (z := mX4_isChild) (av := [Iq x1]) (st := []) eX4_slips_2 lk_RX4_77 rfl (by decide) (by decide) sh34 rfl rfl (Nat.le_of_ble_eq_true rfl) rfl hc3 ?_
  show PW S mX4_slips Q 5 [some (Aq 34), some (Iq x1), some (Iq x2), some (Iq x3)] [Iq v1] m2
  refine pw_if_eq eX4_slips_5 (fun c4 => ?_) (fun c4 => ?_)
  · have h := h.1 c4
    refine pw_aload_n eX4_slips_44 rfl rfl ?_
    refine pw_ldc (n := (-1000001)) eX4_slips_45 ⟨by decide, by decide⟩ kc_RX4_37 ?_
    obtain ⟨v5, m6, hc7, h⟩ := h
    refine pw_cV (z := mX4_finds) (av := [Iq (-1000001)]) (st := []) eX4_slips_47 lk_RX4_39 rfl (by decide) (by decide) sh34 rfl rfl (Nat.le_of_ble_eq_true rfl) rfl hc7 ?_
    show PW S mX4_slips Q 50 [some (Aq 34), some (Iq x1), some (Iq x2), some (Iq x3)] [Iq v5] m6
    exact pw_iret eX4_slips_50 h
  · have h := h.2 c4
    refine pw_iload_n eX4_slips_8 rfl rfl ?_
    obtain ⟨v8, m9, hc10, h⟩ := h
    refine pw_cS (z := mX4_isSum) (av := [Iq x2]) (st := []) eX4_slips_9 lk_RX4_43 rfl (by decide) (by decide) (Nat.le_of_ble_eq_true rfl) rfl hc10 ?_
    show PW S mX4_slips Q 12 [some (Aq 34), some (Iq x1), some (Iq x2), some (Iq x3)] [Iq v8] m9
    refine pw_if_eq eX4_slips_12 (fun c11 => ?_) (fun c11 => ?_)
    · have h := h.1 c11
      refine pw_aload_n eX4_slips_44 rfl rfl ?_
      refine pw_ldc (n := (-1000001)) eX4_slips_45 ⟨by decide, by decide⟩ kc_RX4_37 ?_
      obtain ⟨v12, m13, hc14, h⟩ := h
      refine pw_cV (z := mX4_finds) (av := [Iq (-1000001)]) (st := []) eX4_slips_47 lk_RX4_39 rfl (by decide) (by decide) sh34 rfl rfl (Nat.le_of_ble_eq_true rfl) rfl hc14 ?_
      show PW S mX4_slips Q 50 [some (Aq 34), some (Iq x1), some (Iq x2), some (Iq x3)] [Iq v12] m13
      exact pw_iret eX4_slips_50 h
    · have h := h.2 c11
      refine pw_iload_n eX4_slips_15 rfl rfl ?_
      refine pw_i2l eX4_slips_16 ?_
      refine pw_ldc2 (n := (-1)) eX4_slips_17 ⟨by decide, by decide⟩ kc_RX4_99 ?_
      refine pw_ldc2 (n := 99) eX4_slips_20 ⟨by decide, by decide⟩ kc_RX4_47 ?_
      obtain ⟨v15, m16, hc17, h⟩ := h
      refine pw_cS (z := mX4_isIn) (av := [Jq x3, Jq (-1), Jq 99]) (st := []) eX4_slips_23 lk_RX4_49 rfl (by decide) (by decide) (Nat.le_of_ble_eq_true rfl) rfl hc17 ?_
      show PW S mX4_slips Q 26 [some (Aq 34), some (Iq x1), some (Iq x2), some (Iq x3)] [Iq v15] m16
      refine pw_if_eq eX4_slips_26 (fun c18 => ?_) (fun c18 => ?_)
      · have h := h.1 c18
        refine pw_aload_n eX4_slips_44 rfl rfl ?_
        refine pw_ldc (n := (-1000001)) eX4_slips_45 ⟨by decide, by decide⟩ kc_RX4_37 ?_
        obtain ⟨v19, m20, hc21, h⟩ := h
        refine pw_cV (z := mX4_finds) (av := [Iq (-1000001)]) (st := []) eX4_slips_47 lk_RX4_39 rfl (by decide) (by decide) sh34 rfl rfl (Nat.le_of_ble_eq_true rfl) rfl hc21 ?_
        show PW S mX4_slips Q 50 [some (Aq 34), some (Iq x1), some (Iq x2), some (Iq x3)] [Iq v19] m20
        exact pw_iret eX4_slips_50 h
      · have h := h.2 c18
        refine pw_aload_n eX4_slips_29 rfl rfl ?_
        refine pw_aload_n eX4_slips_30 rfl rfl ?_
        refine pw_iload_n eX4_slips_31 rfl rfl ?_
        refine pw_iconst eX4_slips_32 ⟨by decide, by decide⟩ ?_
        obtain ⟨v22, m23, hc24, h⟩ := h
        refine pw_cV (z := mX4_its) (av := [Iq x1, Iq 0]) (st := [Aq 34]) eX4_slips_33 lk_RX4_71 rfl (by decide) (by decide) sh34 rfl rfl (Nat.le_of_ble_eq_true rfl) rfl hc24 ?_
        show PW S mX4_slips Q 36 [some (Aq 34), some (Iq x1), some (Iq x2), some (Iq x3)] [Iq v22, Aq 34] m23
        refine pw_iload_n eX4_slips_36 rfl rfl ?_
        refine pw_iload_n eX4_slips_37 rfl rfl ?_
        obtain ⟨v25, m26, hc27, h⟩ := h
        refine pw_cV (z := mX4_slipsOf) (av := [Iq v22, Iq x2, Iq x3]) (st := []) eX4_slips_38 lk_RX4_101 rfl (by decide) (by decide) sh34 rfl rfl (Nat.le_of_ble_eq_true rfl) rfl hc27 ?_
        show PW S mX4_slips Q 41 [some (Aq 34), some (Iq x1), some (Iq x2), some (Iq x3)] [Iq v25] m26
        refine pw_goto eX4_slips_41 ?_
        exact pw_iret eX4_slips_50 h
set_option maxRecDepth 100000 in
theorem rg_X4_alikeOf_0 {S : Sx} {Q : Option PV → Zm → Prop} {mem : Zm}   {x1 x2 : Int} 
    (h : PW S mX4_alikeOf Q 5 [some (Aq 34), some (Iq x1), some (Iq x2), some (Iq 0), some (Iq 0), none] [] mem) :
    PW S mX4_alikeOf Q 0 [some (Aq 34), some (Iq x1), some (Iq x2), none, none, none] [] mem := by
  refine pw_iconst eX4_alikeOf_0 ⟨by decide, by decide⟩ ?_
  refine pw_istore_n (ls2 := [some (Aq 34), some (Iq x1), some (Iq x2), some (Iq 0), none, none]) eX4_alikeOf_1 rfl (by decide) rfl ?_
  refine pw_iconst eX4_alikeOf_2 ⟨by decide, by decide⟩ ?_
  refine pw_istore (ls2 := [some (Aq 34), some (Iq x1), some (Iq x2), some (Iq 0), some (Iq 0), none]) eX4_alikeOf_3 (by decide) rfl ?_
  exact h

set_option maxRecDepth 100000 in
theorem rg_X4_alikeOf_5 {S : Sx} {Q : Option PV → Zm → Prop} {mem : Zm}   {x1 x2 x3 x4 : Int} 
    (h : (((8 ≤ x4) → (Q (some (Iq x3)) mem)) ∧ (¬ (8 ≤ x4) → ((in32 (6 + x4)) ∧ (∃ (v3 : Int) (m4 : Zm), Ct1 S mX4_its [Aq 34, Iq x1, Iq (6 + x4)] mem (some (Iq v3)) m4 ∧ ((in32 (6 + x4)) ∧ (∃ (v7 : Int) (m8 : Zm), Ct1 S mX4_its [Aq 34, Iq x2, Iq (6 + x4)] m4 (some (Iq v7)) m8 ∧ ((((¬ v3 = v7) → ((in32 (x4 + 1)) ∧ PW S mX4_alikeOf Q 5 [some (Aq 34), some (Iq x1), some (Iq x2), some (Iq (bOr x3 0)), some (Iq (x4 + 1)), none] [] m8)) ∧ (¬ (¬ v3 = v7) → ((((v3 = -1) → ((in32 (x4 + 1)) ∧ PW S mX4_alikeOf Q 5 [some (Aq 34), some (Iq x1), some (Iq x2), some (Iq (bOr x3 0)), some (Iq (x4 + 1)), none] [] m8)) ∧ (¬ (v3 = -1) → ((in32 (4 + x4)) ∧ (0 ≤ 4 + x4 ∧ 4 + x4 < 134) ∧ (((v3 = m8 35 (4 + x4).toNat) → ((in32 (x4 + 1)) ∧ PW S mX4_alikeOf Q 5 [some (Aq 34), some (Iq x1), some (Iq x2), some (Iq (bOr x3 0)), some (Iq (x4 + 1)), none] [] m8)) ∧ (¬ (v3 = m8 35 (4 + x4).toNat) → ((in32 (x4 + 1)) ∧ PW S mX4_alikeOf Q 5 [some (Aq 34), some (Iq x1), some (Iq x2), some (Iq (bOr x3 (bShl 1 x4))), some (Iq (x4 + 1)), none] [] m8))))))))))))))))) :
    PW S mX4_alikeOf Q 5 [some (Aq 34), some (Iq x1), some (Iq x2), some (Iq x3), some (Iq x4), none] [] mem := by
  refine pw_iload eX4_alikeOf_5 rfl ?_
  refine pw_bipush eX4_alikeOf_7 ⟨by decide, by decide⟩ (by decide) ?_
  refine pw_icmp_ge eX4_alikeOf_9 (fun c1 => ?_) (fun c1 => ?_)
  · have h := h.1 c1
    refine pw_iload_n eX4_alikeOf_76 rfl rfl ?_
    exact pw_iret eX4_alikeOf_77 h
  · have h := h.2 c1
    refine pw_aload_n eX4_alikeOf_12 rfl rfl ?_
    refine pw_iload_n eX4_alikeOf_13 rfl rfl ?_
    refine pw_bipush eX4_alikeOf_14 ⟨by decide, by decide⟩ (by decide) ?_
    refine pw_iload eX4_alikeOf_16 rfl ?_
    obtain ⟨o2, h⟩ := h
    refine pw_iadd eX4_alikeOf_18 o2 ?_
    obtain ⟨v3, m4, hc5, h⟩ := h
    refine pw_cV (z := mX4_its) (av := [Iq x1, Iq (6 + x4)]) (st := []) eX4_alikeOf_19 lk_RX4_71 rfl (by decide) (by decide) sh34 rfl rfl (Nat.le_of_ble_eq_true rfl) rfl hc5 ?_
    show PW S mX4_alikeOf Q 22 [some (Aq 34), some (Iq x1), some (Iq x2), some (Iq x3), some (Iq x4), none] [Iq v3] m4
    refine pw_istore (ls2 := [some (Aq 34), some (Iq x1), some (Iq x2), some (Iq x3), some (Iq x4), some (Iq v3)]) eX4_alikeOf_22 (by decide) rfl ?_
    refine pw_iload_n eX4_alikeOf_24 rfl rfl ?_
    refine pw_iload eX4_alikeOf_25 rfl ?_
    refine pw_aload_n eX4_alikeOf_27 rfl rfl ?_
    refine pw_iload_n eX4_alikeOf_28 rfl rfl ?_
    refine pw_bipush eX4_alikeOf_29 ⟨by decide, by decide⟩ (by decide) ?_
    refine pw_iload eX4_alikeOf_31 rfl ?_
    obtain ⟨o6, h⟩ := h
    refine pw_iadd eX4_alikeOf_33 o6 ?_
    obtain ⟨v7, m8, hc9, h⟩ := h
    refine pw_cV (z := mX4_its) (av := [Iq x2, Iq (6 + x4)]) (st := [Iq v3, Iq x3]) eX4_alikeOf_34 lk_RX4_71 rfl (by decide) (by decide) sh34 rfl rfl (Nat.le_of_ble_eq_true rfl) rfl hc9 ?_
    show PW S mX4_alikeOf Q 37 [some (Aq 34), some (Iq x1), some (Iq x2), some (Iq x3), some (Iq x4), some (Iq v3)] [Iq v7, Iq v3, Iq x3] m8
    refine pw_icmp_ne eX4_alikeOf_37 (fun c10 => ?_) (fun c10 => ?_)
    · have h := h.1 c10
      refine pw_iconst eX4_alikeOf_67 ⟨by decide, by decide⟩ ?_
      refine pw_ior eX4_alikeOf_68 ?_
      refine pw_istore_n (ls2 := [some (Aq 34), some (Iq x1), some (Iq x2), some (Iq (bOr x3 0)), some (Iq x4), some (Iq v3)]) eX4_alikeOf_69 rfl (by decide) rfl ?_
      obtain ⟨o11, h⟩ := h
      refine pw_iinc (ls2 := [some (Aq 34), some (Iq x1), some (Iq x2), some (Iq (bOr x3 0)), some (Iq (x4 + 1)), some (Iq v3)]) eX4_alikeOf_70 rfl o11 rfl ?_
      refine pw_goto eX4_alikeOf_73 ?_
      exact pw_drop (bs := [true, true, true, true, true, false]) h
    · have h := h.2 c10
      refine pw_iload eX4_alikeOf_40 rfl ?_
      refine pw_iconst eX4_alikeOf_42 ⟨by decide, by decide⟩ ?_
      refine pw_icmp_eq eX4_alikeOf_43 (fun c12 => ?_) (fun c12 => ?_)
      · have h := h.1 c12
        refine pw_iconst eX4_alikeOf_67 ⟨by decide, by decide⟩ ?_
        refine pw_ior eX4_alikeOf_68 ?_
        refine pw_istore_n (ls2 := [some (Aq 34), some (Iq x1), some (Iq x2), some (Iq (bOr x3 0)), some (Iq x4), some (Iq v3)]) eX4_alikeOf_69 rfl (by decide) rfl ?_
        obtain ⟨o13, h⟩ := h
        refine pw_iinc (ls2 := [some (Aq 34), some (Iq x1), some (Iq x2), some (Iq (bOr x3 0)), some (Iq (x4 + 1)), some (Iq v3)]) eX4_alikeOf_70 rfl o13 rfl ?_
        refine pw_goto eX4_alikeOf_73 ?_
        exact pw_drop (bs := [true, true, true, true, true, false]) h
      · have h := h.2 c12
        refine pw_iload eX4_alikeOf_46 rfl ?_
        refine pw_aload_n eX4_alikeOf_48 rfl rfl ?_
        refine gf_RX4_7 rfl eX4_alikeOf_49 sh34 ?_
        refine pw_iconst eX4_alikeOf_52 ⟨by decide, by decide⟩ ?_
        refine pw_iload eX4_alikeOf_53 rfl ?_
        obtain ⟨o14, h⟩ := h
        refine pw_iadd eX4_alikeOf_55 o14 ?_
        obtain ⟨o15, h⟩ := h
        refine pw_iald eX4_alikeOf_56 sh35 o15 ?_
        refine pw_icmp_eq eX4_alikeOf_57 (fun c16 => ?_) (fun c16 => ?_)
        · have h := h.1 c16
          refine pw_iconst eX4_alikeOf_67 ⟨by decide, by decide⟩ ?_
          refine pw_ior eX4_alikeOf_68 ?_
          refine pw_istore_n (ls2 := [some (Aq 34), some (Iq x1), some (Iq x2), some (Iq (bOr x3 0)), some (Iq x4), some (Iq v3)]) eX4_alikeOf_69 rfl (by decide) rfl ?_
          obtain ⟨o17, h⟩ := h
          refine pw_iinc (ls2 := [some (Aq 34), some (Iq x1), some (Iq x2), some (Iq (bOr x3 0)), some (Iq (x4 + 1)), some (Iq v3)]) eX4_alikeOf_70 rfl o17 rfl ?_
          refine pw_goto eX4_alikeOf_73 ?_
          exact pw_drop (bs := [true, true, true, true, true, false]) h
        · have h := h.2 c16
          refine pw_iconst eX4_alikeOf_60 ⟨by decide, by decide⟩ ?_
          refine pw_iload eX4_alikeOf_61 rfl ?_
          refine pw_ishl eX4_alikeOf_63 ?_
          refine pw_goto eX4_alikeOf_64 ?_
          refine pw_ior eX4_alikeOf_68 ?_
          refine pw_istore_n (ls2 := [some (Aq 34), some (Iq x1), some (Iq x2), some (Iq (bOr x3 (bShl 1 x4))), some (Iq x4), some (Iq v3)]) eX4_alikeOf_69 rfl (by decide) rfl ?_
          obtain ⟨o18, h⟩ := h
          refine pw_iinc (ls2 := [some (Aq 34), some (Iq x1), some (Iq x2), some (Iq (bOr x3 (bShl 1 x4))), some (Iq (x4 + 1)), some (Iq v3)]) eX4_alikeOf_70 rfl o18 rfl ?_
          refine pw_goto eX4_alikeOf_73 ?_
          exact pw_drop (bs := [true, true, true, true, true, false]) h
set_option maxRecDepth 100000 in
theorem rg_X4_alike_0 {S : Sx} {Q : Option PV → Zm → Prop} {mem : Zm}   {x1 x2 : Int} 
    (h : (∃ (v1 : Int) (m2 : Zm), Ct1 S mX4_isChild [Aq 34, Iq x1] mem (some (Iq v1)) m2 ∧ ((((v1 = 0) → ((∃ (v5 : Int) (m6 : Zm), Ct1 S mX4_finds [Aq 34, Iq (-1000001)] m2 (some (Iq v5)) m6 ∧ (Q (some (Iq v5)) m6)))) ∧ (¬ (v1 = 0) → ((∃ (v8 : Int) (m9 : Zm), Ct1 S mX4_isChild [Aq 34, Iq x2] m2 (some (Iq v8)) m9 ∧ ((((v8 = 0) → ((∃ (v12 : Int) (m13 : Zm), Ct1 S mX4_finds [Aq 34, Iq (-1000001)] m9 (some (Iq v12)) m13 ∧ (Q (some (Iq v12)) m13)))) ∧ (¬ (v8 = 0) → ((((x1 = x2) → ((∃ (v16 : Int) (m17 : Zm), Ct1 S mX4_finds [Aq 34, Iq (-1000001)] m9 (some (Iq v16)) m17 ∧ (Q (some (Iq v16)) m17)))) ∧ (¬ (x1 = x2) → ((∃ (v19 : Int) (m20 : Zm), Ct1 S mX4_alikeOf [Aq 34, Iq x1, Iq x2] m9 (some (Iq v19)) m20 ∧ (Q (some (Iq v19)) m20)))))))))))))))) :
    PW S mX4_alike Q 0 [some (Aq 34), some (Iq x1), some (Iq x2)] [] mem := by
  refine pw_aload_n eX4_alike_0 rfl rfl ?_
  refine pw_iload_n eX4_alike_1 rfl rfl ?_
  obtain ⟨v1, m2, hc3, h⟩ := h
  refine pw_cV (z := mX4_isChild) (av := [Iq x1]) (st := []) eX4_alike_2 lk_RX4_77 rfl (by decide) (by decide) sh34 rfl rfl (Nat.le_of_ble_eq_true rfl) rfl hc3 ?_
  show PW S mX4_alike Q 5 [some (Aq 34), some (Iq x1), some (Iq x2)] [Iq v1] m2
  refine pw_if_eq eX4_alike_5 (fun c4 => ?_) (fun c4 => ?_)
  · have h := h.1 c4
    refine pw_aload_n eX4_alike_30 rfl rfl ?_
    refine pw_ldc (n := (-1000001)) eX4_alike_31 ⟨by decide, by decide⟩ kc_RX4_37 ?_
    obtain ⟨v5, m6, hc7, h⟩ := h
    refine pw_cV (z := mX4_finds) (av := [Iq (-1000001)]) (st := []) eX4_alike_33 lk_RX4_39 rfl (by decide) (by decide) sh34 rfl rfl (Nat.le_of_ble_eq_true rfl) rfl hc7 ?_
    show PW S mX4_alike Q 36 [some (Aq 34), some (Iq x1), some (Iq x2)] [Iq v5] m6
    exact pw_iret eX4_alike_36 h
  · have h := h.2 c4
    refine pw_aload_n eX4_alike_8 rfl rfl ?_
    refine pw_iload_n eX4_alike_9 rfl rfl ?_
    obtain ⟨v8, m9, hc10, h⟩ := h
    refine pw_cV (z := mX4_isChild) (av := [Iq x2]) (st := []) eX4_alike_10 lk_RX4_77 rfl (by decide) (by decide) sh34 rfl rfl (Nat.le_of_ble_eq_true rfl) rfl hc10 ?_
    show PW S mX4_alike Q 13 [some (Aq 34), some (Iq x1), some (Iq x2)] [Iq v8] m9
    refine pw_if_eq eX4_alike_13 (fun c11 => ?_) (fun c11 => ?_)
    · have h := h.1 c11
      refine pw_aload_n eX4_alike_30 rfl rfl ?_
      refine pw_ldc (n := (-1000001)) eX4_alike_31 ⟨by decide, by decide⟩ kc_RX4_37 ?_
      obtain ⟨v12, m13, hc14, h⟩ := h
      refine pw_cV (z := mX4_finds) (av := [Iq (-1000001)]) (st := []) eX4_alike_33 lk_RX4_39 rfl (by decide) (by decide) sh34 rfl rfl (Nat.le_of_ble_eq_true rfl) rfl hc14 ?_
      show PW S mX4_alike Q 36 [some (Aq 34), some (Iq x1), some (Iq x2)] [Iq v12] m13
      exact pw_iret eX4_alike_36 h
    · have h := h.2 c11
      refine pw_iload_n eX4_alike_16 rfl rfl ?_
      refine pw_iload_n eX4_alike_17 rfl rfl ?_
      refine pw_icmp_eq eX4_alike_18 (fun c15 => ?_) (fun c15 => ?_)
      · have h := h.1 c15
        refine pw_aload_n eX4_alike_30 rfl rfl ?_
        refine pw_ldc (n := (-1000001)) eX4_alike_31 ⟨by decide, by decide⟩ kc_RX4_37 ?_
        obtain ⟨v16, m17, hc18, h⟩ := h
        refine pw_cV (z := mX4_finds) (av := [Iq (-1000001)]) (st := []) eX4_alike_33 lk_RX4_39 rfl (by decide) (by decide) sh34 rfl rfl (Nat.le_of_ble_eq_true rfl) rfl hc18 ?_
        show PW S mX4_alike Q 36 [some (Aq 34), some (Iq x1), some (Iq x2)] [Iq v16] m17
        exact pw_iret eX4_alike_36 h
      · have h := h.2 c15
        refine pw_aload_n eX4_alike_21 rfl rfl ?_
        refine pw_iload_n eX4_alike_22 rfl rfl ?_
        refine pw_iload_n eX4_alike_23 rfl rfl ?_
        obtain ⟨v19, m20, hc21, h⟩ := h
        refine pw_cV (z := mX4_alikeOf) (av := [Iq x1, Iq x2]) (st := []) eX4_alike_24 lk_RX4_105 rfl (by decide) (by decide) sh34 rfl rfl (Nat.le_of_ble_eq_true rfl) rfl hc21 ?_
        show PW S mX4_alike Q 27 [some (Aq 34), some (Iq x1), some (Iq x2)] [Iq v19] m20
        refine pw_goto eX4_alike_27 ?_
        exact pw_iret eX4_alike_36 h
set_option maxRecDepth 100000 in
theorem rg_X4_writesAll_0 {S : Sx} {Q : Option PV → Zm → Prop} {mem : Zm}   {x1 : Int} 
    (h : (∃ (v1 : Int) (m2 : Zm), Ct1 S mX4_its [Aq 34, Iq x1, Iq 0] mem (some (Iq v1)) m2 ∧ ((∃ (v4 : Int) (m5 : Zm), Ct1 S mX4_its [Aq 34, Iq x1, Iq 2] m2 (some (Iq v4)) m5 ∧ ((((v4 < 0) → (PW S mX4_writesAll Q 49 [some (Aq 34), some (Iq x1), some (Iq v1), some (Iq v4), some (Iq 0), some (Iq 0), none] [] m5)) ∧ (¬ (v4 < 0) → ((∃ (v8 : Int) (m9 : Zm), Ct1 S mX4_lends [Aq 34, Iq v4] m5 (some (Iq v8)) m9 ∧ ((((v8 = 0) → (PW S mX4_writesAll Q 49 [some (Aq 34), some (Iq x1), some (Iq v1), some (Iq v4), some (Iq 0), some (Iq 0), none] [] m9)) ∧ (¬ (v8 = 0) → ((∃ (v12 : Int) (m13 : Zm), Ct1 S mX4_its [Aq 34, Iq x1, Iq 4] m9 (some (Iq v12)) m13 ∧ ((∃ (v15 : Int) (m16 : Zm), Ct1 S mX4_pays [Iq v1] m13 (some (Iq v15)) m16 ∧ ((((v12 < v15) → (PW S mX4_writesAll Q 49 [some (Aq 34), some (Iq x1), some (Iq v1), some (Iq v4), some (Iq 0), some (Iq 0), none] [] m16)) ∧ (¬ (v12 < v15) → (PW S mX4_writesAll Q 49 [some (Aq 34), some (Iq x1), some (Iq v1), some (Iq v4), some (Iq 1), some (Iq 0), none] [] m16)))))))))))))))))))) :
    PW S mX4_writesAll Q 0 [some (Aq 34), some (Iq x1), none, none, none, none, none] [] mem := by
  refine pw_aload_n eX4_writesAll_0 rfl rfl ?_
  refine pw_iload_n eX4_writesAll_1 rfl rfl ?_
  refine pw_iconst eX4_writesAll_2 ⟨by decide, by decide⟩ ?_
  obtain ⟨v1, m2, hc3, h⟩ := h
  refine pw_cV (z := mX4_its) (av := [Iq x1, Iq 0]) (st := []) eX4_writesAll_3 lk_RX4_71 rfl (by decide) (by decide) sh34 rfl rfl (Nat.le_of_ble_eq_true rfl) rfl hc3 ?_
  show PW S mX4_writesAll Q 6 [some (Aq 34), some (Iq x1), none, none, none, none, none] [Iq v1] m2
  refine pw_istore_n (ls2 := [some (Aq 34), some (Iq x1), some (Iq v1), none, none, none, none]) eX4_writesAll_6 rfl (by decide) rfl ?_
  refine pw_aload_n eX4_writesAll_7 rfl rfl ?_
  refine pw_iload_n eX4_writesAll_8 rfl rfl ?_
  refine pw_iconst eX4_writesAll_9 ⟨by decide, by decide⟩ ?_
  obtain ⟨v4, m5, hc6, h⟩ := h
  refine pw_cV (z := mX4_its) (av := [Iq x1, Iq 2]) (st := []) eX4_writesAll_10 lk_RX4_71 rfl (by decide) (by decide) sh34 rfl rfl (Nat.le_of_ble_eq_true rfl) rfl hc6 ?_
  show PW S mX4_writesAll Q 13 [some (Aq 34), some (Iq x1), some (Iq v1), none, none, none, none] [Iq v4] m5
  refine pw_istore_n (ls2 := [some (Aq 34), some (Iq x1), some (Iq v1), some (Iq v4), none, none, none]) eX4_writesAll_13 rfl (by decide) rfl ?_
  refine pw_iload_n eX4_writesAll_14 rfl rfl ?_
  refine pw_if_lt eX4_writesAll_15 (fun c7 => ?_) (fun c7 => ?_)
  · have h := h.1 c7
    refine pw_iconst eX4_writesAll_43 ⟨by decide, by decide⟩ ?_
    refine pw_istore (ls2 := [some (Aq 34), some (Iq x1), some (Iq v1), some (Iq v4), some (Iq 0), none, none]) eX4_writesAll_44 (by decide) rfl ?_
    refine pw_iconst eX4_writesAll_46 ⟨by decide, by decide⟩ ?_
    refine pw_istore (ls2 := [some (Aq 34), some (Iq x1), some (Iq v1), some (Iq v4), some (Iq 0), some (Iq 0), none]) eX4_writesAll_47 (by decide) rfl ?_
    exact h
  · have h := h.2 c7
    refine pw_aload_n eX4_writesAll_18 rfl rfl ?_
    refine pw_iload_n eX4_writesAll_19 rfl rfl ?_
    obtain ⟨v8, m9, hc10, h⟩ := h
    refine pw_cV (z := mX4_lends) (av := [Iq v4]) (st := []) eX4_writesAll_20 lk_RX4_85 rfl (by decide) (by decide) sh34 rfl rfl (Nat.le_of_ble_eq_true rfl) rfl hc10 ?_
    show PW S mX4_writesAll Q 23 [some (Aq 34), some (Iq x1), some (Iq v1), some (Iq v4), none, none, none] [Iq v8] m9
    refine pw_if_eq eX4_writesAll_23 (fun c11 => ?_) (fun c11 => ?_)
    · have h := h.1 c11
      refine pw_iconst eX4_writesAll_43 ⟨by decide, by decide⟩ ?_
      refine pw_istore (ls2 := [some (Aq 34), some (Iq x1), some (Iq v1), some (Iq v4), some (Iq 0), none, none]) eX4_writesAll_44 (by decide) rfl ?_
      refine pw_iconst eX4_writesAll_46 ⟨by decide, by decide⟩ ?_
      refine pw_istore (ls2 := [some (Aq 34), some (Iq x1), some (Iq v1), some (Iq v4), some (Iq 0), some (Iq 0), none]) eX4_writesAll_47 (by decide) rfl ?_
      exact h
    · have h := h.2 c11
      refine pw_aload_n eX4_writesAll_26 rfl rfl ?_
      refine pw_iload_n eX4_writesAll_27 rfl rfl ?_
      refine pw_iconst eX4_writesAll_28 ⟨by decide, by decide⟩ ?_
      obtain ⟨v12, m13, hc14, h⟩ := h
      refine pw_cV (z := mX4_its) (av := [Iq x1, Iq 4]) (st := []) eX4_writesAll_29 lk_RX4_71 rfl (by decide) (by decide) sh34 rfl rfl (Nat.le_of_ble_eq_true rfl) rfl hc14 ?_
      show PW S mX4_writesAll Q 32 [some (Aq 34), some (Iq x1), some (Iq v1), some (Iq v4), none, none, none] [Iq v12] m13
      refine pw_iload_n eX4_writesAll_32 rfl rfl ?_
      obtain ⟨v15, m16, hc17, h⟩ := h
      refine pw_cS (z := mX4_pays) (av := [Iq v1]) (st := [Iq v12]) eX4_writesAll_33 lk_RX4_82 rfl (by decide) (by decide) (Nat.le_of_ble_eq_true rfl) rfl hc17 ?_
      show PW S mX4_writesAll Q 36 [some (Aq 34), some (Iq x1), some (Iq v1), some (Iq v4), none, none, none] [Iq v15, Iq v12] m16
      refine pw_icmp_lt eX4_writesAll_36 (fun c18 => ?_) (fun c18 => ?_)
      · have h := h.1 c18
        refine pw_iconst eX4_writesAll_43 ⟨by decide, by decide⟩ ?_
        refine pw_istore (ls2 := [some (Aq 34), some (Iq x1), some (Iq v1), some (Iq v4), some (Iq 0), none, none]) eX4_writesAll_44 (by decide) rfl ?_
        refine pw_iconst eX4_writesAll_46 ⟨by decide, by decide⟩ ?_
        refine pw_istore (ls2 := [some (Aq 34), some (Iq x1), some (Iq v1), some (Iq v4), some (Iq 0), some (Iq 0), none]) eX4_writesAll_47 (by decide) rfl ?_
        exact h
      · have h := h.2 c18
        refine pw_iconst eX4_writesAll_39 ⟨by decide, by decide⟩ ?_
        refine pw_goto eX4_writesAll_40 ?_
        refine pw_istore (ls2 := [some (Aq 34), some (Iq x1), some (Iq v1), some (Iq v4), some (Iq 1), none, none]) eX4_writesAll_44 (by decide) rfl ?_
        refine pw_iconst eX4_writesAll_46 ⟨by decide, by decide⟩ ?_
        refine pw_istore (ls2 := [some (Aq 34), some (Iq x1), some (Iq v1), some (Iq v4), some (Iq 1), some (Iq 0), none]) eX4_writesAll_47 (by decide) rfl ?_
        exact h

set_option maxRecDepth 100000 in
theorem rg_X4_writesAll_49 {S : Sx} {Q : Option PV → Zm → Prop} {mem : Zm}   {x1 x2 x3 x4 x5 : Int} 
    (h : (((8 ≤ x5) → ((((x4 = 0) → (Q none mem)) ∧ (¬ (x4 = 0) → ((∃ (v3 : Int) (m4 : Zm), Ct1 S mX4_at [Iq x1, Iq 4] mem (some (Iq v3)) m4 ∧ ((0 ≤ v3 ∧ v3 < 134) ∧ (∃ (v7 : Int) (m8 : Zm), Ct1 S mX4_pays [Iq x2] m4 (some (Iq v7)) m8 ∧ ((in32 ((m4 35 (v3).toNat) - v7)) ∧ (0 ≤ v3 ∧ v3 < 134) ∧ (∃ (v12 : Int) (m13 : Zm), Ct1 S mX4_at [Iq x3, Iq 4] (mup m8 35 (v3).toNat ((m4 35 (v3).toNat) - v7)) (some (Iq v12)) m13 ∧ ((∃ (v15 : Int) (m16 : Zm), Ct1 S mX4_its [Aq 34, Iq x3, Iq 4] m13 (some (Iq v15)) m16 ∧ ((∃ (v18 : Int) (m19 : Zm), Ct1 S mX4_pays [Iq x2] m16 (some (Iq v18)) m19 ∧ ((in32 (v15 + v18)) ∧ (∃ (v22 : Int) (m23 : Zm), Ct1 S mX4_least [Iq 999, Iq (v15 + v18)] m19 (some (Iq v22)) m23 ∧ ((0 ≤ v12 ∧ v12 < 134) ∧ Q none (mup m23 35 (v12).toNat v22)))))))))))))))))) ∧ (¬ (8 ≤ x5) → ((∃ (v26 : Int) (m27 : Zm), Ct1 S mX4_its [Aq 34, Iq x1, Iq 1] mem (some (Iq v26)) m27 ∧ ((((¬ bAnd (bShr v26 x5) 1 = 1) → ((in32 (6 + x5)) ∧ (∃ (v31 : Int) (m32 : Zm), Ct1 S mX4_at [Iq x1, Iq (6 + x5)] m27 (some (Iq v31)) m32 ∧ ((((x4 = 0) → ((0 ≤ v31 ∧ v31 < 134) ∧ (in32 (x5 + 1)) ∧ PW S mX4_writesAll Q 49 [some (Aq 34), some (Iq x1), some (Iq x2), some (Iq x3), some (Iq x4), some (Iq (x5 + 1)), none] [] (mup m32 35 (v31).toNat (-1)))) ∧ (¬ (x4 = 0) → ((in32 (6 + x5)) ∧ (∃ (v39 : Int) (m40 : Zm), Ct1 S mX4_its [Aq 34, Iq x3, Iq (6 + x5)] m32 (some (Iq v39)) m40 ∧ ((∃ (v42 : Int) (m43 : Zm), Ct1 S mX4_slipsOf [Aq 34, Iq x2, Iq x5, Iq v39] m40 (some (Iq v42)) m43 ∧ ((0 ≤ v31 ∧ v31 < 134) ∧ (in32 (x5 + 1)) ∧ PW S mX4_writesAll Q 49 [some (Aq 34), some (Iq x1), some (Iq x2), some (Iq x3), some (Iq x4), some (Iq (x5 + 1)), none] [] (mup m43 35 (v31).toNat v42)))))))))))) ∧ (¬ (¬ bAnd (bShr v26 x5) 1 = 1) → ((in32 (6 + x5)) ∧ (∃ (v48 : Int) (m49 : Zm), Ct1 S mX4_at [Iq x1, Iq (6 + x5)] m27 (some (Iq v48)) m49 ∧ ((in32 (4 + x5)) ∧ (0 ≤ 4 + x5 ∧ 4 + x5 < 134) ∧ (0 ≤ v48 ∧ v48 < 134) ∧ (in32 (x5 + 1)) ∧ PW S mX4_writesAll Q 49 [some (Aq 34), some (Iq x1), some (Iq x2), some (Iq x3), some (Iq x4), some (Iq (x5 + 1)), none] [] (mup m49 35 (v48).toNat (m49 35 (4 + x5).toNat))))))))))))) :
    PW S mX4_writesAll Q 49 [some (Aq 34), some (Iq x1), some (Iq x2), some (Iq x3), some (Iq x4), some (Iq x5), none] [] mem := by
  refine pw_iload eX4_writesAll_49 rfl ?_
  refine pw_bipush eX4_writesAll_51 ⟨by decide, by decide⟩ (by decide) ?_
  refine pw_icmp_ge eX4_writesAll_53 (fun c1 => ?_) (fun c1 => ?_)
  · have h := h.1 c1
    refine pw_iload eX4_writesAll_141 rfl ?_
    refine pw_if_eq eX4_writesAll_143 (fun c2 => ?_) (fun c2 => ?_)
    · have h := h.1 c2
      exact pw_vret eX4_writesAll_190 h
    · have h := h.2 c2
      refine pw_aload_n eX4_writesAll_146 rfl rfl ?_
      refine gf_RX4_7 rfl eX4_writesAll_147 sh34 ?_
      refine pw_iload_n eX4_writesAll_150 rfl rfl ?_
      refine pw_iconst eX4_writesAll_151 ⟨by decide, by decide⟩ ?_
      obtain ⟨v3, m4, hc5, h⟩ := h
      refine pw_cS (z := mX4_at) (av := [Iq x1, Iq 4]) (st := [Aq 35]) eX4_writesAll_152 lk_RX4_59 rfl (by decide) (by decide) (Nat.le_of_ble_eq_true rfl) rfl hc5 ?_
      show PW S mX4_writesAll Q 155 [some (Aq 34), some (Iq x1), some (Iq x2), some (Iq x3), some (Iq x4), some (Iq x5), none] [Iq v3, Aq 35] m4
      refine pw_dup2 eX4_writesAll_155 rfl rfl ?_
      obtain ⟨o6, h⟩ := h
      refine pw_iald eX4_writesAll_156 sh35 o6 ?_
      refine pw_iload_n eX4_writesAll_157 rfl rfl ?_
      obtain ⟨v7, m8, hc9, h⟩ := h
      refine pw_cS (z := mX4_pays) (av := [Iq x2]) (st := [Iq (m4 35 (v3).toNat), Iq v3, Aq 35]) eX4_writesAll_158 lk_RX4_82 rfl (by decide) (by decide) (Nat.le_of_ble_eq_true rfl) rfl hc9 ?_
      show PW S mX4_writesAll Q 161 [some (Aq 34), some (Iq x1), some (Iq x2), some (Iq x3), some (Iq x4), some (Iq x5), none] [Iq v7, Iq (m4 35 (v3).toNat), Iq v3, Aq 35] m8
      obtain ⟨o10, h⟩ := h
      refine pw_isub eX4_writesAll_161 o10 ?_
      obtain ⟨o11, h⟩ := h
      refine pw_iast eX4_writesAll_162 sh35 o11 ?_
      refine pw_aload_n eX4_writesAll_163 rfl rfl ?_
      refine gf_RX4_7 rfl eX4_writesAll_164 sh34 ?_
      refine pw_iload_n eX4_writesAll_167 rfl rfl ?_
      refine pw_iconst eX4_writesAll_168 ⟨by decide, by decide⟩ ?_
      obtain ⟨v12, m13, hc14, h⟩ := h
      refine pw_cS (z := mX4_at) (av := [Iq x3, Iq 4]) (st := [Aq 35]) eX4_writesAll_169 lk_RX4_59 rfl (by decide) (by decide) (Nat.le_of_ble_eq_true rfl) rfl hc14 ?_
      show PW S mX4_writesAll Q 172 [some (Aq 34), some (Iq x1), some (Iq x2), some (Iq x3), some (Iq x4), some (Iq x5), none] [Iq v12, Aq 35] m13
      refine pw_sipush eX4_writesAll_172 ⟨by decide, by decide⟩ (by decide) ?_
      refine pw_aload_n eX4_writesAll_175 rfl rfl ?_
      refine pw_iload_n eX4_writesAll_176 rfl rfl ?_
      refine pw_iconst eX4_writesAll_177 ⟨by decide, by decide⟩ ?_
      obtain ⟨v15, m16, hc17, h⟩ := h
      refine pw_cV (z := mX4_its) (av := [Iq x3, Iq 4]) (st := [Iq 999, Iq v12, Aq 35]) eX4_writesAll_178 lk_RX4_71 rfl (by decide) (by decide) sh34 rfl rfl (Nat.le_of_ble_eq_true rfl) rfl hc17 ?_
      show PW S mX4_writesAll Q 181 [some (Aq 34), some (Iq x1), some (Iq x2), some (Iq x3), some (Iq x4), some (Iq x5), none] [Iq v15, Iq 999, Iq v12, Aq 35] m16
      refine pw_iload_n eX4_writesAll_181 rfl rfl ?_
      obtain ⟨v18, m19, hc20, h⟩ := h
      refine pw_cS (z := mX4_pays) (av := [Iq x2]) (st := [Iq v15, Iq 999, Iq v12, Aq 35]) eX4_writesAll_182 lk_RX4_82 rfl (by decide) (by decide) (Nat.le_of_ble_eq_true rfl) rfl hc20 ?_
      show PW S mX4_writesAll Q 185 [some (Aq 34), some (Iq x1), some (Iq x2), some (Iq x3), some (Iq x4), some (Iq x5), none] [Iq v18, Iq v15, Iq 999, Iq v12, Aq 35] m19
      obtain ⟨o21, h⟩ := h
      refine pw_iadd eX4_writesAll_185 o21 ?_
      obtain ⟨v22, m23, hc24, h⟩ := h
      refine pw_cS (z := mX4_least) (av := [Iq 999, Iq (v15 + v18)]) (st := [Iq v12, Aq 35]) eX4_writesAll_186 lk_RX4_108 rfl (by decide) (by decide) (Nat.le_of_ble_eq_true rfl) rfl hc24 ?_
      show PW S mX4_writesAll Q 189 [some (Aq 34), some (Iq x1), some (Iq x2), some (Iq x3), some (Iq x4), some (Iq x5), none] [Iq v22, Iq v12, Aq 35] m23
      obtain ⟨o25, h⟩ := h
      refine pw_iast eX4_writesAll_189 sh35 o25 ?_
      exact pw_vret eX4_writesAll_190 h
  · have h := h.2 c1
    refine pw_aload_n eX4_writesAll_56 rfl rfl ?_
    refine pw_iload_n eX4_writesAll_57 rfl rfl ?_
    refine pw_iconst eX4_writesAll_58 ⟨by decide, by decide⟩ ?_
    obtain ⟨v26, m27, hc28, h⟩ := h
    refine pw_cV (z := mX4_its) (av := [Iq x1, Iq 1]) (st := []) eX4_writesAll_59 lk_RX4_71 rfl (by decide) (by decide) sh34 rfl rfl (Nat.le_of_ble_eq_true rfl) rfl hc28 ?_
    show PW S mX4_writesAll Q 62 [some (Aq 34), some (Iq x1), some (Iq x2), some (Iq x3), some (Iq x4), some (Iq x5), none] [Iq v26] m27
    refine pw_iload eX4_writesAll_62 rfl ?_
    refine pw_ishr eX4_writesAll_64 ?_
    refine pw_iconst eX4_writesAll_65 ⟨by decide, by decide⟩ ?_
    refine pw_iand eX4_writesAll_66 ?_
    refine pw_iconst eX4_writesAll_67 ⟨by decide, by decide⟩ ?_
    refine pw_icmp_ne eX4_writesAll_68 (fun c29 => ?_) (fun c29 => ?_)
    · have h := h.1 c29
      refine pw_iconst eX4_writesAll_75 ⟨by decide, by decide⟩ ?_
      refine pw_istore (ls2 := [some (Aq 34), some (Iq x1), some (Iq x2), some (Iq x3), some (Iq x4), some (Iq x5), some (Iq 0)]) eX4_writesAll_76 (by decide) rfl ?_
      refine pw_aload_n eX4_writesAll_78 rfl rfl ?_
      refine gf_RX4_7 rfl eX4_writesAll_79 sh34 ?_
      refine pw_iload_n eX4_writesAll_82 rfl rfl ?_
      refine pw_bipush eX4_writesAll_83 ⟨by decide, by decide⟩ (by decide) ?_
      refine pw_iload eX4_writesAll_85 rfl ?_
      obtain ⟨o30, h⟩ := h
      refine pw_iadd eX4_writesAll_87 o30 ?_
      obtain ⟨v31, m32, hc33, h⟩ := h
      refine pw_cS (z := mX4_at) (av := [Iq x1, Iq (6 + x5)]) (st := [Aq 35]) eX4_writesAll_88 lk_RX4_59 rfl (by decide) (by decide) (Nat.le_of_ble_eq_true rfl) rfl hc33 ?_
      show PW S mX4_writesAll Q 91 [some (Aq 34), some (Iq x1), some (Iq x2), some (Iq x3), some (Iq x4), some (Iq x5), some (Iq 0)] [Iq v31, Aq 35] m32
      refine pw_iload eX4_writesAll_91 rfl ?_
      refine pw_if_eq eX4_writesAll_93 (fun c34 => ?_) (fun c34 => ?_)
      · skip
        refine pw_iload eX4_writesAll_108 rfl ?_
        refine pw_if_eq eX4_writesAll_110 (fun c35 => ?_) (fun c35 => ?_)
        · have h := h.1 c35
          refine pw_iconst eX4_writesAll_133 ⟨by decide, by decide⟩ ?_
          obtain ⟨o36, h⟩ := h
          refine pw_iast eX4_writesAll_134 sh35 o36 ?_
          obtain ⟨o37, h⟩ := h
          refine pw_iinc (ls2 := [some (Aq 34), some (Iq x1), some (Iq x2), some (Iq x3), some (Iq x4), some (Iq (x5 + 1)), some (Iq 0)]) eX4_writesAll_135 rfl o37 rfl ?_
          refine pw_goto eX4_writesAll_138 ?_
          exact pw_drop (bs := [true, true, true, true, true, true, false]) h
        · have h := h.2 c35
          refine pw_aload_n eX4_writesAll_113 rfl rfl ?_
          refine pw_iload_n eX4_writesAll_114 rfl rfl ?_
          refine pw_iload eX4_writesAll_115 rfl ?_
          refine pw_aload_n eX4_writesAll_117 rfl rfl ?_
          refine pw_iload_n eX4_writesAll_118 rfl rfl ?_
          refine pw_bipush eX4_writesAll_119 ⟨by decide, by decide⟩ (by decide) ?_
          refine pw_iload eX4_writesAll_121 rfl ?_
          obtain ⟨o38, h⟩ := h
          refine pw_iadd eX4_writesAll_123 o38 ?_
          obtain ⟨v39, m40, hc41, h⟩ := h
          refine pw_cV (z := mX4_its) (av := [Iq x3, Iq (6 + x5)]) (st := [Iq x5, Iq x2, Aq 34, Iq v31, Aq 35]) eX4_writesAll_124 lk_RX4_71 rfl (by decide) (by decide) sh34 rfl rfl (Nat.le_of_ble_eq_true rfl) rfl hc41 ?_
          show PW S mX4_writesAll Q 127 [some (Aq 34), some (Iq x1), some (Iq x2), some (Iq x3), some (Iq x4), some (Iq x5), some (Iq 0)] [Iq v39, Iq x5, Iq x2, Aq 34, Iq v31, Aq 35] m40
          obtain ⟨v42, m43, hc44, h⟩ := h
          refine pw_cV (z := mX4_slipsOf) (av := [Iq x2, Iq x5, Iq v39]) (st := [Iq v31, Aq 35]) eX4_writesAll_127 lk_RX4_101 rfl (by decide) (by decide) sh34 rfl rfl (Nat.le_of_ble_eq_true rfl) rfl hc44 ?_
          show PW S mX4_writesAll Q 130 [some (Aq 34), some (Iq x1), some (Iq x2), some (Iq x3), some (Iq x4), some (Iq x5), some (Iq 0)] [Iq v42, Iq v31, Aq 35] m43
          refine pw_goto eX4_writesAll_130 ?_
          obtain ⟨o45, h⟩ := h
          refine pw_iast eX4_writesAll_134 sh35 o45 ?_
          obtain ⟨o46, h⟩ := h
          refine pw_iinc (ls2 := [some (Aq 34), some (Iq x1), some (Iq x2), some (Iq x3), some (Iq x4), some (Iq (x5 + 1)), some (Iq 0)]) eX4_writesAll_135 rfl o46 rfl ?_
          refine pw_goto eX4_writesAll_138 ?_
          exact pw_drop (bs := [true, true, true, true, true, true, false]) h
      · exact absurd (by decide) c34
    · have h := h.2 c29
      refine pw_iconst eX4_writesAll_71 ⟨by decide, by decide⟩ ?_
      refine pw_goto eX4_writesAll_72 ?_
      refine pw_istore (ls2 := [some (Aq 34), some (Iq x1), some (Iq x2), some (Iq x3), some (Iq x4), some (Iq x5), some (Iq 1)]) eX4_writesAll_76 (by decide) rfl ?_
      refine pw_aload_n eX4_writesAll_78 rfl rfl ?_
      refine gf_RX4_7 rfl eX4_writesAll_79 sh34 ?_
      refine pw_iload_n eX4_writesAll_82 rfl rfl ?_
      refine pw_bipush eX4_writesAll_83 ⟨by decide, by decide⟩ (by decide) ?_
      refine pw_iload eX4_writesAll_85 rfl ?_
      obtain ⟨o47, h⟩ := h
      refine pw_iadd eX4_writesAll_87 o47 ?_
      obtain ⟨v48, m49, hc50, h⟩ := h
      refine pw_cS (z := mX4_at) (av := [Iq x1, Iq (6 + x5)]) (st := [Aq 35]) eX4_writesAll_88 lk_RX4_59 rfl (by decide) (by decide) (Nat.le_of_ble_eq_true rfl) rfl hc50 ?_
      show PW S mX4_writesAll Q 91 [some (Aq 34), some (Iq x1), some (Iq x2), some (Iq x3), some (Iq x4), some (Iq x5), some (Iq 1)] [Iq v48, Aq 35] m49
      refine pw_iload eX4_writesAll_91 rfl ?_
      refine pw_if_eq eX4_writesAll_93 (fun c51 => ?_) (fun c51 => ?_)
      · exact absurd c51 (by decide)
      · skip
        refine pw_aload_n eX4_writesAll_96 rfl rfl ?_
        refine gf_RX4_7 rfl eX4_writesAll_97 sh34 ?_
        refine pw_iconst eX4_writesAll_100 ⟨by decide, by decide⟩ ?_
        refine pw_iload eX4_writesAll_101 rfl ?_
        obtain ⟨o52, h⟩ := h
        refine pw_iadd eX4_writesAll_103 o52 ?_
        obtain ⟨o53, h⟩ := h
        refine pw_iald eX4_writesAll_104 sh35 o53 ?_
        refine pw_goto eX4_writesAll_105 ?_
        obtain ⟨o54, h⟩ := h
        refine pw_iast eX4_writesAll_134 sh35 o54 ?_
        obtain ⟨o55, h⟩ := h
        refine pw_iinc (ls2 := [some (Aq 34), some (Iq x1), some (Iq x2), some (Iq x3), some (Iq x4), some (Iq (x5 + 1)), some (Iq 1)]) eX4_writesAll_135 rfl o55 rfl ?_
        refine pw_goto eX4_writesAll_138 ?_
        exact pw_drop (bs := [true, true, true, true, true, true, false]) h
set_option maxRecDepth 100000 in
theorem rg_X4_isFound_0 {S : Sx} {Q : Option PV → Zm → Prop} {mem : Zm}   {x1 : Int} 
    (h : PW S mX4_isFound Q 4 [some (Aq 34), some (Iq x1), some (Iq 0), some (Iq 0)] [] mem) :
    PW S mX4_isFound Q 0 [some (Aq 34), some (Iq x1), none, none] [] mem := by
  refine pw_iconst eX4_isFound_0 ⟨by decide, by decide⟩ ?_
  refine pw_istore_n (ls2 := [some (Aq 34), some (Iq x1), some (Iq 0), none]) eX4_isFound_1 rfl (by decide) rfl ?_
  refine pw_iconst eX4_isFound_2 ⟨by decide, by decide⟩ ?_
  refine pw_istore_n (ls2 := [some (Aq 34), some (Iq x1), some (Iq 0), some (Iq 0)]) eX4_isFound_3 rfl (by decide) rfl ?_
  exact h

set_option maxRecDepth 100000 in
theorem rg_X4_isFound_4 {S : Sx} {Q : Option PV → Zm → Prop} {mem : Zm}   {x1 x2 x3 : Int} 
    (h : (((mem 35 0 ≤ x3) → (Q (some (Iq x2)) mem)) ∧ (¬ (mem 35 0 ≤ x3) → ((((x3 = x1) → ((in32 (x3 + 1)) ∧ PW S mX4_isFound Q 4 [some (Aq 34), some (Iq x1), some (Iq (bOr x2 0)), some (Iq (x3 + 1))] [] mem)) ∧ (¬ (x3 = x1) → ((∃ (v4 : Int) (m5 : Zm), Ct1 S mX4_alikeOf [Aq 34, Iq x1, Iq x3] mem (some (Iq v4)) m5 ∧ ((∃ (v7 : Int) (m8 : Zm), Ct1 S mX4_many [Iq v4] m5 (some (Iq v7)) m8 ∧ ((((v7 < m8 35 3) → ((in32 (x3 + 1)) ∧ PW S mX4_isFound Q 4 [some (Aq 34), some (Iq x1), some (Iq (bOr x2 0)), some (Iq (x3 + 1))] [] m8)) ∧ (¬ (v7 < m8 35 3) → ((in32 (x3 + 1)) ∧ PW S mX4_isFound Q 4 [some (Aq 34), some (Iq x1), some (Iq (bOr x2 1)), some (Iq (x3 + 1))] [] m8)))))))))))))) :
    PW S mX4_isFound Q 4 [some (Aq 34), some (Iq x1), some (Iq x2), some (Iq x3)] [] mem := by
  refine pw_iload_n eX4_isFound_4 rfl rfl ?_
  refine pw_aload_n eX4_isFound_5 rfl rfl ?_
  refine gf_RX4_7 rfl eX4_isFound_6 sh34 ?_
  refine pw_iconst eX4_isFound_9 ⟨by decide, by decide⟩ ?_
  refine pw_iald eX4_isFound_10 sh35 (by decide) ?_
  refine pw_icmp_ge eX4_isFound_11 (fun c1 => ?_) (fun c1 => ?_)
  · have h := h.1 c1
    refine pw_iload_n eX4_isFound_51 rfl rfl ?_
    exact pw_iret eX4_isFound_52 h
  · have h := h.2 c1
    refine pw_iload_n eX4_isFound_14 rfl rfl ?_
    refine pw_iload_n eX4_isFound_15 rfl rfl ?_
    refine pw_iload_n eX4_isFound_16 rfl rfl ?_
    refine pw_icmp_eq eX4_isFound_17 (fun c2 => ?_) (fun c2 => ?_)
    · have h := h.1 c2
      refine pw_iconst eX4_isFound_42 ⟨by decide, by decide⟩ ?_
      refine pw_ior eX4_isFound_43 ?_
      refine pw_istore_n (ls2 := [some (Aq 34), some (Iq x1), some (Iq (bOr x2 0)), some (Iq x3)]) eX4_isFound_44 rfl (by decide) rfl ?_
      obtain ⟨o3, h⟩ := h
      refine pw_iinc (ls2 := [some (Aq 34), some (Iq x1), some (Iq (bOr x2 0)), some (Iq (x3 + 1))]) eX4_isFound_45 rfl o3 rfl ?_
      refine pw_goto eX4_isFound_48 ?_
      exact h
    · have h := h.2 c2
      refine pw_aload_n eX4_isFound_20 rfl rfl ?_
      refine pw_iload_n eX4_isFound_21 rfl rfl ?_
      refine pw_iload_n eX4_isFound_22 rfl rfl ?_
      obtain ⟨v4, m5, hc6, h⟩ := h
      refine pw_cV (z := mX4_alikeOf) (av := [Iq x1, Iq x3]) (st := [Iq x2]) eX4_isFound_23 lk_RX4_105 rfl (by decide) (by decide) sh34 rfl rfl (Nat.le_of_ble_eq_true rfl) rfl hc6 ?_
      show PW S mX4_isFound Q 26 [some (Aq 34), some (Iq x1), some (Iq x2), some (Iq x3)] [Iq v4, Iq x2] m5
      obtain ⟨v7, m8, hc9, h⟩ := h
      refine pw_cS (z := mX4_many) (av := [Iq v4]) (st := [Iq x2]) eX4_isFound_26 lk_RX4_111 rfl (by decide) (by decide) (Nat.le_of_ble_eq_true rfl) rfl hc9 ?_
      show PW S mX4_isFound Q 29 [some (Aq 34), some (Iq x1), some (Iq x2), some (Iq x3)] [Iq v7, Iq x2] m8
      refine pw_aload_n eX4_isFound_29 rfl rfl ?_
      refine gf_RX4_7 rfl eX4_isFound_30 sh34 ?_
      refine pw_iconst eX4_isFound_33 ⟨by decide, by decide⟩ ?_
      refine pw_iald eX4_isFound_34 sh35 (by decide) ?_
      refine pw_icmp_lt eX4_isFound_35 (fun c10 => ?_) (fun c10 => ?_)
      · have h := h.1 c10
        refine pw_iconst eX4_isFound_42 ⟨by decide, by decide⟩ ?_
        refine pw_ior eX4_isFound_43 ?_
        refine pw_istore_n (ls2 := [some (Aq 34), some (Iq x1), some (Iq (bOr x2 0)), some (Iq x3)]) eX4_isFound_44 rfl (by decide) rfl ?_
        obtain ⟨o11, h⟩ := h
        refine pw_iinc (ls2 := [some (Aq 34), some (Iq x1), some (Iq (bOr x2 0)), some (Iq (x3 + 1))]) eX4_isFound_45 rfl o11 rfl ?_
        refine pw_goto eX4_isFound_48 ?_
        exact h
      · have h := h.2 c10
        refine pw_iconst eX4_isFound_38 ⟨by decide, by decide⟩ ?_
        refine pw_goto eX4_isFound_39 ?_
        refine pw_ior eX4_isFound_43 ?_
        refine pw_istore_n (ls2 := [some (Aq 34), some (Iq x1), some (Iq (bOr x2 1)), some (Iq x3)]) eX4_isFound_44 rfl (by decide) rfl ?_
        obtain ⟨o12, h⟩ := h
        refine pw_iinc (ls2 := [some (Aq 34), some (Iq x1), some (Iq (bOr x2 1)), some (Iq (x3 + 1))]) eX4_isFound_45 rfl o12 rfl ?_
        refine pw_goto eX4_isFound_48 ?_
        exact h
set_option maxRecDepth 100000 in
theorem rg_X4_marks_0 {S : Sx} {Q : Option PV → Zm → Prop} {mem : Zm}   {x1 : Int} 
    (h : (∃ (v1 : Int) (m2 : Zm), Ct1 S mX4_isFound [Aq 34, Iq x1] mem (some (Iq v1)) m2 ∧ ((((v1 = 0) → (PW S mX4_marks Q 61 [some (Aq 34), some (Iq x1), some (Iq 0), some (Iq 0)] [] m2)) ∧ (¬ (v1 = 0) → ((∃ (v5 : Int) (m6 : Zm), Ct1 S mX4_at [Iq x1, Iq 5] m2 (some (Iq v5)) m6 ∧ ((∃ (v8 : Int) (m9 : Zm), Ct1 S mX4_its [Aq 34, Iq x1, Iq 5] m6 (some (Iq v8)) m9 ∧ ((in32 (v8 + 1)) ∧ (∃ (v12 : Int) (m13 : Zm), Ct1 S mX4_least [Iq 9999, Iq (v8 + 1)] m9 (some (Iq v12)) m13 ∧ ((0 ≤ v5 ∧ v5 < 134) ∧ (∃ (v16 : Int) (m17 : Zm), Ct1 S mX4_at [Iq x1, Iq 1] (mup m13 35 (v5).toNat v12) (some (Iq v16)) m17 ∧ ((0 ≤ v16 ∧ v16 < 134) ∧ (0 ≤ m17 35 1) ∧ (0 ≤ v16 ∧ v16 < 134) ∧ Q none (mup m17 35 (v16).toNat (bOr (m17 35 (v16).toNat) (bShl 1 ((m17 35 1) % 8)))))))))))))))))) :
    PW S mX4_marks Q 0 [some (Aq 34), some (Iq x1), none, none] [] mem := by
  refine pw_aload_n eX4_marks_0 rfl rfl ?_
  refine pw_iload_n eX4_marks_1 rfl rfl ?_
  obtain ⟨v1, m2, hc3, h⟩ := h
  refine pw_cV (z := mX4_isFound) (av := [Iq x1]) (st := []) eX4_marks_2 lk_RX4_114 rfl (by decide) (by decide) sh34 rfl rfl (Nat.le_of_ble_eq_true rfl) rfl hc3 ?_
  show PW S mX4_marks Q 5 [some (Aq 34), some (Iq x1), none, none] [Iq v1] m2
  refine pw_if_eq eX4_marks_5 (fun c4 => ?_) (fun c4 => ?_)
  · have h := h.1 c4
    refine pw_iconst eX4_marks_57 ⟨by decide, by decide⟩ ?_
    refine pw_istore_n (ls2 := [some (Aq 34), some (Iq x1), some (Iq 0), none]) eX4_marks_58 rfl (by decide) rfl ?_
    refine pw_iconst eX4_marks_59 ⟨by decide, by decide⟩ ?_
    refine pw_istore_n (ls2 := [some (Aq 34), some (Iq x1), some (Iq 0), some (Iq 0)]) eX4_marks_60 rfl (by decide) rfl ?_
    exact h
  · have h := h.2 c4
    refine pw_aload_n eX4_marks_8 rfl rfl ?_
    refine gf_RX4_7 rfl eX4_marks_9 sh34 ?_
    refine pw_iload_n eX4_marks_12 rfl rfl ?_
    refine pw_iconst eX4_marks_13 ⟨by decide, by decide⟩ ?_
    obtain ⟨v5, m6, hc7, h⟩ := h
    refine pw_cS (z := mX4_at) (av := [Iq x1, Iq 5]) (st := [Aq 35]) eX4_marks_14 lk_RX4_59 rfl (by decide) (by decide) (Nat.le_of_ble_eq_true rfl) rfl hc7 ?_
    show PW S mX4_marks Q 17 [some (Aq 34), some (Iq x1), none, none] [Iq v5, Aq 35] m6
    refine pw_sipush eX4_marks_17 ⟨by decide, by decide⟩ (by decide) ?_
    refine pw_aload_n eX4_marks_20 rfl rfl ?_
    refine pw_iload_n eX4_marks_21 rfl rfl ?_
    refine pw_iconst eX4_marks_22 ⟨by decide, by decide⟩ ?_
    obtain ⟨v8, m9, hc10, h⟩ := h
    refine pw_cV (z := mX4_its) (av := [Iq x1, Iq 5]) (st := [Iq 9999, Iq v5, Aq 35]) eX4_marks_23 lk_RX4_71 rfl (by decide) (by decide) sh34 rfl rfl (Nat.le_of_ble_eq_true rfl) rfl hc10 ?_
    show PW S mX4_marks Q 26 [some (Aq 34), some (Iq x1), none, none] [Iq v8, Iq 9999, Iq v5, Aq 35] m9
    refine pw_iconst eX4_marks_26 ⟨by decide, by decide⟩ ?_
    obtain ⟨o11, h⟩ := h
    refine pw_iadd eX4_marks_27 o11 ?_
    obtain ⟨v12, m13, hc14, h⟩ := h
    refine pw_cS (z := mX4_least) (av := [Iq 9999, Iq (v8 + 1)]) (st := [Iq v5, Aq 35]) eX4_marks_28 lk_RX4_108 rfl (by decide) (by decide) (Nat.le_of_ble_eq_true rfl) rfl hc14 ?_
    show PW S mX4_marks Q 31 [some (Aq 34), some (Iq x1), none, none] [Iq v12, Iq v5, Aq 35] m13
    obtain ⟨o15, h⟩ := h
    refine pw_iast eX4_marks_31 sh35 o15 ?_
    refine pw_aload_n eX4_marks_32 rfl rfl ?_
    refine gf_RX4_7 rfl eX4_marks_33 sh34 ?_
    refine pw_iload_n eX4_marks_36 rfl rfl ?_
    refine pw_iconst eX4_marks_37 ⟨by decide, by decide⟩ ?_
    obtain ⟨v16, m17, hc18, h⟩ := h
    refine pw_cS (z := mX4_at) (av := [Iq x1, Iq 1]) (st := [Aq 35]) eX4_marks_38 lk_RX4_59 rfl (by decide) (by decide) (Nat.le_of_ble_eq_true rfl) rfl hc18 ?_
    show PW S mX4_marks Q 41 [some (Aq 34), some (Iq x1), none, none] [Iq v16, Aq 35] m17
    refine pw_dup2 eX4_marks_41 rfl rfl ?_
    obtain ⟨o19, h⟩ := h
    refine pw_iald eX4_marks_42 sh35 o19 ?_
    refine pw_iconst eX4_marks_43 ⟨by decide, by decide⟩ ?_
    refine pw_aload_n eX4_marks_44 rfl rfl ?_
    refine gf_RX4_7 rfl eX4_marks_45 sh34 ?_
    refine pw_iconst eX4_marks_48 ⟨by decide, by decide⟩ ?_
    refine pw_iald eX4_marks_49 sh35 (by decide) ?_
    refine pw_bipush eX4_marks_50 ⟨by decide, by decide⟩ (by decide) ?_
    obtain ⟨o20, h⟩ := h
    refine pw_irem eX4_marks_52 o20 (by decide) ?_
    refine pw_ishl eX4_marks_53 ?_
    refine pw_ior eX4_marks_54 ?_
    obtain ⟨o21, h⟩ := h
    refine pw_iast eX4_marks_55 sh35 o21 ?_
    exact pw_vret eX4_marks_56 h

set_option maxRecDepth 100000 in
theorem rg_X4_marks_61 {S : Sx} {Q : Option PV → Zm → Prop} {mem : Zm}   {x1 x2 x3 : Int} 
    (h : (((8 ≤ x3) → ((∃ (v2 : Int) (m3 : Zm), Ct1 S mX4_at [Iq x1, Iq 3] mem (some (Iq v2)) m3 ∧ ((∃ (v5 : Int) (m6 : Zm), Ct1 S mX4_its [Aq 34, Iq x1, Iq 3] m3 (some (Iq v5)) m6 ∧ ((in32 (v5 + x2)) ∧ (∃ (v9 : Int) (m10 : Zm), Ct1 S mX4_least [Iq 9999, Iq (v5 + x2)] m6 (some (Iq v9)) m10 ∧ ((0 ≤ v2 ∧ v2 < 134) ∧ Q none (mup m10 35 (v2).toNat v9))))))))) ∧ (¬ (8 ≤ x3) → ((in32 (6 + x3)) ∧ (∃ (v14 : Int) (m15 : Zm), Ct1 S mX4_its [Aq 34, Iq x1, Iq (6 + x3)] mem (some (Iq v14)) m15 ∧ ((in32 (4 + x3)) ∧ (0 ≤ 4 + x3 ∧ 4 + x3 < 134) ∧ (((¬ v14 = m15 35 (4 + x3).toNat) → ((in32 (x2 + 0)) ∧ (in32 (x3 + 1)) ∧ PW S mX4_marks Q 61 [some (Aq 34), some (Iq x1), some (Iq (x2 + 0)), some (Iq (x3 + 1))] [] m15)) ∧ (¬ (¬ v14 = m15 35 (4 + x3).toNat) → ((in32 (x2 + 1)) ∧ (in32 (x3 + 1)) ∧ PW S mX4_marks Q 61 [some (Aq 34), some (Iq x1), some (Iq (x2 + 1)), some (Iq (x3 + 1))] [] m15))))))))) :
    PW S mX4_marks Q 61 [some (Aq 34), some (Iq x1), some (Iq x2), some (Iq x3)] [] mem := by
  refine pw_iload_n eX4_marks_61 rfl rfl ?_
  refine pw_bipush eX4_marks_62 ⟨by decide, by decide⟩ (by decide) ?_
  refine pw_icmp_ge eX4_marks_64 (fun c1 => ?_) (fun c1 => ?_)
  · have h := h.1 c1
    refine pw_aload_n eX4_marks_101 rfl rfl ?_
    refine gf_RX4_7 rfl eX4_marks_102 sh34 ?_
    refine pw_iload_n eX4_marks_105 rfl rfl ?_
    refine pw_iconst eX4_marks_106 ⟨by decide, by decide⟩ ?_
    obtain ⟨v2, m3, hc4, h⟩ := h
    refine pw_cS (z := mX4_at) (av := [Iq x1, Iq 3]) (st := [Aq 35]) eX4_marks_107 lk_RX4_59 rfl (by decide) (by decide) (Nat.le_of_ble_eq_true rfl) rfl hc4 ?_
    show PW S mX4_marks Q 110 [some (Aq 34), some (Iq x1), some (Iq x2), some (Iq x3)] [Iq v2, Aq 35] m3
    refine pw_sipush eX4_marks_110 ⟨by decide, by decide⟩ (by decide) ?_
    refine pw_aload_n eX4_marks_113 rfl rfl ?_
    refine pw_iload_n eX4_marks_114 rfl rfl ?_
    refine pw_iconst eX4_marks_115 ⟨by decide, by decide⟩ ?_
    obtain ⟨v5, m6, hc7, h⟩ := h
    refine pw_cV (z := mX4_its) (av := [Iq x1, Iq 3]) (st := [Iq 9999, Iq v2, Aq 35]) eX4_marks_116 lk_RX4_71 rfl (by decide) (by decide) sh34 rfl rfl (Nat.le_of_ble_eq_true rfl) rfl hc7 ?_
    show PW S mX4_marks Q 119 [some (Aq 34), some (Iq x1), some (Iq x2), some (Iq x3)] [Iq v5, Iq 9999, Iq v2, Aq 35] m6
    refine pw_iload_n eX4_marks_119 rfl rfl ?_
    obtain ⟨o8, h⟩ := h
    refine pw_iadd eX4_marks_120 o8 ?_
    obtain ⟨v9, m10, hc11, h⟩ := h
    refine pw_cS (z := mX4_least) (av := [Iq 9999, Iq (v5 + x2)]) (st := [Iq v2, Aq 35]) eX4_marks_121 lk_RX4_108 rfl (by decide) (by decide) (Nat.le_of_ble_eq_true rfl) rfl hc11 ?_
    show PW S mX4_marks Q 124 [some (Aq 34), some (Iq x1), some (Iq x2), some (Iq x3)] [Iq v9, Iq v2, Aq 35] m10
    obtain ⟨o12, h⟩ := h
    refine pw_iast eX4_marks_124 sh35 o12 ?_
    exact pw_vret eX4_marks_125 h
  · have h := h.2 c1
    refine pw_iload_n eX4_marks_67 rfl rfl ?_
    refine pw_aload_n eX4_marks_68 rfl rfl ?_
    refine pw_iload_n eX4_marks_69 rfl rfl ?_
    refine pw_bipush eX4_marks_70 ⟨by decide, by decide⟩ (by decide) ?_
    refine pw_iload_n eX4_marks_72 rfl rfl ?_
    obtain ⟨o13, h⟩ := h
    refine pw_iadd eX4_marks_73 o13 ?_
    obtain ⟨v14, m15, hc16, h⟩ := h
    refine pw_cV (z := mX4_its) (av := [Iq x1, Iq (6 + x3)]) (st := [Iq x2]) eX4_marks_74 lk_RX4_71 rfl (by decide) (by decide) sh34 rfl rfl (Nat.le_of_ble_eq_true rfl) rfl hc16 ?_
    show PW S mX4_marks Q 77 [some (Aq 34), some (Iq x1), some (Iq x2), some (Iq x3)] [Iq v14, Iq x2] m15
    refine pw_aload_n eX4_marks_77 rfl rfl ?_
    refine gf_RX4_7 rfl eX4_marks_78 sh34 ?_
    refine pw_iconst eX4_marks_81 ⟨by decide, by decide⟩ ?_
    refine pw_iload_n eX4_marks_82 rfl rfl ?_
    obtain ⟨o17, h⟩ := h
    refine pw_iadd eX4_marks_83 o17 ?_
    obtain ⟨o18, h⟩ := h
    refine pw_iald eX4_marks_84 sh35 o18 ?_
    refine pw_icmp_ne eX4_marks_85 (fun c19 => ?_) (fun c19 => ?_)
    · have h := h.1 c19
      refine pw_iconst eX4_marks_92 ⟨by decide, by decide⟩ ?_
      obtain ⟨o20, h⟩ := h
      refine pw_iadd eX4_marks_93 o20 ?_
      refine pw_istore_n (ls2 := [some (Aq 34), some (Iq x1), some (Iq (x2 + 0)), some (Iq x3)]) eX4_marks_94 rfl (by decide) rfl ?_
      obtain ⟨o21, h⟩ := h
      refine pw_iinc (ls2 := [some (Aq 34), some (Iq x1), some (Iq (x2 + 0)), some (Iq (x3 + 1))]) eX4_marks_95 rfl o21 rfl ?_
      refine pw_goto eX4_marks_98 ?_
      exact h
    · have h := h.2 c19
      refine pw_iconst eX4_marks_88 ⟨by decide, by decide⟩ ?_
      refine pw_goto eX4_marks_89 ?_
      obtain ⟨o22, h⟩ := h
      refine pw_iadd eX4_marks_93 o22 ?_
      refine pw_istore_n (ls2 := [some (Aq 34), some (Iq x1), some (Iq (x2 + 1)), some (Iq x3)]) eX4_marks_94 rfl (by decide) rfl ?_
      obtain ⟨o23, h⟩ := h
      refine pw_iinc (ls2 := [some (Aq 34), some (Iq x1), some (Iq (x2 + 1)), some (Iq (x3 + 1))]) eX4_marks_95 rfl o23 rfl ?_
      refine pw_goto eX4_marks_98 ?_
      exact h
set_option maxRecDepth 100000 in
theorem rg_X4_day_0 {S : Sx} {Q : Option PV → Zm → Prop} {mem : Zm}   
    (h : PW S mX4_day Q 2 [some (Aq 34), some (Iq 0)] [] mem) :
    PW S mX4_day Q 0 [some (Aq 34), none] [] mem := by
  refine pw_iconst eX4_day_0 ⟨by decide, by decide⟩ ?_
  refine pw_istore_n (ls2 := [some (Aq 34), some (Iq 0)]) eX4_day_1 rfl (by decide) rfl ?_
  exact h

set_option maxRecDepth 100000 in
theorem rg_X4_day_2 {S : Sx} {Q : Option PV → Zm → Prop} {mem : Zm}   {x1 : Int} 
    (h : (((mem 35 0 ≤ x1) → (PW S mX4_day Q 25 [some (Aq 34), some (Iq 0)] [] mem)) ∧ (¬ (mem 35 0 ≤ x1) → ((∃ (m3 : Zm), Ct1 S mX4_writesAll [Aq 34, Iq x1] mem none m3 ∧ ((in32 (x1 + 1)) ∧ PW S mX4_day Q 2 [some (Aq 34), some (Iq (x1 + 1))] [] m3)))))) :
    PW S mX4_day Q 2 [some (Aq 34), some (Iq x1)] [] mem := by
  refine pw_iload_n eX4_day_2 rfl rfl ?_
  refine pw_aload_n eX4_day_3 rfl rfl ?_
  refine gf_RX4_7 rfl eX4_day_4 sh34 ?_
  refine pw_iconst eX4_day_7 ⟨by decide, by decide⟩ ?_
  refine pw_iald eX4_day_8 sh35 (by decide) ?_
  refine pw_icmp_ge eX4_day_9 (fun c1 => ?_) (fun c1 => ?_)
  · have h := h.1 c1
    refine pw_iconst eX4_day_23 ⟨by decide, by decide⟩ ?_
    refine pw_istore_n (ls2 := [some (Aq 34), some (Iq 0)]) eX4_day_24 rfl (by decide) rfl ?_
    exact h
  · have h := h.2 c1
    refine pw_aload_n eX4_day_12 rfl rfl ?_
    refine pw_iload_n eX4_day_13 rfl rfl ?_
    obtain ⟨m3, hc4, h⟩ := h
    refine pw_cV (z := mX4_writesAll) (av := [Iq x1]) (st := []) eX4_day_14 lk_RX4_117 rfl (by decide) (by decide) sh34 rfl rfl (Nat.le_of_ble_eq_true rfl) rfl hc4 ?_
    show PW S mX4_day Q 17 [some (Aq 34), some (Iq x1)] [] m3
    obtain ⟨o5, h⟩ := h
    refine pw_iinc (ls2 := [some (Aq 34), some (Iq (x1 + 1))]) eX4_day_17 rfl o5 rfl ?_
    refine pw_goto eX4_day_20 ?_
    exact h

set_option maxRecDepth 100000 in
theorem rg_X4_day_25 {S : Sx} {Q : Option PV → Zm → Prop} {mem : Zm}   {x1 : Int} 
    (h : (((mem 35 0 ≤ x1) → (PW S mX4_day Q 48 [some (Aq 34), some (Iq 0)] [] mem)) ∧ (¬ (mem 35 0 ≤ x1) → ((∃ (m3 : Zm), Ct1 S mX4_marks [Aq 34, Iq x1] mem none m3 ∧ ((in32 (x1 + 1)) ∧ PW S mX4_day Q 25 [some (Aq 34), some (Iq (x1 + 1))] [] m3)))))) :
    PW S mX4_day Q 25 [some (Aq 34), some (Iq x1)] [] mem := by
  refine pw_iload_n eX4_day_25 rfl rfl ?_
  refine pw_aload_n eX4_day_26 rfl rfl ?_
  refine gf_RX4_7 rfl eX4_day_27 sh34 ?_
  refine pw_iconst eX4_day_30 ⟨by decide, by decide⟩ ?_
  refine pw_iald eX4_day_31 sh35 (by decide) ?_
  refine pw_icmp_ge eX4_day_32 (fun c1 => ?_) (fun c1 => ?_)
  · have h := h.1 c1
    refine pw_iconst eX4_day_46 ⟨by decide, by decide⟩ ?_
    refine pw_istore_n (ls2 := [some (Aq 34), some (Iq 0)]) eX4_day_47 rfl (by decide) rfl ?_
    exact h
  · have h := h.2 c1
    refine pw_aload_n eX4_day_35 rfl rfl ?_
    refine pw_iload_n eX4_day_36 rfl rfl ?_
    obtain ⟨m3, hc4, h⟩ := h
    refine pw_cV (z := mX4_marks) (av := [Iq x1]) (st := []) eX4_day_37 lk_RX4_121 rfl (by decide) (by decide) sh34 rfl rfl (Nat.le_of_ble_eq_true rfl) rfl hc4 ?_
    show PW S mX4_day Q 40 [some (Aq 34), some (Iq x1)] [] m3
    obtain ⟨o5, h⟩ := h
    refine pw_iinc (ls2 := [some (Aq 34), some (Iq (x1 + 1))]) eX4_day_40 rfl o5 rfl ?_
    refine pw_goto eX4_day_43 ?_
    exact h

set_option maxRecDepth 100000 in
theorem rg_X4_day_48 {S : Sx} {Q : Option PV → Zm → Prop} {mem : Zm}   {x1 : Int} 
    (h : (((8 ≤ x1) → ((in32 ((mem 35 1) + 1)) ∧ Q none (mup mem 35 1 ((mem 35 1) + 1)))) ∧ (¬ (8 ≤ x1) → ((in32 (4 + x1)) ∧ (in32 (4 + x1)) ∧ (0 ≤ 4 + x1 ∧ 4 + x1 < 134) ∧ (in32 (3 * (mem 35 (4 + x1).toNat))) ∧ (in32 ((3 * (mem 35 (4 + x1).toNat)) + x1)) ∧ (in32 (((3 * (mem 35 (4 + x1).toNat)) + x1) + 1)) ∧ (0 ≤ ((3 * (mem 35 (4 + x1).toNat)) + x1) + 1) ∧ (0 ≤ 4 + x1 ∧ 4 + x1 < 134) ∧ (in32 (x1 + 1)) ∧ PW S mX4_day Q 48 [some (Aq 34), some (Iq (x1 + 1))] [] (mup mem 35 (4 + x1).toNat ((((3 * (mem 35 (4 + x1).toNat)) + x1) + 1) % 100)))))) :
    PW S mX4_day Q 48 [some (Aq 34), some (Iq x1)] [] mem := by
  refine pw_iload_n eX4_day_48 rfl rfl ?_
  refine pw_bipush eX4_day_49 ⟨by decide, by decide⟩ (by decide) ?_
  refine pw_icmp_ge eX4_day_51 (fun c1 => ?_) (fun c1 => ?_)
  · have h := h.1 c1
    refine pw_aload_n eX4_day_85 rfl rfl ?_
    refine gf_RX4_7 rfl eX4_day_86 sh34 ?_
    refine pw_iconst eX4_day_89 ⟨by decide, by decide⟩ ?_
    refine pw_dup2 eX4_day_90 rfl rfl ?_
    refine pw_iald eX4_day_91 sh35 (by decide) ?_
    refine pw_iconst eX4_day_92 ⟨by decide, by decide⟩ ?_
    obtain ⟨o2, h⟩ := h
    refine pw_iadd eX4_day_93 o2 ?_
    refine pw_iast eX4_day_94 sh35 (by decide) ?_
    exact pw_vret eX4_day_95 h
  · have h := h.2 c1
    refine pw_aload_n eX4_day_54 rfl rfl ?_
    refine gf_RX4_7 rfl eX4_day_55 sh34 ?_
    refine pw_iconst eX4_day_58 ⟨by decide, by decide⟩ ?_
    refine pw_iload_n eX4_day_59 rfl rfl ?_
    obtain ⟨o3, h⟩ := h
    refine pw_iadd eX4_day_60 o3 ?_
    refine pw_iconst eX4_day_61 ⟨by decide, by decide⟩ ?_
    refine pw_aload_n eX4_day_62 rfl rfl ?_
    refine gf_RX4_7 rfl eX4_day_63 sh34 ?_
    refine pw_iconst eX4_day_66 ⟨by decide, by decide⟩ ?_
    refine pw_iload_n eX4_day_67 rfl rfl ?_
    obtain ⟨o4, h⟩ := h
    refine pw_iadd eX4_day_68 o4 ?_
    obtain ⟨o5, h⟩ := h
    refine pw_iald eX4_day_69 sh35 o5 ?_
    obtain ⟨o6, h⟩ := h
    refine pw_imul eX4_day_70 o6 ?_
    refine pw_iload_n eX4_day_71 rfl rfl ?_
    obtain ⟨o7, h⟩ := h
    refine pw_iadd eX4_day_72 o7 ?_
    refine pw_iconst eX4_day_73 ⟨by decide, by decide⟩ ?_
    obtain ⟨o8, h⟩ := h
    refine pw_iadd eX4_day_74 o8 ?_
    refine pw_bipush eX4_day_75 ⟨by decide, by decide⟩ (by decide) ?_
    obtain ⟨o9, h⟩ := h
    refine pw_irem eX4_day_77 o9 (by decide) ?_
    obtain ⟨o10, h⟩ := h
    refine pw_iast eX4_day_78 sh35 o10 ?_
    obtain ⟨o11, h⟩ := h
    refine pw_iinc (ls2 := [some (Aq 34), some (Iq (x1 + 1))]) eX4_day_79 rfl o11 rfl ?_
    refine pw_goto eX4_day_82 ?_
    exact h
set_option maxRecDepth 100000 in
theorem rg_X4_goes_0 {S : Sx} {Q : Option PV → Zm → Prop} {mem : Zm}   {x1 : Int} 
    (h : PW S mX4_goes Q 2 [some (Aq 34), some (Iq x1), some (Iq 0)] [] mem) :
    PW S mX4_goes Q 0 [some (Aq 34), some (Iq x1), none] [] mem := by
  refine pw_iconst eX4_goes_0 ⟨by decide, by decide⟩ ?_
  refine pw_istore_n (ls2 := [some (Aq 34), some (Iq x1), some (Iq 0)]) eX4_goes_1 rfl (by decide) rfl ?_
  exact h

set_option maxRecDepth 100000 in
theorem rg_X4_goes_2 {S : Sx} {Q : Option PV → Zm → Prop} {mem : Zm}   {x1 x2 : Int} 
    (h : (((x1 ≤ x2) → (Q none mem)) ∧ (¬ (x1 ≤ x2) → ((∃ (m3 : Zm), Ct1 S mX4_day [Aq 34] mem none m3 ∧ ((in32 (x2 + 1)) ∧ PW S mX4_goes Q 2 [some (Aq 34), some (Iq x1), some (Iq (x2 + 1))] [] m3)))))) :
    PW S mX4_goes Q 2 [some (Aq 34), some (Iq x1), some (Iq x2)] [] mem := by
  refine pw_iload_n eX4_goes_2 rfl rfl ?_
  refine pw_iload_n eX4_goes_3 rfl rfl ?_
  refine pw_icmp_ge eX4_goes_4 (fun c1 => ?_) (fun c1 => ?_)
  · have h := h.1 c1
    exact pw_vret eX4_goes_17 h
  · have h := h.2 c1
    refine pw_aload_n eX4_goes_7 rfl rfl ?_
    obtain ⟨m3, hc4, h⟩ := h
    refine pw_cV (z := mX4_day) (av := []) (st := []) eX4_goes_8 lk_RX4_124 rfl (by decide) (by decide) sh34 rfl rfl (Nat.le_of_ble_eq_true rfl) rfl hc4 ?_
    show PW S mX4_goes Q 11 [some (Aq 34), some (Iq x1), some (Iq x2)] [] m3
    obtain ⟨o5, h⟩ := h
    refine pw_iinc (ls2 := [some (Aq 34), some (Iq x1), some (Iq (x2 + 1))]) eX4_goes_11 rfl o5 rfl ?_
    refine pw_goto eX4_goes_14 ?_
    exact h
set_option maxRecDepth 100000 in
theorem rg_X4_sumOf_0 {S : Sx} {Q : Option PV → Zm → Prop} {mem : Zm}   {x1 : Int} 
    (h : PW S mX4_sumOf Q 4 [some (Aq 34), some (Iq x1), some (Iq 0), some (Iq 0)] [] mem) :
    PW S mX4_sumOf Q 0 [some (Aq 34), some (Iq x1), none, none] [] mem := by
  refine pw_iconst eX4_sumOf_0 ⟨by decide, by decide⟩ ?_
  refine pw_istore_n (ls2 := [some (Aq 34), some (Iq x1), some (Iq 0), none]) eX4_sumOf_1 rfl (by decide) rfl ?_
  refine pw_iconst eX4_sumOf_2 ⟨by decide, by decide⟩ ?_
  refine pw_istore_n (ls2 := [some (Aq 34), some (Iq x1), some (Iq 0), some (Iq 0)]) eX4_sumOf_3 rfl (by decide) rfl ?_
  exact h

set_option maxRecDepth 100000 in
theorem rg_X4_sumOf_4 {S : Sx} {Q : Option PV → Zm → Prop} {mem : Zm}   {x1 x2 x3 : Int} 
    (h : (((mem 35 0 ≤ x3) → (Q (some (Iq x2)) mem)) ∧ (¬ (mem 35 0 ≤ x3) → ((∃ (v2 : Int) (m3 : Zm), Ct1 S mX4_its [Aq 34, Iq x3, Iq x1] mem (some (Iq v2)) m3 ∧ ((in32 (x2 + v2)) ∧ (in32 (x3 + 1)) ∧ PW S mX4_sumOf Q 4 [some (Aq 34), some (Iq x1), some (Iq (x2 + v2)), some (Iq (x3 + 1))] [] m3)))))) :
    PW S mX4_sumOf Q 4 [some (Aq 34), some (Iq x1), some (Iq x2), some (Iq x3)] [] mem := by
  refine pw_iload_n eX4_sumOf_4 rfl rfl ?_
  refine pw_aload_n eX4_sumOf_5 rfl rfl ?_
  refine gf_RX4_7 rfl eX4_sumOf_6 sh34 ?_
  refine pw_iconst eX4_sumOf_9 ⟨by decide, by decide⟩ ?_
  refine pw_iald eX4_sumOf_10 sh35 (by decide) ?_
  refine pw_icmp_ge eX4_sumOf_11 (fun c1 => ?_) (fun c1 => ?_)
  · have h := h.1 c1
    refine pw_iload_n eX4_sumOf_29 rfl rfl ?_
    exact pw_iret eX4_sumOf_30 h
  · have h := h.2 c1
    refine pw_iload_n eX4_sumOf_14 rfl rfl ?_
    refine pw_aload_n eX4_sumOf_15 rfl rfl ?_
    refine pw_iload_n eX4_sumOf_16 rfl rfl ?_
    refine pw_iload_n eX4_sumOf_17 rfl rfl ?_
    obtain ⟨v2, m3, hc4, h⟩ := h
    refine pw_cV (z := mX4_its) (av := [Iq x3, Iq x1]) (st := [Iq x2]) eX4_sumOf_18 lk_RX4_71 rfl (by decide) (by decide) sh34 rfl rfl (Nat.le_of_ble_eq_true rfl) rfl hc4 ?_
    show PW S mX4_sumOf Q 21 [some (Aq 34), some (Iq x1), some (Iq x2), some (Iq x3)] [Iq v2, Iq x2] m3
    obtain ⟨o5, h⟩ := h
    refine pw_iadd eX4_sumOf_21 o5 ?_
    refine pw_istore_n (ls2 := [some (Aq 34), some (Iq x1), some (Iq (x2 + v2)), some (Iq x3)]) eX4_sumOf_22 rfl (by decide) rfl ?_
    obtain ⟨o6, h⟩ := h
    refine pw_iinc (ls2 := [some (Aq 34), some (Iq x1), some (Iq (x2 + v2)), some (Iq (x3 + 1))]) eX4_sumOf_23 rfl o6 rfl ?_
    refine pw_goto eX4_sumOf_26 ?_
    exact h
set_option maxRecDepth 100000 in
theorem rg_X4_go_0 {S : Sx} {Q : Option PV → Zm → Prop} {mem : Zm}   {x1 : Int} 
    (h : (∃ (v1 : Int) (m2 : Zm), Ct1 S mX4_isIn [Jq x1, Jq 1, Jq 60] mem (some (Iq v1)) m2 ∧ ((((¬ v1 = 0) → ((in32 ((m2 35 1) + x1)) ∧ ((((m2 35 1) + x1 ≤ 99999) → ((∃ (m8 : Zm), Ct1 S mX4_goes [Aq 34, Iq x1] m2 none m8 ∧ ((∃ (v10 : Int) (m11 : Zm), Ct1 S mX4_sumOf [Aq 34, Iq 3] m8 (some (Iq v10)) m11 ∧ (Q (some (Iq v10)) m11)))))) ∧ (¬ ((m2 35 1) + x1 ≤ 99999) → ((∃ (v13 : Int) (m14 : Zm), Ct1 S mX4_finds [Aq 34, Iq (-1000005)] m2 (some (Iq v13)) m14 ∧ (Q (some (Iq v13)) m14))))))) ∧ (¬ (¬ v1 = 0) → ((∃ (v16 : Int) (m17 : Zm), Ct1 S mX4_finds [Aq 34, Iq (-1000001)] m2 (some (Iq v16)) m17 ∧ (Q (some (Iq v16)) m17)))))))) :
    PW S mX4_go Q 0 [some (Aq 34), some (Iq x1)] [] mem := by
  refine pw_iload_n eX4_go_0 rfl rfl ?_
  refine pw_i2l eX4_go_1 ?_
  refine pw_lconst (v := 1) eX4_go_2 ⟨by decide, by decide⟩ rfl ?_
  refine pw_ldc2 (n := 60) eX4_go_3 ⟨by decide, by decide⟩ kc_RX4_127 ?_
  obtain ⟨v1, m2, hc3, h⟩ := h
  refine pw_cS (z := mX4_isIn) (av := [Jq x1, Jq 1, Jq 60]) (st := []) eX4_go_6 lk_RX4_49 rfl (by decide) (by decide) (Nat.le_of_ble_eq_true rfl) rfl hc3 ?_
  show PW S mX4_go Q 9 [some (Aq 34), some (Iq x1)] [Iq v1] m2
  refine pw_if_ne eX4_go_9 (fun c4 => ?_) (fun c4 => ?_)
  · have h := h.1 c4
    refine pw_aload_n eX4_go_19 rfl rfl ?_
    refine gf_RX4_7 rfl eX4_go_20 sh34 ?_
    refine pw_iconst eX4_go_23 ⟨by decide, by decide⟩ ?_
    refine pw_iald eX4_go_24 sh35 (by decide) ?_
    refine pw_iload_n eX4_go_25 rfl rfl ?_
    obtain ⟨o5, h⟩ := h
    refine pw_iadd eX4_go_26 o5 ?_
    refine pw_ldc (n := 99999) eX4_go_27 ⟨by decide, by decide⟩ kc_RX4_129 ?_
    refine pw_icmp_le eX4_go_29 (fun c6 => ?_) (fun c6 => ?_)
    · have h := h.1 c6
      refine pw_aload_n eX4_go_39 rfl rfl ?_
      refine pw_iload_n eX4_go_40 rfl rfl ?_
      obtain ⟨m8, hc9, h⟩ := h
      refine pw_cV (z := mX4_goes) (av := [Iq x1]) (st := []) eX4_go_41 lk_RX4_131 rfl (by decide) (by decide) sh34 rfl rfl (Nat.le_of_ble_eq_true rfl) rfl hc9 ?_
      show PW S mX4_go Q 44 [some (Aq 34), some (Iq x1)] [] m8
      refine pw_aload_n eX4_go_44 rfl rfl ?_
      refine pw_iconst eX4_go_45 ⟨by decide, by decide⟩ ?_
      obtain ⟨v10, m11, hc12, h⟩ := h
      refine pw_cV (z := mX4_sumOf) (av := [Iq 3]) (st := []) eX4_go_46 lk_RX4_134 rfl (by decide) (by decide) sh34 rfl rfl (Nat.le_of_ble_eq_true rfl) rfl hc12 ?_
      show PW S mX4_go Q 49 [some (Aq 34), some (Iq x1)] [Iq v10] m11
      exact pw_iret eX4_go_49 h
    · have h := h.2 c6
      refine pw_aload_n eX4_go_32 rfl rfl ?_
      refine pw_ldc (n := (-1000005)) eX4_go_33 ⟨by decide, by decide⟩ kc_RX4_130 ?_
      obtain ⟨v13, m14, hc15, h⟩ := h
      refine pw_cV (z := mX4_finds) (av := [Iq (-1000005)]) (st := []) eX4_go_35 lk_RX4_39 rfl (by decide) (by decide) sh34 rfl rfl (Nat.le_of_ble_eq_true rfl) rfl hc15 ?_
      show PW S mX4_go Q 38 [some (Aq 34), some (Iq x1)] [Iq v13] m14
      exact pw_iret eX4_go_38 h
  · have h := h.2 c4
    refine pw_aload_n eX4_go_12 rfl rfl ?_
    refine pw_ldc (n := (-1000001)) eX4_go_13 ⟨by decide, by decide⟩ kc_RX4_37 ?_
    obtain ⟨v16, m17, hc18, h⟩ := h
    refine pw_cV (z := mX4_finds) (av := [Iq (-1000001)]) (st := []) eX4_go_15 lk_RX4_39 rfl (by decide) (by decide) sh34 rfl rfl (Nat.le_of_ble_eq_true rfl) rfl hc18 ?_
    show PW S mX4_go Q 18 [some (Aq 34), some (Iq x1)] [Iq v16] m17
    exact pw_iret eX4_go_18 h
set_option maxRecDepth 100000 in
theorem rg_X4_lenders_0 {S : Sx} {Q : Option PV → Zm → Prop} {mem : Zm}   
    (h : PW S mX4_lenders Q 4 [some (Aq 34), some (Iq 0), some (Iq 0)] [] mem) :
    PW S mX4_lenders Q 0 [some (Aq 34), none, none] [] mem := by
  refine pw_iconst eX4_lenders_0 ⟨by decide, by decide⟩ ?_
  refine pw_istore_n (ls2 := [some (Aq 34), some (Iq 0), none]) eX4_lenders_1 rfl (by decide) rfl ?_
  refine pw_iconst eX4_lenders_2 ⟨by decide, by decide⟩ ?_
  refine pw_istore_n (ls2 := [some (Aq 34), some (Iq 0), some (Iq 0)]) eX4_lenders_3 rfl (by decide) rfl ?_
  exact h

set_option maxRecDepth 100000 in
theorem rg_X4_lenders_4 {S : Sx} {Q : Option PV → Zm → Prop} {mem : Zm}   {x1 x2 : Int} 
    (h : (((mem 35 0 ≤ x2) → (Q (some (Iq x1)) mem)) ∧ (¬ (mem 35 0 ≤ x2) → ((∃ (v2 : Int) (m3 : Zm), Ct1 S mX4_its [Aq 34, Iq x2, Iq 2] mem (some (Iq v2)) m3 ∧ ((((v2 < 0) → ((in32 (x2 + 1)) ∧ PW S mX4_lenders Q 4 [some (Aq 34), some (Iq (bOr x1 0)), some (Iq (x2 + 1))] [] m3)) ∧ (¬ (v2 < 0) → ((∃ (v7 : Int) (m8 : Zm), Ct1 S mX4_its [Aq 34, Iq x2, Iq 2] m3 (some (Iq v7)) m8 ∧ ((in32 (x2 + 1)) ∧ PW S mX4_lenders Q 4 [some (Aq 34), some (Iq (bOr x1 (bShl 1 v7))), some (Iq (x2 + 1))] [] m8))))))))))) :
    PW S mX4_lenders Q 4 [some (Aq 34), some (Iq x1), some (Iq x2)] [] mem := by
  refine pw_iload_n eX4_lenders_4 rfl rfl ?_
  refine pw_aload_n eX4_lenders_5 rfl rfl ?_
  refine gf_RX4_7 rfl eX4_lenders_6 sh34 ?_
  refine pw_iconst eX4_lenders_9 ⟨by decide, by decide⟩ ?_
  refine pw_iald eX4_lenders_10 sh35 (by decide) ?_
  refine pw_icmp_ge eX4_lenders_11 (fun c1 => ?_) (fun c1 => ?_)
  · have h := h.1 c1
    refine pw_iload_n eX4_lenders_44 rfl rfl ?_
    exact pw_iret eX4_lenders_45 h
  · have h := h.2 c1
    refine pw_iload_n eX4_lenders_14 rfl rfl ?_
    refine pw_aload_n eX4_lenders_15 rfl rfl ?_
    refine pw_iload_n eX4_lenders_16 rfl rfl ?_
    refine pw_iconst eX4_lenders_17 ⟨by decide, by decide⟩ ?_
    obtain ⟨v2, m3, hc4, h⟩ := h
    refine pw_cV (z := mX4_its) (av := [Iq x2, Iq 2]) (st := [Iq x1]) eX4_lenders_18 lk_RX4_71 rfl (by decide) (by decide) sh34 rfl rfl (Nat.le_of_ble_eq_true rfl) rfl hc4 ?_
    show PW S mX4_lenders Q 21 [some (Aq 34), some (Iq x1), some (Iq x2)] [Iq v2, Iq x1] m3
    refine pw_if_lt eX4_lenders_21 (fun c5 => ?_) (fun c5 => ?_)
    · have h := h.1 c5
      refine pw_iconst eX4_lenders_35 ⟨by decide, by decide⟩ ?_
      refine pw_ior eX4_lenders_36 ?_
      refine pw_istore_n (ls2 := [some (Aq 34), some (Iq (bOr x1 0)), some (Iq x2)]) eX4_lenders_37 rfl (by decide) rfl ?_
      obtain ⟨o6, h⟩ := h
      refine pw_iinc (ls2 := [some (Aq 34), some (Iq (bOr x1 0)), some (Iq (x2 + 1))]) eX4_lenders_38 rfl o6 rfl ?_
      refine pw_goto eX4_lenders_41 ?_
      exact h
    · have h := h.2 c5
      refine pw_iconst eX4_lenders_24 ⟨by decide, by decide⟩ ?_
      refine pw_aload_n eX4_lenders_25 rfl rfl ?_
      refine pw_iload_n eX4_lenders_26 rfl rfl ?_
      refine pw_iconst eX4_lenders_27 ⟨by decide, by decide⟩ ?_
      obtain ⟨v7, m8, hc9, h⟩ := h
      refine pw_cV (z := mX4_its) (av := [Iq x2, Iq 2]) (st := [Iq 1, Iq x1]) eX4_lenders_28 lk_RX4_71 rfl (by decide) (by decide) sh34 rfl rfl (Nat.le_of_ble_eq_true rfl) rfl hc9 ?_
      show PW S mX4_lenders Q 31 [some (Aq 34), some (Iq x1), some (Iq x2)] [Iq v7, Iq 1, Iq x1] m8
      refine pw_ishl eX4_lenders_31 ?_
      refine pw_goto eX4_lenders_32 ?_
      refine pw_ior eX4_lenders_36 ?_
      refine pw_istore_n (ls2 := [some (Aq 34), some (Iq (bOr x1 (bShl 1 v7))), some (Iq x2)]) eX4_lenders_37 rfl (by decide) rfl ?_
      obtain ⟨o10, h⟩ := h
      refine pw_iinc (ls2 := [some (Aq 34), some (Iq (bOr x1 (bShl 1 v7))), some (Iq (x2 + 1))]) eX4_lenders_38 rfl o10 rfl ?_
      refine pw_goto eX4_lenders_41 ?_
      exact h
set_option maxRecDepth 100000 in
theorem rg_X4_bests_0 {S : Sx} {Q : Option PV → Zm → Prop} {mem : Zm}   
    (h : PW S mX4_bests Q 6 [some (Aq 34), some (Iq 0), some (Iq (-1)), some (Iq 0), none] [] mem) :
    PW S mX4_bests Q 0 [some (Aq 34), none, none, none, none] [] mem := by
  refine pw_iconst eX4_bests_0 ⟨by decide, by decide⟩ ?_
  refine pw_istore_n (ls2 := [some (Aq 34), some (Iq 0), none, none, none]) eX4_bests_1 rfl (by decide) rfl ?_
  refine pw_iconst eX4_bests_2 ⟨by decide, by decide⟩ ?_
  refine pw_istore_n (ls2 := [some (Aq 34), some (Iq 0), some (Iq (-1)), none, none]) eX4_bests_3 rfl (by decide) rfl ?_
  refine pw_iconst eX4_bests_4 ⟨by decide, by decide⟩ ?_
  refine pw_istore_n (ls2 := [some (Aq 34), some (Iq 0), some (Iq (-1)), some (Iq 0), none]) eX4_bests_5 rfl (by decide) rfl ?_
  exact h

set_option maxRecDepth 100000 in
theorem rg_X4_bests_6 {S : Sx} {Q : Option PV → Zm → Prop} {mem : Zm}   {x1 x2 x3 : Int} 
    (h : (((mem 35 0 ≤ x3) → (Q (some (Iq x1)) mem)) ∧ (¬ (mem 35 0 ≤ x3) → ((∃ (v2 : Int) (m3 : Zm), Ct1 S mX4_its [Aq 34, Iq x3, Iq 3] mem (some (Iq v2)) m3 ∧ ((((v2 ≤ x2) → ((((¬ v2 = x2) → ((∃ (v7 : Int) (m8 : Zm), Ct1 S mX4_greatest [Iq x2, Iq v2] m3 (some (Iq v7)) m8 ∧ ((in32 (x3 + 1)) ∧ PW S mX4_bests Q 6 [some (Aq 34), some (Iq x1), some (Iq v7), some (Iq (x3 + 1)), none] [] m8)))) ∧ (¬ (¬ v2 = x2) → ((∃ (v11 : Int) (m12 : Zm), Ct1 S mX4_greatest [Iq x2, Iq v2] m3 (some (Iq v11)) m12 ∧ ((in32 (x3 + 1)) ∧ PW S mX4_bests Q 6 [some (Aq 34), some (Iq (bOr x1 (bShl 1 x3))), some (Iq v11), some (Iq (x3 + 1)), none] [] m12))))))) ∧ (¬ (v2 ≤ x2) → ((∃ (v15 : Int) (m16 : Zm), Ct1 S mX4_greatest [Iq x2, Iq v2] m3 (some (Iq v15)) m16 ∧ ((in32 (x3 + 1)) ∧ PW S mX4_bests Q 6 [some (Aq 34), some (Iq (bShl 1 x3)), some (Iq v15), some (Iq (x3 + 1)), none] [] m16))))))))))) :
    PW S mX4_bests Q 6 [some (Aq 34), some (Iq x1), some (Iq x2), some (Iq x3), none] [] mem := by
  refine pw_iload_n eX4_bests_6 rfl rfl ?_
  refine pw_aload_n eX4_bests_7 rfl rfl ?_
  refine gf_RX4_7 rfl eX4_bests_8 sh34 ?_
  refine pw_iconst eX4_bests_11 ⟨by decide, by decide⟩ ?_
  refine pw_iald eX4_bests_12 sh35 (by decide) ?_
  refine pw_icmp_ge eX4_bests_13 (fun c1 => ?_) (fun c1 => ?_)
  · have h := h.1 c1
    refine pw_iload_n eX4_bests_65 rfl rfl ?_
    exact pw_iret eX4_bests_66 h
  · have h := h.2 c1
    refine pw_aload_n eX4_bests_16 rfl rfl ?_
    refine pw_iload_n eX4_bests_17 rfl rfl ?_
    refine pw_iconst eX4_bests_18 ⟨by decide, by decide⟩ ?_
    obtain ⟨v2, m3, hc4, h⟩ := h
    refine pw_cV (z := mX4_its) (av := [Iq x3, Iq 3]) (st := []) eX4_bests_19 lk_RX4_71 rfl (by decide) (by decide) sh34 rfl rfl (Nat.le_of_ble_eq_true rfl) rfl hc4 ?_
    show PW S mX4_bests Q 22 [some (Aq 34), some (Iq x1), some (Iq x2), some (Iq x3), none] [Iq v2] m3
    refine pw_istore (ls2 := [some (Aq 34), some (Iq x1), some (Iq x2), some (Iq x3), some (Iq v2)]) eX4_bests_22 (by decide) rfl ?_
    refine pw_iload eX4_bests_24 rfl ?_
    refine pw_iload_n eX4_bests_26 rfl rfl ?_
    refine pw_icmp_le eX4_bests_27 (fun c5 => ?_) (fun c5 => ?_)
    · have h := h.1 c5
      refine pw_iload eX4_bests_36 rfl ?_
      refine pw_iload_n eX4_bests_38 rfl rfl ?_
      refine pw_icmp_ne eX4_bests_39 (fun c6 => ?_) (fun c6 => ?_)
      · have h := h.1 c6
        refine pw_iload_n eX4_bests_50 rfl rfl ?_
        refine pw_istore_n (ls2 := [some (Aq 34), some (Iq x1), some (Iq x2), some (Iq x3), some (Iq v2)]) eX4_bests_51 rfl (by decide) rfl ?_
        refine pw_iload_n eX4_bests_52 rfl rfl ?_
        refine pw_iload eX4_bests_53 rfl ?_
        obtain ⟨v7, m8, hc9, h⟩ := h
        refine pw_cS (z := mX4_greatest) (av := [Iq x2, Iq v2]) (st := []) eX4_bests_55 lk_RX4_137 rfl (by decide) (by decide) (Nat.le_of_ble_eq_true rfl) rfl hc9 ?_
        show PW S mX4_bests Q 58 [some (Aq 34), some (Iq x1), some (Iq x2), some (Iq x3), some (Iq v2)] [Iq v7] m8
        refine pw_istore_n (ls2 := [some (Aq 34), some (Iq x1), some (Iq v7), some (Iq x3), some (Iq v2)]) eX4_bests_58 rfl (by decide) rfl ?_
        obtain ⟨o10, h⟩ := h
        refine pw_iinc (ls2 := [some (Aq 34), some (Iq x1), some (Iq v7), some (Iq (x3 + 1)), some (Iq v2)]) eX4_bests_59 rfl o10 rfl ?_
        refine pw_goto eX4_bests_62 ?_
        exact pw_drop (bs := [true, true, true, true, false]) h
      · have h := h.2 c6
        refine pw_iload_n eX4_bests_42 rfl rfl ?_
        refine pw_iconst eX4_bests_43 ⟨by decide, by decide⟩ ?_
        refine pw_iload_n eX4_bests_44 rfl rfl ?_
        refine pw_ishl eX4_bests_45 ?_
        refine pw_ior eX4_bests_46 ?_
        refine pw_goto eX4_bests_47 ?_
        refine pw_istore_n (ls2 := [some (Aq 34), some (Iq (bOr x1 (bShl 1 x3))), some (Iq x2), some (Iq x3), some (Iq v2)]) eX4_bests_51 rfl (by decide) rfl ?_
        refine pw_iload_n eX4_bests_52 rfl rfl ?_
        refine pw_iload eX4_bests_53 rfl ?_
        obtain ⟨v11, m12, hc13, h⟩ := h
        refine pw_cS (z := mX4_greatest) (av := [Iq x2, Iq v2]) (st := []) eX4_bests_55 lk_RX4_137 rfl (by decide) (by decide) (Nat.le_of_ble_eq_true rfl) rfl hc13 ?_
        show PW S mX4_bests Q 58 [some (Aq 34), some (Iq (bOr x1 (bShl 1 x3))), some (Iq x2), some (Iq x3), some (Iq v2)] [Iq v11] m12
        refine pw_istore_n (ls2 := [some (Aq 34), some (Iq (bOr x1 (bShl 1 x3))), some (Iq v11), some (Iq x3), some (Iq v2)]) eX4_bests_58 rfl (by decide) rfl ?_
        obtain ⟨o14, h⟩ := h
        refine pw_iinc (ls2 := [some (Aq 34), some (Iq (bOr x1 (bShl 1 x3))), some (Iq v11), some (Iq (x3 + 1)), some (Iq v2)]) eX4_bests_59 rfl o14 rfl ?_
        refine pw_goto eX4_bests_62 ?_
        exact pw_drop (bs := [true, true, true, true, false]) h
    · have h := h.2 c5
      refine pw_iconst eX4_bests_30 ⟨by decide, by decide⟩ ?_
      refine pw_iload_n eX4_bests_31 rfl rfl ?_
      refine pw_ishl eX4_bests_32 ?_
      refine pw_goto eX4_bests_33 ?_
      refine pw_istore_n (ls2 := [some (Aq 34), some (Iq (bShl 1 x3)), some (Iq x2), some (Iq x3), some (Iq v2)]) eX4_bests_51 rfl (by decide) rfl ?_
      refine pw_iload_n eX4_bests_52 rfl rfl ?_
      refine pw_iload eX4_bests_53 rfl ?_
      obtain ⟨v15, m16, hc17, h⟩ := h
      refine pw_cS (z := mX4_greatest) (av := [Iq x2, Iq v2]) (st := []) eX4_bests_55 lk_RX4_137 rfl (by decide) (by decide) (Nat.le_of_ble_eq_true rfl) rfl hc17 ?_
      show PW S mX4_bests Q 58 [some (Aq 34), some (Iq (bShl 1 x3)), some (Iq x2), some (Iq x3), some (Iq v2)] [Iq v15] m16
      refine pw_istore_n (ls2 := [some (Aq 34), some (Iq (bShl 1 x3)), some (Iq v15), some (Iq x3), some (Iq v2)]) eX4_bests_58 rfl (by decide) rfl ?_
      obtain ⟨o18, h⟩ := h
      refine pw_iinc (ls2 := [some (Aq 34), some (Iq (bShl 1 x3)), some (Iq v15), some (Iq (x3 + 1)), some (Iq v2)]) eX4_bests_59 rfl o18 rfl ?_
      refine pw_goto eX4_bests_62 ?_
      exact pw_drop (bs := [true, true, true, true, false]) h
set_option maxRecDepth 100000 in
theorem rg_X4_unknown_0 {S : Sx} {Q : Option PV → Zm → Prop} {mem : Zm}   
    (h : PW S mX4_unknown Q 6 [some (Aq 34), some (Iq 255), some (Iq 0)] [] mem) :
    PW S mX4_unknown Q 0 [some (Aq 34), none, none] [] mem := by
  refine pw_sipush eX4_unknown_0 ⟨by decide, by decide⟩ (by decide) ?_
  refine pw_istore_n (ls2 := [some (Aq 34), some (Iq 255), none]) eX4_unknown_3 rfl (by decide) rfl ?_
  refine pw_iconst eX4_unknown_4 ⟨by decide, by decide⟩ ?_
  refine pw_istore_n (ls2 := [some (Aq 34), some (Iq 255), some (Iq 0)]) eX4_unknown_5 rfl (by decide) rfl ?_
  exact h

set_option maxRecDepth 100000 in
theorem rg_X4_unknown_6 {S : Sx} {Q : Option PV → Zm → Prop} {mem : Zm}   {x1 x2 : Int} 
    (h : (((mem 35 0 ≤ x2) → (Q (some (Iq x1)) mem)) ∧ (¬ (mem 35 0 ≤ x2) → ((∃ (v2 : Int) (m3 : Zm), Ct1 S mX4_its [Aq 34, Iq x2, Iq 1] mem (some (Iq v2)) m3 ∧ ((in32 (x2 + 1)) ∧ PW S mX4_unknown Q 6 [some (Aq 34), some (Iq (bAnd x1 (bXor v2 (-1)))), some (Iq (x2 + 1))] [] m3)))))) :
    PW S mX4_unknown Q 6 [some (Aq 34), some (Iq x1), some (Iq x2)] [] mem := by
  refine pw_iload_n eX4_unknown_6 rfl rfl ?_
  refine pw_aload_n eX4_unknown_7 rfl rfl ?_
  refine gf_RX4_7 rfl eX4_unknown_8 sh34 ?_
  refine pw_iconst eX4_unknown_11 ⟨by decide, by decide⟩ ?_
  refine pw_iald eX4_unknown_12 sh35 (by decide) ?_
  refine pw_icmp_ge eX4_unknown_13 (fun c1 => ?_) (fun c1 => ?_)
  · have h := h.1 c1
    refine pw_iload_n eX4_unknown_33 rfl rfl ?_
    exact pw_iret eX4_unknown_34 h
  · have h := h.2 c1
    refine pw_iload_n eX4_unknown_16 rfl rfl ?_
    refine pw_aload_n eX4_unknown_17 rfl rfl ?_
    refine pw_iload_n eX4_unknown_18 rfl rfl ?_
    refine pw_iconst eX4_unknown_19 ⟨by decide, by decide⟩ ?_
    obtain ⟨v2, m3, hc4, h⟩ := h
    refine pw_cV (z := mX4_its) (av := [Iq x2, Iq 1]) (st := [Iq x1]) eX4_unknown_20 lk_RX4_71 rfl (by decide) (by decide) sh34 rfl rfl (Nat.le_of_ble_eq_true rfl) rfl hc4 ?_
    show PW S mX4_unknown Q 23 [some (Aq 34), some (Iq x1), some (Iq x2)] [Iq v2, Iq x1] m3
    refine pw_iconst eX4_unknown_23 ⟨by decide, by decide⟩ ?_
    refine pw_ixor eX4_unknown_24 ?_
    refine pw_iand eX4_unknown_25 ?_
    refine pw_istore_n (ls2 := [some (Aq 34), some (Iq (bAnd x1 (bXor v2 (-1)))), some (Iq x2)]) eX4_unknown_26 rfl (by decide) rfl ?_
    obtain ⟨o5, h⟩ := h
    refine pw_iinc (ls2 := [some (Aq 34), some (Iq (bAnd x1 (bXor v2 (-1)))), some (Iq (x2 + 1))]) eX4_unknown_27 rfl o5 rfl ?_
    refine pw_goto eX4_unknown_30 ?_
    exact h
set_option maxRecDepth 100000 in
theorem rg_X4_now_0 {S : Sx} {Q : Option PV → Zm → Prop} {mem : Zm}   {x1 : Int} 
    (h : (((x1 = 0) → (Q (some (Iq (mem 35 1))) mem)) ∧ ((x1 = 1) → ((∃ (v2 : Int) (m3 : Zm), Ct1 S mX4_sumOf [Aq 34, Iq 3] mem (some (Iq v2)) m3 ∧ (Q (some (Iq v2)) m3)))) ∧ ((x1 = 2) → ((∃ (v5 : Int) (m6 : Zm), Ct1 S mX4_sumOf [Aq 34, Iq 5] mem (some (Iq v5)) m6 ∧ (Q (some (Iq v5)) m6)))) ∧ ((x1 = 3) → ((∃ (v8 : Int) (m9 : Zm), Ct1 S mX4_sumOf [Aq 34, Iq 4] mem (some (Iq v8)) m9 ∧ (Q (some (Iq v8)) m9)))) ∧ ((x1 = 4) → ((∃ (v11 : Int) (m12 : Zm), Ct1 S mX4_lenders [Aq 34] mem (some (Iq v11)) m12 ∧ (Q (some (Iq v11)) m12)))) ∧ ((x1 = 5) → ((∃ (v14 : Int) (m15 : Zm), Ct1 S mX4_bests [Aq 34] mem (some (Iq v14)) m15 ∧ (Q (some (Iq v14)) m15)))) ∧ ((x1 = 6) → ((∃ (v17 : Int) (m18 : Zm), Ct1 S mX4_unknown [Aq 34] mem (some (Iq v17)) m18 ∧ (Q (some (Iq v17)) m18)))) ∧ ((x1 < 0 ∨ 6 < x1) → ((∃ (v20 : Int) (m21 : Zm), Ct1 S mX4_finds [Aq 34, Iq (-1000001)] mem (some (Iq v20)) m21 ∧ (Q (some (Iq v20)) m21)))))) :
    PW S mX4_now Q 0 [some (Aq 34), some (Iq x1)] [] mem := by
  refine pw_iload_n eX4_now_0 rfl rfl ?_
  obtain ⟨hk0, hk1, hk2, hk3, hk4, hk5, hk6, hkd⟩ := h
  refine pw_tsw (ps := [(0, 44), (1, 51), (2, 57), (3, 63), (4, 69), (5, 74), (6, 79)]) (td := 84) eX4_now_1 rfl (by decide) (by decide) rfl ⟨fun c1 => ?_, fun c1 => ?_, fun c1 => ?_, fun c1 => ?_, fun c1 => ?_, fun c1 => ?_, fun c1 => ?_, trivial⟩ (fun c1 => ?_)
  · have h := hk0 c1
    refine pw_aload_n eX4_now_44 rfl rfl ?_
    refine gf_RX4_7 rfl eX4_now_45 sh34 ?_
    refine pw_iconst eX4_now_48 ⟨by decide, by decide⟩ ?_
    refine pw_iald eX4_now_49 sh35 (by decide) ?_
    exact pw_iret eX4_now_50 h
  · have h := hk1 c1
    refine pw_aload_n eX4_now_51 rfl rfl ?_
    refine pw_iconst eX4_now_52 ⟨by decide, by decide⟩ ?_
    obtain ⟨v2, m3, hc4, h⟩ := h
    refine pw_cV (z := mX4_sumOf) (av := [Iq 3]) (st := []) eX4_now_53 lk_RX4_134 rfl (by decide) (by decide) sh34 rfl rfl (Nat.le_of_ble_eq_true rfl) rfl hc4 ?_
    show PW S mX4_now Q 56 [some (Aq 34), some (Iq x1)] [Iq v2] m3
    exact pw_iret eX4_now_56 h
  · have h := hk2 c1
    refine pw_aload_n eX4_now_57 rfl rfl ?_
    refine pw_iconst eX4_now_58 ⟨by decide, by decide⟩ ?_
    obtain ⟨v5, m6, hc7, h⟩ := h
    refine pw_cV (z := mX4_sumOf) (av := [Iq 5]) (st := []) eX4_now_59 lk_RX4_134 rfl (by decide) (by decide) sh34 rfl rfl (Nat.le_of_ble_eq_true rfl) rfl hc7 ?_
    show PW S mX4_now Q 62 [some (Aq 34), some (Iq x1)] [Iq v5] m6
    exact pw_iret eX4_now_62 h
  · have h := hk3 c1
    refine pw_aload_n eX4_now_63 rfl rfl ?_
    refine pw_iconst eX4_now_64 ⟨by decide, by decide⟩ ?_
    obtain ⟨v8, m9, hc10, h⟩ := h
    refine pw_cV (z := mX4_sumOf) (av := [Iq 4]) (st := []) eX4_now_65 lk_RX4_134 rfl (by decide) (by decide) sh34 rfl rfl (Nat.le_of_ble_eq_true rfl) rfl hc10 ?_
    show PW S mX4_now Q 68 [some (Aq 34), some (Iq x1)] [Iq v8] m9
    exact pw_iret eX4_now_68 h
  · have h := hk4 c1
    refine pw_aload_n eX4_now_69 rfl rfl ?_
    obtain ⟨v11, m12, hc13, h⟩ := h
    refine pw_cV (z := mX4_lenders) (av := []) (st := []) eX4_now_70 lk_RX4_140 rfl (by decide) (by decide) sh34 rfl rfl (Nat.le_of_ble_eq_true rfl) rfl hc13 ?_
    show PW S mX4_now Q 73 [some (Aq 34), some (Iq x1)] [Iq v11] m12
    exact pw_iret eX4_now_73 h
  · have h := hk5 c1
    refine pw_aload_n eX4_now_74 rfl rfl ?_
    obtain ⟨v14, m15, hc16, h⟩ := h
    refine pw_cV (z := mX4_bests) (av := []) (st := []) eX4_now_75 lk_RX4_144 rfl (by decide) (by decide) sh34 rfl rfl (Nat.le_of_ble_eq_true rfl) rfl hc16 ?_
    show PW S mX4_now Q 78 [some (Aq 34), some (Iq x1)] [Iq v14] m15
    exact pw_iret eX4_now_78 h
  · have h := hk6 c1
    refine pw_aload_n eX4_now_79 rfl rfl ?_
    obtain ⟨v17, m18, hc19, h⟩ := h
    refine pw_cV (z := mX4_unknown) (av := []) (st := []) eX4_now_80 lk_RX4_147 rfl (by decide) (by decide) sh34 rfl rfl (Nat.le_of_ble_eq_true rfl) rfl hc19 ?_
    show PW S mX4_now Q 83 [some (Aq 34), some (Iq x1)] [Iq v17] m18
    exact pw_iret eX4_now_83 h
  · have h := hkd c1
    refine pw_aload_n eX4_now_84 rfl rfl ?_
    refine pw_ldc (n := (-1000001)) eX4_now_85 ⟨by decide, by decide⟩ kc_RX4_37 ?_
    obtain ⟨v20, m21, hc22, h⟩ := h
    refine pw_cV (z := mX4_finds) (av := [Iq (-1000001)]) (st := []) eX4_now_87 lk_RX4_39 rfl (by decide) (by decide) sh34 rfl rfl (Nat.le_of_ble_eq_true rfl) rfl hc22 ?_
    show PW S mX4_now Q 90 [some (Aq 34), some (Iq x1)] [Iq v20] m21
    exact pw_iret eX4_now_90 h
set_option maxRecDepth 100000 in
theorem rg_X4_chain_0 {S : Sx} {Q : Option PV → Zm → Prop} {mem : Zm}   {x1 : Int} 
    (h : (∃ (v1 : Int) (m2 : Zm), Ct1 S mX4_isChild [Aq 34, Iq x1] mem (some (Iq v1)) m2 ∧ ((((¬ v1 = 0) → (PW S mX4_chain Q 19 [some (Aq 34), some (Iq x1), some (Iq 0), some (Iq x1)] [] m2)) ∧ (¬ (¬ v1 = 0) → ((∃ (v5 : Int) (m6 : Zm), Ct1 S mX4_finds [Aq 34, Iq (-1000001)] m2 (some (Iq v5)) m6 ∧ (Q (some (Iq v5)) m6)))))))) :
    PW S mX4_chain Q 0 [some (Aq 34), some (Iq x1), none, none] [] mem := by
  refine pw_aload_n eX4_chain_0 rfl rfl ?_
  refine pw_iload_n eX4_chain_1 rfl rfl ?_
  obtain ⟨v1, m2, hc3, h⟩ := h
  refine pw_cV (z := mX4_isChild) (av := [Iq x1]) (st := []) eX4_chain_2 lk_RX4_77 rfl (by decide) (by decide) sh34 rfl rfl (Nat.le_of_ble_eq_true rfl) rfl hc3 ?_
  show PW S mX4_chain Q 5 [some (Aq 34), some (Iq x1), none, none] [Iq v1] m2
  refine pw_if_ne eX4_chain_5 (fun c4 => ?_) (fun c4 => ?_)
  · have h := h.1 c4
    refine pw_iconst eX4_chain_15 ⟨by decide, by decide⟩ ?_
    refine pw_istore_n (ls2 := [some (Aq 34), some (Iq x1), some (Iq 0), none]) eX4_chain_16 rfl (by decide) rfl ?_
    refine pw_iload_n eX4_chain_17 rfl rfl ?_
    refine pw_istore_n (ls2 := [some (Aq 34), some (Iq x1), some (Iq 0), some (Iq x1)]) eX4_chain_18 rfl (by decide) rfl ?_
    exact h
  · have h := h.2 c4
    refine pw_aload_n eX4_chain_8 rfl rfl ?_
    refine pw_ldc (n := (-1000001)) eX4_chain_9 ⟨by decide, by decide⟩ kc_RX4_37 ?_
    obtain ⟨v5, m6, hc7, h⟩ := h
    refine pw_cV (z := mX4_finds) (av := [Iq (-1000001)]) (st := []) eX4_chain_11 lk_RX4_39 rfl (by decide) (by decide) sh34 rfl rfl (Nat.le_of_ble_eq_true rfl) rfl hc7 ?_
    show PW S mX4_chain Q 14 [some (Aq 34), some (Iq x1), none, none] [Iq v5] m6
    exact pw_iret eX4_chain_14 h

set_option maxRecDepth 100000 in
theorem rg_X4_chain_19 {S : Sx} {Q : Option PV → Zm → Prop} {mem : Zm}   {x1 x2 x3 : Int} 
    (h : (((8 ≤ x2) → (Q (some (Iq x2)) mem)) ∧ (¬ (8 ≤ x2) → ((∃ (v2 : Int) (m3 : Zm), Ct1 S mX4_its [Aq 34, Iq x3, Iq 2] mem (some (Iq v2)) m3 ∧ ((((v2 < 0) → (Q (some (Iq x2)) m3)) ∧ (¬ (v2 < 0) → ((∃ (v6 : Int) (m7 : Zm), Ct1 S mX4_its [Aq 34, Iq x3, Iq 2] m3 (some (Iq v6)) m7 ∧ ((in32 (x2 + 1)) ∧ PW S mX4_chain Q 19 [some (Aq 34), some (Iq x1), some (Iq (x2 + 1)), some (Iq v6)] [] m7))))))))))) :
    PW S mX4_chain Q 19 [some (Aq 34), some (Iq x1), some (Iq x2), some (Iq x3)] [] mem := by
  refine pw_iload_n eX4_chain_19 rfl rfl ?_
  refine pw_bipush eX4_chain_20 ⟨by decide, by decide⟩ (by decide) ?_
  refine pw_icmp_ge eX4_chain_22 (fun c1 => ?_) (fun c1 => ?_)
  · have h := h.1 c1
    refine pw_iload_n eX4_chain_47 rfl rfl ?_
    exact pw_iret eX4_chain_48 h
  · have h := h.2 c1
    refine pw_aload_n eX4_chain_25 rfl rfl ?_
    refine pw_iload_n eX4_chain_26 rfl rfl ?_
    refine pw_iconst eX4_chain_27 ⟨by decide, by decide⟩ ?_
    obtain ⟨v2, m3, hc4, h⟩ := h
    refine pw_cV (z := mX4_its) (av := [Iq x3, Iq 2]) (st := []) eX4_chain_28 lk_RX4_71 rfl (by decide) (by decide) sh34 rfl rfl (Nat.le_of_ble_eq_true rfl) rfl hc4 ?_
    show PW S mX4_chain Q 31 [some (Aq 34), some (Iq x1), some (Iq x2), some (Iq x3)] [Iq v2] m3
    refine pw_if_lt eX4_chain_31 (fun c5 => ?_) (fun c5 => ?_)
    · have h := h.1 c5
      refine pw_iload_n eX4_chain_47 rfl rfl ?_
      exact pw_iret eX4_chain_48 h
    · have h := h.2 c5
      refine pw_aload_n eX4_chain_34 rfl rfl ?_
      refine pw_iload_n eX4_chain_35 rfl rfl ?_
      refine pw_iconst eX4_chain_36 ⟨by decide, by decide⟩ ?_
      obtain ⟨v6, m7, hc8, h⟩ := h
      refine pw_cV (z := mX4_its) (av := [Iq x3, Iq 2]) (st := []) eX4_chain_37 lk_RX4_71 rfl (by decide) (by decide) sh34 rfl rfl (Nat.le_of_ble_eq_true rfl) rfl hc8 ?_
      show PW S mX4_chain Q 40 [some (Aq 34), some (Iq x1), some (Iq x2), some (Iq x3)] [Iq v6] m7
      refine pw_istore_n (ls2 := [some (Aq 34), some (Iq x1), some (Iq x2), some (Iq v6)]) eX4_chain_40 rfl (by decide) rfl ?_
      obtain ⟨o9, h⟩ := h
      refine pw_iinc (ls2 := [some (Aq 34), some (Iq x1), some (Iq (x2 + 1)), some (Iq v6)]) eX4_chain_41 rfl o9 rfl ?_
      refine pw_goto eX4_chain_44 ?_
      exact h
set_option maxRecDepth 100000 in
theorem rg_X4_thenAt_0 {S : Sx} {Q : Option PV → Zm → Prop} {mem : Zm}   {x1 x2 : Int} 
    (h : (∃ (m2 : Zm), Ct1 S mX4_copyRow [Aq 35, Aq 38] mem none m2 ∧ ((∃ (m5 : Zm), Ct1 S mX4_goes [Aq 34, Iq x2] m2 none m5 ∧ ((0 ≤ x1 ∧ x1 < 134) ∧ (∃ (m9 : Zm), Ct1 S mX4_copyRow [Aq 38, Aq 35] m5 none m9 ∧ (Q (some (Iq (m5 35 (x1).toNat))) m9))))))) :
    PW S mX4_thenAt Q 0 [some (Aq 34), some (Iq x1), some (Iq x2), none] [] mem := by
  refine pw_aload_n eX4_thenAt_0 rfl rfl ?_
  refine gf_RX4_7 rfl eX4_thenAt_1 sh34 ?_
  refine pw_aload_n eX4_thenAt_4 rfl rfl ?_
  refine gf_RX4_19 rfl eX4_thenAt_5 sh34 ?_
  obtain ⟨m2, hc3, h⟩ := h
  refine pw_cS (z := mX4_copyRow) (av := [Aq 35, Aq 38]) (st := []) eX4_thenAt_8 lk_RX4_150 rfl (by decide) (by decide) (Nat.le_of_ble_eq_true rfl) rfl hc3 ?_
  show PW S mX4_thenAt Q 11 [some (Aq 34), some (Iq x1), some (Iq x2), none] [] m2
  refine pw_aload_n eX4_thenAt_11 rfl rfl ?_
  refine pw_iload_n eX4_thenAt_12 rfl rfl ?_
  obtain ⟨m5, hc6, h⟩ := h
  refine pw_cV (z := mX4_goes) (av := [Iq x2]) (st := []) eX4_thenAt_13 lk_RX4_131 rfl (by decide) (by decide) sh34 rfl rfl (Nat.le_of_ble_eq_true rfl) rfl hc6 ?_
  show PW S mX4_thenAt Q 16 [some (Aq 34), some (Iq x1), some (Iq x2), none] [] m5
  refine pw_aload_n eX4_thenAt_16 rfl rfl ?_
  refine gf_RX4_7 rfl eX4_thenAt_17 sh34 ?_
  refine pw_iload_n eX4_thenAt_20 rfl rfl ?_
  obtain ⟨o7, h⟩ := h
  refine pw_iald eX4_thenAt_21 sh35 o7 ?_
  refine pw_istore_n (ls2 := [some (Aq 34), some (Iq x1), some (Iq x2), some (Iq (m5 35 (x1).toNat))]) eX4_thenAt_22 rfl (by decide) rfl ?_
  refine pw_aload_n eX4_thenAt_23 rfl rfl ?_
  refine gf_RX4_19 rfl eX4_thenAt_24 sh34 ?_
  refine pw_aload_n eX4_thenAt_27 rfl rfl ?_
  refine gf_RX4_7 rfl eX4_thenAt_28 sh34 ?_
  obtain ⟨m9, hc10, h⟩ := h
  refine pw_cS (z := mX4_copyRow) (av := [Aq 38, Aq 35]) (st := []) eX4_thenAt_31 lk_RX4_150 rfl (by decide) (by decide) (Nat.le_of_ble_eq_true rfl) rfl hc10 ?_
  show PW S mX4_thenAt Q 34 [some (Aq 34), some (Iq x1), some (Iq x2), some (Iq (m5 35 (x1).toNat))] [] m9
  refine pw_iload_n eX4_thenAt_34 rfl rfl ?_
  exact pw_iret eX4_thenAt_35 h
set_option maxRecDepth 100000 in
theorem rg_X4_ahead_0 {S : Sx} {Q : Option PV → Zm → Prop} {mem : Zm}   {x1 x2 x3 : Int} 
    (h : (∃ (v1 : Int) (m2 : Zm), Ct1 S mX4_isChild [Aq 34, Iq x1] mem (some (Iq v1)) m2 ∧ ((((v1 = 0) → ((∃ (v6 : Int) (m7 : Zm), Ct1 S mX4_finds [Aq 34, Iq (-1000001)] m2 (some (Iq v6)) m7 ∧ (Q (some (Iq v6)) m7)))) ∧ (¬ (v1 = 0) → ((((x2 = 1) → ((∃ (v10 : Int) (m11 : Zm), Ct1 S mX4_isIn [Jq x3, Jq 0, Jq 60] m2 (some (Iq v10)) m11 ∧ ((((v10 = 0) → ((∃ (v15 : Int) (m16 : Zm), Ct1 S mX4_finds [Aq 34, Iq (-1000001)] m11 (some (Iq v15)) m16 ∧ (Q (some (Iq v15)) m16)))) ∧ (¬ (v10 = 0) → ((∃ (v19 : Int) (m20 : Zm), Ct1 S mX4_at [Iq x1, Iq x2] m11 (some (Iq v19)) m20 ∧ ((∃ (v22 : Int) (m23 : Zm), Ct1 S mX4_thenAt [Aq 34, Iq v19, Iq x3] m20 (some (Iq v22)) m23 ∧ (Q (some (Iq v22)) m23))))))))))) ∧ (¬ (x2 = 1) → ((∃ (v25 : Int) (m26 : Zm), Ct1 S mX4_isIn [Jq x2, Jq 3, Jq 5] m2 (some (Iq v25)) m26 ∧ ((((v25 = 0) → ((∃ (v30 : Int) (m31 : Zm), Ct1 S mX4_finds [Aq 34, Iq (-1000001)] m26 (some (Iq v30)) m31 ∧ (Q (some (Iq v30)) m31)))) ∧ (¬ (v25 = 0) → ((∃ (v33 : Int) (m34 : Zm), Ct1 S mX4_isIn [Jq x3, Jq 0, Jq 60] m26 (some (Iq v33)) m34 ∧ ((((v33 = 0) → ((∃ (v38 : Int) (m39 : Zm), Ct1 S mX4_finds [Aq 34, Iq (-1000001)] m34 (some (Iq v38)) m39 ∧ (Q (some (Iq v38)) m39)))) ∧ (¬ (v33 = 0) → ((∃ (v42 : Int) (m43 : Zm), Ct1 S mX4_at [Iq x1, Iq x2] m34 (some (Iq v42)) m43 ∧ ((∃ (v45 : Int) (m46 : Zm), Ct1 S mX4_thenAt [Aq 34, Iq v42, Iq x3] m43 (some (Iq v45)) m46 ∧ (Q (some (Iq v45)) m46))))))))))))))))))))))) :
    PW S mX4_ahead Q 0 [some (Aq 34), some (Iq x1), some (Iq x2), some (Iq x3), none] [] mem := by
  refine pw_aload_n eX4_ahead_0 rfl rfl ?_
  refine pw_iload_n eX4_ahead_1 rfl rfl ?_
  obtain ⟨v1, m2, hc3, h⟩ := h
  refine pw_cV (z := mX4_isChild) (av := [Iq x1]) (st := []) eX4_ahead_2 lk_RX4_77 rfl (by decide) (by decide) sh34 rfl rfl (Nat.le_of_ble_eq_true rfl) rfl hc3 ?_
  show PW S mX4_ahead Q 5 [some (Aq 34), some (Iq x1), some (Iq x2), some (Iq x3), none] [Iq v1] m2
  refine pw_if_eq eX4_ahead_5 (fun c4 => ?_) (fun c4 => ?_)
  · have h := h.1 c4
    refine pw_iconst eX4_ahead_43 ⟨by decide, by decide⟩ ?_
    refine pw_istore (ls2 := [some (Aq 34), some (Iq x1), some (Iq x2), some (Iq x3), some (Iq 0)]) eX4_ahead_44 (by decide) rfl ?_
    refine pw_iload eX4_ahead_46 rfl ?_
    refine pw_if_eq eX4_ahead_48 (fun c5 => ?_) (fun c5 => ?_)
    · skip
      refine pw_aload_n eX4_ahead_64 rfl rfl ?_
      refine pw_ldc (n := (-1000001)) eX4_ahead_65 ⟨by decide, by decide⟩ kc_RX4_37 ?_
      obtain ⟨v6, m7, hc8, h⟩ := h
      refine pw_cV (z := mX4_finds) (av := [Iq (-1000001)]) (st := []) eX4_ahead_67 lk_RX4_39 rfl (by decide) (by decide) sh34 rfl rfl (Nat.le_of_ble_eq_true rfl) rfl hc8 ?_
      show PW S mX4_ahead Q 70 [some (Aq 34), some (Iq x1), some (Iq x2), some (Iq x3), some (Iq 0)] [Iq v6] m7
      exact pw_iret eX4_ahead_70 h
    · exact absurd (by decide) c5
  · have h := h.2 c4
    refine pw_iload_n eX4_ahead_8 rfl rfl ?_
    refine pw_iconst eX4_ahead_9 ⟨by decide, by decide⟩ ?_
    refine pw_icmp_eq eX4_ahead_10 (fun c9 => ?_) (fun c9 => ?_)
    · have h := h.1 c9
      refine pw_iload_n eX4_ahead_27 rfl rfl ?_
      refine pw_i2l eX4_ahead_28 ?_
      refine pw_lconst (v := 0) eX4_ahead_29 ⟨by decide, by decide⟩ rfl ?_
      refine pw_ldc2 (n := 60) eX4_ahead_30 ⟨by decide, by decide⟩ kc_RX4_127 ?_
      obtain ⟨v10, m11, hc12, h⟩ := h
      refine pw_cS (z := mX4_isIn) (av := [Jq x3, Jq 0, Jq 60]) (st := []) eX4_ahead_33 lk_RX4_49 rfl (by decide) (by decide) (Nat.le_of_ble_eq_true rfl) rfl hc12 ?_
      show PW S mX4_ahead Q 36 [some (Aq 34), some (Iq x1), some (Iq x2), some (Iq x3), none] [Iq v10] m11
      refine pw_if_eq eX4_ahead_36 (fun c13 => ?_) (fun c13 => ?_)
      · have h := h.1 c13
        refine pw_iconst eX4_ahead_43 ⟨by decide, by decide⟩ ?_
        refine pw_istore (ls2 := [some (Aq 34), some (Iq x1), some (Iq x2), some (Iq x3), some (Iq 0)]) eX4_ahead_44 (by decide) rfl ?_
        refine pw_iload eX4_ahead_46 rfl ?_
        refine pw_if_eq eX4_ahead_48 (fun c14 => ?_) (fun c14 => ?_)
        · skip
          refine pw_aload_n eX4_ahead_64 rfl rfl ?_
          refine pw_ldc (n := (-1000001)) eX4_ahead_65 ⟨by decide, by decide⟩ kc_RX4_37 ?_
          obtain ⟨v15, m16, hc17, h⟩ := h
          refine pw_cV (z := mX4_finds) (av := [Iq (-1000001)]) (st := []) eX4_ahead_67 lk_RX4_39 rfl (by decide) (by decide) sh34 rfl rfl (Nat.le_of_ble_eq_true rfl) rfl hc17 ?_
          show PW S mX4_ahead Q 70 [some (Aq 34), some (Iq x1), some (Iq x2), some (Iq x3), some (Iq 0)] [Iq v15] m16
          exact pw_iret eX4_ahead_70 h
        · exact absurd (by decide) c14
      · have h := h.2 c13
        refine pw_iconst eX4_ahead_39 ⟨by decide, by decide⟩ ?_
        refine pw_goto eX4_ahead_40 ?_
        refine pw_istore (ls2 := [some (Aq 34), some (Iq x1), some (Iq x2), some (Iq x3), some (Iq 1)]) eX4_ahead_44 (by decide) rfl ?_
        refine pw_iload eX4_ahead_46 rfl ?_
        refine pw_if_eq eX4_ahead_48 (fun c18 => ?_) (fun c18 => ?_)
        · exact absurd c18 (by decide)
        · skip
          refine pw_aload_n eX4_ahead_51 rfl rfl ?_
          refine pw_iload_n eX4_ahead_52 rfl rfl ?_
          refine pw_iload_n eX4_ahead_53 rfl rfl ?_
          obtain ⟨v19, m20, hc21, h⟩ := h
          refine pw_cS (z := mX4_at) (av := [Iq x1, Iq x2]) (st := [Aq 34]) eX4_ahead_54 lk_RX4_59 rfl (by decide) (by decide) (Nat.le_of_ble_eq_true rfl) rfl hc21 ?_
          show PW S mX4_ahead Q 57 [some (Aq 34), some (Iq x1), some (Iq x2), some (Iq x3), some (Iq 1)] [Iq v19, Aq 34] m20
          refine pw_iload_n eX4_ahead_57 rfl rfl ?_
          obtain ⟨v22, m23, hc24, h⟩ := h
          refine pw_cV (z := mX4_thenAt) (av := [Iq v19, Iq x3]) (st := []) eX4_ahead_58 lk_RX4_158 rfl (by decide) (by decide) sh34 rfl rfl (Nat.le_of_ble_eq_true rfl) rfl hc24 ?_
          show PW S mX4_ahead Q 61 [some (Aq 34), some (Iq x1), some (Iq x2), some (Iq x3), some (Iq 1)] [Iq v22] m23
          refine pw_goto eX4_ahead_61 ?_
          exact pw_iret eX4_ahead_70 h
    · have h := h.2 c9
      refine pw_iload_n eX4_ahead_13 rfl rfl ?_
      refine pw_i2l eX4_ahead_14 ?_
      refine pw_ldc2 (n := 3) eX4_ahead_15 ⟨by decide, by decide⟩ kc_RX4_154 ?_
      refine pw_ldc2 (n := 5) eX4_ahead_18 ⟨by decide, by decide⟩ kc_RX4_156 ?_
      obtain ⟨v25, m26, hc27, h⟩ := h
      refine pw_cS (z := mX4_isIn) (av := [Jq x2, Jq 3, Jq 5]) (st := []) eX4_ahead_21 lk_RX4_49 rfl (by decide) (by decide) (Nat.le_of_ble_eq_true rfl) rfl hc27 ?_
      show PW S mX4_ahead Q 24 [some (Aq 34), some (Iq x1), some (Iq x2), some (Iq x3), none] [Iq v25] m26
      refine pw_if_eq eX4_ahead_24 (fun c28 => ?_) (fun c28 => ?_)
      · have h := h.1 c28
        refine pw_iconst eX4_ahead_43 ⟨by decide, by decide⟩ ?_
        refine pw_istore (ls2 := [some (Aq 34), some (Iq x1), some (Iq x2), some (Iq x3), some (Iq 0)]) eX4_ahead_44 (by decide) rfl ?_
        refine pw_iload eX4_ahead_46 rfl ?_
        refine pw_if_eq eX4_ahead_48 (fun c29 => ?_) (fun c29 => ?_)
        · skip
          refine pw_aload_n eX4_ahead_64 rfl rfl ?_
          refine pw_ldc (n := (-1000001)) eX4_ahead_65 ⟨by decide, by decide⟩ kc_RX4_37 ?_
          obtain ⟨v30, m31, hc32, h⟩ := h
          refine pw_cV (z := mX4_finds) (av := [Iq (-1000001)]) (st := []) eX4_ahead_67 lk_RX4_39 rfl (by decide) (by decide) sh34 rfl rfl (Nat.le_of_ble_eq_true rfl) rfl hc32 ?_
          show PW S mX4_ahead Q 70 [some (Aq 34), some (Iq x1), some (Iq x2), some (Iq x3), some (Iq 0)] [Iq v30] m31
          exact pw_iret eX4_ahead_70 h
        · exact absurd (by decide) c29
      · have h := h.2 c28
        refine pw_iload_n eX4_ahead_27 rfl rfl ?_
        refine pw_i2l eX4_ahead_28 ?_
        refine pw_lconst (v := 0) eX4_ahead_29 ⟨by decide, by decide⟩ rfl ?_
        refine pw_ldc2 (n := 60) eX4_ahead_30 ⟨by decide, by decide⟩ kc_RX4_127 ?_
        obtain ⟨v33, m34, hc35, h⟩ := h
        refine pw_cS (z := mX4_isIn) (av := [Jq x3, Jq 0, Jq 60]) (st := []) eX4_ahead_33 lk_RX4_49 rfl (by decide) (by decide) (Nat.le_of_ble_eq_true rfl) rfl hc35 ?_
        show PW S mX4_ahead Q 36 [some (Aq 34), some (Iq x1), some (Iq x2), some (Iq x3), none] [Iq v33] m34
        refine pw_if_eq eX4_ahead_36 (fun c36 => ?_) (fun c36 => ?_)
        · have h := h.1 c36
          refine pw_iconst eX4_ahead_43 ⟨by decide, by decide⟩ ?_
          refine pw_istore (ls2 := [some (Aq 34), some (Iq x1), some (Iq x2), some (Iq x3), some (Iq 0)]) eX4_ahead_44 (by decide) rfl ?_
          refine pw_iload eX4_ahead_46 rfl ?_
          refine pw_if_eq eX4_ahead_48 (fun c37 => ?_) (fun c37 => ?_)
          · skip
            refine pw_aload_n eX4_ahead_64 rfl rfl ?_
            refine pw_ldc (n := (-1000001)) eX4_ahead_65 ⟨by decide, by decide⟩ kc_RX4_37 ?_
            obtain ⟨v38, m39, hc40, h⟩ := h
            refine pw_cV (z := mX4_finds) (av := [Iq (-1000001)]) (st := []) eX4_ahead_67 lk_RX4_39 rfl (by decide) (by decide) sh34 rfl rfl (Nat.le_of_ble_eq_true rfl) rfl hc40 ?_
            show PW S mX4_ahead Q 70 [some (Aq 34), some (Iq x1), some (Iq x2), some (Iq x3), some (Iq 0)] [Iq v38] m39
            exact pw_iret eX4_ahead_70 h
          · exact absurd (by decide) c37
        · have h := h.2 c36
          refine pw_iconst eX4_ahead_39 ⟨by decide, by decide⟩ ?_
          refine pw_goto eX4_ahead_40 ?_
          refine pw_istore (ls2 := [some (Aq 34), some (Iq x1), some (Iq x2), some (Iq x3), some (Iq 1)]) eX4_ahead_44 (by decide) rfl ?_
          refine pw_iload eX4_ahead_46 rfl ?_
          refine pw_if_eq eX4_ahead_48 (fun c41 => ?_) (fun c41 => ?_)
          · exact absurd c41 (by decide)
          · skip
            refine pw_aload_n eX4_ahead_51 rfl rfl ?_
            refine pw_iload_n eX4_ahead_52 rfl rfl ?_
            refine pw_iload_n eX4_ahead_53 rfl rfl ?_
            obtain ⟨v42, m43, hc44, h⟩ := h
            refine pw_cS (z := mX4_at) (av := [Iq x1, Iq x2]) (st := [Aq 34]) eX4_ahead_54 lk_RX4_59 rfl (by decide) (by decide) (Nat.le_of_ble_eq_true rfl) rfl hc44 ?_
            show PW S mX4_ahead Q 57 [some (Aq 34), some (Iq x1), some (Iq x2), some (Iq x3), some (Iq 1)] [Iq v42, Aq 34] m43
            refine pw_iload_n eX4_ahead_57 rfl rfl ?_
            obtain ⟨v45, m46, hc47, h⟩ := h
            refine pw_cV (z := mX4_thenAt) (av := [Iq v42, Iq x3]) (st := []) eX4_ahead_58 lk_RX4_158 rfl (by decide) (by decide) sh34 rfl rfl (Nat.le_of_ble_eq_true rfl) rfl hc47 ?_
            show PW S mX4_ahead Q 61 [some (Aq 34), some (Iq x1), some (Iq x2), some (Iq x3), some (Iq 1)] [Iq v45] m46
            refine pw_goto eX4_ahead_61 ?_
            exact pw_iret eX4_ahead_70 h
set_option maxRecDepth 100000 in
theorem rg_X4_writes_0 {S : Sx} {Q : Option PV → Zm → Prop} {mem : Zm}   {x1 x2 x3 : Int} 
    (h : (∃ (v1 : Int) (m2 : Zm), Ct1 S mX4_isChild [Aq 34, Iq x1] mem (some (Iq v1)) m2 ∧ ((((v1 = 0) → ((∃ (v5 : Int) (m6 : Zm), Ct1 S mX4_finds [Aq 34, Iq (-1000001)] m2 (some (Iq v5)) m6 ∧ (Q (some (Iq v5)) m6)))) ∧ (¬ (v1 = 0) → ((∃ (v8 : Int) (m9 : Zm), Ct1 S mX4_isSum [Iq x2] m2 (some (Iq v8)) m9 ∧ ((((v8 = 0) → ((∃ (v12 : Int) (m13 : Zm), Ct1 S mX4_finds [Aq 34, Iq (-1000001)] m9 (some (Iq v12)) m13 ∧ (Q (some (Iq v12)) m13)))) ∧ (¬ (v8 = 0) → ((∃ (v15 : Int) (m16 : Zm), Ct1 S mX4_isIn [Jq x3, Jq 0, Jq 60] m9 (some (Iq v15)) m16 ∧ ((((v15 = 0) → ((∃ (v19 : Int) (m20 : Zm), Ct1 S mX4_finds [Aq 34, Iq (-1000001)] m16 (some (Iq v19)) m20 ∧ (Q (some (Iq v19)) m20)))) ∧ (¬ (v15 = 0) → ((in32 (6 + x2)) ∧ (∃ (v23 : Int) (m24 : Zm), Ct1 S mX4_at [Iq x1, Iq (6 + x2)] m16 (some (Iq v23)) m24 ∧ ((∃ (v26 : Int) (m27 : Zm), Ct1 S mX4_thenAt [Aq 34, Iq v23, Iq x3] m24 (some (Iq v26)) m27 ∧ (Q (some (Iq v26)) m27)))))))))))))))))))) :
    PW S mX4_writes Q 0 [some (Aq 34), some (Iq x1), some (Iq x2), some (Iq x3)] [] mem := by
  refine pw_aload_n eX4_writes_0 rfl rfl ?_
  refine pw_iload_n eX4_writes_1 rfl rfl ?_
  obtain ⟨v1, m2, hc3, h⟩ := h
  refine pw_cV (z := mX4_isChild) (av := [Iq x1]) (st := []) eX4_writes_2 lk_RX4_77 rfl (by decide) (by decide) sh34 rfl rfl (Nat.le_of_ble_eq_true rfl) rfl hc3 ?_
  show PW S mX4_writes Q 5 [some (Aq 34), some (Iq x1), some (Iq x2), some (Iq x3)] [Iq v1] m2
  refine pw_if_eq eX4_writes_5 (fun c4 => ?_) (fun c4 => ?_)
  · have h := h.1 c4
    refine pw_aload_n eX4_writes_43 rfl rfl ?_
    refine pw_ldc (n := (-1000001)) eX4_writes_44 ⟨by decide, by decide⟩ kc_RX4_37 ?_
    obtain ⟨v5, m6, hc7, h⟩ := h
    refine pw_cV (z := mX4_finds) (av := [Iq (-1000001)]) (st := []) eX4_writes_46 lk_RX4_39 rfl (by decide) (by decide) sh34 rfl rfl (Nat.le_of_ble_eq_true rfl) rfl hc7 ?_
    show PW S mX4_writes Q 49 [some (Aq 34), some (Iq x1), some (Iq x2), some (Iq x3)] [Iq v5] m6
    exact pw_iret eX4_writes_49 h
  · have h := h.2 c4
    refine pw_iload_n eX4_writes_8 rfl rfl ?_
    obtain ⟨v8, m9, hc10, h⟩ := h
    refine pw_cS (z := mX4_isSum) (av := [Iq x2]) (st := []) eX4_writes_9 lk_RX4_43 rfl (by decide) (by decide) (Nat.le_of_ble_eq_true rfl) rfl hc10 ?_
    show PW S mX4_writes Q 12 [some (Aq 34), some (Iq x1), some (Iq x2), some (Iq x3)] [Iq v8] m9
    refine pw_if_eq eX4_writes_12 (fun c11 => ?_) (fun c11 => ?_)
    · have h := h.1 c11
      refine pw_aload_n eX4_writes_43 rfl rfl ?_
      refine pw_ldc (n := (-1000001)) eX4_writes_44 ⟨by decide, by decide⟩ kc_RX4_37 ?_
      obtain ⟨v12, m13, hc14, h⟩ := h
      refine pw_cV (z := mX4_finds) (av := [Iq (-1000001)]) (st := []) eX4_writes_46 lk_RX4_39 rfl (by decide) (by decide) sh34 rfl rfl (Nat.le_of_ble_eq_true rfl) rfl hc14 ?_
      show PW S mX4_writes Q 49 [some (Aq 34), some (Iq x1), some (Iq x2), some (Iq x3)] [Iq v12] m13
      exact pw_iret eX4_writes_49 h
    · have h := h.2 c11
      refine pw_iload_n eX4_writes_15 rfl rfl ?_
      refine pw_i2l eX4_writes_16 ?_
      refine pw_lconst (v := 0) eX4_writes_17 ⟨by decide, by decide⟩ rfl ?_
      refine pw_ldc2 (n := 60) eX4_writes_18 ⟨by decide, by decide⟩ kc_RX4_127 ?_
      obtain ⟨v15, m16, hc17, h⟩ := h
      refine pw_cS (z := mX4_isIn) (av := [Jq x3, Jq 0, Jq 60]) (st := []) eX4_writes_21 lk_RX4_49 rfl (by decide) (by decide) (Nat.le_of_ble_eq_true rfl) rfl hc17 ?_
      show PW S mX4_writes Q 24 [some (Aq 34), some (Iq x1), some (Iq x2), some (Iq x3)] [Iq v15] m16
      refine pw_if_eq eX4_writes_24 (fun c18 => ?_) (fun c18 => ?_)
      · have h := h.1 c18
        refine pw_aload_n eX4_writes_43 rfl rfl ?_
        refine pw_ldc (n := (-1000001)) eX4_writes_44 ⟨by decide, by decide⟩ kc_RX4_37 ?_
        obtain ⟨v19, m20, hc21, h⟩ := h
        refine pw_cV (z := mX4_finds) (av := [Iq (-1000001)]) (st := []) eX4_writes_46 lk_RX4_39 rfl (by decide) (by decide) sh34 rfl rfl (Nat.le_of_ble_eq_true rfl) rfl hc21 ?_
        show PW S mX4_writes Q 49 [some (Aq 34), some (Iq x1), some (Iq x2), some (Iq x3)] [Iq v19] m20
        exact pw_iret eX4_writes_49 h
      · have h := h.2 c18
        refine pw_aload_n eX4_writes_27 rfl rfl ?_
        refine pw_iload_n eX4_writes_28 rfl rfl ?_
        refine pw_bipush eX4_writes_29 ⟨by decide, by decide⟩ (by decide) ?_
        refine pw_iload_n eX4_writes_31 rfl rfl ?_
        obtain ⟨o22, h⟩ := h
        refine pw_iadd eX4_writes_32 o22 ?_
        obtain ⟨v23, m24, hc25, h⟩ := h
        refine pw_cS (z := mX4_at) (av := [Iq x1, Iq (6 + x2)]) (st := [Aq 34]) eX4_writes_33 lk_RX4_59 rfl (by decide) (by decide) (Nat.le_of_ble_eq_true rfl) rfl hc25 ?_
        show PW S mX4_writes Q 36 [some (Aq 34), some (Iq x1), some (Iq x2), some (Iq x3)] [Iq v23, Aq 34] m24
        refine pw_iload_n eX4_writes_36 rfl rfl ?_
        obtain ⟨v26, m27, hc28, h⟩ := h
        refine pw_cV (z := mX4_thenAt) (av := [Iq v23, Iq x3]) (st := []) eX4_writes_37 lk_RX4_158 rfl (by decide) (by decide) sh34 rfl rfl (Nat.le_of_ble_eq_true rfl) rfl hc28 ?_
        show PW S mX4_writes Q 40 [some (Aq 34), some (Iq x1), some (Iq x2), some (Iq x3)] [Iq v26] m27
        refine pw_goto eX4_writes_40 ?_
        exact pw_iret eX4_writes_49 h
set_option maxRecDepth 100000 in
theorem rg_X4_caught_0 {S : Sx} {Q : Option PV → Zm → Prop} {mem : Zm}   {x1 : Int} 
    (h : (∃ (v1 : Int) (m2 : Zm), Ct1 S mX4_isChild [Aq 34, Iq x1] mem (some (Iq v1)) m2 ∧ ((((¬ v1 = 0) → ((∃ (m6 : Zm), Ct1 S mX4_copyRow [Aq 35, Aq 38] m2 none m6 ∧ ((∃ (v8 : Int) (m9 : Zm), Ct1 S mX4_its [Aq 34, Iq x1, Iq 5] m6 (some (Iq v8)) m9 ∧ (PW S mX4_caught Q 35 [some (Aq 34), some (Iq x1), some (Iq v8), some (Iq 0)] [] m9)))))) ∧ (¬ (¬ v1 = 0) → ((∃ (v11 : Int) (m12 : Zm), Ct1 S mX4_finds [Aq 34, Iq (-1000001)] m2 (some (Iq v11)) m12 ∧ (Q (some (Iq v11)) m12)))))))) :
    PW S mX4_caught Q 0 [some (Aq 34), some (Iq x1), none, none] [] mem := by
  refine pw_aload_n eX4_caught_0 rfl rfl ?_
  refine pw_iload_n eX4_caught_1 rfl rfl ?_
  obtain ⟨v1, m2, hc3, h⟩ := h
  refine pw_cV (z := mX4_isChild) (av := [Iq x1]) (st := []) eX4_caught_2 lk_RX4_77 rfl (by decide) (by decide) sh34 rfl rfl (Nat.le_of_ble_eq_true rfl) rfl hc3 ?_
  show PW S mX4_caught Q 5 [some (Aq 34), some (Iq x1), none, none] [Iq v1] m2
  refine pw_if_ne eX4_caught_5 (fun c4 => ?_) (fun c4 => ?_)
  · have h := h.1 c4
    refine pw_aload_n eX4_caught_15 rfl rfl ?_
    refine gf_RX4_7 rfl eX4_caught_16 sh34 ?_
    refine pw_aload_n eX4_caught_19 rfl rfl ?_
    refine gf_RX4_19 rfl eX4_caught_20 sh34 ?_
    obtain ⟨m6, hc7, h⟩ := h
    refine pw_cS (z := mX4_copyRow) (av := [Aq 35, Aq 38]) (st := []) eX4_caught_23 lk_RX4_150 rfl (by decide) (by decide) (Nat.le_of_ble_eq_true rfl) rfl hc7 ?_
    show PW S mX4_caught Q 26 [some (Aq 34), some (Iq x1), none, none] [] m6
    refine pw_aload_n eX4_caught_26 rfl rfl ?_
    refine pw_iload_n eX4_caught_27 rfl rfl ?_
    refine pw_iconst eX4_caught_28 ⟨by decide, by decide⟩ ?_
    obtain ⟨v8, m9, hc10, h⟩ := h
    refine pw_cV (z := mX4_its) (av := [Iq x1, Iq 5]) (st := []) eX4_caught_29 lk_RX4_71 rfl (by decide) (by decide) sh34 rfl rfl (Nat.le_of_ble_eq_true rfl) rfl hc10 ?_
    show PW S mX4_caught Q 32 [some (Aq 34), some (Iq x1), none, none] [Iq v8] m9
    refine pw_istore_n (ls2 := [some (Aq 34), some (Iq x1), some (Iq v8), none]) eX4_caught_32 rfl (by decide) rfl ?_
    refine pw_iconst eX4_caught_33 ⟨by decide, by decide⟩ ?_
    refine pw_istore_n (ls2 := [some (Aq 34), some (Iq x1), some (Iq v8), some (Iq 0)]) eX4_caught_34 rfl (by decide) rfl ?_
    exact h
  · have h := h.2 c4
    refine pw_aload_n eX4_caught_8 rfl rfl ?_
    refine pw_ldc (n := (-1000001)) eX4_caught_9 ⟨by decide, by decide⟩ kc_RX4_37 ?_
    obtain ⟨v11, m12, hc13, h⟩ := h
    refine pw_cV (z := mX4_finds) (av := [Iq (-1000001)]) (st := []) eX4_caught_11 lk_RX4_39 rfl (by decide) (by decide) sh34 rfl rfl (Nat.le_of_ble_eq_true rfl) rfl hc13 ?_
    show PW S mX4_caught Q 14 [some (Aq 34), some (Iq x1), none, none] [Iq v11] m12
    exact pw_iret eX4_caught_14 h

set_option maxRecDepth 100000 in
theorem rg_X4_caught_35 {S : Sx} {Q : Option PV → Zm → Prop} {mem : Zm}   {x1 x2 x3 : Int} 
    (h : (((60 < x3) → ((∃ (m3 : Zm), Ct1 S mX4_copyRow [Aq 38, Aq 35] mem none m3 ∧ ((((60 < x3) → ((∃ (v6 : Int) (m7 : Zm), Ct1 S mX4_finds [Aq 34, Iq (-1000004)] m3 (some (Iq v6)) m7 ∧ (Q (some (Iq v6)) m7)))) ∧ (¬ (60 < x3) → (Q (some (Iq x3)) m3))))))) ∧ (¬ (60 < x3) → ((∃ (v9 : Int) (m10 : Zm), Ct1 S mX4_its [Aq 34, Iq x1, Iq 5] mem (some (Iq v9)) m10 ∧ ((((¬ v9 = x2) → ((∃ (m14 : Zm), Ct1 S mX4_copyRow [Aq 38, Aq 35] m10 none m14 ∧ ((((60 < x3) → ((∃ (v17 : Int) (m18 : Zm), Ct1 S mX4_finds [Aq 34, Iq (-1000004)] m14 (some (Iq v17)) m18 ∧ (Q (some (Iq v17)) m18)))) ∧ (¬ (60 < x3) → (Q (some (Iq x3)) m14))))))) ∧ (¬ (¬ v9 = x2) → ((∃ (m21 : Zm), Ct1 S mX4_day [Aq 34] m10 none m21 ∧ ((in32 (x3 + 1)) ∧ PW S mX4_caught Q 35 [some (Aq 34), some (Iq x1), some (Iq x2), some (Iq (x3 + 1))] [] m21))))))))))) :
    PW S mX4_caught Q 35 [some (Aq 34), some (Iq x1), some (Iq x2), some (Iq x3)] [] mem := by
  refine pw_iload_n eX4_caught_35 rfl rfl ?_
  refine pw_bipush eX4_caught_36 ⟨by decide, by decide⟩ (by decide) ?_
  refine pw_icmp_gt eX4_caught_38 (fun c1 => ?_) (fun c1 => ?_)
  · have h := h.1 c1
    refine pw_aload_n eX4_caught_61 rfl rfl ?_
    refine gf_RX4_19 rfl eX4_caught_62 sh34 ?_
    refine pw_aload_n eX4_caught_65 rfl rfl ?_
    refine gf_RX4_7 rfl eX4_caught_66 sh34 ?_
    obtain ⟨m3, hc4, h⟩ := h
    refine pw_cS (z := mX4_copyRow) (av := [Aq 38, Aq 35]) (st := []) eX4_caught_69 lk_RX4_150 rfl (by decide) (by decide) (Nat.le_of_ble_eq_true rfl) rfl hc4 ?_
    show PW S mX4_caught Q 72 [some (Aq 34), some (Iq x1), some (Iq x2), some (Iq x3)] [] m3
    refine pw_iload_n eX4_caught_72 rfl rfl ?_
    refine pw_bipush eX4_caught_73 ⟨by decide, by decide⟩ (by decide) ?_
    refine pw_icmp_gt eX4_caught_75 (fun c5 => ?_) (fun c5 => ?_)
    · have h := h.1 c5
      refine pw_aload_n eX4_caught_82 rfl rfl ?_
      refine pw_ldc (n := (-1000004)) eX4_caught_83 ⟨by decide, by decide⟩ kc_RX4_38 ?_
      obtain ⟨v6, m7, hc8, h⟩ := h
      refine pw_cV (z := mX4_finds) (av := [Iq (-1000004)]) (st := []) eX4_caught_85 lk_RX4_39 rfl (by decide) (by decide) sh34 rfl rfl (Nat.le_of_ble_eq_true rfl) rfl hc8 ?_
      show PW S mX4_caught Q 88 [some (Aq 34), some (Iq x1), some (Iq x2), some (Iq x3)] [Iq v6] m7
      exact pw_iret eX4_caught_88 h
    · have h := h.2 c5
      refine pw_iload_n eX4_caught_78 rfl rfl ?_
      refine pw_goto eX4_caught_79 ?_
      exact pw_iret eX4_caught_88 h
  · have h := h.2 c1
    refine pw_aload_n eX4_caught_41 rfl rfl ?_
    refine pw_iload_n eX4_caught_42 rfl rfl ?_
    refine pw_iconst eX4_caught_43 ⟨by decide, by decide⟩ ?_
    obtain ⟨v9, m10, hc11, h⟩ := h
    refine pw_cV (z := mX4_its) (av := [Iq x1, Iq 5]) (st := []) eX4_caught_44 lk_RX4_71 rfl (by decide) (by decide) sh34 rfl rfl (Nat.le_of_ble_eq_true rfl) rfl hc11 ?_
    show PW S mX4_caught Q 47 [some (Aq 34), some (Iq x1), some (Iq x2), some (Iq x3)] [Iq v9] m10
    refine pw_iload_n eX4_caught_47 rfl rfl ?_
    refine pw_icmp_ne eX4_caught_48 (fun c12 => ?_) (fun c12 => ?_)
    · have h := h.1 c12
      refine pw_aload_n eX4_caught_61 rfl rfl ?_
      refine gf_RX4_19 rfl eX4_caught_62 sh34 ?_
      refine pw_aload_n eX4_caught_65 rfl rfl ?_
      refine gf_RX4_7 rfl eX4_caught_66 sh34 ?_
      obtain ⟨m14, hc15, h⟩ := h
      refine pw_cS (z := mX4_copyRow) (av := [Aq 38, Aq 35]) (st := []) eX4_caught_69 lk_RX4_150 rfl (by decide) (by decide) (Nat.le_of_ble_eq_true rfl) rfl hc15 ?_
      show PW S mX4_caught Q 72 [some (Aq 34), some (Iq x1), some (Iq x2), some (Iq x3)] [] m14
      refine pw_iload_n eX4_caught_72 rfl rfl ?_
      refine pw_bipush eX4_caught_73 ⟨by decide, by decide⟩ (by decide) ?_
      refine pw_icmp_gt eX4_caught_75 (fun c16 => ?_) (fun c16 => ?_)
      · have h := h.1 c16
        refine pw_aload_n eX4_caught_82 rfl rfl ?_
        refine pw_ldc (n := (-1000004)) eX4_caught_83 ⟨by decide, by decide⟩ kc_RX4_38 ?_
        obtain ⟨v17, m18, hc19, h⟩ := h
        refine pw_cV (z := mX4_finds) (av := [Iq (-1000004)]) (st := []) eX4_caught_85 lk_RX4_39 rfl (by decide) (by decide) sh34 rfl rfl (Nat.le_of_ble_eq_true rfl) rfl hc19 ?_
        show PW S mX4_caught Q 88 [some (Aq 34), some (Iq x1), some (Iq x2), some (Iq x3)] [Iq v17] m18
        exact pw_iret eX4_caught_88 h
      · have h := h.2 c16
        refine pw_iload_n eX4_caught_78 rfl rfl ?_
        refine pw_goto eX4_caught_79 ?_
        exact pw_iret eX4_caught_88 h
    · have h := h.2 c12
      refine pw_aload_n eX4_caught_51 rfl rfl ?_
      obtain ⟨m21, hc22, h⟩ := h
      refine pw_cV (z := mX4_day) (av := []) (st := []) eX4_caught_52 lk_RX4_124 rfl (by decide) (by decide) sh34 rfl rfl (Nat.le_of_ble_eq_true rfl) rfl hc22 ?_
      show PW S mX4_caught Q 55 [some (Aq 34), some (Iq x1), some (Iq x2), some (Iq x3)] [] m21
      obtain ⟨o23, h⟩ := h
      refine pw_iinc (ls2 := [some (Aq 34), some (Iq x1), some (Iq x2), some (Iq (x3 + 1))]) eX4_caught_55 rfl o23 rfl ?_
      refine pw_goto eX4_caught_58 ?_
      exact h
set_option maxRecDepth 100000 in
theorem rg_X4_when_0 {S : Sx} {Q : Option PV → Zm → Prop} {mem : Zm}   {x1 x2 : Int} 
    (h : (∃ (v1 : Int) (m2 : Zm), Ct1 S mX4_isChild [Aq 34, Iq x1] mem (some (Iq v1)) m2 ∧ ((((v1 = 0) → ((∃ (v5 : Int) (m6 : Zm), Ct1 S mX4_finds [Aq 34, Iq (-1000001)] m2 (some (Iq v5)) m6 ∧ (Q (some (Iq v5)) m6)))) ∧ (¬ (v1 = 0) → ((∃ (v8 : Int) (m9 : Zm), Ct1 S mX4_isIn [Jq x2, Jq 0, Jq 9999] m2 (some (Iq v8)) m9 ∧ ((((¬ v8 = 0) → ((∃ (m13 : Zm), Ct1 S mX4_copyRow [Aq 35, Aq 38] m9 none m13 ∧ (PW S mX4_when Q 40 [some (Aq 34), some (Iq x1), some (Iq x2), some (Iq 0)] [] m13)))) ∧ (¬ (¬ v8 = 0) → ((∃ (v15 : Int) (m16 : Zm), Ct1 S mX4_finds [Aq 34, Iq (-1000001)] m9 (some (Iq v15)) m16 ∧ (Q (some (Iq v15)) m16))))))))))))) :
    PW S mX4_when Q 0 [some (Aq 34), some (Iq x1), some (Iq x2), none] [] mem := by
  refine pw_aload_n eX4_when_0 rfl rfl ?_
  refine pw_iload_n eX4_when_1 rfl rfl ?_
  obtain ⟨v1, m2, hc3, h⟩ := h
  refine pw_cV (z := mX4_isChild) (av := [Iq x1]) (st := []) eX4_when_2 lk_RX4_77 rfl (by decide) (by decide) sh34 rfl rfl (Nat.le_of_ble_eq_true rfl) rfl hc3 ?_
  show PW S mX4_when Q 5 [some (Aq 34), some (Iq x1), some (Iq x2), none] [Iq v1] m2
  refine pw_if_eq eX4_when_5 (fun c4 => ?_) (fun c4 => ?_)
  · have h := h.1 c4
    refine pw_aload_n eX4_when_20 rfl rfl ?_
    refine pw_ldc (n := (-1000001)) eX4_when_21 ⟨by decide, by decide⟩ kc_RX4_37 ?_
    obtain ⟨v5, m6, hc7, h⟩ := h
    refine pw_cV (z := mX4_finds) (av := [Iq (-1000001)]) (st := []) eX4_when_23 lk_RX4_39 rfl (by decide) (by decide) sh34 rfl rfl (Nat.le_of_ble_eq_true rfl) rfl hc7 ?_
    show PW S mX4_when Q 26 [some (Aq 34), some (Iq x1), some (Iq x2), none] [Iq v5] m6
    exact pw_iret eX4_when_26 h
  · have h := h.2 c4
    refine pw_iload_n eX4_when_8 rfl rfl ?_
    refine pw_i2l eX4_when_9 ?_
    refine pw_lconst (v := 0) eX4_when_10 ⟨by decide, by decide⟩ rfl ?_
    refine pw_ldc2 (n := 9999) eX4_when_11 ⟨by decide, by decide⟩ kc_RX4_93 ?_
    obtain ⟨v8, m9, hc10, h⟩ := h
    refine pw_cS (z := mX4_isIn) (av := [Jq x2, Jq 0, Jq 9999]) (st := []) eX4_when_14 lk_RX4_49 rfl (by decide) (by decide) (Nat.le_of_ble_eq_true rfl) rfl hc10 ?_
    show PW S mX4_when Q 17 [some (Aq 34), some (Iq x1), some (Iq x2), none] [Iq v8] m9
    refine pw_if_ne eX4_when_17 (fun c11 => ?_) (fun c11 => ?_)
    · have h := h.1 c11
      refine pw_aload_n eX4_when_27 rfl rfl ?_
      refine gf_RX4_7 rfl eX4_when_28 sh34 ?_
      refine pw_aload_n eX4_when_31 rfl rfl ?_
      refine gf_RX4_19 rfl eX4_when_32 sh34 ?_
      obtain ⟨m13, hc14, h⟩ := h
      refine pw_cS (z := mX4_copyRow) (av := [Aq 35, Aq 38]) (st := []) eX4_when_35 lk_RX4_150 rfl (by decide) (by decide) (Nat.le_of_ble_eq_true rfl) rfl hc14 ?_
      show PW S mX4_when Q 38 [some (Aq 34), some (Iq x1), some (Iq x2), none] [] m13
      refine pw_iconst eX4_when_38 ⟨by decide, by decide⟩ ?_
      refine pw_istore_n (ls2 := [some (Aq 34), some (Iq x1), some (Iq x2), some (Iq 0)]) eX4_when_39 rfl (by decide) rfl ?_
      exact h
    · have h := h.2 c11
      refine pw_aload_n eX4_when_20 rfl rfl ?_
      refine pw_ldc (n := (-1000001)) eX4_when_21 ⟨by decide, by decide⟩ kc_RX4_37 ?_
      obtain ⟨v15, m16, hc17, h⟩ := h
      refine pw_cV (z := mX4_finds) (av := [Iq (-1000001)]) (st := []) eX4_when_23 lk_RX4_39 rfl (by decide) (by decide) sh34 rfl rfl (Nat.le_of_ble_eq_true rfl) rfl hc17 ?_
      show PW S mX4_when Q 26 [some (Aq 34), some (Iq x1), some (Iq x2), none] [Iq v15] m16
      exact pw_iret eX4_when_26 h

set_option maxRecDepth 100000 in
theorem rg_X4_when_40 {S : Sx} {Q : Option PV → Zm → Prop} {mem : Zm}   {x1 x2 x3 : Int} 
    (h : (((60 < x3) → ((∃ (m3 : Zm), Ct1 S mX4_copyRow [Aq 38, Aq 35] mem none m3 ∧ ((((60 < x3) → ((∃ (v6 : Int) (m7 : Zm), Ct1 S mX4_finds [Aq 34, Iq (-1000004)] m3 (some (Iq v6)) m7 ∧ (Q (some (Iq v6)) m7)))) ∧ (¬ (60 < x3) → (Q (some (Iq x3)) m3))))))) ∧ (¬ (60 < x3) → ((∃ (v9 : Int) (m10 : Zm), Ct1 S mX4_its [Aq 34, Iq x1, Iq 3] mem (some (Iq v9)) m10 ∧ ((((x2 ≤ v9) → ((∃ (m14 : Zm), Ct1 S mX4_copyRow [Aq 38, Aq 35] m10 none m14 ∧ ((((60 < x3) → ((∃ (v17 : Int) (m18 : Zm), Ct1 S mX4_finds [Aq 34, Iq (-1000004)] m14 (some (Iq v17)) m18 ∧ (Q (some (Iq v17)) m18)))) ∧ (¬ (60 < x3) → (Q (some (Iq x3)) m14))))))) ∧ (¬ (x2 ≤ v9) → ((∃ (m21 : Zm), Ct1 S mX4_day [Aq 34] m10 none m21 ∧ ((in32 (x3 + 1)) ∧ PW S mX4_when Q 40 [some (Aq 34), some (Iq x1), some (Iq x2), some (Iq (x3 + 1))] [] m21))))))))))) :
    PW S mX4_when Q 40 [some (Aq 34), some (Iq x1), some (Iq x2), some (Iq x3)] [] mem := by
  refine pw_iload_n eX4_when_40 rfl rfl ?_
  refine pw_bipush eX4_when_41 ⟨by decide, by decide⟩ (by decide) ?_
  refine pw_icmp_gt eX4_when_43 (fun c1 => ?_) (fun c1 => ?_)
  · have h := h.1 c1
    refine pw_aload_n eX4_when_66 rfl rfl ?_
    refine gf_RX4_19 rfl eX4_when_67 sh34 ?_
    refine pw_aload_n eX4_when_70 rfl rfl ?_
    refine gf_RX4_7 rfl eX4_when_71 sh34 ?_
    obtain ⟨m3, hc4, h⟩ := h
    refine pw_cS (z := mX4_copyRow) (av := [Aq 38, Aq 35]) (st := []) eX4_when_74 lk_RX4_150 rfl (by decide) (by decide) (Nat.le_of_ble_eq_true rfl) rfl hc4 ?_
    show PW S mX4_when Q 77 [some (Aq 34), some (Iq x1), some (Iq x2), some (Iq x3)] [] m3
    refine pw_iload_n eX4_when_77 rfl rfl ?_
    refine pw_bipush eX4_when_78 ⟨by decide, by decide⟩ (by decide) ?_
    refine pw_icmp_gt eX4_when_80 (fun c5 => ?_) (fun c5 => ?_)
    · have h := h.1 c5
      refine pw_aload_n eX4_when_87 rfl rfl ?_
      refine pw_ldc (n := (-1000004)) eX4_when_88 ⟨by decide, by decide⟩ kc_RX4_38 ?_
      obtain ⟨v6, m7, hc8, h⟩ := h
      refine pw_cV (z := mX4_finds) (av := [Iq (-1000004)]) (st := []) eX4_when_90 lk_RX4_39 rfl (by decide) (by decide) sh34 rfl rfl (Nat.le_of_ble_eq_true rfl) rfl hc8 ?_
      show PW S mX4_when Q 93 [some (Aq 34), some (Iq x1), some (Iq x2), some (Iq x3)] [Iq v6] m7
      exact pw_iret eX4_when_93 h
    · have h := h.2 c5
      refine pw_iload_n eX4_when_83 rfl rfl ?_
      refine pw_goto eX4_when_84 ?_
      exact pw_iret eX4_when_93 h
  · have h := h.2 c1
    refine pw_aload_n eX4_when_46 rfl rfl ?_
    refine pw_iload_n eX4_when_47 rfl rfl ?_
    refine pw_iconst eX4_when_48 ⟨by decide, by decide⟩ ?_
    obtain ⟨v9, m10, hc11, h⟩ := h
    refine pw_cV (z := mX4_its) (av := [Iq x1, Iq 3]) (st := []) eX4_when_49 lk_RX4_71 rfl (by decide) (by decide) sh34 rfl rfl (Nat.le_of_ble_eq_true rfl) rfl hc11 ?_
    show PW S mX4_when Q 52 [some (Aq 34), some (Iq x1), some (Iq x2), some (Iq x3)] [Iq v9] m10
    refine pw_iload_n eX4_when_52 rfl rfl ?_
    refine pw_icmp_ge eX4_when_53 (fun c12 => ?_) (fun c12 => ?_)
    · have h := h.1 c12
      refine pw_aload_n eX4_when_66 rfl rfl ?_
      refine gf_RX4_19 rfl eX4_when_67 sh34 ?_
      refine pw_aload_n eX4_when_70 rfl rfl ?_
      refine gf_RX4_7 rfl eX4_when_71 sh34 ?_
      obtain ⟨m14, hc15, h⟩ := h
      refine pw_cS (z := mX4_copyRow) (av := [Aq 38, Aq 35]) (st := []) eX4_when_74 lk_RX4_150 rfl (by decide) (by decide) (Nat.le_of_ble_eq_true rfl) rfl hc15 ?_
      show PW S mX4_when Q 77 [some (Aq 34), some (Iq x1), some (Iq x2), some (Iq x3)] [] m14
      refine pw_iload_n eX4_when_77 rfl rfl ?_
      refine pw_bipush eX4_when_78 ⟨by decide, by decide⟩ (by decide) ?_
      refine pw_icmp_gt eX4_when_80 (fun c16 => ?_) (fun c16 => ?_)
      · have h := h.1 c16
        refine pw_aload_n eX4_when_87 rfl rfl ?_
        refine pw_ldc (n := (-1000004)) eX4_when_88 ⟨by decide, by decide⟩ kc_RX4_38 ?_
        obtain ⟨v17, m18, hc19, h⟩ := h
        refine pw_cV (z := mX4_finds) (av := [Iq (-1000004)]) (st := []) eX4_when_90 lk_RX4_39 rfl (by decide) (by decide) sh34 rfl rfl (Nat.le_of_ble_eq_true rfl) rfl hc19 ?_
        show PW S mX4_when Q 93 [some (Aq 34), some (Iq x1), some (Iq x2), some (Iq x3)] [Iq v17] m18
        exact pw_iret eX4_when_93 h
      · have h := h.2 c16
        refine pw_iload_n eX4_when_83 rfl rfl ?_
        refine pw_goto eX4_when_84 ?_
        exact pw_iret eX4_when_93 h
    · have h := h.2 c12
      refine pw_aload_n eX4_when_56 rfl rfl ?_
      obtain ⟨m21, hc22, h⟩ := h
      refine pw_cV (z := mX4_day) (av := []) (st := []) eX4_when_57 lk_RX4_124 rfl (by decide) (by decide) sh34 rfl rfl (Nat.le_of_ble_eq_true rfl) rfl hc22 ?_
      show PW S mX4_when Q 60 [some (Aq 34), some (Iq x1), some (Iq x2), some (Iq x3)] [] m21
      obtain ⟨o23, h⟩ := h
      refine pw_iinc (ls2 := [some (Aq 34), some (Iq x1), some (Iq x2), some (Iq (x3 + 1))]) eX4_when_60 rfl o23 rfl ?_
      refine pw_goto eX4_when_63 ?_
      exact h
set_option maxRecDepth 100000 in
theorem rg_X4_isAsked_0 {S : Sx} {Q : Option PV → Zm → Prop} {mem : Zm}   {x1 x2 : Int} 
    (h : (∃ (v1 : Int) (m2 : Zm), Ct1 S mX4_isChild [Aq 34, Iq x1] mem (some (Iq v1)) m2 ∧ ((((v1 = 0) → (Q (some (Iq 0)) m2)) ∧ (¬ (v1 = 0) → ((∃ (v5 : Int) (m6 : Zm), Ct1 S mX4_isIn [Jq x2, Jq 0, Jq 20] m2 (some (Iq v5)) m6 ∧ ((((v5 = 0) → (Q (some (Iq 0)) m6)) ∧ (¬ (v5 = 0) → (Q (some (Iq 1)) m6))))))))))) :
    PW S mX4_isAsked Q 0 [some (Aq 34), some (Iq x1), some (Iq x2)] [] mem := by
  refine pw_aload_n eX4_isAsked_0 rfl rfl ?_
  refine pw_iload_n eX4_isAsked_1 rfl rfl ?_
  obtain ⟨v1, m2, hc3, h⟩ := h
  refine pw_cV (z := mX4_isChild) (av := [Iq x1]) (st := []) eX4_isAsked_2 lk_RX4_77 rfl (by decide) (by decide) sh34 rfl rfl (Nat.le_of_ble_eq_true rfl) rfl hc3 ?_
  show PW S mX4_isAsked Q 5 [some (Aq 34), some (Iq x1), some (Iq x2)] [Iq v1] m2
  refine pw_if_eq eX4_isAsked_5 (fun c4 => ?_) (fun c4 => ?_)
  · have h := h.1 c4
    refine pw_iconst eX4_isAsked_24 ⟨by decide, by decide⟩ ?_
    exact pw_iret eX4_isAsked_25 h
  · have h := h.2 c4
    refine pw_iload_n eX4_isAsked_8 rfl rfl ?_
    refine pw_i2l eX4_isAsked_9 ?_
    refine pw_lconst (v := 0) eX4_isAsked_10 ⟨by decide, by decide⟩ rfl ?_
    refine pw_ldc2 (n := 20) eX4_isAsked_11 ⟨by decide, by decide⟩ kc_RX4_161 ?_
    obtain ⟨v5, m6, hc7, h⟩ := h
    refine pw_cS (z := mX4_isIn) (av := [Jq x2, Jq 0, Jq 20]) (st := []) eX4_isAsked_14 lk_RX4_49 rfl (by decide) (by decide) (Nat.le_of_ble_eq_true rfl) rfl hc7 ?_
    show PW S mX4_isAsked Q 17 [some (Aq 34), some (Iq x1), some (Iq x2)] [Iq v5] m6
    refine pw_if_eq eX4_isAsked_17 (fun c8 => ?_) (fun c8 => ?_)
    · have h := h.1 c8
      refine pw_iconst eX4_isAsked_24 ⟨by decide, by decide⟩ ?_
      exact pw_iret eX4_isAsked_25 h
    · have h := h.2 c8
      refine pw_iconst eX4_isAsked_20 ⟨by decide, by decide⟩ ?_
      refine pw_goto eX4_isAsked_21 ?_
      exact pw_iret eX4_isAsked_25 h
set_option maxRecDepth 100000 in
theorem rg_X4_copyFrom_0 {S : Sx} {Q : Option PV → Zm → Prop} {mem : Zm}   {x1 x2 : Int} 
    (h : (∃ (v1 : Int) (m2 : Zm), Ct1 S mX4_isAsked [Aq 34, Iq x1, Iq x2] mem (some (Iq v1)) m2 ∧ ((((¬ v1 = 0) → ((∃ (v5 : Int) (m6 : Zm), Ct1 S mX4_its [Aq 34, Iq x1, Iq 2] m2 (some (Iq v5)) m6 ∧ (PW S mX4_copyFrom Q 32 [some (Aq 34), some (Iq x1), some (Iq x2), some (Iq v5), some (Iq (-1)), some (Iq (-1)), some (Iq 0), none, none] [] m6)))) ∧ (¬ (¬ v1 = 0) → ((∃ (v8 : Int) (m9 : Zm), Ct1 S mX4_finds [Aq 34, Iq (-1000001)] m2 (some (Iq v8)) m9 ∧ (Q (some (Iq v8)) m9)))))))) :
    PW S mX4_copyFrom Q 0 [some (Aq 34), some (Iq x1), some (Iq x2), none, none, none, none, none, none] [] mem := by
  refine pw_aload_n eX4_copyFrom_0 rfl rfl ?_
  refine pw_iload_n eX4_copyFrom_1 rfl rfl ?_
  refine pw_iload_n eX4_copyFrom_2 rfl rfl ?_
  obtain ⟨v1, m2, hc3, h⟩ := h
  refine pw_cV (z := mX4_isAsked) (av := [Iq x1, Iq x2]) (st := []) eX4_copyFrom_3 lk_RX4_163 rfl (by decide) (by decide) sh34 rfl rfl (Nat.le_of_ble_eq_true rfl) rfl hc3 ?_
  show PW S mX4_copyFrom Q 6 [some (Aq 34), some (Iq x1), some (Iq x2), none, none, none, none, none, none] [Iq v1] m2
  refine pw_if_ne eX4_copyFrom_6 (fun c4 => ?_) (fun c4 => ?_)
  · have h := h.1 c4
    refine pw_aload_n eX4_copyFrom_16 rfl rfl ?_
    refine pw_iload_n eX4_copyFrom_17 rfl rfl ?_
    refine pw_iconst eX4_copyFrom_18 ⟨by decide, by decide⟩ ?_
    obtain ⟨v5, m6, hc7, h⟩ := h
    refine pw_cV (z := mX4_its) (av := [Iq x1, Iq 2]) (st := []) eX4_copyFrom_19 lk_RX4_71 rfl (by decide) (by decide) sh34 rfl rfl (Nat.le_of_ble_eq_true rfl) rfl hc7 ?_
    show PW S mX4_copyFrom Q 22 [some (Aq 34), some (Iq x1), some (Iq x2), none, none, none, none, none, none] [Iq v5] m6
    refine pw_istore_n (ls2 := [some (Aq 34), some (Iq x1), some (Iq x2), some (Iq v5), none, none, none, none, none]) eX4_copyFrom_22 rfl (by decide) rfl ?_
    refine pw_iconst eX4_copyFrom_23 ⟨by decide, by decide⟩ ?_
    refine pw_istore (ls2 := [some (Aq 34), some (Iq x1), some (Iq x2), some (Iq v5), some (Iq (-1)), none, none, none, none]) eX4_copyFrom_24 (by decide) rfl ?_
    refine pw_iconst eX4_copyFrom_26 ⟨by decide, by decide⟩ ?_
    refine pw_istore (ls2 := [some (Aq 34), some (Iq x1), some (Iq x2), some (Iq v5), some (Iq (-1)), some (Iq (-1)), none, none, none]) eX4_copyFrom_27 (by decide) rfl ?_
    refine pw_iconst eX4_copyFrom_29 ⟨by decide, by decide⟩ ?_
    refine pw_istore (ls2 := [some (Aq 34), some (Iq x1), some (Iq x2), some (Iq v5), some (Iq (-1)), some (Iq (-1)), some (Iq 0), none, none]) eX4_copyFrom_30 (by decide) rfl ?_
    exact h
  · have h := h.2 c4
    refine pw_aload_n eX4_copyFrom_9 rfl rfl ?_
    refine pw_ldc (n := (-1000001)) eX4_copyFrom_10 ⟨by decide, by decide⟩ kc_RX4_37 ?_
    obtain ⟨v8, m9, hc10, h⟩ := h
    refine pw_cV (z := mX4_finds) (av := [Iq (-1000001)]) (st := []) eX4_copyFrom_12 lk_RX4_39 rfl (by decide) (by decide) sh34 rfl rfl (Nat.le_of_ble_eq_true rfl) rfl hc10 ?_
    show PW S mX4_copyFrom Q 15 [some (Aq 34), some (Iq x1), some (Iq x2), none, none, none, none, none, none] [Iq v8] m9
    exact pw_iret eX4_copyFrom_15 h

set_option maxRecDepth 100000 in
theorem rg_X4_copyFrom_32 {S : Sx} {Q : Option PV → Zm → Prop} {mem : Zm}   {x1 x2 x3 x4 x5 x6 : Int} 
    (h : (((mem 35 0 < x6) → ((∃ (v2 : Int) (m3 : Zm), Ct1 S mX4_at [Iq x1, Iq 2] mem (some (Iq v2)) m3 ∧ ((0 ≤ v2 ∧ v2 < 134) ∧ Q (some (Iq x4)) (mup m3 35 (v2).toNat x3))))) ∧ (¬ (mem 35 0 < x6) → ((((mem 35 0 ≤ x6) → ((((-1 = x1) → ((in32 (x6 + 1)) ∧ PW S mX4_copyFrom Q 32 [some (Aq 34), some (Iq x1), some (Iq x2), some (Iq x3), some (Iq x4), some (Iq x5), some (Iq (x6 + 1)), none, none] [] mem)) ∧ (¬ (-1 = x1) → ((∃ (v9 : Int) (m10 : Zm), Ct1 S mX4_at [Iq x1, Iq 2] mem (some (Iq v9)) m10 ∧ ((0 ≤ v9 ∧ v9 < 134) ∧ (∃ (v13 : Int) (m14 : Zm), Ct1 S mX4_at [Iq x1, Iq 3] (mup m10 35 (v9).toNat (-1)) (some (Iq v13)) m14 ∧ ((∃ (v16 : Int) (m17 : Zm), Ct1 S mX4_thenAt [Aq 34, Iq v13, Iq x2] m14 (some (Iq v16)) m17 ∧ ((((v16 ≤ x5) → ((∃ (v20 : Int) (m21 : Zm), Ct1 S mX4_greatest [Iq x5, Iq v16] m17 (some (Iq v20)) m21 ∧ ((in32 (x6 + 1)) ∧ PW S mX4_copyFrom Q 32 [some (Aq 34), some (Iq x1), some (Iq x2), some (Iq x3), some (Iq x4), some (Iq v20), some (Iq (x6 + 1)), none, none] [] m21)))) ∧ (¬ (v16 ≤ x5) → ((∃ (v24 : Int) (m25 : Zm), Ct1 S mX4_greatest [Iq x5, Iq v16] m17 (some (Iq v24)) m25 ∧ ((in32 (x6 + 1)) ∧ PW S mX4_copyFrom Q 32 [some (Aq 34), some (Iq x1), some (Iq x2), some (Iq x3), some (Iq (-1)), some (Iq v24), some (Iq (x6 + 1)), none, none] [] m25)))))))))))))))) ∧ (¬ (mem 35 0 ≤ x6) → ((((x6 = x1) → ((in32 (x6 + 1)) ∧ PW S mX4_copyFrom Q 32 [some (Aq 34), some (Iq x1), some (Iq x2), some (Iq x3), some (Iq x4), some (Iq x5), some (Iq (x6 + 1)), none, none] [] mem)) ∧ (¬ (x6 = x1) → ((∃ (v30 : Int) (m31 : Zm), Ct1 S mX4_at [Iq x1, Iq 2] mem (some (Iq v30)) m31 ∧ ((0 ≤ v30 ∧ v30 < 134) ∧ (∃ (v34 : Int) (m35 : Zm), Ct1 S mX4_at [Iq x1, Iq 3] (mup m31 35 (v30).toNat x6) (some (Iq v34)) m35 ∧ ((∃ (v37 : Int) (m38 : Zm), Ct1 S mX4_thenAt [Aq 34, Iq v34, Iq x2] m35 (some (Iq v37)) m38 ∧ ((((v37 ≤ x5) → ((∃ (v41 : Int) (m42 : Zm), Ct1 S mX4_greatest [Iq x5, Iq v37] m38 (some (Iq v41)) m42 ∧ ((in32 (x6 + 1)) ∧ PW S mX4_copyFrom Q 32 [some (Aq 34), some (Iq x1), some (Iq x2), some (Iq x3), some (Iq x4), some (Iq v41), some (Iq (x6 + 1)), none, none] [] m42)))) ∧ (¬ (v37 ≤ x5) → ((∃ (v45 : Int) (m46 : Zm), Ct1 S mX4_greatest [Iq x5, Iq v37] m38 (some (Iq v45)) m46 ∧ ((in32 (x6 + 1)) ∧ PW S mX4_copyFrom Q 32 [some (Aq 34), some (Iq x1), some (Iq x2), some (Iq x3), some (Iq x6), some (Iq v45), some (Iq (x6 + 1)), none, none] [] m46))))))))))))))))))))) :
    PW S mX4_copyFrom Q 32 [some (Aq 34), some (Iq x1), some (Iq x2), some (Iq x3), some (Iq x4), some (Iq x5), some (Iq x6), none, none] [] mem := by
  refine pw_iload eX4_copyFrom_32 rfl ?_
  refine pw_aload_n eX4_copyFrom_34 rfl rfl ?_
  refine gf_RX4_7 rfl eX4_copyFrom_35 sh34 ?_
  refine pw_iconst eX4_copyFrom_38 ⟨by decide, by decide⟩ ?_
  refine pw_iald eX4_copyFrom_39 sh35 (by decide) ?_
  refine pw_icmp_gt eX4_copyFrom_40 (fun c1 => ?_) (fun c1 => ?_)
  · have h := h.1 c1
    refine pw_aload_n eX4_copyFrom_123 rfl rfl ?_
    refine gf_RX4_7 rfl eX4_copyFrom_124 sh34 ?_
    refine pw_iload_n eX4_copyFrom_127 rfl rfl ?_
    refine pw_iconst eX4_copyFrom_128 ⟨by decide, by decide⟩ ?_
    obtain ⟨v2, m3, hc4, h⟩ := h
    refine pw_cS (z := mX4_at) (av := [Iq x1, Iq 2]) (st := [Aq 35]) eX4_copyFrom_129 lk_RX4_59 rfl (by decide) (by decide) (Nat.le_of_ble_eq_true rfl) rfl hc4 ?_
    show PW S mX4_copyFrom Q 132 [some (Aq 34), some (Iq x1), some (Iq x2), some (Iq x3), some (Iq x4), some (Iq x5), some (Iq x6), none, none] [Iq v2, Aq 35] m3
    refine pw_iload_n eX4_copyFrom_132 rfl rfl ?_
    obtain ⟨o5, h⟩ := h
    refine pw_iast eX4_copyFrom_133 sh35 o5 ?_
    refine pw_iload eX4_copyFrom_134 rfl ?_
    exact pw_iret eX4_copyFrom_136 h
  · have h := h.2 c1
    refine pw_iload eX4_copyFrom_43 rfl ?_
    refine pw_aload_n eX4_copyFrom_45 rfl rfl ?_
    refine gf_RX4_7 rfl eX4_copyFrom_46 sh34 ?_
    refine pw_iconst eX4_copyFrom_49 ⟨by decide, by decide⟩ ?_
    refine pw_iald eX4_copyFrom_50 sh35 (by decide) ?_
    refine pw_icmp_ge eX4_copyFrom_51 (fun c6 => ?_) (fun c6 => ?_)
    · have h := h.1 c6
      refine pw_iconst eX4_copyFrom_59 ⟨by decide, by decide⟩ ?_
      refine pw_istore (ls2 := [some (Aq 34), some (Iq x1), some (Iq x2), some (Iq x3), some (Iq x4), some (Iq x5), some (Iq x6), some (Iq (-1)), none]) eX4_copyFrom_60 (by decide) rfl ?_
      refine pw_iload eX4_copyFrom_62 rfl ?_
      refine pw_iload_n eX4_copyFrom_64 rfl rfl ?_
      refine pw_icmp_eq eX4_copyFrom_65 (fun c7 => ?_) (fun c7 => ?_)
      · have h := h.1 c7
        obtain ⟨o8, h⟩ := h
        refine pw_iinc (ls2 := [some (Aq 34), some (Iq x1), some (Iq x2), some (Iq x3), some (Iq x4), some (Iq x5), some (Iq (x6 + 1)), some (Iq (-1)), none]) eX4_copyFrom_117 rfl o8 rfl ?_
        refine pw_goto eX4_copyFrom_120 ?_
        exact pw_drop (bs := [true, true, true, true, true, true, true, false, false]) h
      · have h := h.2 c7
        refine pw_aload_n eX4_copyFrom_68 rfl rfl ?_
        refine gf_RX4_7 rfl eX4_copyFrom_69 sh34 ?_
        refine pw_iload_n eX4_copyFrom_72 rfl rfl ?_
        refine pw_iconst eX4_copyFrom_73 ⟨by decide, by decide⟩ ?_
        obtain ⟨v9, m10, hc11, h⟩ := h
        refine pw_cS (z := mX4_at) (av := [Iq x1, Iq 2]) (st := [Aq 35]) eX4_copyFrom_74 lk_RX4_59 rfl (by decide) (by decide) (Nat.le_of_ble_eq_true rfl) rfl hc11 ?_
        show PW S mX4_copyFrom Q 77 [some (Aq 34), some (Iq x1), some (Iq x2), some (Iq x3), some (Iq x4), some (Iq x5), some (Iq x6), some (Iq (-1)), none] [Iq v9, Aq 35] m10
        refine pw_iload eX4_copyFrom_77 rfl ?_
        obtain ⟨o12, h⟩ := h
        refine pw_iast eX4_copyFrom_79 sh35 o12 ?_
        refine pw_aload_n eX4_copyFrom_80 rfl rfl ?_
        refine pw_iload_n eX4_copyFrom_81 rfl rfl ?_
        refine pw_iconst eX4_copyFrom_82 ⟨by decide, by decide⟩ ?_
        obtain ⟨v13, m14, hc15, h⟩ := h
        refine pw_cS (z := mX4_at) (av := [Iq x1, Iq 3]) (st := [Aq 34]) eX4_copyFrom_83 lk_RX4_59 rfl (by decide) (by decide) (Nat.le_of_ble_eq_true rfl) rfl hc15 ?_
        show PW S mX4_copyFrom Q 86 [some (Aq 34), some (Iq x1), some (Iq x2), some (Iq x3), some (Iq x4), some (Iq x5), some (Iq x6), some (Iq (-1)), none] [Iq v13, Aq 34] m14
        refine pw_iload_n eX4_copyFrom_86 rfl rfl ?_
        obtain ⟨v16, m17, hc18, h⟩ := h
        refine pw_cV (z := mX4_thenAt) (av := [Iq v13, Iq x2]) (st := []) eX4_copyFrom_87 lk_RX4_158 rfl (by decide) (by decide) sh34 rfl rfl (Nat.le_of_ble_eq_true rfl) rfl hc18 ?_
        show PW S mX4_copyFrom Q 90 [some (Aq 34), some (Iq x1), some (Iq x2), some (Iq x3), some (Iq x4), some (Iq x5), some (Iq x6), some (Iq (-1)), none] [Iq v16] m17
        refine pw_istore (ls2 := [some (Aq 34), some (Iq x1), some (Iq x2), some (Iq x3), some (Iq x4), some (Iq x5), some (Iq x6), some (Iq (-1)), some (Iq v16)]) eX4_copyFrom_90 (by decide) rfl ?_
        refine pw_iload eX4_copyFrom_92 rfl ?_
        refine pw_iload eX4_copyFrom_94 rfl ?_
        refine pw_icmp_le eX4_copyFrom_96 (fun c19 => ?_) (fun c19 => ?_)
        · have h := h.1 c19
          refine pw_iload eX4_copyFrom_104 rfl ?_
          refine pw_istore (ls2 := [some (Aq 34), some (Iq x1), some (Iq x2), some (Iq x3), some (Iq x4), some (Iq x5), some (Iq x6), some (Iq (-1)), some (Iq v16)]) eX4_copyFrom_106 (by decide) rfl ?_
          refine pw_iload eX4_copyFrom_108 rfl ?_
          refine pw_iload eX4_copyFrom_110 rfl ?_
          obtain ⟨v20, m21, hc22, h⟩ := h
          refine pw_cS (z := mX4_greatest) (av := [Iq x5, Iq v16]) (st := []) eX4_copyFrom_112 lk_RX4_137 rfl (by decide) (by decide) (Nat.le_of_ble_eq_true rfl) rfl hc22 ?_
          show PW S mX4_copyFrom Q 115 [some (Aq 34), some (Iq x1), some (Iq x2), some (Iq x3), some (Iq x4), some (Iq x5), some (Iq x6), some (Iq (-1)), some (Iq v16)] [Iq v20] m21
          refine pw_istore (ls2 := [some (Aq 34), some (Iq x1), some (Iq x2), some (Iq x3), some (Iq x4), some (Iq v20), some (Iq x6), some (Iq (-1)), some (Iq v16)]) eX4_copyFrom_115 (by decide) rfl ?_
          obtain ⟨o23, h⟩ := h
          refine pw_iinc (ls2 := [some (Aq 34), some (Iq x1), some (Iq x2), some (Iq x3), some (Iq x4), some (Iq v20), some (Iq (x6 + 1)), some (Iq (-1)), some (Iq v16)]) eX4_copyFrom_117 rfl o23 rfl ?_
          refine pw_goto eX4_copyFrom_120 ?_
          exact pw_drop (bs := [true, true, true, true, true, true, true, false, false]) h
        · have h := h.2 c19
          refine pw_iload eX4_copyFrom_99 rfl ?_
          refine pw_goto eX4_copyFrom_101 ?_
          refine pw_istore (ls2 := [some (Aq 34), some (Iq x1), some (Iq x2), some (Iq x3), some (Iq (-1)), some (Iq x5), some (Iq x6), some (Iq (-1)), some (Iq v16)]) eX4_copyFrom_106 (by decide) rfl ?_
          refine pw_iload eX4_copyFrom_108 rfl ?_
          refine pw_iload eX4_copyFrom_110 rfl ?_
          obtain ⟨v24, m25, hc26, h⟩ := h
          refine pw_cS (z := mX4_greatest) (av := [Iq x5, Iq v16]) (st := []) eX4_copyFrom_112 lk_RX4_137 rfl (by decide) (by decide) (Nat.le_of_ble_eq_true rfl) rfl hc26 ?_
          show PW S mX4_copyFrom Q 115 [some (Aq 34), some (Iq x1), some (Iq x2), some (Iq x3), some (Iq (-1)), some (Iq x5), some (Iq x6), some (Iq (-1)), some (Iq v16)] [Iq v24] m25
          refine pw_istore (ls2 := [some (Aq 34), some (Iq x1), some (Iq x2), some (Iq x3), some (Iq (-1)), some (Iq v24), some (Iq x6), some (Iq (-1)), some (Iq v16)]) eX4_copyFrom_115 (by decide) rfl ?_
          obtain ⟨o27, h⟩ := h
          refine pw_iinc (ls2 := [some (Aq 34), some (Iq x1), some (Iq x2), some (Iq x3), some (Iq (-1)), some (Iq v24), some (Iq (x6 + 1)), some (Iq (-1)), some (Iq v16)]) eX4_copyFrom_117 rfl o27 rfl ?_
          refine pw_goto eX4_copyFrom_120 ?_
          exact pw_drop (bs := [true, true, true, true, true, true, true, false, false]) h
    · have h := h.2 c6
      refine pw_iload eX4_copyFrom_54 rfl ?_
      refine pw_goto eX4_copyFrom_56 ?_
      refine pw_istore (ls2 := [some (Aq 34), some (Iq x1), some (Iq x2), some (Iq x3), some (Iq x4), some (Iq x5), some (Iq x6), some (Iq x6), none]) eX4_copyFrom_60 (by decide) rfl ?_
      refine pw_iload eX4_copyFrom_62 rfl ?_
      refine pw_iload_n eX4_copyFrom_64 rfl rfl ?_
      refine pw_icmp_eq eX4_copyFrom_65 (fun c28 => ?_) (fun c28 => ?_)
      · have h := h.1 c28
        obtain ⟨o29, h⟩ := h
        refine pw_iinc (ls2 := [some (Aq 34), some (Iq x1), some (Iq x2), some (Iq x3), some (Iq x4), some (Iq x5), some (Iq (x6 + 1)), some (Iq x6), none]) eX4_copyFrom_117 rfl o29 rfl ?_
        refine pw_goto eX4_copyFrom_120 ?_
        exact pw_drop (bs := [true, true, true, true, true, true, true, false, false]) h
      · have h := h.2 c28
        refine pw_aload_n eX4_copyFrom_68 rfl rfl ?_
        refine gf_RX4_7 rfl eX4_copyFrom_69 sh34 ?_
        refine pw_iload_n eX4_copyFrom_72 rfl rfl ?_
        refine pw_iconst eX4_copyFrom_73 ⟨by decide, by decide⟩ ?_
        obtain ⟨v30, m31, hc32, h⟩ := h
        refine pw_cS (z := mX4_at) (av := [Iq x1, Iq 2]) (st := [Aq 35]) eX4_copyFrom_74 lk_RX4_59 rfl (by decide) (by decide) (Nat.le_of_ble_eq_true rfl) rfl hc32 ?_
        show PW S mX4_copyFrom Q 77 [some (Aq 34), some (Iq x1), some (Iq x2), some (Iq x3), some (Iq x4), some (Iq x5), some (Iq x6), some (Iq x6), none] [Iq v30, Aq 35] m31
        refine pw_iload eX4_copyFrom_77 rfl ?_
        obtain ⟨o33, h⟩ := h
        refine pw_iast eX4_copyFrom_79 sh35 o33 ?_
        refine pw_aload_n eX4_copyFrom_80 rfl rfl ?_
        refine pw_iload_n eX4_copyFrom_81 rfl rfl ?_
        refine pw_iconst eX4_copyFrom_82 ⟨by decide, by decide⟩ ?_
        obtain ⟨v34, m35, hc36, h⟩ := h
        refine pw_cS (z := mX4_at) (av := [Iq x1, Iq 3]) (st := [Aq 34]) eX4_copyFrom_83 lk_RX4_59 rfl (by decide) (by decide) (Nat.le_of_ble_eq_true rfl) rfl hc36 ?_
        show PW S mX4_copyFrom Q 86 [some (Aq 34), some (Iq x1), some (Iq x2), some (Iq x3), some (Iq x4), some (Iq x5), some (Iq x6), some (Iq x6), none] [Iq v34, Aq 34] m35
        refine pw_iload_n eX4_copyFrom_86 rfl rfl ?_
        obtain ⟨v37, m38, hc39, h⟩ := h
        refine pw_cV (z := mX4_thenAt) (av := [Iq v34, Iq x2]) (st := []) eX4_copyFrom_87 lk_RX4_158 rfl (by decide) (by decide) sh34 rfl rfl (Nat.le_of_ble_eq_true rfl) rfl hc39 ?_
        show PW S mX4_copyFrom Q 90 [some (Aq 34), some (Iq x1), some (Iq x2), some (Iq x3), some (Iq x4), some (Iq x5), some (Iq x6), some (Iq x6), none] [Iq v37] m38
        refine pw_istore (ls2 := [some (Aq 34), some (Iq x1), some (Iq x2), some (Iq x3), some (Iq x4), some (Iq x5), some (Iq x6), some (Iq x6), some (Iq v37)]) eX4_copyFrom_90 (by decide) rfl ?_
        refine pw_iload eX4_copyFrom_92 rfl ?_
        refine pw_iload eX4_copyFrom_94 rfl ?_
        refine pw_icmp_le eX4_copyFrom_96 (fun c40 => ?_) (fun c40 => ?_)
        · have h := h.1 c40
          refine pw_iload eX4_copyFrom_104 rfl ?_
          refine pw_istore (ls2 := [some (Aq 34), some (Iq x1), some (Iq x2), some (Iq x3), some (Iq x4), some (Iq x5), some (Iq x6), some (Iq x6), some (Iq v37)]) eX4_copyFrom_106 (by decide) rfl ?_
          refine pw_iload eX4_copyFrom_108 rfl ?_
          refine pw_iload eX4_copyFrom_110 rfl ?_
          obtain ⟨v41, m42, hc43, h⟩ := h
          refine pw_cS (z := mX4_greatest) (av := [Iq x5, Iq v37]) (st := []) eX4_copyFrom_112 lk_RX4_137 rfl (by decide) (by decide) (Nat.le_of_ble_eq_true rfl) rfl hc43 ?_
          show PW S mX4_copyFrom Q 115 [some (Aq 34), some (Iq x1), some (Iq x2), some (Iq x3), some (Iq x4), some (Iq x5), some (Iq x6), some (Iq x6), some (Iq v37)] [Iq v41] m42
          refine pw_istore (ls2 := [some (Aq 34), some (Iq x1), some (Iq x2), some (Iq x3), some (Iq x4), some (Iq v41), some (Iq x6), some (Iq x6), some (Iq v37)]) eX4_copyFrom_115 (by decide) rfl ?_
          obtain ⟨o44, h⟩ := h
          refine pw_iinc (ls2 := [some (Aq 34), some (Iq x1), some (Iq x2), some (Iq x3), some (Iq x4), some (Iq v41), some (Iq (x6 + 1)), some (Iq x6), some (Iq v37)]) eX4_copyFrom_117 rfl o44 rfl ?_
          refine pw_goto eX4_copyFrom_120 ?_
          exact pw_drop (bs := [true, true, true, true, true, true, true, false, false]) h
        · have h := h.2 c40
          refine pw_iload eX4_copyFrom_99 rfl ?_
          refine pw_goto eX4_copyFrom_101 ?_
          refine pw_istore (ls2 := [some (Aq 34), some (Iq x1), some (Iq x2), some (Iq x3), some (Iq x6), some (Iq x5), some (Iq x6), some (Iq x6), some (Iq v37)]) eX4_copyFrom_106 (by decide) rfl ?_
          refine pw_iload eX4_copyFrom_108 rfl ?_
          refine pw_iload eX4_copyFrom_110 rfl ?_
          obtain ⟨v45, m46, hc47, h⟩ := h
          refine pw_cS (z := mX4_greatest) (av := [Iq x5, Iq v37]) (st := []) eX4_copyFrom_112 lk_RX4_137 rfl (by decide) (by decide) (Nat.le_of_ble_eq_true rfl) rfl hc47 ?_
          show PW S mX4_copyFrom Q 115 [some (Aq 34), some (Iq x1), some (Iq x2), some (Iq x3), some (Iq x6), some (Iq x5), some (Iq x6), some (Iq x6), some (Iq v37)] [Iq v45] m46
          refine pw_istore (ls2 := [some (Aq 34), some (Iq x1), some (Iq x2), some (Iq x3), some (Iq x6), some (Iq v45), some (Iq x6), some (Iq x6), some (Iq v37)]) eX4_copyFrom_115 (by decide) rfl ?_
          obtain ⟨o48, h⟩ := h
          refine pw_iinc (ls2 := [some (Aq 34), some (Iq x1), some (Iq x2), some (Iq x3), some (Iq x6), some (Iq v45), some (Iq (x6 + 1)), some (Iq x6), some (Iq v37)]) eX4_copyFrom_117 rfl o48 rfl ?_
          refine pw_goto eX4_copyFrom_120 ?_
          exact pw_drop (bs := [true, true, true, true, true, true, true, false, false]) h
set_option maxRecDepth 100000 in
theorem rg_X4_kindFor_0 {S : Sx} {Q : Option PV → Zm → Prop} {mem : Zm}   {x1 x2 : Int} 
    (h : (∃ (v1 : Int) (m2 : Zm), Ct1 S mX4_isAsked [Aq 34, Iq x1, Iq x2] mem (some (Iq v1)) m2 ∧ ((((¬ v1 = 0) → ((∃ (v5 : Int) (m6 : Zm), Ct1 S mX4_its [Aq 34, Iq x1, Iq 0] m2 (some (Iq v5)) m6 ∧ (PW S mX4_kindFor Q 32 [some (Aq 34), some (Iq x1), some (Iq x2), some (Iq v5), some (Iq 0), some (Iq (-1)), some (Iq 0), none] [] m6)))) ∧ (¬ (¬ v1 = 0) → ((∃ (v8 : Int) (m9 : Zm), Ct1 S mX4_finds [Aq 34, Iq (-1000001)] m2 (some (Iq v8)) m9 ∧ (Q (some (Iq v8)) m9)))))))) :
    PW S mX4_kindFor Q 0 [some (Aq 34), some (Iq x1), some (Iq x2), none, none, none, none, none] [] mem := by
  refine pw_aload_n eX4_kindFor_0 rfl rfl ?_
  refine pw_iload_n eX4_kindFor_1 rfl rfl ?_
  refine pw_iload_n eX4_kindFor_2 rfl rfl ?_
  obtain ⟨v1, m2, hc3, h⟩ := h
  refine pw_cV (z := mX4_isAsked) (av := [Iq x1, Iq x2]) (st := []) eX4_kindFor_3 lk_RX4_163 rfl (by decide) (by decide) sh34 rfl rfl (Nat.le_of_ble_eq_true rfl) rfl hc3 ?_
  show PW S mX4_kindFor Q 6 [some (Aq 34), some (Iq x1), some (Iq x2), none, none, none, none, none] [Iq v1] m2
  refine pw_if_ne eX4_kindFor_6 (fun c4 => ?_) (fun c4 => ?_)
  · have h := h.1 c4
    refine pw_aload_n eX4_kindFor_16 rfl rfl ?_
    refine pw_iload_n eX4_kindFor_17 rfl rfl ?_
    refine pw_iconst eX4_kindFor_18 ⟨by decide, by decide⟩ ?_
    obtain ⟨v5, m6, hc7, h⟩ := h
    refine pw_cV (z := mX4_its) (av := [Iq x1, Iq 0]) (st := []) eX4_kindFor_19 lk_RX4_71 rfl (by decide) (by decide) sh34 rfl rfl (Nat.le_of_ble_eq_true rfl) rfl hc7 ?_
    show PW S mX4_kindFor Q 22 [some (Aq 34), some (Iq x1), some (Iq x2), none, none, none, none, none] [Iq v5] m6
    refine pw_istore_n (ls2 := [some (Aq 34), some (Iq x1), some (Iq x2), some (Iq v5), none, none, none, none]) eX4_kindFor_22 rfl (by decide) rfl ?_
    refine pw_iconst eX4_kindFor_23 ⟨by decide, by decide⟩ ?_
    refine pw_istore (ls2 := [some (Aq 34), some (Iq x1), some (Iq x2), some (Iq v5), some (Iq 0), none, none, none]) eX4_kindFor_24 (by decide) rfl ?_
    refine pw_iconst eX4_kindFor_26 ⟨by decide, by decide⟩ ?_
    refine pw_istore (ls2 := [some (Aq 34), some (Iq x1), some (Iq x2), some (Iq v5), some (Iq 0), some (Iq (-1)), none, none]) eX4_kindFor_27 (by decide) rfl ?_
    refine pw_iconst eX4_kindFor_29 ⟨by decide, by decide⟩ ?_
    refine pw_istore (ls2 := [some (Aq 34), some (Iq x1), some (Iq x2), some (Iq v5), some (Iq 0), some (Iq (-1)), some (Iq 0), none]) eX4_kindFor_30 (by decide) rfl ?_
    exact h
  · have h := h.2 c4
    refine pw_aload_n eX4_kindFor_9 rfl rfl ?_
    refine pw_ldc (n := (-1000001)) eX4_kindFor_10 ⟨by decide, by decide⟩ kc_RX4_37 ?_
    obtain ⟨v8, m9, hc10, h⟩ := h
    refine pw_cV (z := mX4_finds) (av := [Iq (-1000001)]) (st := []) eX4_kindFor_12 lk_RX4_39 rfl (by decide) (by decide) sh34 rfl rfl (Nat.le_of_ble_eq_true rfl) rfl hc10 ?_
    show PW S mX4_kindFor Q 15 [some (Aq 34), some (Iq x1), some (Iq x2), none, none, none, none, none] [Iq v8] m9
    exact pw_iret eX4_kindFor_15 h

set_option maxRecDepth 100000 in
theorem rg_X4_kindFor_32 {S : Sx} {Q : Option PV → Zm → Prop} {mem : Zm}   {x1 x2 x3 x4 x5 x6 : Int} 
    (h : (((6 < x6) → ((∃ (v2 : Int) (m3 : Zm), Ct1 S mX4_at [Iq x1, Iq 0] mem (some (Iq v2)) m3 ∧ ((0 ≤ v2 ∧ v2 < 134) ∧ Q (some (Iq x4)) (mup m3 35 (v2).toNat x3))))) ∧ (¬ (6 < x6) → ((∃ (v6 : Int) (m7 : Zm), Ct1 S mX4_at [Iq x1, Iq 0] mem (some (Iq v6)) m7 ∧ ((0 ≤ v6 ∧ v6 < 134) ∧ (∃ (v10 : Int) (m11 : Zm), Ct1 S mX4_at [Iq x1, Iq 3] (mup m7 35 (v6).toNat x6) (some (Iq v10)) m11 ∧ ((∃ (v13 : Int) (m14 : Zm), Ct1 S mX4_thenAt [Aq 34, Iq v10, Iq x2] m11 (some (Iq v13)) m14 ∧ ((((v13 ≤ x5) → ((∃ (v17 : Int) (m18 : Zm), Ct1 S mX4_greatest [Iq x5, Iq v13] m14 (some (Iq v17)) m18 ∧ ((in32 (x6 + 1)) ∧ PW S mX4_kindFor Q 32 [some (Aq 34), some (Iq x1), some (Iq x2), some (Iq x3), some (Iq x4), some (Iq v17), some (Iq (x6 + 1)), none] [] m18)))) ∧ (¬ (v13 ≤ x5) → ((∃ (v21 : Int) (m22 : Zm), Ct1 S mX4_greatest [Iq x5, Iq v13] m14 (some (Iq v21)) m22 ∧ ((in32 (x6 + 1)) ∧ PW S mX4_kindFor Q 32 [some (Aq 34), some (Iq x1), some (Iq x2), some (Iq x3), some (Iq x6), some (Iq v21), some (Iq (x6 + 1)), none] [] m22))))))))))))))) :
    PW S mX4_kindFor Q 32 [some (Aq 34), some (Iq x1), some (Iq x2), some (Iq x3), some (Iq x4), some (Iq x5), some (Iq x6), none] [] mem := by
  refine pw_iload eX4_kindFor_32 rfl ?_
  refine pw_bipush eX4_kindFor_34 ⟨by decide, by decide⟩ (by decide) ?_
  refine pw_icmp_gt eX4_kindFor_36 (fun c1 => ?_) (fun c1 => ?_)
  · have h := h.1 c1
    refine pw_aload_n eX4_kindFor_94 rfl rfl ?_
    refine gf_RX4_7 rfl eX4_kindFor_95 sh34 ?_
    refine pw_iload_n eX4_kindFor_98 rfl rfl ?_
    refine pw_iconst eX4_kindFor_99 ⟨by decide, by decide⟩ ?_
    obtain ⟨v2, m3, hc4, h⟩ := h
    refine pw_cS (z := mX4_at) (av := [Iq x1, Iq 0]) (st := [Aq 35]) eX4_kindFor_100 lk_RX4_59 rfl (by decide) (by decide) (Nat.le_of_ble_eq_true rfl) rfl hc4 ?_
    show PW S mX4_kindFor Q 103 [some (Aq 34), some (Iq x1), some (Iq x2), some (Iq x3), some (Iq x4), some (Iq x5), some (Iq x6), none] [Iq v2, Aq 35] m3
    refine pw_iload_n eX4_kindFor_103 rfl rfl ?_
    obtain ⟨o5, h⟩ := h
    refine pw_iast eX4_kindFor_104 sh35 o5 ?_
    refine pw_iload eX4_kindFor_105 rfl ?_
    exact pw_iret eX4_kindFor_107 h
  · have h := h.2 c1
    refine pw_aload_n eX4_kindFor_39 rfl rfl ?_
    refine gf_RX4_7 rfl eX4_kindFor_40 sh34 ?_
    refine pw_iload_n eX4_kindFor_43 rfl rfl ?_
    refine pw_iconst eX4_kindFor_44 ⟨by decide, by decide⟩ ?_
    obtain ⟨v6, m7, hc8, h⟩ := h
    refine pw_cS (z := mX4_at) (av := [Iq x1, Iq 0]) (st := [Aq 35]) eX4_kindFor_45 lk_RX4_59 rfl (by decide) (by decide) (Nat.le_of_ble_eq_true rfl) rfl hc8 ?_
    show PW S mX4_kindFor Q 48 [some (Aq 34), some (Iq x1), some (Iq x2), some (Iq x3), some (Iq x4), some (Iq x5), some (Iq x6), none] [Iq v6, Aq 35] m7
    refine pw_iload eX4_kindFor_48 rfl ?_
    obtain ⟨o9, h⟩ := h
    refine pw_iast eX4_kindFor_50 sh35 o9 ?_
    refine pw_aload_n eX4_kindFor_51 rfl rfl ?_
    refine pw_iload_n eX4_kindFor_52 rfl rfl ?_
    refine pw_iconst eX4_kindFor_53 ⟨by decide, by decide⟩ ?_
    obtain ⟨v10, m11, hc12, h⟩ := h
    refine pw_cS (z := mX4_at) (av := [Iq x1, Iq 3]) (st := [Aq 34]) eX4_kindFor_54 lk_RX4_59 rfl (by decide) (by decide) (Nat.le_of_ble_eq_true rfl) rfl hc12 ?_
    show PW S mX4_kindFor Q 57 [some (Aq 34), some (Iq x1), some (Iq x2), some (Iq x3), some (Iq x4), some (Iq x5), some (Iq x6), none] [Iq v10, Aq 34] m11
    refine pw_iload_n eX4_kindFor_57 rfl rfl ?_
    obtain ⟨v13, m14, hc15, h⟩ := h
    refine pw_cV (z := mX4_thenAt) (av := [Iq v10, Iq x2]) (st := []) eX4_kindFor_58 lk_RX4_158 rfl (by decide) (by decide) sh34 rfl rfl (Nat.le_of_ble_eq_true rfl) rfl hc15 ?_
    show PW S mX4_kindFor Q 61 [some (Aq 34), some (Iq x1), some (Iq x2), some (Iq x3), some (Iq x4), some (Iq x5), some (Iq x6), none] [Iq v13] m14
    refine pw_istore (ls2 := [some (Aq 34), some (Iq x1), some (Iq x2), some (Iq x3), some (Iq x4), some (Iq x5), some (Iq x6), some (Iq v13)]) eX4_kindFor_61 (by decide) rfl ?_
    refine pw_iload eX4_kindFor_63 rfl ?_
    refine pw_iload eX4_kindFor_65 rfl ?_
    refine pw_icmp_le eX4_kindFor_67 (fun c16 => ?_) (fun c16 => ?_)
    · have h := h.1 c16
      refine pw_iload eX4_kindFor_75 rfl ?_
      refine pw_istore (ls2 := [some (Aq 34), some (Iq x1), some (Iq x2), some (Iq x3), some (Iq x4), some (Iq x5), some (Iq x6), some (Iq v13)]) eX4_kindFor_77 (by decide) rfl ?_
      refine pw_iload eX4_kindFor_79 rfl ?_
      refine pw_iload eX4_kindFor_81 rfl ?_
      obtain ⟨v17, m18, hc19, h⟩ := h
      refine pw_cS (z := mX4_greatest) (av := [Iq x5, Iq v13]) (st := []) eX4_kindFor_83 lk_RX4_137 rfl (by decide) (by decide) (Nat.le_of_ble_eq_true rfl) rfl hc19 ?_
      show PW S mX4_kindFor Q 86 [some (Aq 34), some (Iq x1), some (Iq x2), some (Iq x3), some (Iq x4), some (Iq x5), some (Iq x6), some (Iq v13)] [Iq v17] m18
      refine pw_istore (ls2 := [some (Aq 34), some (Iq x1), some (Iq x2), some (Iq x3), some (Iq x4), some (Iq v17), some (Iq x6), some (Iq v13)]) eX4_kindFor_86 (by decide) rfl ?_
      obtain ⟨o20, h⟩ := h
      refine pw_iinc (ls2 := [some (Aq 34), some (Iq x1), some (Iq x2), some (Iq x3), some (Iq x4), some (Iq v17), some (Iq (x6 + 1)), some (Iq v13)]) eX4_kindFor_88 rfl o20 rfl ?_
      refine pw_goto eX4_kindFor_91 ?_
      exact pw_drop (bs := [true, true, true, true, true, true, true, false]) h
    · have h := h.2 c16
      refine pw_iload eX4_kindFor_70 rfl ?_
      refine pw_goto eX4_kindFor_72 ?_
      refine pw_istore (ls2 := [some (Aq 34), some (Iq x1), some (Iq x2), some (Iq x3), some (Iq x6), some (Iq x5), some (Iq x6), some (Iq v13)]) eX4_kindFor_77 (by decide) rfl ?_
      refine pw_iload eX4_kindFor_79 rfl ?_
      refine pw_iload eX4_kindFor_81 rfl ?_
      obtain ⟨v21, m22, hc23, h⟩ := h
      refine pw_cS (z := mX4_greatest) (av := [Iq x5, Iq v13]) (st := []) eX4_kindFor_83 lk_RX4_137 rfl (by decide) (by decide) (Nat.le_of_ble_eq_true rfl) rfl hc23 ?_
      show PW S mX4_kindFor Q 86 [some (Aq 34), some (Iq x1), some (Iq x2), some (Iq x3), some (Iq x6), some (Iq x5), some (Iq x6), some (Iq v13)] [Iq v21] m22
      refine pw_istore (ls2 := [some (Aq 34), some (Iq x1), some (Iq x2), some (Iq x3), some (Iq x6), some (Iq v21), some (Iq x6), some (Iq v13)]) eX4_kindFor_86 (by decide) rfl ?_
      obtain ⟨o24, h⟩ := h
      refine pw_iinc (ls2 := [some (Aq 34), some (Iq x1), some (Iq x2), some (Iq x3), some (Iq x6), some (Iq v21), some (Iq (x6 + 1)), some (Iq v13)]) eX4_kindFor_88 rfl o24 rfl ?_
      refine pw_goto eX4_kindFor_91 ?_
      exact pw_drop (bs := [true, true, true, true, true, true, true, false]) h
set_option maxRecDepth 100000 in
theorem rg_X4_learn_0 {S : Sx} {Q : Option PV → Zm → Prop} {mem : Zm}   {x1 x2 : Int} 
    (h : (∃ (v1 : Int) (m2 : Zm), Ct1 S mX4_isAsked [Aq 34, Iq x1, Iq x2] mem (some (Iq v1)) m2 ∧ ((((¬ v1 = 0) → ((∃ (v5 : Int) (m6 : Zm), Ct1 S mX4_its [Aq 34, Iq x1, Iq 1] m2 (some (Iq v5)) m6 ∧ (PW S mX4_learn Q 32 [some (Aq 34), some (Iq x1), some (Iq x2), some (Iq v5), some (Iq 0), some (Iq (-1)), some (Iq 0), none] [] m6)))) ∧ (¬ (¬ v1 = 0) → ((∃ (v8 : Int) (m9 : Zm), Ct1 S mX4_finds [Aq 34, Iq (-1000001)] m2 (some (Iq v8)) m9 ∧ (Q (some (Iq v8)) m9)))))))) :
    PW S mX4_learn Q 0 [some (Aq 34), some (Iq x1), some (Iq x2), none, none, none, none, none] [] mem := by
  refine pw_aload_n eX4_learn_0 rfl rfl ?_
  refine pw_iload_n eX4_learn_1 rfl rfl ?_
  refine pw_iload_n eX4_learn_2 rfl rfl ?_
  obtain ⟨v1, m2, hc3, h⟩ := h
  refine pw_cV (z := mX4_isAsked) (av := [Iq x1, Iq x2]) (st := []) eX4_learn_3 lk_RX4_163 rfl (by decide) (by decide) sh34 rfl rfl (Nat.le_of_ble_eq_true rfl) rfl hc3 ?_
  show PW S mX4_learn Q 6 [some (Aq 34), some (Iq x1), some (Iq x2), none, none, none, none, none] [Iq v1] m2
  refine pw_if_ne eX4_learn_6 (fun c4 => ?_) (fun c4 => ?_)
  · have h := h.1 c4
    refine pw_aload_n eX4_learn_16 rfl rfl ?_
    refine pw_iload_n eX4_learn_17 rfl rfl ?_
    refine pw_iconst eX4_learn_18 ⟨by decide, by decide⟩ ?_
    obtain ⟨v5, m6, hc7, h⟩ := h
    refine pw_cV (z := mX4_its) (av := [Iq x1, Iq 1]) (st := []) eX4_learn_19 lk_RX4_71 rfl (by decide) (by decide) sh34 rfl rfl (Nat.le_of_ble_eq_true rfl) rfl hc7 ?_
    show PW S mX4_learn Q 22 [some (Aq 34), some (Iq x1), some (Iq x2), none, none, none, none, none] [Iq v5] m6
    refine pw_istore_n (ls2 := [some (Aq 34), some (Iq x1), some (Iq x2), some (Iq v5), none, none, none, none]) eX4_learn_22 rfl (by decide) rfl ?_
    refine pw_iconst eX4_learn_23 ⟨by decide, by decide⟩ ?_
    refine pw_istore (ls2 := [some (Aq 34), some (Iq x1), some (Iq x2), some (Iq v5), some (Iq 0), none, none, none]) eX4_learn_24 (by decide) rfl ?_
    refine pw_iconst eX4_learn_26 ⟨by decide, by decide⟩ ?_
    refine pw_istore (ls2 := [some (Aq 34), some (Iq x1), some (Iq x2), some (Iq v5), some (Iq 0), some (Iq (-1)), none, none]) eX4_learn_27 (by decide) rfl ?_
    refine pw_iconst eX4_learn_29 ⟨by decide, by decide⟩ ?_
    refine pw_istore (ls2 := [some (Aq 34), some (Iq x1), some (Iq x2), some (Iq v5), some (Iq 0), some (Iq (-1)), some (Iq 0), none]) eX4_learn_30 (by decide) rfl ?_
    exact h
  · have h := h.2 c4
    refine pw_aload_n eX4_learn_9 rfl rfl ?_
    refine pw_ldc (n := (-1000001)) eX4_learn_10 ⟨by decide, by decide⟩ kc_RX4_37 ?_
    obtain ⟨v8, m9, hc10, h⟩ := h
    refine pw_cV (z := mX4_finds) (av := [Iq (-1000001)]) (st := []) eX4_learn_12 lk_RX4_39 rfl (by decide) (by decide) sh34 rfl rfl (Nat.le_of_ble_eq_true rfl) rfl hc10 ?_
    show PW S mX4_learn Q 15 [some (Aq 34), some (Iq x1), some (Iq x2), none, none, none, none, none] [Iq v8] m9
    exact pw_iret eX4_learn_15 h

set_option maxRecDepth 100000 in
theorem rg_X4_learn_32 {S : Sx} {Q : Option PV → Zm → Prop} {mem : Zm}   {x1 x2 x3 x4 x5 x6 : Int} 
    (h : (((8 ≤ x6) → ((∃ (v2 : Int) (m3 : Zm), Ct1 S mX4_at [Iq x1, Iq 1] mem (some (Iq v2)) m3 ∧ ((0 ≤ v2 ∧ v2 < 134) ∧ Q (some (Iq x4)) (mup m3 35 (v2).toNat x3))))) ∧ (¬ (8 ≤ x6) → ((∃ (v6 : Int) (m7 : Zm), Ct1 S mX4_at [Iq x1, Iq 1] mem (some (Iq v6)) m7 ∧ ((0 ≤ v6 ∧ v6 < 134) ∧ (∃ (v10 : Int) (m11 : Zm), Ct1 S mX4_at [Iq x1, Iq 3] (mup m7 35 (v6).toNat (bOr x3 (bShl 1 x6))) (some (Iq v10)) m11 ∧ ((∃ (v13 : Int) (m14 : Zm), Ct1 S mX4_thenAt [Aq 34, Iq v10, Iq x2] m11 (some (Iq v13)) m14 ∧ ((((v13 ≤ x5) → ((∃ (v17 : Int) (m18 : Zm), Ct1 S mX4_greatest [Iq x5, Iq v13] m14 (some (Iq v17)) m18 ∧ ((in32 (x6 + 1)) ∧ PW S mX4_learn Q 32 [some (Aq 34), some (Iq x1), some (Iq x2), some (Iq x3), some (Iq x4), some (Iq v17), some (Iq (x6 + 1)), none] [] m18)))) ∧ (¬ (v13 ≤ x5) → ((∃ (v21 : Int) (m22 : Zm), Ct1 S mX4_greatest [Iq x5, Iq v13] m14 (some (Iq v21)) m22 ∧ ((in32 (x6 + 1)) ∧ PW S mX4_learn Q 32 [some (Aq 34), some (Iq x1), some (Iq x2), some (Iq x3), some (Iq x6), some (Iq v21), some (Iq (x6 + 1)), none] [] m22))))))))))))))) :
    PW S mX4_learn Q 32 [some (Aq 34), some (Iq x1), some (Iq x2), some (Iq x3), some (Iq x4), some (Iq x5), some (Iq x6), none] [] mem := by
  refine pw_iload eX4_learn_32 rfl ?_
  refine pw_bipush eX4_learn_34 ⟨by decide, by decide⟩ (by decide) ?_
  refine pw_icmp_ge eX4_learn_36 (fun c1 => ?_) (fun c1 => ?_)
  · have h := h.1 c1
    refine pw_aload_n eX4_learn_98 rfl rfl ?_
    refine gf_RX4_7 rfl eX4_learn_99 sh34 ?_
    refine pw_iload_n eX4_learn_102 rfl rfl ?_
    refine pw_iconst eX4_learn_103 ⟨by decide, by decide⟩ ?_
    obtain ⟨v2, m3, hc4, h⟩ := h
    refine pw_cS (z := mX4_at) (av := [Iq x1, Iq 1]) (st := [Aq 35]) eX4_learn_104 lk_RX4_59 rfl (by decide) (by decide) (Nat.le_of_ble_eq_true rfl) rfl hc4 ?_
    show PW S mX4_learn Q 107 [some (Aq 34), some (Iq x1), some (Iq x2), some (Iq x3), some (Iq x4), some (Iq x5), some (Iq x6), none] [Iq v2, Aq 35] m3
    refine pw_iload_n eX4_learn_107 rfl rfl ?_
    obtain ⟨o5, h⟩ := h
    refine pw_iast eX4_learn_108 sh35 o5 ?_
    refine pw_iload eX4_learn_109 rfl ?_
    exact pw_iret eX4_learn_111 h
  · have h := h.2 c1
    refine pw_aload_n eX4_learn_39 rfl rfl ?_
    refine gf_RX4_7 rfl eX4_learn_40 sh34 ?_
    refine pw_iload_n eX4_learn_43 rfl rfl ?_
    refine pw_iconst eX4_learn_44 ⟨by decide, by decide⟩ ?_
    obtain ⟨v6, m7, hc8, h⟩ := h
    refine pw_cS (z := mX4_at) (av := [Iq x1, Iq 1]) (st := [Aq 35]) eX4_learn_45 lk_RX4_59 rfl (by decide) (by decide) (Nat.le_of_ble_eq_true rfl) rfl hc8 ?_
    show PW S mX4_learn Q 48 [some (Aq 34), some (Iq x1), some (Iq x2), some (Iq x3), some (Iq x4), some (Iq x5), some (Iq x6), none] [Iq v6, Aq 35] m7
    refine pw_iload_n eX4_learn_48 rfl rfl ?_
    refine pw_iconst eX4_learn_49 ⟨by decide, by decide⟩ ?_
    refine pw_iload eX4_learn_50 rfl ?_
    refine pw_ishl eX4_learn_52 ?_
    refine pw_ior eX4_learn_53 ?_
    obtain ⟨o9, h⟩ := h
    refine pw_iast eX4_learn_54 sh35 o9 ?_
    refine pw_aload_n eX4_learn_55 rfl rfl ?_
    refine pw_iload_n eX4_learn_56 rfl rfl ?_
    refine pw_iconst eX4_learn_57 ⟨by decide, by decide⟩ ?_
    obtain ⟨v10, m11, hc12, h⟩ := h
    refine pw_cS (z := mX4_at) (av := [Iq x1, Iq 3]) (st := [Aq 34]) eX4_learn_58 lk_RX4_59 rfl (by decide) (by decide) (Nat.le_of_ble_eq_true rfl) rfl hc12 ?_
    show PW S mX4_learn Q 61 [some (Aq 34), some (Iq x1), some (Iq x2), some (Iq x3), some (Iq x4), some (Iq x5), some (Iq x6), none] [Iq v10, Aq 34] m11
    refine pw_iload_n eX4_learn_61 rfl rfl ?_
    obtain ⟨v13, m14, hc15, h⟩ := h
    refine pw_cV (z := mX4_thenAt) (av := [Iq v10, Iq x2]) (st := []) eX4_learn_62 lk_RX4_158 rfl (by decide) (by decide) sh34 rfl rfl (Nat.le_of_ble_eq_true rfl) rfl hc15 ?_
    show PW S mX4_learn Q 65 [some (Aq 34), some (Iq x1), some (Iq x2), some (Iq x3), some (Iq x4), some (Iq x5), some (Iq x6), none] [Iq v13] m14
    refine pw_istore (ls2 := [some (Aq 34), some (Iq x1), some (Iq x2), some (Iq x3), some (Iq x4), some (Iq x5), some (Iq x6), some (Iq v13)]) eX4_learn_65 (by decide) rfl ?_
    refine pw_iload eX4_learn_67 rfl ?_
    refine pw_iload eX4_learn_69 rfl ?_
    refine pw_icmp_le eX4_learn_71 (fun c16 => ?_) (fun c16 => ?_)
    · have h := h.1 c16
      refine pw_iload eX4_learn_79 rfl ?_
      refine pw_istore (ls2 := [some (Aq 34), some (Iq x1), some (Iq x2), some (Iq x3), some (Iq x4), some (Iq x5), some (Iq x6), some (Iq v13)]) eX4_learn_81 (by decide) rfl ?_
      refine pw_iload eX4_learn_83 rfl ?_
      refine pw_iload eX4_learn_85 rfl ?_
      obtain ⟨v17, m18, hc19, h⟩ := h
      refine pw_cS (z := mX4_greatest) (av := [Iq x5, Iq v13]) (st := []) eX4_learn_87 lk_RX4_137 rfl (by decide) (by decide) (Nat.le_of_ble_eq_true rfl) rfl hc19 ?_
      show PW S mX4_learn Q 90 [some (Aq 34), some (Iq x1), some (Iq x2), some (Iq x3), some (Iq x4), some (Iq x5), some (Iq x6), some (Iq v13)] [Iq v17] m18
      refine pw_istore (ls2 := [some (Aq 34), some (Iq x1), some (Iq x2), some (Iq x3), some (Iq x4), some (Iq v17), some (Iq x6), some (Iq v13)]) eX4_learn_90 (by decide) rfl ?_
      obtain ⟨o20, h⟩ := h
      refine pw_iinc (ls2 := [some (Aq 34), some (Iq x1), some (Iq x2), some (Iq x3), some (Iq x4), some (Iq v17), some (Iq (x6 + 1)), some (Iq v13)]) eX4_learn_92 rfl o20 rfl ?_
      refine pw_goto eX4_learn_95 ?_
      exact pw_drop (bs := [true, true, true, true, true, true, true, false]) h
    · have h := h.2 c16
      refine pw_iload eX4_learn_74 rfl ?_
      refine pw_goto eX4_learn_76 ?_
      refine pw_istore (ls2 := [some (Aq 34), some (Iq x1), some (Iq x2), some (Iq x3), some (Iq x6), some (Iq x5), some (Iq x6), some (Iq v13)]) eX4_learn_81 (by decide) rfl ?_
      refine pw_iload eX4_learn_83 rfl ?_
      refine pw_iload eX4_learn_85 rfl ?_
      obtain ⟨v21, m22, hc23, h⟩ := h
      refine pw_cS (z := mX4_greatest) (av := [Iq x5, Iq v13]) (st := []) eX4_learn_87 lk_RX4_137 rfl (by decide) (by decide) (Nat.le_of_ble_eq_true rfl) rfl hc23 ?_
      show PW S mX4_learn Q 90 [some (Aq 34), some (Iq x1), some (Iq x2), some (Iq x3), some (Iq x6), some (Iq x5), some (Iq x6), some (Iq v13)] [Iq v21] m22
      refine pw_istore (ls2 := [some (Aq 34), some (Iq x1), some (Iq x2), some (Iq x3), some (Iq x6), some (Iq v21), some (Iq x6), some (Iq v13)]) eX4_learn_90 (by decide) rfl ?_
      obtain ⟨o24, h⟩ := h
      refine pw_iinc (ls2 := [some (Aq 34), some (Iq x1), some (Iq x2), some (Iq x3), some (Iq x6), some (Iq v21), some (Iq (x6 + 1)), some (Iq v13)]) eX4_learn_92 rfl o24 rfl ?_
      refine pw_goto eX4_learn_95 ?_
      exact pw_drop (bs := [true, true, true, true, true, true, true, false]) h
end RG

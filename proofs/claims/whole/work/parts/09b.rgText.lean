section RG
set_option maxRecDepth 100000 in
theorem rg_X1_isMissing_0 {S : Sx} {Q : Option PV → Zm → Prop} {mem : Zm}  {r0 : Nat} (hr0 : isSheet r0)
    (h : (((¬ mem r0 1 = 0) → (Q (some (Iq 0)) mem)) ∧ (¬ (¬ mem r0 1 = 0) → (Q (some (Iq 1)) mem)))) :
    PW S mX1_isMissing Q 0 [some (Aq r0)] [] mem := by
  refine pw_aload_n eX1_isMissing_0 rfl rfl ?_
  refine gf_RX1_15 rfl eX1_isMissing_1 (shS hr0) ?_
  refine pw_if_ne eX1_isMissing_4 (fun c1 => ?_) (fun c1 => ?_)
  · have h := h.1 c1
    refine pw_iconst eX1_isMissing_11 ⟨by decide, by decide⟩ ?_
    exact pw_iret eX1_isMissing_12 h
  · have h := h.2 c1
    refine pw_iconst eX1_isMissing_7 ⟨by decide, by decide⟩ ?_
    refine pw_goto eX1_isMissing_8 ?_
    exact pw_iret eX1_isMissing_12 h
set_option maxRecDepth 100000 in
theorem rg_X1_renew_0 {S : Sx} {Q : Option PV → Zm → Prop} {mem : Zm}  {r0 : Nat} {x1 x2 : Int} (hr0 : isSheet r0)
    (h : (∃ (m2 : Zm), Ct1 S mJ7_fill_53178 [Aq (r0 + 1), Iq 0] (mup (mup mem r0 1 x1) r0 2 x2) none m2 ∧ (Q none m2))) :
    PW S mX1_renew Q 0 [some (Aq r0), some (Iq x1), some (Iq x2)] [] mem := by
  refine pw_aload_n eX1_renew_0 rfl rfl ?_
  refine pw_iload_n eX1_renew_1 rfl rfl ?_
  refine pf_RX1_15 rfl eX1_renew_2 (shS hr0) ?_
  refine pw_aload_n eX1_renew_5 rfl rfl ?_
  refine pw_iload_n eX1_renew_6 rfl rfl ?_
  refine pf_RX1_19 rfl eX1_renew_7 (shS hr0) ?_
  refine pw_aload_n eX1_renew_10 rfl rfl ?_
  refine gf_RX1_9 rfl eX1_renew_11 (shS hr0) ?_
  refine pw_iconst eX1_renew_14 ⟨by decide, by decide⟩ ?_
  obtain ⟨m2, hc3, h⟩ := h
  refine pw_cS (z := mJ7_fill_53178) (av := [Aq (r0 + 1), Iq 0]) (st := []) eX1_renew_15 lk_RX1_22 rfl (by decide) (by decide) (Nat.le_of_ble_eq_true rfl) rfl hc3 ?_
  show PW S mX1_renew Q 18 [some (Aq r0), some (Iq x1), some (Iq x2)] [] m2
  exact pw_vret eX1_renew_18 h
set_option maxRecDepth 100000 in
theorem rg_X1_put_0 {S : Sx} {Q : Option PV → Zm → Prop} {mem : Zm}  {r0 : Nat} {x1 x2 : Int} (hr0 : isSheet r0)
    (h : ((((mem r0 1) = 8) → ((0 ≤ x1 ∧ x1 < 40) ∧ Q none (mup mem (r0 + 1) (x1).toNat (toB x2)))) ∧ (((mem r0 1) = 16) → ((0 ≤ x1 ∧ x1 < 40) ∧ Q none (mup mem (r0 + 1) (x1).toNat (toSh x2)))) ∧ ((¬ (mem r0 1 = 8) ∧ ¬ (mem r0 1 = 16)) → ((0 ≤ x1 ∧ x1 < 40) ∧ Q none (mup mem (r0 + 1) (x1).toNat x2))))) :
    PW S mX1_put Q 0 [some (Aq r0), some (Iq x1), some (Iq x2)] [] mem := by
  refine pw_aload_n eX1_put_0 rfl rfl ?_
  refine gf_RX1_15 rfl eX1_put_1 (shS hr0) ?_
  obtain ⟨hk0, hk1, hkd⟩ := h
  refine pw_lsw (ps := [(8, 32), (16, 43)]) (td := 54) eX1_put_4 (by decide) (by decide) (by decide) rfl ⟨fun c1 => ?_, fun c1 => ?_, trivial⟩ (fun c1 => ?_)
  · have h := hk0 c1
    refine pw_aload_n eX1_put_32 rfl rfl ?_
    refine gf_RX1_9 rfl eX1_put_33 (shS hr0) ?_
    refine pw_iload_n eX1_put_36 rfl rfl ?_
    refine pw_iload_n eX1_put_37 rfl rfl ?_
    refine pw_i2b eX1_put_38 ?_
    obtain ⟨o2, h⟩ := h
    refine pw_iast eX1_put_39 (shS1 hr0) o2 ?_
    refine pw_goto eX1_put_40 ?_
    exact pw_vret eX1_put_61 h
  · have h := hk1 c1
    refine pw_aload_n eX1_put_43 rfl rfl ?_
    refine gf_RX1_9 rfl eX1_put_44 (shS hr0) ?_
    refine pw_iload_n eX1_put_47 rfl rfl ?_
    refine pw_iload_n eX1_put_48 rfl rfl ?_
    refine pw_i2s eX1_put_49 ?_
    obtain ⟨o3, h⟩ := h
    refine pw_iast eX1_put_50 (shS1 hr0) o3 ?_
    refine pw_goto eX1_put_51 ?_
    exact pw_vret eX1_put_61 h
  · have h := hkd ⟨c1 (8, 32) (by decide), c1 (16, 43) (by decide)⟩
    refine pw_aload_n eX1_put_54 rfl rfl ?_
    refine gf_RX1_9 rfl eX1_put_55 (shS hr0) ?_
    refine pw_iload_n eX1_put_58 rfl rfl ?_
    refine pw_iload_n eX1_put_59 rfl rfl ?_
    obtain ⟨o4, h⟩ := h
    refine pw_iast eX1_put_60 (shS1 hr0) o4 ?_
    exact pw_vret eX1_put_61 h
set_option maxRecDepth 100000 in
theorem rg_X1_hasPart_0 {S : Sx} {Q : Option PV → Zm → Prop} {mem : Zm}  {r0 : Nat} {x1 x2 : Int} (hr0 : isSheet r0)
    (h : (((x1 < 0) → (Q (some (Iq 0)) mem)) ∧ (¬ (x1 < 0) → ((((x2 < 0) → (Q (some (Iq 0)) mem)) ∧ (¬ (x2 < 0) → ((in32 ((mem r0 2) - x2)) ∧ ((((mem r0 2) - x2 < x1) → (Q (some (Iq 0)) mem)) ∧ (¬ ((mem r0 2) - x2 < x1) → (Q (some (Iq 1)) mem)))))))))) :
    PW S mX1_hasPart Q 0 [some (Aq r0), some (Iq x1), some (Iq x2)] [] mem := by
  refine pw_iload_n eX1_hasPart_0 rfl rfl ?_
  refine pw_if_lt eX1_hasPart_1 (fun c1 => ?_) (fun c1 => ?_)
  · have h := h.1 c1
    refine pw_iconst eX1_hasPart_22 ⟨by decide, by decide⟩ ?_
    exact pw_iret eX1_hasPart_23 h
  · have h := h.2 c1
    refine pw_iload_n eX1_hasPart_4 rfl rfl ?_
    refine pw_if_lt eX1_hasPart_5 (fun c2 => ?_) (fun c2 => ?_)
    · have h := h.1 c2
      refine pw_iconst eX1_hasPart_22 ⟨by decide, by decide⟩ ?_
      exact pw_iret eX1_hasPart_23 h
    · have h := h.2 c2
      refine pw_iload_n eX1_hasPart_8 rfl rfl ?_
      refine pw_aload_n eX1_hasPart_9 rfl rfl ?_
      refine gf_RX1_19 rfl eX1_hasPart_10 (shS hr0) ?_
      refine pw_iload_n eX1_hasPart_13 rfl rfl ?_
      obtain ⟨o3, h⟩ := h
      refine pw_isub eX1_hasPart_14 o3 ?_
      refine pw_icmp_gt eX1_hasPart_15 (fun c4 => ?_) (fun c4 => ?_)
      · have h := h.1 c4
        refine pw_iconst eX1_hasPart_22 ⟨by decide, by decide⟩ ?_
        exact pw_iret eX1_hasPart_23 h
      · have h := h.2 c4
        refine pw_iconst eX1_hasPart_18 ⟨by decide, by decide⟩ ?_
        refine pw_goto eX1_hasPart_19 ?_
        exact pw_iret eX1_hasPart_23 h
set_option maxRecDepth 100000 in
theorem rg_X1_allows_0 {S : Sx} {Q : Option PV → Zm → Prop} {mem : Zm}  {r0 : Nat} {x1 x2 : Int} (hr0 : isSheet r0)
    (h : (((mem r0 2 ≤ x1) → (Q (some (Iq 1)) mem)) ∧ (¬ (mem r0 2 ≤ x1) → ((0 ≤ x1 ∧ x1 < 40) ∧ (((mem (r0 + 1) (x1).toNat = -2) → (Q (some (Iq 1)) mem)) ∧ (¬ (mem (r0 + 1) (x1).toNat = -2) → ((0 ≤ x1 ∧ x1 < 40) ∧ (((¬ mem (r0 + 1) (x1).toNat = x2) → (Q (some (Iq 0)) mem)) ∧ (¬ (¬ mem (r0 + 1) (x1).toNat = x2) → (Q (some (Iq 1)) mem)))))))))) :
    PW S mX1_allows Q 0 [some (Aq r0), some (Iq x1), some (Iq x2)] [] mem := by
  refine pw_iload_n eX1_allows_0 rfl rfl ?_
  refine pw_aload_n eX1_allows_1 rfl rfl ?_
  refine gf_RX1_19 rfl eX1_allows_2 (shS hr0) ?_
  refine pw_icmp_ge eX1_allows_5 (fun c1 => ?_) (fun c1 => ?_)
  · have h := h.1 c1
    refine pw_iconst eX1_allows_29 ⟨by decide, by decide⟩ ?_
    refine pw_goto eX1_allows_30 ?_
    exact pw_iret eX1_allows_34 h
  · have h := h.2 c1
    refine pw_aload_n eX1_allows_8 rfl rfl ?_
    refine gf_RX1_9 rfl eX1_allows_9 (shS hr0) ?_
    refine pw_iload_n eX1_allows_12 rfl rfl ?_
    obtain ⟨o2, h⟩ := h
    refine pw_iald eX1_allows_13 (shS1 hr0) o2 ?_
    refine pw_bipush eX1_allows_14 ⟨by decide, by decide⟩ (by decide) ?_
    refine pw_icmp_eq eX1_allows_16 (fun c3 => ?_) (fun c3 => ?_)
    · have h := h.1 c3
      refine pw_iconst eX1_allows_29 ⟨by decide, by decide⟩ ?_
      refine pw_goto eX1_allows_30 ?_
      exact pw_iret eX1_allows_34 h
    · have h := h.2 c3
      refine pw_aload_n eX1_allows_19 rfl rfl ?_
      refine gf_RX1_9 rfl eX1_allows_20 (shS hr0) ?_
      refine pw_iload_n eX1_allows_23 rfl rfl ?_
      obtain ⟨o4, h⟩ := h
      refine pw_iald eX1_allows_24 (shS1 hr0) o4 ?_
      refine pw_iload_n eX1_allows_25 rfl rfl ?_
      refine pw_icmp_ne eX1_allows_26 (fun c5 => ?_) (fun c5 => ?_)
      · have h := h.1 c5
        refine pw_iconst eX1_allows_33 ⟨by decide, by decide⟩ ?_
        exact pw_iret eX1_allows_34 h
      · have h := h.2 c5
        refine pw_iconst eX1_allows_29 ⟨by decide, by decide⟩ ?_
        refine pw_goto eX1_allows_30 ?_
        exact pw_iret eX1_allows_34 h
set_option maxRecDepth 100000 in
theorem rg_X2_append_0 {S : Sx} {Q : Option PV → Zm → Prop} {mem : Zm}   {x1 : Int} 
    (h : (0 ≤ mem 22 1 ∧ mem 22 1 < 120) ∧ (in32 (((mup mem 23 (mem 22 1).toNat (toB (toB x1))) 22 1) + 1)) ∧ Q none (mup (mup mem 23 (mem 22 1).toNat (toB (toB x1))) 22 1 (((mup mem 23 (mem 22 1).toNat (toB (toB x1))) 22 1) + 1))) :
    PW S mX2_append Q 0 [some (Aq 22), some (Iq x1)] [] mem := by
  refine pw_aload_n eX2_append_0 rfl rfl ?_
  refine gf_RX2_9 rfl eX2_append_1 sh22 ?_
  refine pw_aload_n eX2_append_4 rfl rfl ?_
  refine gf_RX2_15 rfl eX2_append_5 sh22 ?_
  refine pw_iload_n eX2_append_8 rfl rfl ?_
  refine pw_i2b eX2_append_9 ?_
  obtain ⟨o1, h⟩ := h
  refine pw_bast eX2_append_10 sh23 o1 ?_
  refine pw_aload_n eX2_append_11 rfl rfl ?_
  refine pw_dup eX2_append_12 rfl ?_
  refine gf_RX2_15 rfl eX2_append_13 sh22 ?_
  refine pw_iconst eX2_append_16 ⟨by decide, by decide⟩ ?_
  obtain ⟨o2, h⟩ := h
  refine pw_iadd eX2_append_17 o2 ?_
  refine pf_RX2_15 rfl eX2_append_18 sh22 ?_
  exact pw_vret eX2_append_21 h
set_option maxRecDepth 100000 in
theorem rg_X2_readInto_0 {S : Sx} {Q : Option PV → Zm → Prop} {mem : Zm}  {r1 : Nat} (hr1 : isRoom r1)
    (h : (∃ (m2 : Zm), Ct1 S mX2_nextToken [Aq 22] (mup mem 22 3 0) none m2 ∧ (PW S mX2_readInto Q 11 [some (Aq 22), some (Aq r1), some (Iq 1)] [] m2))) :
    PW S mX2_readInto Q 0 [some (Aq 22), some (Aq r1), none] [] mem := by
  refine pw_aload_n eX2_readInto_0 rfl rfl ?_
  refine pw_iconst eX2_readInto_1 ⟨by decide, by decide⟩ ?_
  refine pf_RX2_22 rfl eX2_readInto_2 sh22 ?_
  refine pw_aload_n eX2_readInto_5 rfl rfl ?_
  obtain ⟨m2, hc3, h⟩ := h
  refine pw_cV (z := mX2_nextToken) (av := []) (st := []) eX2_readInto_6 lk_RX2_35 rfl (by decide) (by decide) sh22 rfl rfl (Nat.le_of_ble_eq_true rfl) rfl hc3 ?_
  show PW S mX2_readInto Q 9 [some (Aq 22), some (Aq r1), none] [] m2
  refine pw_iconst eX2_readInto_9 ⟨by decide, by decide⟩ ?_
  refine pw_istore_n (ls2 := [some (Aq 22), some (Aq r1), some (Iq 1)]) eX2_readInto_10 rfl (by decide) rfl ?_
  exact h

set_option maxRecDepth 100000 in
theorem rg_X2_readInto_11 {S : Sx} {Q : Option PV → Zm → Prop} {mem : Zm}  {r1 : Nat} {x2 : Int} (hr1 : isRoom r1)
    (h : (((121 < x2) → ((in32 ((-1) - (mem 22 2))) ∧ Q (some (Iq ((-1) - (mem 22 2)))) mem)) ∧ (¬ (121 < x2) → ((∃ (v3 : Int) (m4 : Zm), Ct1 S mX2_readItem [Aq 22, Aq r1] mem (some (Iq v3)) m4 ∧ ((((¬ v3 = 0) → ((((¬ m4 22 4 = 0) → ((((m4 22 4 = 3) → ((∃ (m10 : Zm), Ct1 S mX2_nextToken [Aq 22] m4 none m10 ∧ ((in32 (x2 + 1)) ∧ PW S mX2_readInto Q 11 [some (Aq 22), some (Aq r1), some (Iq (x2 + 1))] [] m10)))) ∧ (¬ (m4 22 4 = 3) → ((in32 ((-1) - (m4 22 2))) ∧ Q (some (Iq ((-1) - (m4 22 2)))) m4))))) ∧ (¬ (¬ m4 22 4 = 0) → (Q (some (Iq x2)) m4))))) ∧ (¬ (¬ v3 = 0) → ((in32 ((-1) - (m4 22 2))) ∧ Q (some (Iq ((-1) - (m4 22 2)))) m4))))))))) :
    PW S mX2_readInto Q 11 [some (Aq 22), some (Aq r1), some (Iq x2)] [] mem := by
  refine pw_iload_n eX2_readInto_11 rfl rfl ?_
  refine pw_bipush eX2_readInto_12 ⟨by decide, by decide⟩ (by decide) ?_
  refine pw_icmp_gt eX2_readInto_14 (fun c1 => ?_) (fun c1 => ?_)
  · have h := h.1 c1
    refine pw_iconst eX2_readInto_66 ⟨by decide, by decide⟩ ?_
    refine pw_aload_n eX2_readInto_67 rfl rfl ?_
    refine gf_RX2_19 rfl eX2_readInto_68 sh22 ?_
    obtain ⟨o2, h⟩ := h
    refine pw_isub eX2_readInto_71 o2 ?_
    exact pw_iret eX2_readInto_72 h
  · have h := h.2 c1
    refine pw_aload_n eX2_readInto_17 rfl rfl ?_
    refine pw_aload_n eX2_readInto_18 rfl rfl ?_
    obtain ⟨v3, m4, hc5, h⟩ := h
    refine pw_cV (z := mX2_readItem) (av := [Aq r1]) (st := []) eX2_readInto_19 lk_RX2_38 rfl (by decide) (by decide) sh22 rfl rfl (Nat.le_of_ble_eq_true rfl) rfl hc5 ?_
    show PW S mX2_readInto Q 22 [some (Aq 22), some (Aq r1), some (Iq x2)] [Iq v3] m4
    refine pw_if_ne eX2_readInto_22 (fun c6 => ?_) (fun c6 => ?_)
    · have h := h.1 c6
      refine pw_aload_n eX2_readInto_32 rfl rfl ?_
      refine gf_RX2_25 rfl eX2_readInto_33 sh22 ?_
      refine pw_if_ne eX2_readInto_36 (fun c7 => ?_) (fun c7 => ?_)
      · have h := h.1 c7
        refine pw_aload_n eX2_readInto_41 rfl rfl ?_
        refine gf_RX2_25 rfl eX2_readInto_42 sh22 ?_
        refine pw_iconst eX2_readInto_45 ⟨by decide, by decide⟩ ?_
        refine pw_icmp_eq eX2_readInto_46 (fun c8 => ?_) (fun c8 => ?_)
        · have h := h.1 c8
          refine pw_aload_n eX2_readInto_56 rfl rfl ?_
          obtain ⟨m10, hc11, h⟩ := h
          refine pw_cV (z := mX2_nextToken) (av := []) (st := []) eX2_readInto_57 lk_RX2_35 rfl (by decide) (by decide) sh22 rfl rfl (Nat.le_of_ble_eq_true rfl) rfl hc11 ?_
          show PW S mX2_readInto Q 60 [some (Aq 22), some (Aq r1), some (Iq x2)] [] m10
          obtain ⟨o12, h⟩ := h
          refine pw_iinc (ls2 := [some (Aq 22), some (Aq r1), some (Iq (x2 + 1))]) eX2_readInto_60 rfl o12 rfl ?_
          refine pw_goto eX2_readInto_63 ?_
          exact h
        · have h := h.2 c8
          refine pw_iconst eX2_readInto_49 ⟨by decide, by decide⟩ ?_
          refine pw_aload_n eX2_readInto_50 rfl rfl ?_
          refine gf_RX2_19 rfl eX2_readInto_51 sh22 ?_
          obtain ⟨o13, h⟩ := h
          refine pw_isub eX2_readInto_54 o13 ?_
          exact pw_iret eX2_readInto_55 h
      · have h := h.2 c7
        refine pw_iload_n eX2_readInto_39 rfl rfl ?_
        exact pw_iret eX2_readInto_40 h
    · have h := h.2 c6
      refine pw_iconst eX2_readInto_25 ⟨by decide, by decide⟩ ?_
      refine pw_aload_n eX2_readInto_26 rfl rfl ?_
      refine gf_RX2_19 rfl eX2_readInto_27 sh22 ?_
      obtain ⟨o14, h⟩ := h
      refine pw_isub eX2_readInto_30 o14 ?_
      exact pw_iret eX2_readInto_31 h
set_option maxRecDepth 100000 in
theorem rg_X2_readItem_0 {S : Sx} {Q : Option PV → Zm → Prop} {mem : Zm}  {r1 : Nat} (hr1 : isRoom r1)
    (h : (((¬ cmpL (mem 22 5) 491394656372 = 0) → ((((¬ cmpL (mem 22 5) 465625246068 = 0) → (PW S mX2_readItem Q 36 [some (Aq 22), some (Aq r1), some (Iq 0)] [] mem)) ∧ (¬ (¬ cmpL (mem 22 5) 465625246068 = 0) → ((∃ (v3 : Int) (m4 : Zm), Ct1 S mX2_readLimit [Aq 22, Aq r1] mem (some (Iq v3)) m4 ∧ (Q (some (Iq v3)) m4))))))) ∧ (¬ (¬ cmpL (mem 22 5) 491394656372 = 0) → ((∃ (v6 : Int) (m7 : Zm), Ct1 S mX2_readRight [Aq 22, Aq r1] mem (some (Iq v6)) m7 ∧ (Q (some (Iq v6)) m7)))))) :
    PW S mX2_readItem Q 0 [some (Aq 22), some (Aq r1), none] [] mem := by
  refine pw_aload_n eX2_readItem_0 rfl rfl ?_
  refine gf_RX2_28 rfl eX2_readItem_1 ?_
  refine pw_ldc2 (n := 491394656372) eX2_readItem_4 ⟨by decide, by decide⟩ kc_RX2_42 ?_
  refine pw_lcmp eX2_readItem_7 ?_
  refine pw_if_ne eX2_readItem_8 (fun c1 => ?_) (fun c1 => ?_)
  · have h := h.1 c1
    refine pw_aload_n eX2_readItem_17 rfl rfl ?_
    refine gf_RX2_28 rfl eX2_readItem_18 ?_
    refine pw_ldc2 (n := 465625246068) eX2_readItem_21 ⟨by decide, by decide⟩ kc_RX2_47 ?_
    refine pw_lcmp eX2_readItem_24 ?_
    refine pw_if_ne eX2_readItem_25 (fun c2 => ?_) (fun c2 => ?_)
    · have h := h.1 c2
      refine pw_iconst eX2_readItem_34 ⟨by decide, by decide⟩ ?_
      refine pw_istore_n (ls2 := [some (Aq 22), some (Aq r1), some (Iq 0)]) eX2_readItem_35 rfl (by decide) rfl ?_
      exact h
    · have h := h.2 c2
      refine pw_aload_n eX2_readItem_28 rfl rfl ?_
      refine pw_aload_n eX2_readItem_29 rfl rfl ?_
      obtain ⟨v3, m4, hc5, h⟩ := h
      refine pw_cV (z := mX2_readLimit) (av := [Aq r1]) (st := []) eX2_readItem_30 lk_RX2_49 rfl (by decide) (by decide) sh22 rfl rfl (Nat.le_of_ble_eq_true rfl) rfl hc5 ?_
      show PW S mX2_readItem Q 33 [some (Aq 22), some (Aq r1), none] [Iq v3] m4
      exact pw_iret eX2_readItem_33 h
  · have h := h.2 c1
    refine pw_aload_n eX2_readItem_11 rfl rfl ?_
    refine pw_aload_n eX2_readItem_12 rfl rfl ?_
    obtain ⟨v6, m7, hc8, h⟩ := h
    refine pw_cV (z := mX2_readRight) (av := [Aq r1]) (st := []) eX2_readItem_13 lk_RX2_44 rfl (by decide) (by decide) sh22 rfl rfl (Nat.le_of_ble_eq_true rfl) rfl hc8 ?_
    show PW S mX2_readItem Q 16 [some (Aq 22), some (Aq r1), none] [Iq v6] m7
    exact pw_iret eX2_readItem_16 h

set_option maxRecDepth 100000 in
theorem rg_X2_readItem_36 {S : Sx} {Q : Option PV → Zm → Prop} {mem : Zm}  {r1 : Nat} {x2 : Int} (hr1 : isRoom r1)
    (h : (((7 ≤ x2) → (Q (some (Iq 0)) mem)) ∧ (¬ (7 ≤ x2) → ((0 ≤ x2 ∧ x2 < 7) ∧ (((¬ cmpL (mem 22 5) (tbK (x2).toNat) = 0) → ((in32 (x2 + 1)) ∧ PW S mX2_readItem Q 36 [some (Aq 22), some (Aq r1), some (Iq (x2 + 1))] [] mem)) ∧ (¬ (¬ cmpL (mem 22 5) (tbK (x2).toNat) = 0) → ((∃ (v5 : Int) (m6 : Zm), Ct1 S mX2_readChild [Aq 22, Aq r1, Iq x2] mem (some (Iq v5)) m6 ∧ (Q (some (Iq v5)) m6))))))))) :
    PW S mX2_readItem Q 36 [some (Aq 22), some (Aq r1), some (Iq x2)] [] mem := by
  refine pw_iload_n eX2_readItem_36 rfl rfl ?_
  refine pw_bipush eX2_readItem_37 ⟨by decide, by decide⟩ (by decide) ?_
  refine pw_icmp_ge eX2_readItem_39 (fun c1 => ?_) (fun c1 => ?_)
  · have h := h.1 c1
    refine pw_iconst eX2_readItem_68 ⟨by decide, by decide⟩ ?_
    exact pw_iret eX2_readItem_69 h
  · have h := h.2 c1
    refine pw_aload_n eX2_readItem_42 rfl rfl ?_
    refine gf_RX2_28 rfl eX2_readItem_43 ?_
    refine pw_gsK eX2_readItem_46 lf_RX2_52 ?_
    refine pw_iload_n eX2_readItem_49 rfl rfl ?_
    obtain ⟨o2, h⟩ := h
    refine pw_laldK eX2_readItem_50 o2 ?_
    refine pw_lcmp eX2_readItem_51 ?_
    refine pw_if_ne eX2_readItem_52 (fun c3 => ?_) (fun c3 => ?_)
    · have h := h.1 c3
      obtain ⟨o4, h⟩ := h
      refine pw_iinc (ls2 := [some (Aq 22), some (Aq r1), some (Iq (x2 + 1))]) eX2_readItem_62 rfl o4 rfl ?_
      refine pw_goto eX2_readItem_65 ?_
      exact h
    · have h := h.2 c3
      refine pw_aload_n eX2_readItem_55 rfl rfl ?_
      refine pw_aload_n eX2_readItem_56 rfl rfl ?_
      refine pw_iload_n eX2_readItem_57 rfl rfl ?_
      obtain ⟨v5, m6, hc7, h⟩ := h
      refine pw_cV (z := mX2_readChild) (av := [Aq r1, Iq x2]) (st := []) eX2_readItem_58 lk_RX2_56 rfl (by decide) (by decide) sh22 rfl rfl (Nat.le_of_ble_eq_true rfl) rfl hc7 ?_
      show PW S mX2_readItem Q 61 [some (Aq 22), some (Aq r1), some (Iq x2)] [Iq v5] m6
      exact pw_iret eX2_readItem_61 h
set_option maxRecDepth 100000 in
theorem rg_X2_readRight_0 {S : Sx} {Q : Option PV → Zm → Prop} {mem : Zm}  {r1 : Nat} (hr1 : isRoom r1)
    (h : (∃ (m2 : Zm), Ct1 S mX2_nextToken [Aq 22] mem none m2 ∧ ((∃ (v4 : Int) (m5 : Zm), Ct1 S mX2_isNumber [Aq 22, Iq 0, Iq 7] m2 (some (Iq v4)) m5 ∧ ((((¬ v4 = 0) → ((∃ (m9 : Zm), Ct1 S mX2_nextToken [Aq 22] m5 none m9 ∧ ((∃ (v11 : Int) (m12 : Zm), Ct1 S mX2_isNumber [Aq 22, Iq 0, Iq 99] m9 (some (Iq v11)) m12 ∧ ((((¬ v11 = 0) → ((0 ≤ m5 22 6 ∧ m5 22 6 < 8) ∧ (∃ (m17 : Zm), Ct1 S mX2_nextToken [Aq 22] (mup m12 (r1 + 1) (m5 22 6).toNat (m12 22 6)) none m17 ∧ (Q (some (Iq 1)) m17)))) ∧ (¬ (¬ v11 = 0) → (Q (some (Iq 0)) m12))))))))) ∧ (¬ (¬ v4 = 0) → (Q (some (Iq 0)) m5)))))))) :
    PW S mX2_readRight Q 0 [some (Aq 22), some (Aq r1), none] [] mem := by
  refine pw_aload_n eX2_readRight_0 rfl rfl ?_
  obtain ⟨m2, hc3, h⟩ := h
  refine pw_cV (z := mX2_nextToken) (av := []) (st := []) eX2_readRight_1 lk_RX2_35 rfl (by decide) (by decide) sh22 rfl rfl (Nat.le_of_ble_eq_true rfl) rfl hc3 ?_
  show PW S mX2_readRight Q 4 [some (Aq 22), some (Aq r1), none] [] m2
  refine pw_aload_n eX2_readRight_4 rfl rfl ?_
  refine pw_iconst eX2_readRight_5 ⟨by decide, by decide⟩ ?_
  refine pw_bipush eX2_readRight_6 ⟨by decide, by decide⟩ (by decide) ?_
  obtain ⟨v4, m5, hc6, h⟩ := h
  refine pw_cV (z := mX2_isNumber) (av := [Iq 0, Iq 7]) (st := []) eX2_readRight_8 lk_RX2_60 rfl (by decide) (by decide) sh22 rfl rfl (Nat.le_of_ble_eq_true rfl) rfl hc6 ?_
  show PW S mX2_readRight Q 11 [some (Aq 22), some (Aq r1), none] [Iq v4] m5
  refine pw_if_ne eX2_readRight_11 (fun c7 => ?_) (fun c7 => ?_)
  · have h := h.1 c7
    refine pw_aload_n eX2_readRight_16 rfl rfl ?_
    refine gf_RX2_32 rfl eX2_readRight_17 sh22 ?_
    refine pw_istore_n (ls2 := [some (Aq 22), some (Aq r1), some (Iq (m5 22 6))]) eX2_readRight_20 rfl (by decide) rfl ?_
    refine pw_aload_n eX2_readRight_21 rfl rfl ?_
    obtain ⟨m9, hc10, h⟩ := h
    refine pw_cV (z := mX2_nextToken) (av := []) (st := []) eX2_readRight_22 lk_RX2_35 rfl (by decide) (by decide) sh22 rfl rfl (Nat.le_of_ble_eq_true rfl) rfl hc10 ?_
    show PW S mX2_readRight Q 25 [some (Aq 22), some (Aq r1), some (Iq (m5 22 6))] [] m9
    refine pw_aload_n eX2_readRight_25 rfl rfl ?_
    refine pw_iconst eX2_readRight_26 ⟨by decide, by decide⟩ ?_
    refine pw_bipush eX2_readRight_27 ⟨by decide, by decide⟩ (by decide) ?_
    obtain ⟨v11, m12, hc13, h⟩ := h
    refine pw_cV (z := mX2_isNumber) (av := [Iq 0, Iq 99]) (st := []) eX2_readRight_29 lk_RX2_60 rfl (by decide) (by decide) sh22 rfl rfl (Nat.le_of_ble_eq_true rfl) rfl hc13 ?_
    show PW S mX2_readRight Q 32 [some (Aq 22), some (Aq r1), some (Iq (m5 22 6))] [Iq v11] m12
    refine pw_if_ne eX2_readRight_32 (fun c14 => ?_) (fun c14 => ?_)
    · have h := h.1 c14
      refine pw_aload_n eX2_readRight_37 rfl rfl ?_
      refine gf_RX2_64 rfl eX2_readRight_38 (shR hr1) ?_
      refine pw_iload_n eX2_readRight_41 rfl rfl ?_
      refine pw_aload_n eX2_readRight_42 rfl rfl ?_
      refine gf_RX2_32 rfl eX2_readRight_43 sh22 ?_
      obtain ⟨o15, h⟩ := h
      refine pw_iast eX2_readRight_46 (shR1 hr1) o15 ?_
      refine pw_aload_n eX2_readRight_47 rfl rfl ?_
      obtain ⟨m17, hc18, h⟩ := h
      refine pw_cV (z := mX2_nextToken) (av := []) (st := []) eX2_readRight_48 lk_RX2_35 rfl (by decide) (by decide) sh22 rfl rfl (Nat.le_of_ble_eq_true rfl) rfl hc18 ?_
      show PW S mX2_readRight Q 51 [some (Aq 22), some (Aq r1), some (Iq (m5 22 6))] [] m17
      refine pw_iconst eX2_readRight_51 ⟨by decide, by decide⟩ ?_
      exact pw_iret eX2_readRight_52 h
    · have h := h.2 c14
      refine pw_iconst eX2_readRight_35 ⟨by decide, by decide⟩ ?_
      exact pw_iret eX2_readRight_36 h
  · have h := h.2 c7
    refine pw_iconst eX2_readRight_14 ⟨by decide, by decide⟩ ?_
    exact pw_iret eX2_readRight_15 h
set_option maxRecDepth 100000 in
theorem rg_X2_readLimit_0 {S : Sx} {Q : Option PV → Zm → Prop} {mem : Zm}  {r1 : Nat} (hr1 : isRoom r1)
    (h : (∃ (m2 : Zm), Ct1 S mX2_nextToken [Aq 22] mem none m2 ∧ ((∃ (v4 : Int) (m5 : Zm), Ct1 S mX2_isNumber [Aq 22, Iq 1, Iq 9] m2 (some (Iq v4)) m5 ∧ ((((¬ v4 = 0) → ((∃ (m9 : Zm), Ct1 S mX2_nextToken [Aq 22] (mup m5 r1 6 (m5 22 6)) none m9 ∧ (Q (some (Iq 1)) m9)))) ∧ (¬ (¬ v4 = 0) → (Q (some (Iq 0)) m5)))))))) :
    PW S mX2_readLimit Q 0 [some (Aq 22), some (Aq r1)] [] mem := by
  refine pw_aload_n eX2_readLimit_0 rfl rfl ?_
  obtain ⟨m2, hc3, h⟩ := h
  refine pw_cV (z := mX2_nextToken) (av := []) (st := []) eX2_readLimit_1 lk_RX2_35 rfl (by decide) (by decide) sh22 rfl rfl (Nat.le_of_ble_eq_true rfl) rfl hc3 ?_
  show PW S mX2_readLimit Q 4 [some (Aq 22), some (Aq r1)] [] m2
  refine pw_aload_n eX2_readLimit_4 rfl rfl ?_
  refine pw_iconst eX2_readLimit_5 ⟨by decide, by decide⟩ ?_
  refine pw_bipush eX2_readLimit_6 ⟨by decide, by decide⟩ (by decide) ?_
  obtain ⟨v4, m5, hc6, h⟩ := h
  refine pw_cV (z := mX2_isNumber) (av := [Iq 1, Iq 9]) (st := []) eX2_readLimit_8 lk_RX2_60 rfl (by decide) (by decide) sh22 rfl rfl (Nat.le_of_ble_eq_true rfl) rfl hc6 ?_
  show PW S mX2_readLimit Q 11 [some (Aq 22), some (Aq r1)] [Iq v4] m5
  refine pw_if_ne eX2_readLimit_11 (fun c7 => ?_) (fun c7 => ?_)
  · have h := h.1 c7
    refine pw_aload_n eX2_readLimit_16 rfl rfl ?_
    refine pw_aload_n eX2_readLimit_17 rfl rfl ?_
    refine gf_RX2_32 rfl eX2_readLimit_18 sh22 ?_
    refine pf_RX2_70 rfl eX2_readLimit_21 (shR hr1) ?_
    refine pw_aload_n eX2_readLimit_24 rfl rfl ?_
    obtain ⟨m9, hc10, h⟩ := h
    refine pw_cV (z := mX2_nextToken) (av := []) (st := []) eX2_readLimit_25 lk_RX2_35 rfl (by decide) (by decide) sh22 rfl rfl (Nat.le_of_ble_eq_true rfl) rfl hc10 ?_
    show PW S mX2_readLimit Q 28 [some (Aq 22), some (Aq r1)] [] m9
    refine pw_iconst eX2_readLimit_28 ⟨by decide, by decide⟩ ?_
    exact pw_iret eX2_readLimit_29 h
  · have h := h.2 c7
    refine pw_iconst eX2_readLimit_14 ⟨by decide, by decide⟩ ?_
    exact pw_iret eX2_readLimit_15 h
set_option maxRecDepth 100000 in
theorem rg_X2_readChild_0 {S : Sx} {Q : Option PV → Zm → Prop} {mem : Zm}  {r1 : Nat} {x2 : Int} (hr1 : isRoom r1)
    (h : (((mem r1 7 < 8) → ((∃ (v2 : Int) (m3 : Zm), Ct1 S mX0_addChild [Aq r1, Iq x2, Iq 0] mem (some (Iq v2)) m3 ∧ ((∃ (m6 : Zm), Ct1 S mX2_nextToken [Aq 22] m3 none m6 ∧ ((∃ (v8 : Int) (m9 : Zm), Ct1 S mX2_readPerhaps [Aq 22, Aq r1, Iq v2, Jq 461414299507, Iq 1, Iq 255] m6 (some (Iq v8)) m9 ∧ ((((v8 = 0) → (Q (some (Iq 0)) m9)) ∧ (¬ (v8 = 0) → ((in32 (v2 - 1)) ∧ (∃ (v13 : Int) (m14 : Zm), Ct1 S mX2_readPerhaps [Aq 22, Aq r1, Iq v2, Jq 1718775661, Iq 2, Iq (v2 - 1)] m9 (some (Iq v13)) m14 ∧ ((((v13 = 0) → (Q (some (Iq 0)) m14)) ∧ (¬ (v13 = 0) → ((∃ (v17 : Int) (m18 : Zm), Ct1 S mX2_readPerhaps [Aq 22, Aq r1, Iq v2, Jq 7091325959280358515, Iq 4, Iq 999] m14 (some (Iq v17)) m18 ∧ ((((v17 = 0) → (Q (some (Iq 0)) m18)) ∧ (¬ (v17 = 0) → (Q (some (Iq 1)) m18))))))))))))))))))))) ∧ (¬ (mem r1 7 < 8) → (Q (some (Iq 0)) mem)))) :
    PW S mX2_readChild Q 0 [some (Aq 22), some (Aq r1), some (Iq x2), none] [] mem := by
  refine pw_aload_n eX2_readChild_0 rfl rfl ?_
  refine gf_RX2_73 rfl eX2_readChild_1 (shR hr1) ?_
  refine pw_bipush eX2_readChild_4 ⟨by decide, by decide⟩ (by decide) ?_
  refine pw_icmp_lt eX2_readChild_6 (fun c1 => ?_) (fun c1 => ?_)
  · have h := h.1 c1
    refine pw_aload_n eX2_readChild_11 rfl rfl ?_
    refine pw_iload_n eX2_readChild_12 rfl rfl ?_
    refine pw_iconst eX2_readChild_13 ⟨by decide, by decide⟩ ?_
    obtain ⟨v2, m3, hc4, h⟩ := h
    refine pw_cV (z := mX0_addChild) (av := [Iq x2, Iq 0]) (st := []) eX2_readChild_14 lk_RX2_76 rfl (by decide) (by decide) (shR hr1) rfl rfl (Nat.le_of_ble_eq_true rfl) rfl hc4 ?_
    show PW S mX2_readChild Q 17 [some (Aq 22), some (Aq r1), some (Iq x2), none] [Iq v2] m3
    refine pw_istore_n (ls2 := [some (Aq 22), some (Aq r1), some (Iq x2), some (Iq v2)]) eX2_readChild_17 rfl (by decide) rfl ?_
    refine pw_aload_n eX2_readChild_18 rfl rfl ?_
    obtain ⟨m6, hc7, h⟩ := h
    refine pw_cV (z := mX2_nextToken) (av := []) (st := []) eX2_readChild_19 lk_RX2_35 rfl (by decide) (by decide) sh22 rfl rfl (Nat.le_of_ble_eq_true rfl) rfl hc7 ?_
    show PW S mX2_readChild Q 22 [some (Aq 22), some (Aq r1), some (Iq x2), some (Iq v2)] [] m6
    refine pw_aload_n eX2_readChild_22 rfl rfl ?_
    refine pw_aload_n eX2_readChild_23 rfl rfl ?_
    refine pw_iload_n eX2_readChild_24 rfl rfl ?_
    refine pw_ldc2 (n := 461414299507) eX2_readChild_25 ⟨by decide, by decide⟩ kc_RX2_80 ?_
    refine pw_iconst eX2_readChild_28 ⟨by decide, by decide⟩ ?_
    refine pw_sipush eX2_readChild_29 ⟨by decide, by decide⟩ (by decide) ?_
    obtain ⟨v8, m9, hc10, h⟩ := h
    refine pw_cV (z := mX2_readPerhaps) (av := [Aq r1, Iq v2, Jq 461414299507, Iq 1, Iq 255]) (st := []) eX2_readChild_32 lk_RX2_82 rfl (by decide) (by decide) sh22 rfl rfl (Nat.le_of_ble_eq_true rfl) rfl hc10 ?_
    show PW S mX2_readChild Q 35 [some (Aq 22), some (Aq r1), some (Iq x2), some (Iq v2)] [Iq v8] m9
    refine pw_if_eq eX2_readChild_35 (fun c11 => ?_) (fun c11 => ?_)
    · have h := h.1 c11
      refine pw_iconst eX2_readChild_74 ⟨by decide, by decide⟩ ?_
      exact pw_iret eX2_readChild_75 h
    · have h := h.2 c11
      refine pw_aload_n eX2_readChild_38 rfl rfl ?_
      refine pw_aload_n eX2_readChild_39 rfl rfl ?_
      refine pw_iload_n eX2_readChild_40 rfl rfl ?_
      refine pw_ldc2 (n := 1718775661) eX2_readChild_41 ⟨by decide, by decide⟩ kc_RX2_86 ?_
      refine pw_iconst eX2_readChild_44 ⟨by decide, by decide⟩ ?_
      refine pw_iload_n eX2_readChild_45 rfl rfl ?_
      refine pw_iconst eX2_readChild_46 ⟨by decide, by decide⟩ ?_
      obtain ⟨o12, h⟩ := h
      refine pw_isub eX2_readChild_47 o12 ?_
      obtain ⟨v13, m14, hc15, h⟩ := h
      refine pw_cV (z := mX2_readPerhaps) (av := [Aq r1, Iq v2, Jq 1718775661, Iq 2, Iq (v2 - 1)]) (st := []) eX2_readChild_48 lk_RX2_82 rfl (by decide) (by decide) sh22 rfl rfl (Nat.le_of_ble_eq_true rfl) rfl hc15 ?_
      show PW S mX2_readChild Q 51 [some (Aq 22), some (Aq r1), some (Iq x2), some (Iq v2)] [Iq v13] m14
      refine pw_if_eq eX2_readChild_51 (fun c16 => ?_) (fun c16 => ?_)
      · have h := h.1 c16
        refine pw_iconst eX2_readChild_74 ⟨by decide, by decide⟩ ?_
        exact pw_iret eX2_readChild_75 h
      · have h := h.2 c16
        refine pw_aload_n eX2_readChild_54 rfl rfl ?_
        refine pw_aload_n eX2_readChild_55 rfl rfl ?_
        refine pw_iload_n eX2_readChild_56 rfl rfl ?_
        refine pw_ldc2 (n := 7091325959280358515) eX2_readChild_57 ⟨by decide, by decide⟩ kc_RX2_88 ?_
        refine pw_iconst eX2_readChild_60 ⟨by decide, by decide⟩ ?_
        refine pw_sipush eX2_readChild_61 ⟨by decide, by decide⟩ (by decide) ?_
        obtain ⟨v17, m18, hc19, h⟩ := h
        refine pw_cV (z := mX2_readPerhaps) (av := [Aq r1, Iq v2, Jq 7091325959280358515, Iq 4, Iq 999]) (st := []) eX2_readChild_64 lk_RX2_82 rfl (by decide) (by decide) sh22 rfl rfl (Nat.le_of_ble_eq_true rfl) rfl hc19 ?_
        show PW S mX2_readChild Q 67 [some (Aq 22), some (Aq r1), some (Iq x2), some (Iq v2)] [Iq v17] m18
        refine pw_if_eq eX2_readChild_67 (fun c20 => ?_) (fun c20 => ?_)
        · have h := h.1 c20
          refine pw_iconst eX2_readChild_74 ⟨by decide, by decide⟩ ?_
          exact pw_iret eX2_readChild_75 h
        · have h := h.2 c20
          refine pw_iconst eX2_readChild_70 ⟨by decide, by decide⟩ ?_
          refine pw_goto eX2_readChild_71 ?_
          exact pw_iret eX2_readChild_75 h
  · have h := h.2 c1
    refine pw_iconst eX2_readChild_9 ⟨by decide, by decide⟩ ?_
    exact pw_iret eX2_readChild_10 h
set_option maxRecDepth 100000 in
theorem rg_X2_readPerhaps_0 {S : Sx} {Q : Option PV → Zm → Prop} {mem : Zm}  {r1 : Nat} {x2 x3 x5 x6 : Int} (hr1 : isRoom r1)
    (h : (((cmpL (mem 22 5) x3 = 0) → ((∃ (m3 : Zm), Ct1 S mX2_nextToken [Aq 22] mem none m3 ∧ ((∃ (v5 : Int) (m6 : Zm), Ct1 S mX2_isNumber [Aq 22, Iq 0, Iq x6] m3 (some (Iq v5)) m6 ∧ ((((¬ v5 = 0) → ((∃ (m10 : Zm), Ct1 S mX0_setFact [Aq r1, Iq x2, Iq x5, Iq (m6 22 6)] m6 none m10 ∧ ((∃ (m13 : Zm), Ct1 S mX2_nextToken [Aq 22] m10 none m13 ∧ (Q (some (Iq 1)) m13)))))) ∧ (¬ (¬ v5 = 0) → (Q (some (Iq 0)) m6))))))))) ∧ (¬ (cmpL (mem 22 5) x3 = 0) → (Q (some (Iq 1)) mem)))) :
    PW S mX2_readPerhaps Q 0 [some (Aq 22), some (Aq r1), some (Iq x2), some (Jq x3), none, some (Iq x5), some (Iq x6)] [] mem := by
  refine pw_aload_n eX2_readPerhaps_0 rfl rfl ?_
  refine gf_RX2_28 rfl eX2_readPerhaps_1 ?_
  refine pw_lload_n eX2_readPerhaps_4 rfl rfl ?_
  refine pw_lcmp eX2_readPerhaps_5 ?_
  refine pw_if_eq eX2_readPerhaps_6 (fun c1 => ?_) (fun c1 => ?_)
  · have h := h.1 c1
    refine pw_aload_n eX2_readPerhaps_11 rfl rfl ?_
    obtain ⟨m3, hc4, h⟩ := h
    refine pw_cV (z := mX2_nextToken) (av := []) (st := []) eX2_readPerhaps_12 lk_RX2_35 rfl (by decide) (by decide) sh22 rfl rfl (Nat.le_of_ble_eq_true rfl) rfl hc4 ?_
    show PW S mX2_readPerhaps Q 15 [some (Aq 22), some (Aq r1), some (Iq x2), some (Jq x3), none, some (Iq x5), some (Iq x6)] [] m3
    refine pw_aload_n eX2_readPerhaps_15 rfl rfl ?_
    refine pw_iconst eX2_readPerhaps_16 ⟨by decide, by decide⟩ ?_
    refine pw_iload eX2_readPerhaps_17 rfl ?_
    obtain ⟨v5, m6, hc7, h⟩ := h
    refine pw_cV (z := mX2_isNumber) (av := [Iq 0, Iq x6]) (st := []) eX2_readPerhaps_19 lk_RX2_60 rfl (by decide) (by decide) sh22 rfl rfl (Nat.le_of_ble_eq_true rfl) rfl hc7 ?_
    show PW S mX2_readPerhaps Q 22 [some (Aq 22), some (Aq r1), some (Iq x2), some (Jq x3), none, some (Iq x5), some (Iq x6)] [Iq v5] m6
    refine pw_if_ne eX2_readPerhaps_22 (fun c8 => ?_) (fun c8 => ?_)
    · have h := h.1 c8
      refine pw_aload_n eX2_readPerhaps_27 rfl rfl ?_
      refine pw_iload_n eX2_readPerhaps_28 rfl rfl ?_
      refine pw_iload eX2_readPerhaps_29 rfl ?_
      refine pw_aload_n eX2_readPerhaps_31 rfl rfl ?_
      refine gf_RX2_32 rfl eX2_readPerhaps_32 sh22 ?_
      obtain ⟨m10, hc11, h⟩ := h
      refine pw_cV (z := mX0_setFact) (av := [Iq x2, Iq x5, Iq (m6 22 6)]) (st := []) eX2_readPerhaps_35 lk_RX2_90 rfl (by decide) (by decide) (shR hr1) rfl rfl (Nat.le_of_ble_eq_true rfl) rfl hc11 ?_
      show PW S mX2_readPerhaps Q 38 [some (Aq 22), some (Aq r1), some (Iq x2), some (Jq x3), none, some (Iq x5), some (Iq x6)] [] m10
      refine pw_aload_n eX2_readPerhaps_38 rfl rfl ?_
      obtain ⟨m13, hc14, h⟩ := h
      refine pw_cV (z := mX2_nextToken) (av := []) (st := []) eX2_readPerhaps_39 lk_RX2_35 rfl (by decide) (by decide) sh22 rfl rfl (Nat.le_of_ble_eq_true rfl) rfl hc14 ?_
      show PW S mX2_readPerhaps Q 42 [some (Aq 22), some (Aq r1), some (Iq x2), some (Jq x3), none, some (Iq x5), some (Iq x6)] [] m13
      refine pw_iconst eX2_readPerhaps_42 ⟨by decide, by decide⟩ ?_
      exact pw_iret eX2_readPerhaps_43 h
    · have h := h.2 c8
      refine pw_iconst eX2_readPerhaps_25 ⟨by decide, by decide⟩ ?_
      exact pw_iret eX2_readPerhaps_26 h
  · have h := h.2 c1
    refine pw_iconst eX2_readPerhaps_9 ⟨by decide, by decide⟩ ?_
    exact pw_iret eX2_readPerhaps_10 h
set_option maxRecDepth 100000 in
theorem rg_X2_isNumber_0 {S : Sx} {Q : Option PV → Zm → Prop} {mem : Zm}   {x1 x2 : Int} 
    (h : (((¬ mem 22 4 = 2) → (Q (some (Iq 0)) mem)) ∧ (¬ (¬ mem 22 4 = 2) → ((((mem 22 6 < x1) → (Q (some (Iq 0)) mem)) ∧ (¬ (mem 22 6 < x1) → ((((x2 < mem 22 6) → (Q (some (Iq 0)) mem)) ∧ (¬ (x2 < mem 22 6) → (Q (some (Iq 1)) mem)))))))))) :
    PW S mX2_isNumber Q 0 [some (Aq 22), some (Iq x1), some (Iq x2)] [] mem := by
  refine pw_aload_n eX2_isNumber_0 rfl rfl ?_
  refine gf_RX2_25 rfl eX2_isNumber_1 sh22 ?_
  refine pw_iconst eX2_isNumber_4 ⟨by decide, by decide⟩ ?_
  refine pw_icmp_ne eX2_isNumber_5 (fun c1 => ?_) (fun c1 => ?_)
  · have h := h.1 c1
    refine pw_iconst eX2_isNumber_28 ⟨by decide, by decide⟩ ?_
    exact pw_iret eX2_isNumber_29 h
  · have h := h.2 c1
    refine pw_aload_n eX2_isNumber_8 rfl rfl ?_
    refine gf_RX2_32 rfl eX2_isNumber_9 sh22 ?_
    refine pw_iload_n eX2_isNumber_12 rfl rfl ?_
    refine pw_icmp_lt eX2_isNumber_13 (fun c2 => ?_) (fun c2 => ?_)
    · have h := h.1 c2
      refine pw_iconst eX2_isNumber_28 ⟨by decide, by decide⟩ ?_
      exact pw_iret eX2_isNumber_29 h
    · have h := h.2 c2
      refine pw_aload_n eX2_isNumber_16 rfl rfl ?_
      refine gf_RX2_32 rfl eX2_isNumber_17 sh22 ?_
      refine pw_iload_n eX2_isNumber_20 rfl rfl ?_
      refine pw_icmp_gt eX2_isNumber_21 (fun c3 => ?_) (fun c3 => ?_)
      · have h := h.1 c3
        refine pw_iconst eX2_isNumber_28 ⟨by decide, by decide⟩ ?_
        exact pw_iret eX2_isNumber_29 h
      · have h := h.2 c3
        refine pw_iconst eX2_isNumber_24 ⟨by decide, by decide⟩ ?_
        refine pw_goto eX2_isNumber_25 ?_
        exact pw_iret eX2_isNumber_29 h
set_option maxRecDepth 100000 in
theorem rg_X2_nextToken_0 {S : Sx} {Q : Option PV → Zm → Prop} {mem : Zm}   
    (h : (((mem 22 1 ≤ mem 22 3) → (((((mup (mup (mup mem 22 2 (mem 22 3)) 22 5 0) 22 6 (-1)) 22 2 < (mup (mup (mup mem 22 2 (mem 22 3)) 22 5 0) 22 6 (-1)) 22 1) → ((0 ≤ (mup (mup (mup mem 22 2 (mem 22 3)) 22 5 0) 22 6 (-1)) 22 2 ∧ (mup (mup (mup mem 22 2 (mem 22 3)) 22 5 0) 22 6 (-1)) 22 2 < 120) ∧ ((((mup (mup (mup mem 22 2 (mem 22 3)) 22 5 0) 22 6 (-1)) 23 ((mup (mup (mup mem 22 2 (mem 22 3)) 22 5 0) 22 6 (-1)) 22 2).toNat < 97) → ((0 ≤ (mup (mup (mup mem 22 2 (mem 22 3)) 22 5 0) 22 6 (-1)) 22 2 ∧ (mup (mup (mup mem 22 2 (mem 22 3)) 22 5 0) 22 6 (-1)) 22 2 < 120) ∧ ((((mup (mup (mup mem 22 2 (mem 22 3)) 22 5 0) 22 6 (-1)) 23 ((mup (mup (mup mem 22 2 (mem 22 3)) 22 5 0) 22 6 (-1)) 22 2).toNat < 48) → ((0 ≤ (mup (mup (mup mem 22 2 (mem 22 3)) 22 5 0) 22 6 (-1)) 22 2 ∧ (mup (mup (mup mem 22 2 (mem 22 3)) 22 5 0) 22 6 (-1)) 22 2 < 120) ∧ (((¬ (mup (mup (mup mem 22 2 (mem 22 3)) 22 5 0) 22 6 (-1)) 23 ((mup (mup (mup mem 22 2 (mem 22 3)) 22 5 0) 22 6 (-1)) 22 2).toNat = 59) → ((in32 (((mup (mup (mup (mup mem 22 2 (mem 22 3)) 22 5 0) 22 6 (-1)) 22 4 4) 22 3) + 1)) ∧ Q none (mup (mup (mup (mup (mup mem 22 2 (mem 22 3)) 22 5 0) 22 6 (-1)) 22 4 4) 22 3 (((mup (mup (mup (mup mem 22 2 (mem 22 3)) 22 5 0) 22 6 (-1)) 22 4 4) 22 3) + 1)))) ∧ (¬ (¬ (mup (mup (mup mem 22 2 (mem 22 3)) 22 5 0) 22 6 (-1)) 23 ((mup (mup (mup mem 22 2 (mem 22 3)) 22 5 0) 22 6 (-1)) 22 2).toNat = 59) → ((in32 (((mup (mup (mup (mup mem 22 2 (mem 22 3)) 22 5 0) 22 6 (-1)) 22 4 3) 22 3) + 1)) ∧ Q none (mup (mup (mup (mup (mup mem 22 2 (mem 22 3)) 22 5 0) 22 6 (-1)) 22 4 3) 22 3 (((mup (mup (mup (mup mem 22 2 (mem 22 3)) 22 5 0) 22 6 (-1)) 22 4 3) 22 3) + 1))))))) ∧ (¬ ((mup (mup (mup mem 22 2 (mem 22 3)) 22 5 0) 22 6 (-1)) 23 ((mup (mup (mup mem 22 2 (mem 22 3)) 22 5 0) 22 6 (-1)) 22 2).toNat < 48) → ((0 ≤ (mup (mup (mup mem 22 2 (mem 22 3)) 22 5 0) 22 6 (-1)) 22 2 ∧ (mup (mup (mup mem 22 2 (mem 22 3)) 22 5 0) 22 6 (-1)) 22 2 < 120) ∧ (((57 < (mup (mup (mup mem 22 2 (mem 22 3)) 22 5 0) 22 6 (-1)) 23 ((mup (mup (mup mem 22 2 (mem 22 3)) 22 5 0) 22 6 (-1)) 22 2).toNat) → ((0 ≤ (mup (mup (mup mem 22 2 (mem 22 3)) 22 5 0) 22 6 (-1)) 22 2 ∧ (mup (mup (mup mem 22 2 (mem 22 3)) 22 5 0) 22 6 (-1)) 22 2 < 120) ∧ (((¬ (mup (mup (mup mem 22 2 (mem 22 3)) 22 5 0) 22 6 (-1)) 23 ((mup (mup (mup mem 22 2 (mem 22 3)) 22 5 0) 22 6 (-1)) 22 2).toNat = 59) → ((in32 (((mup (mup (mup (mup mem 22 2 (mem 22 3)) 22 5 0) 22 6 (-1)) 22 4 4) 22 3) + 1)) ∧ Q none (mup (mup (mup (mup (mup mem 22 2 (mem 22 3)) 22 5 0) 22 6 (-1)) 22 4 4) 22 3 (((mup (mup (mup (mup mem 22 2 (mem 22 3)) 22 5 0) 22 6 (-1)) 22 4 4) 22 3) + 1)))) ∧ (¬ (¬ (mup (mup (mup mem 22 2 (mem 22 3)) 22 5 0) 22 6 (-1)) 23 ((mup (mup (mup mem 22 2 (mem 22 3)) 22 5 0) 22 6 (-1)) 22 2).toNat = 59) → ((in32 (((mup (mup (mup (mup mem 22 2 (mem 22 3)) 22 5 0) 22 6 (-1)) 22 4 3) 22 3) + 1)) ∧ Q none (mup (mup (mup (mup (mup mem 22 2 (mem 22 3)) 22 5 0) 22 6 (-1)) 22 4 3) 22 3 (((mup (mup (mup (mup mem 22 2 (mem 22 3)) 22 5 0) 22 6 (-1)) 22 4 3) 22 3) + 1))))))) ∧ (¬ (57 < (mup (mup (mup mem 22 2 (mem 22 3)) 22 5 0) 22 6 (-1)) 23 ((mup (mup (mup mem 22 2 (mem 22 3)) 22 5 0) 22 6 (-1)) 22 2).toNat) → ((∃ (m18 : Zm), Ct1 S mX2_takeNumber [Aq 22] (mup (mup (mup mem 22 2 (mem 22 3)) 22 5 0) 22 6 (-1)) none m18 ∧ (Q none m18)))))))))) ∧ (¬ ((mup (mup (mup mem 22 2 (mem 22 3)) 22 5 0) 22 6 (-1)) 23 ((mup (mup (mup mem 22 2 (mem 22 3)) 22 5 0) 22 6 (-1)) 22 2).toNat < 97) → ((0 ≤ (mup (mup (mup mem 22 2 (mem 22 3)) 22 5 0) 22 6 (-1)) 22 2 ∧ (mup (mup (mup mem 22 2 (mem 22 3)) 22 5 0) 22 6 (-1)) 22 2 < 120) ∧ (((122 < (mup (mup (mup mem 22 2 (mem 22 3)) 22 5 0) 22 6 (-1)) 23 ((mup (mup (mup mem 22 2 (mem 22 3)) 22 5 0) 22 6 (-1)) 22 2).toNat) → ((0 ≤ (mup (mup (mup mem 22 2 (mem 22 3)) 22 5 0) 22 6 (-1)) 22 2 ∧ (mup (mup (mup mem 22 2 (mem 22 3)) 22 5 0) 22 6 (-1)) 22 2 < 120) ∧ ((((mup (mup (mup mem 22 2 (mem 22 3)) 22 5 0) 22 6 (-1)) 23 ((mup (mup (mup mem 22 2 (mem 22 3)) 22 5 0) 22 6 (-1)) 22 2).toNat < 48) → ((0 ≤ (mup (mup (mup mem 22 2 (mem 22 3)) 22 5 0) 22 6 (-1)) 22 2 ∧ (mup (mup (mup mem 22 2 (mem 22 3)) 22 5 0) 22 6 (-1)) 22 2 < 120) ∧ (((¬ (mup (mup (mup mem 22 2 (mem 22 3)) 22 5 0) 22 6 (-1)) 23 ((mup (mup (mup mem 22 2 (mem 22 3)) 22 5 0) 22 6 (-1)) 22 2).toNat = 59) → ((in32 (((mup (mup (mup (mup mem 22 2 (mem 22 3)) 22 5 0) 22 6 (-1)) 22 4 4) 22 3) + 1)) ∧ Q none (mup (mup (mup (mup (mup mem 22 2 (mem 22 3)) 22 5 0) 22 6 (-1)) 22 4 4) 22 3 (((mup (mup (mup (mup mem 22 2 (mem 22 3)) 22 5 0) 22 6 (-1)) 22 4 4) 22 3) + 1)))) ∧ (¬ (¬ (mup (mup (mup mem 22 2 (mem 22 3)) 22 5 0) 22 6 (-1)) 23 ((mup (mup (mup mem 22 2 (mem 22 3)) 22 5 0) 22 6 (-1)) 22 2).toNat = 59) → ((in32 (((mup (mup (mup (mup mem 22 2 (mem 22 3)) 22 5 0) 22 6 (-1)) 22 4 3) 22 3) + 1)) ∧ Q none (mup (mup (mup (mup (mup mem 22 2 (mem 22 3)) 22 5 0) 22 6 (-1)) 22 4 3) 22 3 (((mup (mup (mup (mup mem 22 2 (mem 22 3)) 22 5 0) 22 6 (-1)) 22 4 3) 22 3) + 1))))))) ∧ (¬ ((mup (mup (mup mem 22 2 (mem 22 3)) 22 5 0) 22 6 (-1)) 23 ((mup (mup (mup mem 22 2 (mem 22 3)) 22 5 0) 22 6 (-1)) 22 2).toNat < 48) → ((0 ≤ (mup (mup (mup mem 22 2 (mem 22 3)) 22 5 0) 22 6 (-1)) 22 2 ∧ (mup (mup (mup mem 22 2 (mem 22 3)) 22 5 0) 22 6 (-1)) 22 2 < 120) ∧ (((57 < (mup (mup (mup mem 22 2 (mem 22 3)) 22 5 0) 22 6 (-1)) 23 ((mup (mup (mup mem 22 2 (mem 22 3)) 22 5 0) 22 6 (-1)) 22 2).toNat) → ((0 ≤ (mup (mup (mup mem 22 2 (mem 22 3)) 22 5 0) 22 6 (-1)) 22 2 ∧ (mup (mup (mup mem 22 2 (mem 22 3)) 22 5 0) 22 6 (-1)) 22 2 < 120) ∧ (((¬ (mup (mup (mup mem 22 2 (mem 22 3)) 22 5 0) 22 6 (-1)) 23 ((mup (mup (mup mem 22 2 (mem 22 3)) 22 5 0) 22 6 (-1)) 22 2).toNat = 59) → ((in32 (((mup (mup (mup (mup mem 22 2 (mem 22 3)) 22 5 0) 22 6 (-1)) 22 4 4) 22 3) + 1)) ∧ Q none (mup (mup (mup (mup (mup mem 22 2 (mem 22 3)) 22 5 0) 22 6 (-1)) 22 4 4) 22 3 (((mup (mup (mup (mup mem 22 2 (mem 22 3)) 22 5 0) 22 6 (-1)) 22 4 4) 22 3) + 1)))) ∧ (¬ (¬ (mup (mup (mup mem 22 2 (mem 22 3)) 22 5 0) 22 6 (-1)) 23 ((mup (mup (mup mem 22 2 (mem 22 3)) 22 5 0) 22 6 (-1)) 22 2).toNat = 59) → ((in32 (((mup (mup (mup (mup mem 22 2 (mem 22 3)) 22 5 0) 22 6 (-1)) 22 4 3) 22 3) + 1)) ∧ Q none (mup (mup (mup (mup (mup mem 22 2 (mem 22 3)) 22 5 0) 22 6 (-1)) 22 4 3) 22 3 (((mup (mup (mup (mup mem 22 2 (mem 22 3)) 22 5 0) 22 6 (-1)) 22 4 3) 22 3) + 1))))))) ∧ (¬ (57 < (mup (mup (mup mem 22 2 (mem 22 3)) 22 5 0) 22 6 (-1)) 23 ((mup (mup (mup mem 22 2 (mem 22 3)) 22 5 0) 22 6 (-1)) 22 2).toNat) → ((∃ (m35 : Zm), Ct1 S mX2_takeNumber [Aq 22] (mup (mup (mup mem 22 2 (mem 22 3)) 22 5 0) 22 6 (-1)) none m35 ∧ (Q none m35)))))))))) ∧ (¬ (122 < (mup (mup (mup mem 22 2 (mem 22 3)) 22 5 0) 22 6 (-1)) 23 ((mup (mup (mup mem 22 2 (mem 22 3)) 22 5 0) 22 6 (-1)) 22 2).toNat) → ((∃ (m38 : Zm), Ct1 S mX2_takeWord [Aq 22] (mup (mup (mup mem 22 2 (mem 22 3)) 22 5 0) 22 6 (-1)) none m38 ∧ (Q none m38)))))))))) ∧ (¬ ((mup (mup (mup mem 22 2 (mem 22 3)) 22 5 0) 22 6 (-1)) 22 2 < (mup (mup (mup mem 22 2 (mem 22 3)) 22 5 0) 22 6 (-1)) 22 1) → (Q none (mup (mup (mup (mup mem 22 2 (mem 22 3)) 22 5 0) 22 6 (-1)) 22 4 0)))))) ∧ (¬ (mem 22 1 ≤ mem 22 3) → ((0 ≤ mem 22 3 ∧ mem 22 3 < 120) ∧ (((¬ mem 23 (mem 22 3).toNat = 32) → (((((mup (mup (mup mem 22 2 (mem 22 3)) 22 5 0) 22 6 (-1)) 22 2 < (mup (mup (mup mem 22 2 (mem 22 3)) 22 5 0) 22 6 (-1)) 22 1) → ((0 ≤ (mup (mup (mup mem 22 2 (mem 22 3)) 22 5 0) 22 6 (-1)) 22 2 ∧ (mup (mup (mup mem 22 2 (mem 22 3)) 22 5 0) 22 6 (-1)) 22 2 < 120) ∧ ((((mup (mup (mup mem 22 2 (mem 22 3)) 22 5 0) 22 6 (-1)) 23 ((mup (mup (mup mem 22 2 (mem 22 3)) 22 5 0) 22 6 (-1)) 22 2).toNat < 97) → ((0 ≤ (mup (mup (mup mem 22 2 (mem 22 3)) 22 5 0) 22 6 (-1)) 22 2 ∧ (mup (mup (mup mem 22 2 (mem 22 3)) 22 5 0) 22 6 (-1)) 22 2 < 120) ∧ ((((mup (mup (mup mem 22 2 (mem 22 3)) 22 5 0) 22 6 (-1)) 23 ((mup (mup (mup mem 22 2 (mem 22 3)) 22 5 0) 22 6 (-1)) 22 2).toNat < 48) → ((0 ≤ (mup (mup (mup mem 22 2 (mem 22 3)) 22 5 0) 22 6 (-1)) 22 2 ∧ (mup (mup (mup mem 22 2 (mem 22 3)) 22 5 0) 22 6 (-1)) 22 2 < 120) ∧ (((¬ (mup (mup (mup mem 22 2 (mem 22 3)) 22 5 0) 22 6 (-1)) 23 ((mup (mup (mup mem 22 2 (mem 22 3)) 22 5 0) 22 6 (-1)) 22 2).toNat = 59) → ((in32 (((mup (mup (mup (mup mem 22 2 (mem 22 3)) 22 5 0) 22 6 (-1)) 22 4 4) 22 3) + 1)) ∧ Q none (mup (mup (mup (mup (mup mem 22 2 (mem 22 3)) 22 5 0) 22 6 (-1)) 22 4 4) 22 3 (((mup (mup (mup (mup mem 22 2 (mem 22 3)) 22 5 0) 22 6 (-1)) 22 4 4) 22 3) + 1)))) ∧ (¬ (¬ (mup (mup (mup mem 22 2 (mem 22 3)) 22 5 0) 22 6 (-1)) 23 ((mup (mup (mup mem 22 2 (mem 22 3)) 22 5 0) 22 6 (-1)) 22 2).toNat = 59) → ((in32 (((mup (mup (mup (mup mem 22 2 (mem 22 3)) 22 5 0) 22 6 (-1)) 22 4 3) 22 3) + 1)) ∧ Q none (mup (mup (mup (mup (mup mem 22 2 (mem 22 3)) 22 5 0) 22 6 (-1)) 22 4 3) 22 3 (((mup (mup (mup (mup mem 22 2 (mem 22 3)) 22 5 0) 22 6 (-1)) 22 4 3) 22 3) + 1))))))) ∧ (¬ ((mup (mup (mup mem 22 2 (mem 22 3)) 22 5 0) 22 6 (-1)) 23 ((mup (mup (mup mem 22 2 (mem 22 3)) 22 5 0) 22 6 (-1)) 22 2).toNat < 48) → ((0 ≤ (mup (mup (mup mem 22 2 (mem 22 3)) 22 5 0) 22 6 (-1)) 22 2 ∧ (mup (mup (mup mem 22 2 (mem 22 3)) 22 5 0) 22 6 (-1)) 22 2 < 120) ∧ (((57 < (mup (mup (mup mem 22 2 (mem 22 3)) 22 5 0) 22 6 (-1)) 23 ((mup (mup (mup mem 22 2 (mem 22 3)) 22 5 0) 22 6 (-1)) 22 2).toNat) → ((0 ≤ (mup (mup (mup mem 22 2 (mem 22 3)) 22 5 0) 22 6 (-1)) 22 2 ∧ (mup (mup (mup mem 22 2 (mem 22 3)) 22 5 0) 22 6 (-1)) 22 2 < 120) ∧ (((¬ (mup (mup (mup mem 22 2 (mem 22 3)) 22 5 0) 22 6 (-1)) 23 ((mup (mup (mup mem 22 2 (mem 22 3)) 22 5 0) 22 6 (-1)) 22 2).toNat = 59) → ((in32 (((mup (mup (mup (mup mem 22 2 (mem 22 3)) 22 5 0) 22 6 (-1)) 22 4 4) 22 3) + 1)) ∧ Q none (mup (mup (mup (mup (mup mem 22 2 (mem 22 3)) 22 5 0) 22 6 (-1)) 22 4 4) 22 3 (((mup (mup (mup (mup mem 22 2 (mem 22 3)) 22 5 0) 22 6 (-1)) 22 4 4) 22 3) + 1)))) ∧ (¬ (¬ (mup (mup (mup mem 22 2 (mem 22 3)) 22 5 0) 22 6 (-1)) 23 ((mup (mup (mup mem 22 2 (mem 22 3)) 22 5 0) 22 6 (-1)) 22 2).toNat = 59) → ((in32 (((mup (mup (mup (mup mem 22 2 (mem 22 3)) 22 5 0) 22 6 (-1)) 22 4 3) 22 3) + 1)) ∧ Q none (mup (mup (mup (mup (mup mem 22 2 (mem 22 3)) 22 5 0) 22 6 (-1)) 22 4 3) 22 3 (((mup (mup (mup (mup mem 22 2 (mem 22 3)) 22 5 0) 22 6 (-1)) 22 4 3) 22 3) + 1))))))) ∧ (¬ (57 < (mup (mup (mup mem 22 2 (mem 22 3)) 22 5 0) 22 6 (-1)) 23 ((mup (mup (mup mem 22 2 (mem 22 3)) 22 5 0) 22 6 (-1)) 22 2).toNat) → ((∃ (m58 : Zm), Ct1 S mX2_takeNumber [Aq 22] (mup (mup (mup mem 22 2 (mem 22 3)) 22 5 0) 22 6 (-1)) none m58 ∧ (Q none m58)))))))))) ∧ (¬ ((mup (mup (mup mem 22 2 (mem 22 3)) 22 5 0) 22 6 (-1)) 23 ((mup (mup (mup mem 22 2 (mem 22 3)) 22 5 0) 22 6 (-1)) 22 2).toNat < 97) → ((0 ≤ (mup (mup (mup mem 22 2 (mem 22 3)) 22 5 0) 22 6 (-1)) 22 2 ∧ (mup (mup (mup mem 22 2 (mem 22 3)) 22 5 0) 22 6 (-1)) 22 2 < 120) ∧ (((122 < (mup (mup (mup mem 22 2 (mem 22 3)) 22 5 0) 22 6 (-1)) 23 ((mup (mup (mup mem 22 2 (mem 22 3)) 22 5 0) 22 6 (-1)) 22 2).toNat) → ((0 ≤ (mup (mup (mup mem 22 2 (mem 22 3)) 22 5 0) 22 6 (-1)) 22 2 ∧ (mup (mup (mup mem 22 2 (mem 22 3)) 22 5 0) 22 6 (-1)) 22 2 < 120) ∧ ((((mup (mup (mup mem 22 2 (mem 22 3)) 22 5 0) 22 6 (-1)) 23 ((mup (mup (mup mem 22 2 (mem 22 3)) 22 5 0) 22 6 (-1)) 22 2).toNat < 48) → ((0 ≤ (mup (mup (mup mem 22 2 (mem 22 3)) 22 5 0) 22 6 (-1)) 22 2 ∧ (mup (mup (mup mem 22 2 (mem 22 3)) 22 5 0) 22 6 (-1)) 22 2 < 120) ∧ (((¬ (mup (mup (mup mem 22 2 (mem 22 3)) 22 5 0) 22 6 (-1)) 23 ((mup (mup (mup mem 22 2 (mem 22 3)) 22 5 0) 22 6 (-1)) 22 2).toNat = 59) → ((in32 (((mup (mup (mup (mup mem 22 2 (mem 22 3)) 22 5 0) 22 6 (-1)) 22 4 4) 22 3) + 1)) ∧ Q none (mup (mup (mup (mup (mup mem 22 2 (mem 22 3)) 22 5 0) 22 6 (-1)) 22 4 4) 22 3 (((mup (mup (mup (mup mem 22 2 (mem 22 3)) 22 5 0) 22 6 (-1)) 22 4 4) 22 3) + 1)))) ∧ (¬ (¬ (mup (mup (mup mem 22 2 (mem 22 3)) 22 5 0) 22 6 (-1)) 23 ((mup (mup (mup mem 22 2 (mem 22 3)) 22 5 0) 22 6 (-1)) 22 2).toNat = 59) → ((in32 (((mup (mup (mup (mup mem 22 2 (mem 22 3)) 22 5 0) 22 6 (-1)) 22 4 3) 22 3) + 1)) ∧ Q none (mup (mup (mup (mup (mup mem 22 2 (mem 22 3)) 22 5 0) 22 6 (-1)) 22 4 3) 22 3 (((mup (mup (mup (mup mem 22 2 (mem 22 3)) 22 5 0) 22 6 (-1)) 22 4 3) 22 3) + 1))))))) ∧ (¬ ((mup (mup (mup mem 22 2 (mem 22 3)) 22 5 0) 22 6 (-1)) 23 ((mup (mup (mup mem 22 2 (mem 22 3)) 22 5 0) 22 6 (-1)) 22 2).toNat < 48) → ((0 ≤ (mup (mup (mup mem 22 2 (mem 22 3)) 22 5 0) 22 6 (-1)) 22 2 ∧ (mup (mup (mup mem 22 2 (mem 22 3)) 22 5 0) 22 6 (-1)) 22 2 < 120) ∧ (((57 < (mup (mup (mup mem 22 2 (mem 22 3)) 22 5 0) 22 6 (-1)) 23 ((mup (mup (mup mem 22 2 (mem 22 3)) 22 5 0) 22 6 (-1)) 22 2).toNat) → ((0 ≤ (mup (mup (mup mem 22 2 (mem 22 3)) 22 5 0) 22 6 (-1)) 22 2 ∧ (mup (mup (mup mem 22 2 (mem 22 3)) 22 5 0) 22 6 (-1)) 22 2 < 120) ∧ (((¬ (mup (mup (mup mem 22 2 (mem 22 3)) 22 5 0) 22 6 (-1)) 23 ((mup (mup (mup mem 22 2 (mem 22 3)) 22 5 0) 22 6 (-1)) 22 2).toNat = 59) → ((in32 (((mup (mup (mup (mup mem 22 2 (mem 22 3)) 22 5 0) 22 6 (-1)) 22 4 4) 22 3) + 1)) ∧ Q none (mup (mup (mup (mup (mup mem 22 2 (mem 22 3)) 22 5 0) 22 6 (-1)) 22 4 4) 22 3 (((mup (mup (mup (mup mem 22 2 (mem 22 3)) 22 5 0) 22 6 (-1)) 22 4 4) 22 3) + 1)))) ∧ (¬ (¬ (mup (mup (mup mem 22 2 (mem 22 3)) 22 5 0) 22 6 (-1)) 23 ((mup (mup (mup mem 22 2 (mem 22 3)) 22 5 0) 22 6 (-1)) 22 2).toNat = 59) → ((in32 (((mup (mup (mup (mup mem 22 2 (mem 22 3)) 22 5 0) 22 6 (-1)) 22 4 3) 22 3) + 1)) ∧ Q none (mup (mup (mup (mup (mup mem 22 2 (mem 22 3)) 22 5 0) 22 6 (-1)) 22 4 3) 22 3 (((mup (mup (mup (mup mem 22 2 (mem 22 3)) 22 5 0) 22 6 (-1)) 22 4 3) 22 3) + 1))))))) ∧ (¬ (57 < (mup (mup (mup mem 22 2 (mem 22 3)) 22 5 0) 22 6 (-1)) 23 ((mup (mup (mup mem 22 2 (mem 22 3)) 22 5 0) 22 6 (-1)) 22 2).toNat) → ((∃ (m75 : Zm), Ct1 S mX2_takeNumber [Aq 22] (mup (mup (mup mem 22 2 (mem 22 3)) 22 5 0) 22 6 (-1)) none m75 ∧ (Q none m75)))))))))) ∧ (¬ (122 < (mup (mup (mup mem 22 2 (mem 22 3)) 22 5 0) 22 6 (-1)) 23 ((mup (mup (mup mem 22 2 (mem 22 3)) 22 5 0) 22 6 (-1)) 22 2).toNat) → ((∃ (m78 : Zm), Ct1 S mX2_takeWord [Aq 22] (mup (mup (mup mem 22 2 (mem 22 3)) 22 5 0) 22 6 (-1)) none m78 ∧ (Q none m78)))))))))) ∧ (¬ ((mup (mup (mup mem 22 2 (mem 22 3)) 22 5 0) 22 6 (-1)) 22 2 < (mup (mup (mup mem 22 2 (mem 22 3)) 22 5 0) 22 6 (-1)) 22 1) → (Q none (mup (mup (mup (mup mem 22 2 (mem 22 3)) 22 5 0) 22 6 (-1)) 22 4 0)))))) ∧ (¬ (¬ mem 23 (mem 22 3).toNat = 32) → ((in32 ((mem 22 3) + 1)) ∧ PW S mX2_nextToken Q 0 [some (Aq 22)] [] (mup mem 22 3 ((mem 22 3) + 1))))))))) :
    PW S mX2_nextToken Q 0 [some (Aq 22)] [] mem := by
  refine pw_aload_n eX2_nextToken_0 rfl rfl ?_
  refine gf_RX2_22 rfl eX2_nextToken_1 sh22 ?_
  refine pw_aload_n eX2_nextToken_4 rfl rfl ?_
  refine gf_RX2_15 rfl eX2_nextToken_5 sh22 ?_
  refine pw_icmp_ge eX2_nextToken_8 (fun c1 => ?_) (fun c1 => ?_)
  · have h := h.1 c1
    refine pw_aload_n eX2_nextToken_38 rfl rfl ?_
    refine pw_aload_n eX2_nextToken_39 rfl rfl ?_
    refine gf_RX2_22 rfl eX2_nextToken_40 sh22 ?_
    refine pf_RX2_19 rfl eX2_nextToken_43 sh22 ?_
    refine pw_aload_n eX2_nextToken_46 rfl rfl ?_
    refine pw_lconst (v := 0) eX2_nextToken_47 ⟨by decide, by decide⟩ rfl ?_
    refine pf_RX2_28 rfl eX2_nextToken_48 ?_
    refine pw_aload_n eX2_nextToken_51 rfl rfl ?_
    refine pw_iconst eX2_nextToken_52 ⟨by decide, by decide⟩ ?_
    refine pf_RX2_32 rfl eX2_nextToken_53 sh22 ?_
    refine pw_aload_n eX2_nextToken_56 rfl rfl ?_
    refine gf_RX2_19 rfl eX2_nextToken_57 sh22 ?_
    refine pw_aload_n eX2_nextToken_60 rfl rfl ?_
    refine gf_RX2_15 rfl eX2_nextToken_61 sh22 ?_
    refine pw_icmp_lt eX2_nextToken_64 (fun c2 => ?_) (fun c2 => ?_)
    · have h := h.1 c2
      refine pw_aload_n eX2_nextToken_75 rfl rfl ?_
      refine gf_RX2_9 rfl eX2_nextToken_76 sh22 ?_
      refine pw_aload_n eX2_nextToken_79 rfl rfl ?_
      refine gf_RX2_19 rfl eX2_nextToken_80 sh22 ?_
      obtain ⟨o3, h⟩ := h
      refine pw_bald eX2_nextToken_83 sh23 o3 ?_
      refine pw_bipush eX2_nextToken_84 ⟨by decide, by decide⟩ (by decide) ?_
      refine pw_icmp_lt eX2_nextToken_86 (fun c4 => ?_) (fun c4 => ?_)
      · have h := h.1 c4
        refine pw_aload_n eX2_nextToken_110 rfl rfl ?_
        refine gf_RX2_9 rfl eX2_nextToken_111 sh22 ?_
        refine pw_aload_n eX2_nextToken_114 rfl rfl ?_
        refine gf_RX2_19 rfl eX2_nextToken_115 sh22 ?_
        obtain ⟨o5, h⟩ := h
        refine pw_bald eX2_nextToken_118 sh23 o5 ?_
        refine pw_bipush eX2_nextToken_119 ⟨by decide, by decide⟩ (by decide) ?_
        refine pw_icmp_lt eX2_nextToken_121 (fun c6 => ?_) (fun c6 => ?_)
        · have h := h.1 c6
          refine pw_aload_n eX2_nextToken_145 rfl rfl ?_
          refine pw_aload_n eX2_nextToken_146 rfl rfl ?_
          refine gf_RX2_9 rfl eX2_nextToken_147 sh22 ?_
          refine pw_aload_n eX2_nextToken_150 rfl rfl ?_
          refine gf_RX2_19 rfl eX2_nextToken_151 sh22 ?_
          obtain ⟨o7, h⟩ := h
          refine pw_bald eX2_nextToken_154 sh23 o7 ?_
          refine pw_bipush eX2_nextToken_155 ⟨by decide, by decide⟩ (by decide) ?_
          refine pw_icmp_ne eX2_nextToken_157 (fun c8 => ?_) (fun c8 => ?_)
          · have h := h.1 c8
            refine pw_iconst eX2_nextToken_164 ⟨by decide, by decide⟩ ?_
            refine pf_RX2_25 rfl eX2_nextToken_165 sh22 ?_
            refine pw_aload_n eX2_nextToken_168 rfl rfl ?_
            refine pw_dup eX2_nextToken_169 rfl ?_
            refine gf_RX2_22 rfl eX2_nextToken_170 sh22 ?_
            refine pw_iconst eX2_nextToken_173 ⟨by decide, by decide⟩ ?_
            obtain ⟨o9, h⟩ := h
            refine pw_iadd eX2_nextToken_174 o9 ?_
            refine pf_RX2_22 rfl eX2_nextToken_175 sh22 ?_
            exact pw_vret eX2_nextToken_178 h
          · have h := h.2 c8
            refine pw_iconst eX2_nextToken_160 ⟨by decide, by decide⟩ ?_
            refine pw_goto eX2_nextToken_161 ?_
            refine pf_RX2_25 rfl eX2_nextToken_165 sh22 ?_
            refine pw_aload_n eX2_nextToken_168 rfl rfl ?_
            refine pw_dup eX2_nextToken_169 rfl ?_
            refine gf_RX2_22 rfl eX2_nextToken_170 sh22 ?_
            refine pw_iconst eX2_nextToken_173 ⟨by decide, by decide⟩ ?_
            obtain ⟨o10, h⟩ := h
            refine pw_iadd eX2_nextToken_174 o10 ?_
            refine pf_RX2_22 rfl eX2_nextToken_175 sh22 ?_
            exact pw_vret eX2_nextToken_178 h
        · have h := h.2 c6
          refine pw_aload_n eX2_nextToken_124 rfl rfl ?_
          refine gf_RX2_9 rfl eX2_nextToken_125 sh22 ?_
          refine pw_aload_n eX2_nextToken_128 rfl rfl ?_
          refine gf_RX2_19 rfl eX2_nextToken_129 sh22 ?_
          obtain ⟨o11, h⟩ := h
          refine pw_bald eX2_nextToken_132 sh23 o11 ?_
          refine pw_bipush eX2_nextToken_133 ⟨by decide, by decide⟩ (by decide) ?_
          refine pw_icmp_gt eX2_nextToken_135 (fun c12 => ?_) (fun c12 => ?_)
          · have h := h.1 c12
            refine pw_aload_n eX2_nextToken_145 rfl rfl ?_
            refine pw_aload_n eX2_nextToken_146 rfl rfl ?_
            refine gf_RX2_9 rfl eX2_nextToken_147 sh22 ?_
            refine pw_aload_n eX2_nextToken_150 rfl rfl ?_
            refine gf_RX2_19 rfl eX2_nextToken_151 sh22 ?_
            obtain ⟨o13, h⟩ := h
            refine pw_bald eX2_nextToken_154 sh23 o13 ?_
            refine pw_bipush eX2_nextToken_155 ⟨by decide, by decide⟩ (by decide) ?_
            refine pw_icmp_ne eX2_nextToken_157 (fun c14 => ?_) (fun c14 => ?_)
            · have h := h.1 c14
              refine pw_iconst eX2_nextToken_164 ⟨by decide, by decide⟩ ?_
              refine pf_RX2_25 rfl eX2_nextToken_165 sh22 ?_
              refine pw_aload_n eX2_nextToken_168 rfl rfl ?_
              refine pw_dup eX2_nextToken_169 rfl ?_
              refine gf_RX2_22 rfl eX2_nextToken_170 sh22 ?_
              refine pw_iconst eX2_nextToken_173 ⟨by decide, by decide⟩ ?_
              obtain ⟨o15, h⟩ := h
              refine pw_iadd eX2_nextToken_174 o15 ?_
              refine pf_RX2_22 rfl eX2_nextToken_175 sh22 ?_
              exact pw_vret eX2_nextToken_178 h
            · have h := h.2 c14
              refine pw_iconst eX2_nextToken_160 ⟨by decide, by decide⟩ ?_
              refine pw_goto eX2_nextToken_161 ?_
              refine pf_RX2_25 rfl eX2_nextToken_165 sh22 ?_
              refine pw_aload_n eX2_nextToken_168 rfl rfl ?_
              refine pw_dup eX2_nextToken_169 rfl ?_
              refine gf_RX2_22 rfl eX2_nextToken_170 sh22 ?_
              refine pw_iconst eX2_nextToken_173 ⟨by decide, by decide⟩ ?_
              obtain ⟨o16, h⟩ := h
              refine pw_iadd eX2_nextToken_174 o16 ?_
              refine pf_RX2_22 rfl eX2_nextToken_175 sh22 ?_
              exact pw_vret eX2_nextToken_178 h
          · have h := h.2 c12
            refine pw_aload_n eX2_nextToken_138 rfl rfl ?_
            obtain ⟨m18, hc19, h⟩ := h
            refine pw_cV (z := mX2_takeNumber) (av := []) (st := []) eX2_nextToken_139 lk_RX2_97 rfl (by decide) (by decide) sh22 rfl rfl (Nat.le_of_ble_eq_true rfl) rfl hc19 ?_
            show PW S mX2_nextToken Q 142 [some (Aq 22)] [] m18
            refine pw_goto eX2_nextToken_142 ?_
            exact pw_vret eX2_nextToken_178 h
      · have h := h.2 c4
        refine pw_aload_n eX2_nextToken_89 rfl rfl ?_
        refine gf_RX2_9 rfl eX2_nextToken_90 sh22 ?_
        refine pw_aload_n eX2_nextToken_93 rfl rfl ?_
        refine gf_RX2_19 rfl eX2_nextToken_94 sh22 ?_
        obtain ⟨o20, h⟩ := h
        refine pw_bald eX2_nextToken_97 sh23 o20 ?_
        refine pw_bipush eX2_nextToken_98 ⟨by decide, by decide⟩ (by decide) ?_
        refine pw_icmp_gt eX2_nextToken_100 (fun c21 => ?_) (fun c21 => ?_)
        · have h := h.1 c21
          refine pw_aload_n eX2_nextToken_110 rfl rfl ?_
          refine gf_RX2_9 rfl eX2_nextToken_111 sh22 ?_
          refine pw_aload_n eX2_nextToken_114 rfl rfl ?_
          refine gf_RX2_19 rfl eX2_nextToken_115 sh22 ?_
          obtain ⟨o22, h⟩ := h
          refine pw_bald eX2_nextToken_118 sh23 o22 ?_
          refine pw_bipush eX2_nextToken_119 ⟨by decide, by decide⟩ (by decide) ?_
          refine pw_icmp_lt eX2_nextToken_121 (fun c23 => ?_) (fun c23 => ?_)
          · have h := h.1 c23
            refine pw_aload_n eX2_nextToken_145 rfl rfl ?_
            refine pw_aload_n eX2_nextToken_146 rfl rfl ?_
            refine gf_RX2_9 rfl eX2_nextToken_147 sh22 ?_
            refine pw_aload_n eX2_nextToken_150 rfl rfl ?_
            refine gf_RX2_19 rfl eX2_nextToken_151 sh22 ?_
            obtain ⟨o24, h⟩ := h
            refine pw_bald eX2_nextToken_154 sh23 o24 ?_
            refine pw_bipush eX2_nextToken_155 ⟨by decide, by decide⟩ (by decide) ?_
            refine pw_icmp_ne eX2_nextToken_157 (fun c25 => ?_) (fun c25 => ?_)
            · have h := h.1 c25
              refine pw_iconst eX2_nextToken_164 ⟨by decide, by decide⟩ ?_
              refine pf_RX2_25 rfl eX2_nextToken_165 sh22 ?_
              refine pw_aload_n eX2_nextToken_168 rfl rfl ?_
              refine pw_dup eX2_nextToken_169 rfl ?_
              refine gf_RX2_22 rfl eX2_nextToken_170 sh22 ?_
              refine pw_iconst eX2_nextToken_173 ⟨by decide, by decide⟩ ?_
              obtain ⟨o26, h⟩ := h
              refine pw_iadd eX2_nextToken_174 o26 ?_
              refine pf_RX2_22 rfl eX2_nextToken_175 sh22 ?_
              exact pw_vret eX2_nextToken_178 h
            · have h := h.2 c25
              refine pw_iconst eX2_nextToken_160 ⟨by decide, by decide⟩ ?_
              refine pw_goto eX2_nextToken_161 ?_
              refine pf_RX2_25 rfl eX2_nextToken_165 sh22 ?_
              refine pw_aload_n eX2_nextToken_168 rfl rfl ?_
              refine pw_dup eX2_nextToken_169 rfl ?_
              refine gf_RX2_22 rfl eX2_nextToken_170 sh22 ?_
              refine pw_iconst eX2_nextToken_173 ⟨by decide, by decide⟩ ?_
              obtain ⟨o27, h⟩ := h
              refine pw_iadd eX2_nextToken_174 o27 ?_
              refine pf_RX2_22 rfl eX2_nextToken_175 sh22 ?_
              exact pw_vret eX2_nextToken_178 h
          · have h := h.2 c23
            refine pw_aload_n eX2_nextToken_124 rfl rfl ?_
            refine gf_RX2_9 rfl eX2_nextToken_125 sh22 ?_
            refine pw_aload_n eX2_nextToken_128 rfl rfl ?_
            refine gf_RX2_19 rfl eX2_nextToken_129 sh22 ?_
            obtain ⟨o28, h⟩ := h
            refine pw_bald eX2_nextToken_132 sh23 o28 ?_
            refine pw_bipush eX2_nextToken_133 ⟨by decide, by decide⟩ (by decide) ?_
            refine pw_icmp_gt eX2_nextToken_135 (fun c29 => ?_) (fun c29 => ?_)
            · have h := h.1 c29
              refine pw_aload_n eX2_nextToken_145 rfl rfl ?_
              refine pw_aload_n eX2_nextToken_146 rfl rfl ?_
              refine gf_RX2_9 rfl eX2_nextToken_147 sh22 ?_
              refine pw_aload_n eX2_nextToken_150 rfl rfl ?_
              refine gf_RX2_19 rfl eX2_nextToken_151 sh22 ?_
              obtain ⟨o30, h⟩ := h
              refine pw_bald eX2_nextToken_154 sh23 o30 ?_
              refine pw_bipush eX2_nextToken_155 ⟨by decide, by decide⟩ (by decide) ?_
              refine pw_icmp_ne eX2_nextToken_157 (fun c31 => ?_) (fun c31 => ?_)
              · have h := h.1 c31
                refine pw_iconst eX2_nextToken_164 ⟨by decide, by decide⟩ ?_
                refine pf_RX2_25 rfl eX2_nextToken_165 sh22 ?_
                refine pw_aload_n eX2_nextToken_168 rfl rfl ?_
                refine pw_dup eX2_nextToken_169 rfl ?_
                refine gf_RX2_22 rfl eX2_nextToken_170 sh22 ?_
                refine pw_iconst eX2_nextToken_173 ⟨by decide, by decide⟩ ?_
                obtain ⟨o32, h⟩ := h
                refine pw_iadd eX2_nextToken_174 o32 ?_
                refine pf_RX2_22 rfl eX2_nextToken_175 sh22 ?_
                exact pw_vret eX2_nextToken_178 h
              · have h := h.2 c31
                refine pw_iconst eX2_nextToken_160 ⟨by decide, by decide⟩ ?_
                refine pw_goto eX2_nextToken_161 ?_
                refine pf_RX2_25 rfl eX2_nextToken_165 sh22 ?_
                refine pw_aload_n eX2_nextToken_168 rfl rfl ?_
                refine pw_dup eX2_nextToken_169 rfl ?_
                refine gf_RX2_22 rfl eX2_nextToken_170 sh22 ?_
                refine pw_iconst eX2_nextToken_173 ⟨by decide, by decide⟩ ?_
                obtain ⟨o33, h⟩ := h
                refine pw_iadd eX2_nextToken_174 o33 ?_
                refine pf_RX2_22 rfl eX2_nextToken_175 sh22 ?_
                exact pw_vret eX2_nextToken_178 h
            · have h := h.2 c29
              refine pw_aload_n eX2_nextToken_138 rfl rfl ?_
              obtain ⟨m35, hc36, h⟩ := h
              refine pw_cV (z := mX2_takeNumber) (av := []) (st := []) eX2_nextToken_139 lk_RX2_97 rfl (by decide) (by decide) sh22 rfl rfl (Nat.le_of_ble_eq_true rfl) rfl hc36 ?_
              show PW S mX2_nextToken Q 142 [some (Aq 22)] [] m35
              refine pw_goto eX2_nextToken_142 ?_
              exact pw_vret eX2_nextToken_178 h
        · have h := h.2 c21
          refine pw_aload_n eX2_nextToken_103 rfl rfl ?_
          obtain ⟨m38, hc39, h⟩ := h
          refine pw_cV (z := mX2_takeWord) (av := []) (st := []) eX2_nextToken_104 lk_RX2_94 rfl (by decide) (by decide) sh22 rfl rfl (Nat.le_of_ble_eq_true rfl) rfl hc39 ?_
          show PW S mX2_nextToken Q 107 [some (Aq 22)] [] m38
          refine pw_goto eX2_nextToken_107 ?_
          exact pw_vret eX2_nextToken_178 h
    · have h := h.2 c2
      refine pw_aload_n eX2_nextToken_67 rfl rfl ?_
      refine pw_iconst eX2_nextToken_68 ⟨by decide, by decide⟩ ?_
      refine pf_RX2_25 rfl eX2_nextToken_69 sh22 ?_
      refine pw_goto eX2_nextToken_72 ?_
      exact pw_vret eX2_nextToken_178 h
  · have h := h.2 c1
    refine pw_aload_n eX2_nextToken_11 rfl rfl ?_
    refine gf_RX2_9 rfl eX2_nextToken_12 sh22 ?_
    refine pw_aload_n eX2_nextToken_15 rfl rfl ?_
    refine gf_RX2_22 rfl eX2_nextToken_16 sh22 ?_
    obtain ⟨o40, h⟩ := h
    refine pw_bald eX2_nextToken_19 sh23 o40 ?_
    refine pw_bipush eX2_nextToken_20 ⟨by decide, by decide⟩ (by decide) ?_
    refine pw_icmp_ne eX2_nextToken_22 (fun c41 => ?_) (fun c41 => ?_)
    · have h := h.1 c41
      refine pw_aload_n eX2_nextToken_38 rfl rfl ?_
      refine pw_aload_n eX2_nextToken_39 rfl rfl ?_
      refine gf_RX2_22 rfl eX2_nextToken_40 sh22 ?_
      refine pf_RX2_19 rfl eX2_nextToken_43 sh22 ?_
      refine pw_aload_n eX2_nextToken_46 rfl rfl ?_
      refine pw_lconst (v := 0) eX2_nextToken_47 ⟨by decide, by decide⟩ rfl ?_
      refine pf_RX2_28 rfl eX2_nextToken_48 ?_
      refine pw_aload_n eX2_nextToken_51 rfl rfl ?_
      refine pw_iconst eX2_nextToken_52 ⟨by decide, by decide⟩ ?_
      refine pf_RX2_32 rfl eX2_nextToken_53 sh22 ?_
      refine pw_aload_n eX2_nextToken_56 rfl rfl ?_
      refine gf_RX2_19 rfl eX2_nextToken_57 sh22 ?_
      refine pw_aload_n eX2_nextToken_60 rfl rfl ?_
      refine gf_RX2_15 rfl eX2_nextToken_61 sh22 ?_
      refine pw_icmp_lt eX2_nextToken_64 (fun c42 => ?_) (fun c42 => ?_)
      · have h := h.1 c42
        refine pw_aload_n eX2_nextToken_75 rfl rfl ?_
        refine gf_RX2_9 rfl eX2_nextToken_76 sh22 ?_
        refine pw_aload_n eX2_nextToken_79 rfl rfl ?_
        refine gf_RX2_19 rfl eX2_nextToken_80 sh22 ?_
        obtain ⟨o43, h⟩ := h
        refine pw_bald eX2_nextToken_83 sh23 o43 ?_
        refine pw_bipush eX2_nextToken_84 ⟨by decide, by decide⟩ (by decide) ?_
        refine pw_icmp_lt eX2_nextToken_86 (fun c44 => ?_) (fun c44 => ?_)
        · have h := h.1 c44
          refine pw_aload_n eX2_nextToken_110 rfl rfl ?_
          refine gf_RX2_9 rfl eX2_nextToken_111 sh22 ?_
          refine pw_aload_n eX2_nextToken_114 rfl rfl ?_
          refine gf_RX2_19 rfl eX2_nextToken_115 sh22 ?_
          obtain ⟨o45, h⟩ := h
          refine pw_bald eX2_nextToken_118 sh23 o45 ?_
          refine pw_bipush eX2_nextToken_119 ⟨by decide, by decide⟩ (by decide) ?_
          refine pw_icmp_lt eX2_nextToken_121 (fun c46 => ?_) (fun c46 => ?_)
          · have h := h.1 c46
            refine pw_aload_n eX2_nextToken_145 rfl rfl ?_
            refine pw_aload_n eX2_nextToken_146 rfl rfl ?_
            refine gf_RX2_9 rfl eX2_nextToken_147 sh22 ?_
            refine pw_aload_n eX2_nextToken_150 rfl rfl ?_
            refine gf_RX2_19 rfl eX2_nextToken_151 sh22 ?_
            obtain ⟨o47, h⟩ := h
            refine pw_bald eX2_nextToken_154 sh23 o47 ?_
            refine pw_bipush eX2_nextToken_155 ⟨by decide, by decide⟩ (by decide) ?_
            refine pw_icmp_ne eX2_nextToken_157 (fun c48 => ?_) (fun c48 => ?_)
            · have h := h.1 c48
              refine pw_iconst eX2_nextToken_164 ⟨by decide, by decide⟩ ?_
              refine pf_RX2_25 rfl eX2_nextToken_165 sh22 ?_
              refine pw_aload_n eX2_nextToken_168 rfl rfl ?_
              refine pw_dup eX2_nextToken_169 rfl ?_
              refine gf_RX2_22 rfl eX2_nextToken_170 sh22 ?_
              refine pw_iconst eX2_nextToken_173 ⟨by decide, by decide⟩ ?_
              obtain ⟨o49, h⟩ := h
              refine pw_iadd eX2_nextToken_174 o49 ?_
              refine pf_RX2_22 rfl eX2_nextToken_175 sh22 ?_
              exact pw_vret eX2_nextToken_178 h
            · have h := h.2 c48
              refine pw_iconst eX2_nextToken_160 ⟨by decide, by decide⟩ ?_
              refine pw_goto eX2_nextToken_161 ?_
              refine pf_RX2_25 rfl eX2_nextToken_165 sh22 ?_
              refine pw_aload_n eX2_nextToken_168 rfl rfl ?_
              refine pw_dup eX2_nextToken_169 rfl ?_
              refine gf_RX2_22 rfl eX2_nextToken_170 sh22 ?_
              refine pw_iconst eX2_nextToken_173 ⟨by decide, by decide⟩ ?_
              obtain ⟨o50, h⟩ := h
              refine pw_iadd eX2_nextToken_174 o50 ?_
              refine pf_RX2_22 rfl eX2_nextToken_175 sh22 ?_
              exact pw_vret eX2_nextToken_178 h
          · have h := h.2 c46
            refine pw_aload_n eX2_nextToken_124 rfl rfl ?_
            refine gf_RX2_9 rfl eX2_nextToken_125 sh22 ?_
            refine pw_aload_n eX2_nextToken_128 rfl rfl ?_
            refine gf_RX2_19 rfl eX2_nextToken_129 sh22 ?_
            obtain ⟨o51, h⟩ := h
            refine pw_bald eX2_nextToken_132 sh23 o51 ?_
            refine pw_bipush eX2_nextToken_133 ⟨by decide, by decide⟩ (by decide) ?_
            refine pw_icmp_gt eX2_nextToken_135 (fun c52 => ?_) (fun c52 => ?_)
            · have h := h.1 c52
              refine pw_aload_n eX2_nextToken_145 rfl rfl ?_
              refine pw_aload_n eX2_nextToken_146 rfl rfl ?_
              refine gf_RX2_9 rfl eX2_nextToken_147 sh22 ?_
              refine pw_aload_n eX2_nextToken_150 rfl rfl ?_
              refine gf_RX2_19 rfl eX2_nextToken_151 sh22 ?_
              obtain ⟨o53, h⟩ := h
              refine pw_bald eX2_nextToken_154 sh23 o53 ?_
              refine pw_bipush eX2_nextToken_155 ⟨by decide, by decide⟩ (by decide) ?_
              refine pw_icmp_ne eX2_nextToken_157 (fun c54 => ?_) (fun c54 => ?_)
              · have h := h.1 c54
                refine pw_iconst eX2_nextToken_164 ⟨by decide, by decide⟩ ?_
                refine pf_RX2_25 rfl eX2_nextToken_165 sh22 ?_
                refine pw_aload_n eX2_nextToken_168 rfl rfl ?_
                refine pw_dup eX2_nextToken_169 rfl ?_
                refine gf_RX2_22 rfl eX2_nextToken_170 sh22 ?_
                refine pw_iconst eX2_nextToken_173 ⟨by decide, by decide⟩ ?_
                obtain ⟨o55, h⟩ := h
                refine pw_iadd eX2_nextToken_174 o55 ?_
                refine pf_RX2_22 rfl eX2_nextToken_175 sh22 ?_
                exact pw_vret eX2_nextToken_178 h
              · have h := h.2 c54
                refine pw_iconst eX2_nextToken_160 ⟨by decide, by decide⟩ ?_
                refine pw_goto eX2_nextToken_161 ?_
                refine pf_RX2_25 rfl eX2_nextToken_165 sh22 ?_
                refine pw_aload_n eX2_nextToken_168 rfl rfl ?_
                refine pw_dup eX2_nextToken_169 rfl ?_
                refine gf_RX2_22 rfl eX2_nextToken_170 sh22 ?_
                refine pw_iconst eX2_nextToken_173 ⟨by decide, by decide⟩ ?_
                obtain ⟨o56, h⟩ := h
                refine pw_iadd eX2_nextToken_174 o56 ?_
                refine pf_RX2_22 rfl eX2_nextToken_175 sh22 ?_
                exact pw_vret eX2_nextToken_178 h
            · have h := h.2 c52
              refine pw_aload_n eX2_nextToken_138 rfl rfl ?_
              obtain ⟨m58, hc59, h⟩ := h
              refine pw_cV (z := mX2_takeNumber) (av := []) (st := []) eX2_nextToken_139 lk_RX2_97 rfl (by decide) (by decide) sh22 rfl rfl (Nat.le_of_ble_eq_true rfl) rfl hc59 ?_
              show PW S mX2_nextToken Q 142 [some (Aq 22)] [] m58
              refine pw_goto eX2_nextToken_142 ?_
              exact pw_vret eX2_nextToken_178 h
        · have h := h.2 c44
          refine pw_aload_n eX2_nextToken_89 rfl rfl ?_
          refine gf_RX2_9 rfl eX2_nextToken_90 sh22 ?_
          refine pw_aload_n eX2_nextToken_93 rfl rfl ?_
          refine gf_RX2_19 rfl eX2_nextToken_94 sh22 ?_
          obtain ⟨o60, h⟩ := h
          refine pw_bald eX2_nextToken_97 sh23 o60 ?_
          refine pw_bipush eX2_nextToken_98 ⟨by decide, by decide⟩ (by decide) ?_
          refine pw_icmp_gt eX2_nextToken_100 (fun c61 => ?_) (fun c61 => ?_)
          · have h := h.1 c61
            refine pw_aload_n eX2_nextToken_110 rfl rfl ?_
            refine gf_RX2_9 rfl eX2_nextToken_111 sh22 ?_
            refine pw_aload_n eX2_nextToken_114 rfl rfl ?_
            refine gf_RX2_19 rfl eX2_nextToken_115 sh22 ?_
            obtain ⟨o62, h⟩ := h
            refine pw_bald eX2_nextToken_118 sh23 o62 ?_
            refine pw_bipush eX2_nextToken_119 ⟨by decide, by decide⟩ (by decide) ?_
            refine pw_icmp_lt eX2_nextToken_121 (fun c63 => ?_) (fun c63 => ?_)
            · have h := h.1 c63
              refine pw_aload_n eX2_nextToken_145 rfl rfl ?_
              refine pw_aload_n eX2_nextToken_146 rfl rfl ?_
              refine gf_RX2_9 rfl eX2_nextToken_147 sh22 ?_
              refine pw_aload_n eX2_nextToken_150 rfl rfl ?_
              refine gf_RX2_19 rfl eX2_nextToken_151 sh22 ?_
              obtain ⟨o64, h⟩ := h
              refine pw_bald eX2_nextToken_154 sh23 o64 ?_
              refine pw_bipush eX2_nextToken_155 ⟨by decide, by decide⟩ (by decide) ?_
              refine pw_icmp_ne eX2_nextToken_157 (fun c65 => ?_) (fun c65 => ?_)
              · have h := h.1 c65
                refine pw_iconst eX2_nextToken_164 ⟨by decide, by decide⟩ ?_
                refine pf_RX2_25 rfl eX2_nextToken_165 sh22 ?_
                refine pw_aload_n eX2_nextToken_168 rfl rfl ?_
                refine pw_dup eX2_nextToken_169 rfl ?_
                refine gf_RX2_22 rfl eX2_nextToken_170 sh22 ?_
                refine pw_iconst eX2_nextToken_173 ⟨by decide, by decide⟩ ?_
                obtain ⟨o66, h⟩ := h
                refine pw_iadd eX2_nextToken_174 o66 ?_
                refine pf_RX2_22 rfl eX2_nextToken_175 sh22 ?_
                exact pw_vret eX2_nextToken_178 h
              · have h := h.2 c65
                refine pw_iconst eX2_nextToken_160 ⟨by decide, by decide⟩ ?_
                refine pw_goto eX2_nextToken_161 ?_
                refine pf_RX2_25 rfl eX2_nextToken_165 sh22 ?_
                refine pw_aload_n eX2_nextToken_168 rfl rfl ?_
                refine pw_dup eX2_nextToken_169 rfl ?_
                refine gf_RX2_22 rfl eX2_nextToken_170 sh22 ?_
                refine pw_iconst eX2_nextToken_173 ⟨by decide, by decide⟩ ?_
                obtain ⟨o67, h⟩ := h
                refine pw_iadd eX2_nextToken_174 o67 ?_
                refine pf_RX2_22 rfl eX2_nextToken_175 sh22 ?_
                exact pw_vret eX2_nextToken_178 h
            · have h := h.2 c63
              refine pw_aload_n eX2_nextToken_124 rfl rfl ?_
              refine gf_RX2_9 rfl eX2_nextToken_125 sh22 ?_
              refine pw_aload_n eX2_nextToken_128 rfl rfl ?_
              refine gf_RX2_19 rfl eX2_nextToken_129 sh22 ?_
              obtain ⟨o68, h⟩ := h
              refine pw_bald eX2_nextToken_132 sh23 o68 ?_
              refine pw_bipush eX2_nextToken_133 ⟨by decide, by decide⟩ (by decide) ?_
              refine pw_icmp_gt eX2_nextToken_135 (fun c69 => ?_) (fun c69 => ?_)
              · have h := h.1 c69
                refine pw_aload_n eX2_nextToken_145 rfl rfl ?_
                refine pw_aload_n eX2_nextToken_146 rfl rfl ?_
                refine gf_RX2_9 rfl eX2_nextToken_147 sh22 ?_
                refine pw_aload_n eX2_nextToken_150 rfl rfl ?_
                refine gf_RX2_19 rfl eX2_nextToken_151 sh22 ?_
                obtain ⟨o70, h⟩ := h
                refine pw_bald eX2_nextToken_154 sh23 o70 ?_
                refine pw_bipush eX2_nextToken_155 ⟨by decide, by decide⟩ (by decide) ?_
                refine pw_icmp_ne eX2_nextToken_157 (fun c71 => ?_) (fun c71 => ?_)
                · have h := h.1 c71
                  refine pw_iconst eX2_nextToken_164 ⟨by decide, by decide⟩ ?_
                  refine pf_RX2_25 rfl eX2_nextToken_165 sh22 ?_
                  refine pw_aload_n eX2_nextToken_168 rfl rfl ?_
                  refine pw_dup eX2_nextToken_169 rfl ?_
                  refine gf_RX2_22 rfl eX2_nextToken_170 sh22 ?_
                  refine pw_iconst eX2_nextToken_173 ⟨by decide, by decide⟩ ?_
                  obtain ⟨o72, h⟩ := h
                  refine pw_iadd eX2_nextToken_174 o72 ?_
                  refine pf_RX2_22 rfl eX2_nextToken_175 sh22 ?_
                  exact pw_vret eX2_nextToken_178 h
                · have h := h.2 c71
                  refine pw_iconst eX2_nextToken_160 ⟨by decide, by decide⟩ ?_
                  refine pw_goto eX2_nextToken_161 ?_
                  refine pf_RX2_25 rfl eX2_nextToken_165 sh22 ?_
                  refine pw_aload_n eX2_nextToken_168 rfl rfl ?_
                  refine pw_dup eX2_nextToken_169 rfl ?_
                  refine gf_RX2_22 rfl eX2_nextToken_170 sh22 ?_
                  refine pw_iconst eX2_nextToken_173 ⟨by decide, by decide⟩ ?_
                  obtain ⟨o73, h⟩ := h
                  refine pw_iadd eX2_nextToken_174 o73 ?_
                  refine pf_RX2_22 rfl eX2_nextToken_175 sh22 ?_
                  exact pw_vret eX2_nextToken_178 h
              · have h := h.2 c69
                refine pw_aload_n eX2_nextToken_138 rfl rfl ?_
                obtain ⟨m75, hc76, h⟩ := h
                refine pw_cV (z := mX2_takeNumber) (av := []) (st := []) eX2_nextToken_139 lk_RX2_97 rfl (by decide) (by decide) sh22 rfl rfl (Nat.le_of_ble_eq_true rfl) rfl hc76 ?_
                show PW S mX2_nextToken Q 142 [some (Aq 22)] [] m75
                refine pw_goto eX2_nextToken_142 ?_
                exact pw_vret eX2_nextToken_178 h
          · have h := h.2 c61
            refine pw_aload_n eX2_nextToken_103 rfl rfl ?_
            obtain ⟨m78, hc79, h⟩ := h
            refine pw_cV (z := mX2_takeWord) (av := []) (st := []) eX2_nextToken_104 lk_RX2_94 rfl (by decide) (by decide) sh22 rfl rfl (Nat.le_of_ble_eq_true rfl) rfl hc79 ?_
            show PW S mX2_nextToken Q 107 [some (Aq 22)] [] m78
            refine pw_goto eX2_nextToken_107 ?_
            exact pw_vret eX2_nextToken_178 h
      · have h := h.2 c42
        refine pw_aload_n eX2_nextToken_67 rfl rfl ?_
        refine pw_iconst eX2_nextToken_68 ⟨by decide, by decide⟩ ?_
        refine pf_RX2_25 rfl eX2_nextToken_69 sh22 ?_
        refine pw_goto eX2_nextToken_72 ?_
        exact pw_vret eX2_nextToken_178 h
    · have h := h.2 c41
      refine pw_aload_n eX2_nextToken_25 rfl rfl ?_
      refine pw_dup eX2_nextToken_26 rfl ?_
      refine gf_RX2_22 rfl eX2_nextToken_27 sh22 ?_
      refine pw_iconst eX2_nextToken_30 ⟨by decide, by decide⟩ ?_
      obtain ⟨o80, h⟩ := h
      refine pw_iadd eX2_nextToken_31 o80 ?_
      refine pf_RX2_22 rfl eX2_nextToken_32 sh22 ?_
      refine pw_goto eX2_nextToken_35 ?_
      exact h
set_option maxRecDepth 100000 in
theorem rg_X2_takeWord_0 {S : Sx} {Q : Option PV → Zm → Prop} {mem : Zm}   
    (h : PW S mX2_takeWord Q 5 [some (Aq 22)] [] (mup mem 22 4 1)) :
    PW S mX2_takeWord Q 0 [some (Aq 22)] [] mem := by
  refine pw_aload_n eX2_takeWord_0 rfl rfl ?_
  refine pw_iconst eX2_takeWord_1 ⟨by decide, by decide⟩ ?_
  refine pf_RX2_25 rfl eX2_takeWord_2 sh22 ?_
  exact h

set_option maxRecDepth 100000 in
theorem rg_X2_takeWord_5 {S : Sx} {Q : Option PV → Zm → Prop} {mem : Zm}   
    (h : (((mem 22 1 ≤ mem 22 3) → ((in32 ((mem 22 3) - (mem 22 2))) ∧ ((((mem 22 3) - (mem 22 2) ≤ 8) → (Q none mem)) ∧ (¬ ((mem 22 3) - (mem 22 2) ≤ 8) → (Q none (mup mem 22 5 0)))))) ∧ (¬ (mem 22 1 ≤ mem 22 3) → ((0 ≤ mem 22 3 ∧ mem 22 3 < 120) ∧ (((mem 23 (mem 22 3).toNat < 97) → ((in32 ((mem 22 3) - (mem 22 2))) ∧ ((((mem 22 3) - (mem 22 2) ≤ 8) → (Q none mem)) ∧ (¬ ((mem 22 3) - (mem 22 2) ≤ 8) → (Q none (mup mem 22 5 0)))))) ∧ (¬ (mem 23 (mem 22 3).toNat < 97) → ((0 ≤ mem 22 3 ∧ mem 22 3 < 120) ∧ (((122 < mem 23 (mem 22 3).toNat) → ((in32 ((mem 22 3) - (mem 22 2))) ∧ ((((mem 22 3) - (mem 22 2) ≤ 8) → (Q none mem)) ∧ (¬ ((mem 22 3) - (mem 22 2) ≤ 8) → (Q none (mup mem 22 5 0)))))) ∧ (¬ (122 < mem 23 (mem 22 3).toNat) → ((0 ≤ mem 22 3 ∧ mem 22 3 < 120) ∧ (in32 (((mup mem 22 5 (lOr (lShl (mem 22 5) 8) (mem 23 (mem 22 3).toNat))) 22 3) + 1)) ∧ PW S mX2_takeWord Q 5 [some (Aq 22)] [] (mup (mup mem 22 5 (lOr (lShl (mem 22 5) 8) (mem 23 (mem 22 3).toNat))) 22 3 (((mup mem 22 5 (lOr (lShl (mem 22 5) 8) (mem 23 (mem 22 3).toNat))) 22 3) + 1)))))))))))) :
    PW S mX2_takeWord Q 5 [some (Aq 22)] [] mem := by
  refine pw_aload_n eX2_takeWord_5 rfl rfl ?_
  refine gf_RX2_22 rfl eX2_takeWord_6 sh22 ?_
  refine pw_aload_n eX2_takeWord_9 rfl rfl ?_
  refine gf_RX2_15 rfl eX2_takeWord_10 sh22 ?_
  refine pw_icmp_ge eX2_takeWord_13 (fun c1 => ?_) (fun c1 => ?_)
  · have h := h.1 c1
    refine pw_aload_n eX2_takeWord_79 rfl rfl ?_
    refine gf_RX2_22 rfl eX2_takeWord_80 sh22 ?_
    refine pw_aload_n eX2_takeWord_83 rfl rfl ?_
    refine gf_RX2_19 rfl eX2_takeWord_84 sh22 ?_
    obtain ⟨o2, h⟩ := h
    refine pw_isub eX2_takeWord_87 o2 ?_
    refine pw_bipush eX2_takeWord_88 ⟨by decide, by decide⟩ (by decide) ?_
    refine pw_icmp_le eX2_takeWord_90 (fun c3 => ?_) (fun c3 => ?_)
    · have h := h.1 c3
      exact pw_vret eX2_takeWord_98 h
    · have h := h.2 c3
      refine pw_aload_n eX2_takeWord_93 rfl rfl ?_
      refine pw_lconst (v := 0) eX2_takeWord_94 ⟨by decide, by decide⟩ rfl ?_
      refine pf_RX2_28 rfl eX2_takeWord_95 ?_
      exact pw_vret eX2_takeWord_98 h
  · have h := h.2 c1
    refine pw_aload_n eX2_takeWord_16 rfl rfl ?_
    refine gf_RX2_9 rfl eX2_takeWord_17 sh22 ?_
    refine pw_aload_n eX2_takeWord_20 rfl rfl ?_
    refine gf_RX2_22 rfl eX2_takeWord_21 sh22 ?_
    obtain ⟨o4, h⟩ := h
    refine pw_bald eX2_takeWord_24 sh23 o4 ?_
    refine pw_bipush eX2_takeWord_25 ⟨by decide, by decide⟩ (by decide) ?_
    refine pw_icmp_lt eX2_takeWord_27 (fun c5 => ?_) (fun c5 => ?_)
    · have h := h.1 c5
      refine pw_aload_n eX2_takeWord_79 rfl rfl ?_
      refine gf_RX2_22 rfl eX2_takeWord_80 sh22 ?_
      refine pw_aload_n eX2_takeWord_83 rfl rfl ?_
      refine gf_RX2_19 rfl eX2_takeWord_84 sh22 ?_
      obtain ⟨o6, h⟩ := h
      refine pw_isub eX2_takeWord_87 o6 ?_
      refine pw_bipush eX2_takeWord_88 ⟨by decide, by decide⟩ (by decide) ?_
      refine pw_icmp_le eX2_takeWord_90 (fun c7 => ?_) (fun c7 => ?_)
      · have h := h.1 c7
        exact pw_vret eX2_takeWord_98 h
      · have h := h.2 c7
        refine pw_aload_n eX2_takeWord_93 rfl rfl ?_
        refine pw_lconst (v := 0) eX2_takeWord_94 ⟨by decide, by decide⟩ rfl ?_
        refine pf_RX2_28 rfl eX2_takeWord_95 ?_
        exact pw_vret eX2_takeWord_98 h
    · have h := h.2 c5
      refine pw_aload_n eX2_takeWord_30 rfl rfl ?_
      refine gf_RX2_9 rfl eX2_takeWord_31 sh22 ?_
      refine pw_aload_n eX2_takeWord_34 rfl rfl ?_
      refine gf_RX2_22 rfl eX2_takeWord_35 sh22 ?_
      obtain ⟨o8, h⟩ := h
      refine pw_bald eX2_takeWord_38 sh23 o8 ?_
      refine pw_bipush eX2_takeWord_39 ⟨by decide, by decide⟩ (by decide) ?_
      refine pw_icmp_gt eX2_takeWord_41 (fun c9 => ?_) (fun c9 => ?_)
      · have h := h.1 c9
        refine pw_aload_n eX2_takeWord_79 rfl rfl ?_
        refine gf_RX2_22 rfl eX2_takeWord_80 sh22 ?_
        refine pw_aload_n eX2_takeWord_83 rfl rfl ?_
        refine gf_RX2_19 rfl eX2_takeWord_84 sh22 ?_
        obtain ⟨o10, h⟩ := h
        refine pw_isub eX2_takeWord_87 o10 ?_
        refine pw_bipush eX2_takeWord_88 ⟨by decide, by decide⟩ (by decide) ?_
        refine pw_icmp_le eX2_takeWord_90 (fun c11 => ?_) (fun c11 => ?_)
        · have h := h.1 c11
          exact pw_vret eX2_takeWord_98 h
        · have h := h.2 c11
          refine pw_aload_n eX2_takeWord_93 rfl rfl ?_
          refine pw_lconst (v := 0) eX2_takeWord_94 ⟨by decide, by decide⟩ rfl ?_
          refine pf_RX2_28 rfl eX2_takeWord_95 ?_
          exact pw_vret eX2_takeWord_98 h
      · have h := h.2 c9
        refine pw_aload_n eX2_takeWord_44 rfl rfl ?_
        refine pw_aload_n eX2_takeWord_45 rfl rfl ?_
        refine gf_RX2_28 rfl eX2_takeWord_46 ?_
        refine pw_bipush eX2_takeWord_49 ⟨by decide, by decide⟩ (by decide) ?_
        refine pw_lshl eX2_takeWord_51 ?_
        refine pw_aload_n eX2_takeWord_52 rfl rfl ?_
        refine gf_RX2_9 rfl eX2_takeWord_53 sh22 ?_
        refine pw_aload_n eX2_takeWord_56 rfl rfl ?_
        refine gf_RX2_22 rfl eX2_takeWord_57 sh22 ?_
        obtain ⟨o12, h⟩ := h
        refine pw_bald eX2_takeWord_60 sh23 o12 ?_
        refine pw_i2l eX2_takeWord_61 ?_
        refine pw_lor eX2_takeWord_62 ?_
        refine pf_RX2_28 rfl eX2_takeWord_63 ?_
        refine pw_aload_n eX2_takeWord_66 rfl rfl ?_
        refine pw_dup eX2_takeWord_67 rfl ?_
        refine gf_RX2_22 rfl eX2_takeWord_68 sh22 ?_
        refine pw_iconst eX2_takeWord_71 ⟨by decide, by decide⟩ ?_
        obtain ⟨o13, h⟩ := h
        refine pw_iadd eX2_takeWord_72 o13 ?_
        refine pf_RX2_22 rfl eX2_takeWord_73 sh22 ?_
        refine pw_goto eX2_takeWord_76 ?_
        exact h
set_option maxRecDepth 100000 in
theorem rg_X2_takeNumber_0 {S : Sx} {Q : Option PV → Zm → Prop} {mem : Zm}   
    (h : PW S mX2_takeNumber Q 10 [some (Aq 22)] [] (mup (mup mem 22 4 2) 22 6 0)) :
    PW S mX2_takeNumber Q 0 [some (Aq 22)] [] mem := by
  refine pw_aload_n eX2_takeNumber_0 rfl rfl ?_
  refine pw_iconst eX2_takeNumber_1 ⟨by decide, by decide⟩ ?_
  refine pf_RX2_25 rfl eX2_takeNumber_2 sh22 ?_
  refine pw_aload_n eX2_takeNumber_5 rfl rfl ?_
  refine pw_iconst eX2_takeNumber_6 ⟨by decide, by decide⟩ ?_
  refine pf_RX2_32 rfl eX2_takeNumber_7 sh22 ?_
  exact h

set_option maxRecDepth 100000 in
theorem rg_X2_takeNumber_10 {S : Sx} {Q : Option PV → Zm → Prop} {mem : Zm}   
    (h : (((mem 22 1 ≤ mem 22 3) → (Q none mem)) ∧ (¬ (mem 22 1 ≤ mem 22 3) → ((0 ≤ mem 22 3 ∧ mem 22 3 < 120) ∧ (((mem 23 (mem 22 3).toNat < 48) → (Q none mem)) ∧ (¬ (mem 23 (mem 22 3).toNat < 48) → ((0 ≤ mem 22 3 ∧ mem 22 3 < 120) ∧ (((57 < mem 23 (mem 22 3).toNat) → (Q none mem)) ∧ (¬ (57 < mem 23 (mem 22 3).toNat) → ((((999 < mem 22 6) → ((in32 ((mem 22 3) + 1)) ∧ PW S mX2_takeNumber Q 10 [some (Aq 22)] [] (mup mem 22 3 ((mem 22 3) + 1)))) ∧ (¬ (999 < mem 22 6) → ((in32 ((mem 22 6) * 10)) ∧ (0 ≤ mem 22 3 ∧ mem 22 3 < 120) ∧ (in32 (((mem 22 6) * 10) + (mem 23 (mem 22 3).toNat))) ∧ (in32 ((((mem 22 6) * 10) + (mem 23 (mem 22 3).toNat)) - 48)) ∧ (in32 (((mup mem 22 6 ((((mem 22 6) * 10) + (mem 23 (mem 22 3).toNat)) - 48)) 22 3) + 1)) ∧ PW S mX2_takeNumber Q 10 [some (Aq 22)] [] (mup (mup mem 22 6 ((((mem 22 6) * 10) + (mem 23 (mem 22 3).toNat)) - 48)) 22 3 (((mup mem 22 6 ((((mem 22 6) * 10) + (mem 23 (mem 22 3).toNat)) - 48)) 22 3) + 1))))))))))))))) :
    PW S mX2_takeNumber Q 10 [some (Aq 22)] [] mem := by
  refine pw_aload_n eX2_takeNumber_10 rfl rfl ?_
  refine gf_RX2_22 rfl eX2_takeNumber_11 sh22 ?_
  refine pw_aload_n eX2_takeNumber_14 rfl rfl ?_
  refine gf_RX2_15 rfl eX2_takeNumber_15 sh22 ?_
  refine pw_icmp_ge eX2_takeNumber_18 (fun c1 => ?_) (fun c1 => ?_)
  · have h := h.1 c1
    exact pw_vret eX2_takeNumber_96 h
  · have h := h.2 c1
    refine pw_aload_n eX2_takeNumber_21 rfl rfl ?_
    refine gf_RX2_9 rfl eX2_takeNumber_22 sh22 ?_
    refine pw_aload_n eX2_takeNumber_25 rfl rfl ?_
    refine gf_RX2_22 rfl eX2_takeNumber_26 sh22 ?_
    obtain ⟨o2, h⟩ := h
    refine pw_bald eX2_takeNumber_29 sh23 o2 ?_
    refine pw_bipush eX2_takeNumber_30 ⟨by decide, by decide⟩ (by decide) ?_
    refine pw_icmp_lt eX2_takeNumber_32 (fun c3 => ?_) (fun c3 => ?_)
    · have h := h.1 c3
      exact pw_vret eX2_takeNumber_96 h
    · have h := h.2 c3
      refine pw_aload_n eX2_takeNumber_35 rfl rfl ?_
      refine gf_RX2_9 rfl eX2_takeNumber_36 sh22 ?_
      refine pw_aload_n eX2_takeNumber_39 rfl rfl ?_
      refine gf_RX2_22 rfl eX2_takeNumber_40 sh22 ?_
      obtain ⟨o4, h⟩ := h
      refine pw_bald eX2_takeNumber_43 sh23 o4 ?_
      refine pw_bipush eX2_takeNumber_44 ⟨by decide, by decide⟩ (by decide) ?_
      refine pw_icmp_gt eX2_takeNumber_46 (fun c5 => ?_) (fun c5 => ?_)
      · have h := h.1 c5
        exact pw_vret eX2_takeNumber_96 h
      · have h := h.2 c5
        refine pw_aload_n eX2_takeNumber_49 rfl rfl ?_
        refine gf_RX2_32 rfl eX2_takeNumber_50 sh22 ?_
        refine pw_sipush eX2_takeNumber_53 ⟨by decide, by decide⟩ (by decide) ?_
        refine pw_icmp_gt eX2_takeNumber_56 (fun c6 => ?_) (fun c6 => ?_)
        · have h := h.1 c6
          refine pw_aload_n eX2_takeNumber_83 rfl rfl ?_
          refine pw_dup eX2_takeNumber_84 rfl ?_
          refine gf_RX2_22 rfl eX2_takeNumber_85 sh22 ?_
          refine pw_iconst eX2_takeNumber_88 ⟨by decide, by decide⟩ ?_
          obtain ⟨o7, h⟩ := h
          refine pw_iadd eX2_takeNumber_89 o7 ?_
          refine pf_RX2_22 rfl eX2_takeNumber_90 sh22 ?_
          refine pw_goto eX2_takeNumber_93 ?_
          exact h
        · have h := h.2 c6
          refine pw_aload_n eX2_takeNumber_59 rfl rfl ?_
          refine pw_aload_n eX2_takeNumber_60 rfl rfl ?_
          refine gf_RX2_32 rfl eX2_takeNumber_61 sh22 ?_
          refine pw_bipush eX2_takeNumber_64 ⟨by decide, by decide⟩ (by decide) ?_
          obtain ⟨o8, h⟩ := h
          refine pw_imul eX2_takeNumber_66 o8 ?_
          refine pw_aload_n eX2_takeNumber_67 rfl rfl ?_
          refine gf_RX2_9 rfl eX2_takeNumber_68 sh22 ?_
          refine pw_aload_n eX2_takeNumber_71 rfl rfl ?_
          refine gf_RX2_22 rfl eX2_takeNumber_72 sh22 ?_
          obtain ⟨o9, h⟩ := h
          refine pw_bald eX2_takeNumber_75 sh23 o9 ?_
          obtain ⟨o10, h⟩ := h
          refine pw_iadd eX2_takeNumber_76 o10 ?_
          refine pw_bipush eX2_takeNumber_77 ⟨by decide, by decide⟩ (by decide) ?_
          obtain ⟨o11, h⟩ := h
          refine pw_isub eX2_takeNumber_79 o11 ?_
          refine pf_RX2_32 rfl eX2_takeNumber_80 sh22 ?_
          refine pw_aload_n eX2_takeNumber_83 rfl rfl ?_
          refine pw_dup eX2_takeNumber_84 rfl ?_
          refine gf_RX2_22 rfl eX2_takeNumber_85 sh22 ?_
          refine pw_iconst eX2_takeNumber_88 ⟨by decide, by decide⟩ ?_
          obtain ⟨o12, h⟩ := h
          refine pw_iadd eX2_takeNumber_89 o12 ?_
          refine pf_RX2_22 rfl eX2_takeNumber_90 sh22 ?_
          refine pw_goto eX2_takeNumber_93 ?_
          exact h
end RG

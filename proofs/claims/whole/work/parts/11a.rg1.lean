section RG
set_option maxRecDepth 100000 in
theorem rg_X0_addChild_0 {S : Sx} {Q : Option PV → Zm → Prop} {mem : Zm}  {r0 : Nat} {x1 x2 : Int} (hr0 : isRoom r0)
    (h : (0 ≤ mem r0 7 ∧ mem r0 7 < 8) ∧ (0 ≤ mem r0 7 ∧ mem r0 7 < 8) ∧ (0 ≤ mem r0 7 ∧ mem r0 7 < 8) ∧ (0 ≤ mem r0 7 ∧ mem r0 7 < 8) ∧ (0 ≤ mem r0 7 ∧ mem r0 7 < 8) ∧ (0 ≤ mem r0 7 ∧ mem r0 7 < 8) ∧ PW S mX0_addChild Q 50 [some (Aq r0), some (Iq x1), some (Iq x2), some (Iq (mem r0 7)), some (Iq 0)] [] (mup (mup (mup (mup (mup (mup mem (r0 + 2) (6 * (mem r0 7).toNat) x1) (r0 + 2) (6 * (mem r0 7).toNat + 1) x2) (r0 + 2) (6 * (mem r0 7).toNat + 2) (-1)) (r0 + 2) (6 * (mem r0 7).toNat + 3) 0) (r0 + 2) (6 * (mem r0 7).toNat + 4) 5) (r0 + 2) (6 * (mem r0 7).toNat + 5) 0)) :
    PW S mX0_addChild Q 0 [some (Aq r0), some (Iq x1), some (Iq x2), none, none] [] mem := by
  refine pw_aload_n eX0_addChild_0 rfl rfl ?_
  refine gf_RX0_34 rfl eX0_addChild_1 (shR hr0) ?_
  refine pw_istore_n (ls2 := [some (Aq r0), some (Iq x1), some (Iq x2), some (Iq (mem r0 7)), none]) eX0_addChild_4 rfl (by decide) rfl ?_
  refine pw_aload_n eX0_addChild_5 rfl rfl ?_
  refine pw_iload_n eX0_addChild_6 rfl rfl ?_
  refine pw_iconst eX0_addChild_7 ⟨by decide, by decide⟩ ?_
  refine pw_iload_n eX0_addChild_8 rfl rfl ?_
  obtain ⟨ob1, h⟩ := h
  refine pw_cV (z := mX0_setFact) (av := [Iq (mem r0 7), Iq 0, Iq x1]) (st := []) eX0_addChild_9 lk_RX0_55 rfl (by decide) (by decide) (shR hr0) rfl rfl (Nat.le_of_ble_eq_true rfl) rfl (ct_X0_setFact (mem := mem) hr0 ⟨ob1.1, ob1.2, by decide, by decide⟩) ?_
  show PW S mX0_addChild Q 12 [some (Aq r0), some (Iq x1), some (Iq x2), some (Iq (mem r0 7)), none] [] (mup mem (r0 + 2) (6 * (mem r0 7).toNat) x1)
  refine pw_aload_n eX0_addChild_12 rfl rfl ?_
  refine pw_iload_n eX0_addChild_13 rfl rfl ?_
  refine pw_iconst eX0_addChild_14 ⟨by decide, by decide⟩ ?_
  refine pw_iload_n eX0_addChild_15 rfl rfl ?_
  obtain ⟨ob2, h⟩ := h
  refine pw_cV (z := mX0_setFact) (av := [Iq (mem r0 7), Iq 1, Iq x2]) (st := []) eX0_addChild_16 lk_RX0_55 rfl (by decide) (by decide) (shR hr0) rfl rfl (Nat.le_of_ble_eq_true rfl) rfl (ct_X0_setFact (mem := mup mem (r0 + 2) (6 * (mem r0 7).toNat) x1) hr0 ⟨ob2.1, ob2.2, by decide, by decide⟩) ?_
  show PW S mX0_addChild Q 19 [some (Aq r0), some (Iq x1), some (Iq x2), some (Iq (mem r0 7)), none] [] (mup (mup mem (r0 + 2) (6 * (mem r0 7).toNat) x1) (r0 + 2) (6 * (mem r0 7).toNat + 1) x2)
  refine pw_aload_n eX0_addChild_19 rfl rfl ?_
  refine pw_iload_n eX0_addChild_20 rfl rfl ?_
  refine pw_iconst eX0_addChild_21 ⟨by decide, by decide⟩ ?_
  refine pw_iconst eX0_addChild_22 ⟨by decide, by decide⟩ ?_
  obtain ⟨ob3, h⟩ := h
  refine pw_cV (z := mX0_setFact) (av := [Iq (mem r0 7), Iq 2, Iq (-1)]) (st := []) eX0_addChild_23 lk_RX0_55 rfl (by decide) (by decide) (shR hr0) rfl rfl (Nat.le_of_ble_eq_true rfl) rfl (ct_X0_setFact (mem := mup (mup mem (r0 + 2) (6 * (mem r0 7).toNat) x1) (r0 + 2) (6 * (mem r0 7).toNat + 1) x2) hr0 ⟨ob3.1, ob3.2, by decide, by decide⟩) ?_
  show PW S mX0_addChild Q 26 [some (Aq r0), some (Iq x1), some (Iq x2), some (Iq (mem r0 7)), none] [] (mup (mup (mup mem (r0 + 2) (6 * (mem r0 7).toNat) x1) (r0 + 2) (6 * (mem r0 7).toNat + 1) x2) (r0 + 2) (6 * (mem r0 7).toNat + 2) (-1))
  refine pw_aload_n eX0_addChild_26 rfl rfl ?_
  refine pw_iload_n eX0_addChild_27 rfl rfl ?_
  refine pw_iconst eX0_addChild_28 ⟨by decide, by decide⟩ ?_
  refine pw_iconst eX0_addChild_29 ⟨by decide, by decide⟩ ?_
  obtain ⟨ob4, h⟩ := h
  refine pw_cV (z := mX0_setFact) (av := [Iq (mem r0 7), Iq 3, Iq 0]) (st := []) eX0_addChild_30 lk_RX0_55 rfl (by decide) (by decide) (shR hr0) rfl rfl (Nat.le_of_ble_eq_true rfl) rfl (ct_X0_setFact (mem := mup (mup (mup mem (r0 + 2) (6 * (mem r0 7).toNat) x1) (r0 + 2) (6 * (mem r0 7).toNat + 1) x2) (r0 + 2) (6 * (mem r0 7).toNat + 2) (-1)) hr0 ⟨ob4.1, ob4.2, by decide, by decide⟩) ?_
  show PW S mX0_addChild Q 33 [some (Aq r0), some (Iq x1), some (Iq x2), some (Iq (mem r0 7)), none] [] (mup (mup (mup (mup mem (r0 + 2) (6 * (mem r0 7).toNat) x1) (r0 + 2) (6 * (mem r0 7).toNat + 1) x2) (r0 + 2) (6 * (mem r0 7).toNat + 2) (-1)) (r0 + 2) (6 * (mem r0 7).toNat + 3) 0)
  refine pw_aload_n eX0_addChild_33 rfl rfl ?_
  refine pw_iload_n eX0_addChild_34 rfl rfl ?_
  refine pw_iconst eX0_addChild_35 ⟨by decide, by decide⟩ ?_
  refine pw_iconst eX0_addChild_36 ⟨by decide, by decide⟩ ?_
  obtain ⟨ob5, h⟩ := h
  refine pw_cV (z := mX0_setFact) (av := [Iq (mem r0 7), Iq 4, Iq 5]) (st := []) eX0_addChild_37 lk_RX0_55 rfl (by decide) (by decide) (shR hr0) rfl rfl (Nat.le_of_ble_eq_true rfl) rfl (ct_X0_setFact (mem := mup (mup (mup (mup mem (r0 + 2) (6 * (mem r0 7).toNat) x1) (r0 + 2) (6 * (mem r0 7).toNat + 1) x2) (r0 + 2) (6 * (mem r0 7).toNat + 2) (-1)) (r0 + 2) (6 * (mem r0 7).toNat + 3) 0) hr0 ⟨ob5.1, ob5.2, by decide, by decide⟩) ?_
  show PW S mX0_addChild Q 40 [some (Aq r0), some (Iq x1), some (Iq x2), some (Iq (mem r0 7)), none] [] (mup (mup (mup (mup (mup mem (r0 + 2) (6 * (mem r0 7).toNat) x1) (r0 + 2) (6 * (mem r0 7).toNat + 1) x2) (r0 + 2) (6 * (mem r0 7).toNat + 2) (-1)) (r0 + 2) (6 * (mem r0 7).toNat + 3) 0) (r0 + 2) (6 * (mem r0 7).toNat + 4) 5)
  refine pw_aload_n eX0_addChild_40 rfl rfl ?_
  refine pw_iload_n eX0_addChild_41 rfl rfl ?_
  refine pw_iconst eX0_addChild_42 ⟨by decide, by decide⟩ ?_
  refine pw_iconst eX0_addChild_43 ⟨by decide, by decide⟩ ?_
  obtain ⟨ob6, h⟩ := h
  refine pw_cV (z := mX0_setFact) (av := [Iq (mem r0 7), Iq 5, Iq 0]) (st := []) eX0_addChild_44 lk_RX0_55 rfl (by decide) (by decide) (shR hr0) rfl rfl (Nat.le_of_ble_eq_true rfl) rfl (ct_X0_setFact (mem := mup (mup (mup (mup (mup mem (r0 + 2) (6 * (mem r0 7).toNat) x1) (r0 + 2) (6 * (mem r0 7).toNat + 1) x2) (r0 + 2) (6 * (mem r0 7).toNat + 2) (-1)) (r0 + 2) (6 * (mem r0 7).toNat + 3) 0) (r0 + 2) (6 * (mem r0 7).toNat + 4) 5) hr0 ⟨ob6.1, ob6.2, by decide, by decide⟩) ?_
  show PW S mX0_addChild Q 47 [some (Aq r0), some (Iq x1), some (Iq x2), some (Iq (mem r0 7)), none] [] (mup (mup (mup (mup (mup (mup mem (r0 + 2) (6 * (mem r0 7).toNat) x1) (r0 + 2) (6 * (mem r0 7).toNat + 1) x2) (r0 + 2) (6 * (mem r0 7).toNat + 2) (-1)) (r0 + 2) (6 * (mem r0 7).toNat + 3) 0) (r0 + 2) (6 * (mem r0 7).toNat + 4) 5) (r0 + 2) (6 * (mem r0 7).toNat + 5) 0)
  refine pw_iconst eX0_addChild_47 ⟨by decide, by decide⟩ ?_
  refine pw_istore (ls2 := [some (Aq r0), some (Iq x1), some (Iq x2), some (Iq (mem r0 7)), some (Iq 0)]) eX0_addChild_48 (by decide) rfl ?_
  exact h

set_option maxRecDepth 100000 in
theorem rg_X0_addChild_50 {S : Sx} {Q : Option PV → Zm → Prop} {mem : Zm}  {r0 : Nat} {x1 x2 x3 x4 : Int} (hr0 : isRoom r0)
    (h : (((8 ≤ x4) → ((in32 ((mem r0 7) + 1)) ∧ Q (some (Iq x3)) (mup mem r0 7 ((mem r0 7) + 1)))) ∧ (¬ (8 ≤ x4) → ((in32 (x3 * 8)) ∧ (in32 ((x3 * 8) + x4)) ∧ (0 ≤ (x3 * 8) + x4 ∧ (x3 * 8) + x4 < 64) ∧ (in32 (x4 + 1)) ∧ PW S mX0_addChild Q 50 [some (Aq r0), some (Iq x1), some (Iq x2), some (Iq x3), some (Iq (x4 + 1))] [] (mup mem (r0 + 3) ((x3 * 8) + x4).toNat (-1)))))) :
    PW S mX0_addChild Q 50 [some (Aq r0), some (Iq x1), some (Iq x2), some (Iq x3), some (Iq x4)] [] mem := by
  refine pw_iload eX0_addChild_50 rfl ?_
  refine pw_bipush eX0_addChild_52 ⟨by decide, by decide⟩ (by decide) ?_
  refine pw_icmp_ge eX0_addChild_54 (fun c1 => ?_) (fun c1 => ?_)
  · have h := h.1 c1
    refine pw_aload_n eX0_addChild_76 rfl rfl ?_
    refine pw_dup eX0_addChild_77 rfl ?_
    refine gf_RX0_34 rfl eX0_addChild_78 (shR hr0) ?_
    refine pw_iconst eX0_addChild_81 ⟨by decide, by decide⟩ ?_
    obtain ⟨ob2, h⟩ := h
    refine pw_iadd eX0_addChild_82 ob2 ?_
    refine pf_RX0_34 rfl eX0_addChild_83 (shR hr0) ?_
    refine pw_iload_n eX0_addChild_86 rfl rfl ?_
    exact pw_iret eX0_addChild_87 h
  · have h := h.2 c1
    refine pw_aload_n eX0_addChild_57 rfl rfl ?_
    refine gf_RX0_18 rfl eX0_addChild_58 (shR hr0) ?_
    refine pw_iload_n eX0_addChild_61 rfl rfl ?_
    refine pw_bipush eX0_addChild_62 ⟨by decide, by decide⟩ (by decide) ?_
    obtain ⟨ob3, h⟩ := h
    refine pw_imul eX0_addChild_64 ob3 ?_
    refine pw_iload eX0_addChild_65 rfl ?_
    obtain ⟨ob4, h⟩ := h
    refine pw_iadd eX0_addChild_67 ob4 ?_
    refine pw_iconst eX0_addChild_68 ⟨by decide, by decide⟩ ?_
    obtain ⟨ob5, h⟩ := h
    refine pw_iast eX0_addChild_69 (shR3 hr0) ob5 ?_
    obtain ⟨ob6, h⟩ := h
    refine pw_iinc (ls2 := [some (Aq r0), some (Iq x1), some (Iq x2), some (Iq x3), some (Iq (x4 + 1))]) eX0_addChild_70 rfl ob6 rfl ?_
    refine pw_goto eX0_addChild_73 ?_
    exact h
set_option maxRecDepth 100000 in
theorem rg_X0_total_0 {S : Sx} {Q : Option PV → Zm → Prop} {mem : Zm}  {r0 : Nat} {x1 : Int} (hr0 : isRoom r0)
    (h : PW S mX0_total Q 4 [some (Aq r0), some (Iq x1), some (Iq 0), some (Iq 0)] [] mem) :
    PW S mX0_total Q 0 [some (Aq r0), some (Iq x1), none, none] [] mem := by
  refine pw_iconst eX0_total_0 ⟨by decide, by decide⟩ ?_
  refine pw_istore_n (ls2 := [some (Aq r0), some (Iq x1), some (Iq 0), none]) eX0_total_1 rfl (by decide) rfl ?_
  refine pw_iconst eX0_total_2 ⟨by decide, by decide⟩ ?_
  refine pw_istore_n (ls2 := [some (Aq r0), some (Iq x1), some (Iq 0), some (Iq 0)]) eX0_total_3 rfl (by decide) rfl ?_
  exact h

set_option maxRecDepth 100000 in
theorem rg_X0_total_4 {S : Sx} {Q : Option PV → Zm → Prop} {mem : Zm}  {r0 : Nat} {x1 x2 x3 : Int} (hr0 : isRoom r0)
    (h : (((mem r0 7 ≤ x3) → (Q (some (Iq x2)) mem)) ∧ (¬ (mem r0 7 ≤ x3) → ((0 ≤ x3 ∧ x3 < 8 ∧ 0 ≤ x1 ∧ x1 < 6) ∧ (in32 (x2 + (mem (r0 + 2) (6 * (x3).toNat + (x1).toNat)))) ∧ (in32 (x3 + 1)) ∧ PW S mX0_total Q 4 [some (Aq r0), some (Iq x1), some (Iq (x2 + (mem (r0 + 2) (6 * (x3).toNat + (x1).toNat)))), some (Iq (x3 + 1))] [] mem)))) :
    PW S mX0_total Q 4 [some (Aq r0), some (Iq x1), some (Iq x2), some (Iq x3)] [] mem := by
  refine pw_iload_n eX0_total_4 rfl rfl ?_
  refine pw_aload_n eX0_total_5 rfl rfl ?_
  refine gf_RX0_34 rfl eX0_total_6 (shR hr0) ?_
  refine pw_icmp_ge eX0_total_9 (fun c1 => ?_) (fun c1 => ?_)
  · have h := h.1 c1
    refine pw_iload_n eX0_total_27 rfl rfl ?_
    exact pw_iret eX0_total_28 h
  · have h := h.2 c1
    refine pw_iload_n eX0_total_12 rfl rfl ?_
    refine pw_aload_n eX0_total_13 rfl rfl ?_
    refine pw_iload_n eX0_total_14 rfl rfl ?_
    refine pw_iload_n eX0_total_15 rfl rfl ?_
    obtain ⟨ob2, h⟩ := h
    refine pw_cV (z := mX0_fact) (av := [Iq x3, Iq x1]) (st := [Iq x2]) eX0_total_16 lk_RX0_59 rfl (by decide) (by decide) (shR hr0) rfl rfl (Nat.le_of_ble_eq_true rfl) rfl (ct_X0_fact (mem := mem) hr0 ob2) ?_
    show PW S mX0_total Q 19 [some (Aq r0), some (Iq x1), some (Iq x2), some (Iq x3)] [Iq (mem (r0 + 2) (6 * (x3).toNat + (x1).toNat)), Iq x2] mem
    obtain ⟨ob3, h⟩ := h
    refine pw_iadd eX0_total_19 ob3 ?_
    refine pw_istore_n (ls2 := [some (Aq r0), some (Iq x1), some (Iq (x2 + (mem (r0 + 2) (6 * (x3).toNat + (x1).toNat)))), some (Iq x3)]) eX0_total_20 rfl (by decide) rfl ?_
    obtain ⟨ob4, h⟩ := h
    refine pw_iinc (ls2 := [some (Aq r0), some (Iq x1), some (Iq (x2 + (mem (r0 + 2) (6 * (x3).toNat + (x1).toNat)))), some (Iq (x3 + 1))]) eX0_total_21 rfl ob4 rfl ?_
    refine pw_goto eX0_total_24 ?_
    exact h
set_option maxRecDepth 100000 in
theorem rg_X0_price_0 {S : Sx} {Q : Option PV → Zm → Prop} {mem : Zm}  {r0 : Nat} {x1 : Int} (hr0 : isRoom r0)
    (h : (0 ≤ x1 ∧ x1 < 8) ∧ (0 ≤ mem (r0 + 2) (6 * (x1).toNat) ∧ mem (r0 + 2) (6 * (x1).toNat) < 7) ∧ Q (some (Iq (tbP (mem (r0 + 2) (6 * (x1).toNat)).toNat))) mem) :
    PW S mX0_price Q 0 [some (Aq r0), some (Iq x1)] [] mem := by
  refine pw_gsP eX0_price_0 rfl ?_
  refine pw_aload_n eX0_price_3 rfl rfl ?_
  refine pw_iload_n eX0_price_4 rfl rfl ?_
  refine pw_iconst eX0_price_5 ⟨by decide, by decide⟩ ?_
  obtain ⟨ob1, h⟩ := h
  refine pw_cV (z := mX0_fact) (av := [Iq x1, Iq 0]) (st := [Aq 100]) eX0_price_6 lk_RX0_59 rfl (by decide) (by decide) (shR hr0) rfl rfl (Nat.le_of_ble_eq_true rfl) rfl (ct_X0_fact (mem := mem) hr0 ⟨ob1.1, ob1.2, by decide, by decide⟩) ?_
  show PW S mX0_price Q 9 [some (Aq r0), some (Iq x1)] [Iq (mem (r0 + 2) (6 * (x1).toNat)), Aq 100] mem
  obtain ⟨ob2, h⟩ := h
  refine pw_ialdP eX0_price_9 ob2 ?_
  exact pw_iret eX0_price_10 h
set_option maxRecDepth 100000 in
theorem rg_X0_isLending_0 {S : Sx} {Q : Option PV → Zm → Prop} {mem : Zm}  {r0 : Nat} {x1 : Int} (hr0 : isRoom r0)
    (h : (0 ≤ x1 ∧ x1 < 8) ∧ ((((mem (r0 + 2) (6 * (x1).toNat)) = 4) → ((0 ≤ mem r0 8) ∧ ((((mem r0 8) % 2 = 0) → (Q (some (Iq 1)) mem)) ∧ (¬ ((mem r0 8) % 2 = 0) → (Q (some (Iq 0)) mem))))) ∧ (((mem (r0 + 2) (6 * (x1).toNat)) = 5) → (Q (some (Iq 0)) mem)) ∧ (((mem (r0 + 2) (6 * (x1).toNat)) = 6) → ((0 ≤ x1 ∧ x1 < 8) ∧ (((20 ≤ mem (r0 + 2) (6 * (x1).toNat + 4)) → (Q (some (Iq 0)) mem)) ∧ (¬ (20 ≤ mem (r0 + 2) (6 * (x1).toNat + 4)) → (Q (some (Iq 1)) mem))))) ∧ (((mem (r0 + 2) (6 * (x1).toNat)) < 4 ∨ 6 < (mem (r0 + 2) (6 * (x1).toNat))) → (Q (some (Iq 1)) mem)))) :
    PW S mX0_isLending Q 0 [some (Aq r0), some (Iq x1)] [] mem := by
  refine pw_aload_n eX0_isLending_0 rfl rfl ?_
  refine pw_iload_n eX0_isLending_1 rfl rfl ?_
  refine pw_iconst eX0_isLending_2 ⟨by decide, by decide⟩ ?_
  obtain ⟨ob1, h⟩ := h
  refine pw_cV (z := mX0_fact) (av := [Iq x1, Iq 0]) (st := []) eX0_isLending_3 lk_RX0_59 rfl (by decide) (by decide) (shR hr0) rfl rfl (Nat.le_of_ble_eq_true rfl) rfl (ct_X0_fact (mem := mem) hr0 ⟨ob1.1, ob1.2, by decide, by decide⟩) ?_
  show PW S mX0_isLending Q 6 [some (Aq r0), some (Iq x1)] [Iq (mem (r0 + 2) (6 * (x1).toNat))] mem
  obtain ⟨hk0, hk1, hk2, hkd⟩ := h
  refine pw_tsw (ps := [(4, 34), (5, 32), (6, 49)]) (td := 66) eX0_isLending_6 rfl (by decide) (by decide) rfl ⟨fun c2 => ?_, fun c2 => ?_, fun c2 => ?_, trivial⟩ (fun c2 => ?_)
  · have h := hk0 c2
    refine pw_aload_n eX0_isLending_34 rfl rfl ?_
    refine gf_RX0_37 rfl eX0_isLending_35 (shR hr0) ?_
    refine pw_iconst eX0_isLending_38 ⟨by decide, by decide⟩ ?_
    obtain ⟨ob3, h⟩ := h
    refine pw_irem eX0_isLending_39 ob3 (by decide) ?_
    refine pw_if_ne eX0_isLending_40 (fun c4 => ?_) (fun c4 => ?_)
    · have h := h.2 c4
      refine pw_iconst eX0_isLending_47 ⟨by decide, by decide⟩ ?_
      exact pw_iret eX0_isLending_48 h
    · have h := h.1 (Classical.not_not.mp c4)
      refine pw_iconst eX0_isLending_43 ⟨by decide, by decide⟩ ?_
      refine pw_goto eX0_isLending_44 ?_
      exact pw_iret eX0_isLending_48 h
  · have h := hk1 c2
    refine pw_iconst eX0_isLending_32 ⟨by decide, by decide⟩ ?_
    exact pw_iret eX0_isLending_33 h
  · have h := hk2 c2
    refine pw_aload_n eX0_isLending_49 rfl rfl ?_
    refine pw_iload_n eX0_isLending_50 rfl rfl ?_
    refine pw_iconst eX0_isLending_51 ⟨by decide, by decide⟩ ?_
    obtain ⟨ob5, h⟩ := h
    refine pw_cV (z := mX0_fact) (av := [Iq x1, Iq 4]) (st := []) eX0_isLending_52 lk_RX0_59 rfl (by decide) (by decide) (shR hr0) rfl rfl (Nat.le_of_ble_eq_true rfl) rfl (ct_X0_fact (mem := mem) hr0 ⟨ob5.1, ob5.2, by decide, by decide⟩) ?_
    show PW S mX0_isLending Q 55 [some (Aq r0), some (Iq x1)] [Iq (mem (r0 + 2) (6 * (x1).toNat + 4))] mem
    refine pw_bipush eX0_isLending_55 ⟨by decide, by decide⟩ (by decide) ?_
    refine pw_icmp_ge eX0_isLending_57 (fun c6 => ?_) (fun c6 => ?_)
    · have h := h.1 c6
      refine pw_iconst eX0_isLending_64 ⟨by decide, by decide⟩ ?_
      exact pw_iret eX0_isLending_65 h
    · have h := h.2 c6
      refine pw_iconst eX0_isLending_60 ⟨by decide, by decide⟩ ?_
      refine pw_goto eX0_isLending_61 ?_
      exact pw_iret eX0_isLending_65 h
  · have h := hkd c2
    refine pw_iconst eX0_isLending_66 ⟨by decide, by decide⟩ ?_
    exact pw_iret eX0_isLending_67 h
set_option maxRecDepth 100000 in
theorem rg_X0_slipOf_0 {S : Sx} {Q : Option PV → Zm → Prop} {mem : Zm}  {r0 : Nat} {x1 x2 x3 : Int} (hr0 : isRoom r0)
    (h : (((x3 = -1) → (Q (some (Iq (-1))) mem)) ∧ (¬ (x3 = -1) → ((0 ≤ x1 ∧ x1 < 8) ∧ ((((mem (r0 + 2) (6 * (x1).toNat)) = 0) → (Q (some (Iq x3)) mem)) ∧ (((mem (r0 + 2) (6 * (x1).toNat)) = 1) → ((0 ≤ x2) ∧ (((x2 % 4 = 0) → (Q (some (Iq (-1))) mem)) ∧ (¬ (x2 % 4 = 0) → (Q (some (Iq x3)) mem))))) ∧ (((mem (r0 + 2) (6 * (x1).toNat)) = 2) → ((0 ≤ x2 ∧ 0 ≤ x3 ∧ x3 < 100) ∧ Q (some (Iq (exch x2 x3))) mem)) ∧ (((mem (r0 + 2) (6 * (x1).toNat)) = 3) → ((0 ≤ x2 ∧ 0 ≤ x3 ∧ x3 < 100) ∧ (0 ≤ exch x2 x3 ∧ exch x2 x3 < 100) ∧ Q (some (Iq (sevn (exch x2 x3)))) mem)) ∧ (((mem (r0 + 2) (6 * (x1).toNat)) = 4) → ((0 ≤ mem r0 8) ∧ ((((mem r0 8) % 2 = 0) → ((0 ≤ x2 ∧ 0 ≤ x3 ∧ x3 < 100) ∧ (0 ≤ exch x2 x3 ∧ exch x2 x3 < 100) ∧ Q (some (Iq (sevn (exch x2 x3)))) mem)) ∧ (¬ ((mem r0 8) % 2 = 0) → (Q (some (Iq (-1))) mem))))) ∧ (((mem (r0 + 2) (6 * (x1).toNat)) = 5) → (Q (some (Iq (-1))) mem)) ∧ (((mem (r0 + 2) (6 * (x1).toNat)) = 6) → ((0 ≤ x2) ∧ (((x2 % 4 = 0) → (Q (some (Iq (-1))) mem)) ∧ (¬ (x2 % 4 = 0) → (Q (some (Iq x3)) mem))))) ∧ (((mem (r0 + 2) (6 * (x1).toNat)) < 0 ∨ 6 < (mem (r0 + 2) (6 * (x1).toNat))) → (Q (some (Iq (-1))) mem))))))) :
    PW S mX0_slipOf Q 0 [some (Aq r0), some (Iq x1), some (Iq x2), some (Iq x3)] [] mem := by
  refine pw_iload_n eX0_slipOf_0 rfl rfl ?_
  refine pw_iconst eX0_slipOf_1 ⟨by decide, by decide⟩ ?_
  refine pw_icmp_ne eX0_slipOf_2 (fun c1 => ?_) (fun c1 => ?_)
  · have h := h.2 c1
    refine pw_aload_n eX0_slipOf_7 rfl rfl ?_
    refine pw_iload_n eX0_slipOf_8 rfl rfl ?_
    refine pw_iconst eX0_slipOf_9 ⟨by decide, by decide⟩ ?_
    obtain ⟨ob2, h⟩ := h
    refine pw_cV (z := mX0_fact) (av := [Iq x1, Iq 0]) (st := []) eX0_slipOf_10 lk_RX0_59 rfl (by decide) (by decide) (shR hr0) rfl rfl (Nat.le_of_ble_eq_true rfl) rfl (ct_X0_fact (mem := mem) hr0 ⟨ob2.1, ob2.2, by decide, by decide⟩) ?_
    show PW S mX0_slipOf Q 13 [some (Aq r0), some (Iq x1), some (Iq x2), some (Iq x3)] [Iq (mem (r0 + 2) (6 * (x1).toNat))] mem
    obtain ⟨hk0, hk1, hk2, hk3, hk4, hk5, hk6, hkd⟩ := h
    refine pw_tsw (ps := [(0, 56), (1, 58), (2, 70), (3, 76), (4, 85), (5, 107), (6, 58)]) (td := 107) eX0_slipOf_13 rfl (by decide) (by decide) rfl ⟨fun c3 => ?_, fun c3 => ?_, fun c3 => ?_, fun c3 => ?_, fun c3 => ?_, fun c3 => ?_, fun c3 => ?_, trivial⟩ (fun c3 => ?_)
    · have h := hk0 c3
      refine pw_iload_n eX0_slipOf_56 rfl rfl ?_
      exact pw_iret eX0_slipOf_57 h
    · have h := hk1 c3
      refine pw_iload_n eX0_slipOf_58 rfl rfl ?_
      refine pw_iconst eX0_slipOf_59 ⟨by decide, by decide⟩ ?_
      obtain ⟨ob4, h⟩ := h
      refine pw_irem eX0_slipOf_60 ob4 (by decide) ?_
      refine pw_if_ne eX0_slipOf_61 (fun c5 => ?_) (fun c5 => ?_)
      · have h := h.2 c5
        refine pw_iload_n eX0_slipOf_68 rfl rfl ?_
        exact pw_iret eX0_slipOf_69 h
      · have h := h.1 (Classical.not_not.mp c5)
        refine pw_iconst eX0_slipOf_64 ⟨by decide, by decide⟩ ?_
        refine pw_goto eX0_slipOf_65 ?_
        exact pw_iret eX0_slipOf_69 h
    · have h := hk2 c3
      refine pw_iload_n eX0_slipOf_70 rfl rfl ?_
      refine pw_iload_n eX0_slipOf_71 rfl rfl ?_
      obtain ⟨ob6, h⟩ := h
      refine pw_cS (z := mX0_exchanged) (av := [Iq x2, Iq x3]) (st := []) eX0_slipOf_72 lk_RX0_66 rfl (by decide) (by decide) (Nat.le_of_ble_eq_true rfl) rfl (ct_X0_exchanged (mem := mem) ob6) ?_
      show PW S mX0_slipOf Q 75 [some (Aq r0), some (Iq x1), some (Iq x2), some (Iq x3)] [Iq (exch x2 x3)] mem
      exact pw_iret eX0_slipOf_75 h
    · have h := hk3 c3
      refine pw_iload_n eX0_slipOf_76 rfl rfl ?_
      refine pw_iload_n eX0_slipOf_77 rfl rfl ?_
      obtain ⟨ob7, h⟩ := h
      refine pw_cS (z := mX0_exchanged) (av := [Iq x2, Iq x3]) (st := []) eX0_slipOf_78 lk_RX0_66 rfl (by decide) (by decide) (Nat.le_of_ble_eq_true rfl) rfl (ct_X0_exchanged (mem := mem) ob7) ?_
      show PW S mX0_slipOf Q 81 [some (Aq r0), some (Iq x1), some (Iq x2), some (Iq x3)] [Iq (exch x2 x3)] mem
      obtain ⟨ob8, h⟩ := h
      refine pw_cS (z := mX0_onesForSevens) (av := [Iq (exch x2 x3)]) (st := []) eX0_slipOf_81 lk_RX0_69 rfl (by decide) (by decide) (Nat.le_of_ble_eq_true rfl) rfl (ct_X0_onesForSevens (mem := mem) ob8) ?_
      show PW S mX0_slipOf Q 84 [some (Aq r0), some (Iq x1), some (Iq x2), some (Iq x3)] [Iq (sevn (exch x2 x3))] mem
      exact pw_iret eX0_slipOf_84 h
    · have h := hk4 c3
      refine pw_aload_n eX0_slipOf_85 rfl rfl ?_
      refine gf_RX0_37 rfl eX0_slipOf_86 (shR hr0) ?_
      refine pw_iconst eX0_slipOf_89 ⟨by decide, by decide⟩ ?_
      obtain ⟨ob9, h⟩ := h
      refine pw_irem eX0_slipOf_90 ob9 (by decide) ?_
      refine pw_if_ne eX0_slipOf_91 (fun c10 => ?_) (fun c10 => ?_)
      · have h := h.2 c10
        refine pw_iconst eX0_slipOf_105 ⟨by decide, by decide⟩ ?_
        exact pw_iret eX0_slipOf_106 h
      · have h := h.1 (Classical.not_not.mp c10)
        refine pw_iload_n eX0_slipOf_94 rfl rfl ?_
        refine pw_iload_n eX0_slipOf_95 rfl rfl ?_
        obtain ⟨ob11, h⟩ := h
        refine pw_cS (z := mX0_exchanged) (av := [Iq x2, Iq x3]) (st := []) eX0_slipOf_96 lk_RX0_66 rfl (by decide) (by decide) (Nat.le_of_ble_eq_true rfl) rfl (ct_X0_exchanged (mem := mem) ob11) ?_
        show PW S mX0_slipOf Q 99 [some (Aq r0), some (Iq x1), some (Iq x2), some (Iq x3)] [Iq (exch x2 x3)] mem
        obtain ⟨ob12, h⟩ := h
        refine pw_cS (z := mX0_onesForSevens) (av := [Iq (exch x2 x3)]) (st := []) eX0_slipOf_99 lk_RX0_69 rfl (by decide) (by decide) (Nat.le_of_ble_eq_true rfl) rfl (ct_X0_onesForSevens (mem := mem) ob12) ?_
        show PW S mX0_slipOf Q 102 [some (Aq r0), some (Iq x1), some (Iq x2), some (Iq x3)] [Iq (sevn (exch x2 x3))] mem
        refine pw_goto eX0_slipOf_102 ?_
        exact pw_iret eX0_slipOf_106 h
    · have h := hk5 c3
      refine pw_iconst eX0_slipOf_107 ⟨by decide, by decide⟩ ?_
      exact pw_iret eX0_slipOf_108 h
    · have h := hk6 c3
      refine pw_iload_n eX0_slipOf_58 rfl rfl ?_
      refine pw_iconst eX0_slipOf_59 ⟨by decide, by decide⟩ ?_
      obtain ⟨ob13, h⟩ := h
      refine pw_irem eX0_slipOf_60 ob13 (by decide) ?_
      refine pw_if_ne eX0_slipOf_61 (fun c14 => ?_) (fun c14 => ?_)
      · have h := h.2 c14
        refine pw_iload_n eX0_slipOf_68 rfl rfl ?_
        exact pw_iret eX0_slipOf_69 h
      · have h := h.1 (Classical.not_not.mp c14)
        refine pw_iconst eX0_slipOf_64 ⟨by decide, by decide⟩ ?_
        refine pw_goto eX0_slipOf_65 ?_
        exact pw_iret eX0_slipOf_69 h
    · have h := hkd c3
      refine pw_iconst eX0_slipOf_107 ⟨by decide, by decide⟩ ?_
      exact pw_iret eX0_slipOf_108 h
  · have h := h.1 (Classical.not_not.mp c1)
    refine pw_iconst eX0_slipOf_5 ⟨by decide, by decide⟩ ?_
    exact pw_iret eX0_slipOf_6 h
set_option maxRecDepth 100000 in
theorem rg_X0_sameAmong_0 {S : Sx} {Q : Option PV → Zm → Prop} {mem : Zm}  {r0 : Nat} {x1 x2 x3 : Int} (hr0 : isRoom r0)
    (h : PW S mX0_sameAmong Q 6 [some (Aq r0), some (Iq x1), some (Iq x2), some (Iq x3), some (Iq 0), some (Iq 0)] [] mem) :
    PW S mX0_sameAmong Q 0 [some (Aq r0), some (Iq x1), some (Iq x2), some (Iq x3), none, none] [] mem := by
  refine pw_iconst eX0_sameAmong_0 ⟨by decide, by decide⟩ ?_
  refine pw_istore (ls2 := [some (Aq r0), some (Iq x1), some (Iq x2), some (Iq x3), some (Iq 0), none]) eX0_sameAmong_1 (by decide) rfl ?_
  refine pw_iconst eX0_sameAmong_3 ⟨by decide, by decide⟩ ?_
  refine pw_istore (ls2 := [some (Aq r0), some (Iq x1), some (Iq x2), some (Iq x3), some (Iq 0), some (Iq 0)]) eX0_sameAmong_4 (by decide) rfl ?_
  exact h

set_option maxRecDepth 100000 in
theorem rg_X0_sameAmong_6 {S : Sx} {Q : Option PV → Zm → Prop} {mem : Zm}  {r0 : Nat} {x1 x2 x3 x4 x5 : Int} (hr0 : isRoom r0)
    (h : (((8 ≤ x5) → (Q (some (Iq x4)) mem)) ∧ (¬ (8 ≤ x5) → ((((bAnd (bShr x1 x5) 1 = 1) → ((0 ≤ x2 ∧ x2 < 8 ∧ 0 ≤ x5 ∧ x5 < 8) ∧ (0 ≤ x3 ∧ x3 < 8 ∧ 0 ≤ x5 ∧ x5 < 8) ∧ (((mem (r0 + 3) (8 * (x2).toNat + (x5).toNat) = mem (r0 + 3) (8 * (x3).toNat + (x5).toNat)) → ((in32 (x5 + 1)) ∧ PW S mX0_sameAmong Q 6 [some (Aq r0), some (Iq x1), some (Iq x2), some (Iq x3), some (Iq (bOr x4 (bShl 1 x5))), some (Iq (x5 + 1))] [] mem)) ∧ (¬ (mem (r0 + 3) (8 * (x2).toNat + (x5).toNat) = mem (r0 + 3) (8 * (x3).toNat + (x5).toNat)) → ((in32 (x5 + 1)) ∧ PW S mX0_sameAmong Q 6 [some (Aq r0), some (Iq x1), some (Iq x2), some (Iq x3), some (Iq x4), some (Iq (x5 + 1))] [] mem))))) ∧ (¬ (bAnd (bShr x1 x5) 1 = 1) → ((in32 (x5 + 1)) ∧ PW S mX0_sameAmong Q 6 [some (Aq r0), some (Iq x1), some (Iq x2), some (Iq x3), some (Iq x4), some (Iq (x5 + 1))] [] mem))))))) :
    PW S mX0_sameAmong Q 6 [some (Aq r0), some (Iq x1), some (Iq x2), some (Iq x3), some (Iq x4), some (Iq x5)] [] mem := by
  refine pw_iload eX0_sameAmong_6 rfl ?_
  refine pw_bipush eX0_sameAmong_8 ⟨by decide, by decide⟩ (by decide) ?_
  refine pw_icmp_ge eX0_sameAmong_10 (fun c1 => ?_) (fun c1 => ?_)
  · have h := h.1 c1
    refine pw_iload eX0_sameAmong_55 rfl ?_
    exact pw_iret eX0_sameAmong_57 h
  · have h := h.2 c1
    refine pw_iload_n eX0_sameAmong_13 rfl rfl ?_
    refine pw_iload eX0_sameAmong_14 rfl ?_
    refine pw_ishr eX0_sameAmong_16 ?_
    refine pw_iconst eX0_sameAmong_17 ⟨by decide, by decide⟩ ?_
    refine pw_iand eX0_sameAmong_18 ?_
    refine pw_iconst eX0_sameAmong_19 ⟨by decide, by decide⟩ ?_
    refine pw_icmp_ne eX0_sameAmong_20 (fun c2 => ?_) (fun c2 => ?_)
    · have h := h.2 c2
      obtain ⟨ob3, h⟩ := h
      refine pw_iinc (ls2 := [some (Aq r0), some (Iq x1), some (Iq x2), some (Iq x3), some (Iq x4), some (Iq (x5 + 1))]) eX0_sameAmong_49 rfl ob3 rfl ?_
      refine pw_goto eX0_sameAmong_52 ?_
      exact h
    · have h := h.1 (Classical.not_not.mp c2)
      refine pw_aload_n eX0_sameAmong_23 rfl rfl ?_
      refine pw_iload_n eX0_sameAmong_24 rfl rfl ?_
      refine pw_iload eX0_sameAmong_25 rfl ?_
      obtain ⟨ob4, h⟩ := h
      refine pw_cV (z := mX0_answerOf) (av := [Iq x2, Iq x5]) (st := []) eX0_sameAmong_27 lk_RX0_86 rfl (by decide) (by decide) (shR hr0) rfl rfl (Nat.le_of_ble_eq_true rfl) rfl (ct_X0_answerOf (mem := mem) hr0 ob4) ?_
      show PW S mX0_sameAmong Q 30 [some (Aq r0), some (Iq x1), some (Iq x2), some (Iq x3), some (Iq x4), some (Iq x5)] [Iq (mem (r0 + 3) (8 * (x2).toNat + (x5).toNat))] mem
      refine pw_aload_n eX0_sameAmong_30 rfl rfl ?_
      refine pw_iload_n eX0_sameAmong_31 rfl rfl ?_
      refine pw_iload eX0_sameAmong_32 rfl ?_
      obtain ⟨ob5, h⟩ := h
      refine pw_cV (z := mX0_answerOf) (av := [Iq x3, Iq x5]) (st := [Iq (mem (r0 + 3) (8 * (x2).toNat + (x5).toNat))]) eX0_sameAmong_34 lk_RX0_86 rfl (by decide) (by decide) (shR hr0) rfl rfl (Nat.le_of_ble_eq_true rfl) rfl (ct_X0_answerOf (mem := mem) hr0 ob5) ?_
      show PW S mX0_sameAmong Q 37 [some (Aq r0), some (Iq x1), some (Iq x2), some (Iq x3), some (Iq x4), some (Iq x5)] [Iq (mem (r0 + 3) (8 * (x3).toNat + (x5).toNat)), Iq (mem (r0 + 3) (8 * (x2).toNat + (x5).toNat))] mem
      refine pw_icmp_ne eX0_sameAmong_37 (fun c6 => ?_) (fun c6 => ?_)
      · have h := h.2 c6
        obtain ⟨ob7, h⟩ := h
        refine pw_iinc (ls2 := [some (Aq r0), some (Iq x1), some (Iq x2), some (Iq x3), some (Iq x4), some (Iq (x5 + 1))]) eX0_sameAmong_49 rfl ob7 rfl ?_
        refine pw_goto eX0_sameAmong_52 ?_
        exact h
      · have h := h.1 (Classical.not_not.mp c6)
        refine pw_iload eX0_sameAmong_40 rfl ?_
        refine pw_iconst eX0_sameAmong_42 ⟨by decide, by decide⟩ ?_
        refine pw_iload eX0_sameAmong_43 rfl ?_
        refine pw_ishl eX0_sameAmong_45 ?_
        refine pw_ior eX0_sameAmong_46 ?_
        refine pw_istore (ls2 := [some (Aq r0), some (Iq x1), some (Iq x2), some (Iq x3), some (Iq (bOr x4 (bShl 1 x5))), some (Iq x5)]) eX0_sameAmong_47 (by decide) rfl ?_
        obtain ⟨ob8, h⟩ := h
        refine pw_iinc (ls2 := [some (Aq r0), some (Iq x1), some (Iq x2), some (Iq x3), some (Iq (bOr x4 (bShl 1 x5))), some (Iq (x5 + 1))]) eX0_sameAmong_49 rfl ob8 rfl ?_
        refine pw_goto eX0_sameAmong_52 ?_
        exact h
set_option maxRecDepth 100000 in
theorem rg_X0_wrongSums_0 {S : Sx} {Q : Option PV → Zm → Prop} {mem : Zm}  {r0 : Nat} {x1 : Int} (hr0 : isRoom r0)
    (h : PW S mX0_wrongSums Q 4 [some (Aq r0), some (Iq x1), some (Iq 0), some (Iq 0), none] [] mem) :
    PW S mX0_wrongSums Q 0 [some (Aq r0), some (Iq x1), none, none, none] [] mem := by
  refine pw_iconst eX0_wrongSums_0 ⟨by decide, by decide⟩ ?_
  refine pw_istore_n (ls2 := [some (Aq r0), some (Iq x1), some (Iq 0), none, none]) eX0_wrongSums_1 rfl (by decide) rfl ?_
  refine pw_iconst eX0_wrongSums_2 ⟨by decide, by decide⟩ ?_
  refine pw_istore_n (ls2 := [some (Aq r0), some (Iq x1), some (Iq 0), some (Iq 0), none]) eX0_wrongSums_3 rfl (by decide) rfl ?_
  exact h

set_option maxRecDepth 100000 in
theorem rg_X0_wrongSums_4 {S : Sx} {Q : Option PV → Zm → Prop} {mem : Zm}  {r0 : Nat} {x1 x2 x3 : Int} (hr0 : isRoom r0)
    (h : (((8 ≤ x3) → (Q (some (Iq x2)) mem)) ∧ (¬ (8 ≤ x3) → ((0 ≤ x1 ∧ x1 < 8 ∧ 0 ≤ x3 ∧ x3 < 8) ∧ (((mem (r0 + 3) (8 * (x1).toNat + (x3).toNat) = -1) → ((in32 (x3 + 1)) ∧ PW S mX0_wrongSums Q 4 [some (Aq r0), some (Iq x1), some (Iq x2), some (Iq (x3 + 1)), none] [] mem)) ∧ (¬ (mem (r0 + 3) (8 * (x1).toNat + (x3).toNat) = -1) → ((0 ≤ x3 ∧ x3 < 8) ∧ (((mem (r0 + 3) (8 * (x1).toNat + (x3).toNat) = mem (r0 + 1) (x3).toNat) → ((in32 (x3 + 1)) ∧ PW S mX0_wrongSums Q 4 [some (Aq r0), some (Iq x1), some (Iq x2), some (Iq (x3 + 1)), none] [] mem)) ∧ (¬ (mem (r0 + 3) (8 * (x1).toNat + (x3).toNat) = mem (r0 + 1) (x3).toNat) → ((in32 (x3 + 1)) ∧ PW S mX0_wrongSums Q 4 [some (Aq r0), some (Iq x1), some (Iq (bOr x2 (bShl 1 x3))), some (Iq (x3 + 1)), none] [] mem)))))))))) :
    PW S mX0_wrongSums Q 4 [some (Aq r0), some (Iq x1), some (Iq x2), some (Iq x3), none] [] mem := by
  refine pw_iload_n eX0_wrongSums_4 rfl rfl ?_
  refine pw_bipush eX0_wrongSums_5 ⟨by decide, by decide⟩ (by decide) ?_
  refine pw_icmp_ge eX0_wrongSums_7 (fun c1 => ?_) (fun c1 => ?_)
  · have h := h.1 c1
    refine pw_iload_n eX0_wrongSums_47 rfl rfl ?_
    exact pw_iret eX0_wrongSums_48 h
  · have h := h.2 c1
    refine pw_aload_n eX0_wrongSums_10 rfl rfl ?_
    refine pw_iload_n eX0_wrongSums_11 rfl rfl ?_
    refine pw_iload_n eX0_wrongSums_12 rfl rfl ?_
    obtain ⟨ob2, h⟩ := h
    refine pw_cV (z := mX0_answerOf) (av := [Iq x1, Iq x3]) (st := []) eX0_wrongSums_13 lk_RX0_86 rfl (by decide) (by decide) (shR hr0) rfl rfl (Nat.le_of_ble_eq_true rfl) rfl (ct_X0_answerOf (mem := mem) hr0 ob2) ?_
    show PW S mX0_wrongSums Q 16 [some (Aq r0), some (Iq x1), some (Iq x2), some (Iq x3), none] [Iq (mem (r0 + 3) (8 * (x1).toNat + (x3).toNat))] mem
    refine pw_istore (ls2 := [some (Aq r0), some (Iq x1), some (Iq x2), some (Iq x3), some (Iq (mem (r0 + 3) (8 * (x1).toNat + (x3).toNat)))]) eX0_wrongSums_16 (by decide) rfl ?_
    refine pw_iload eX0_wrongSums_18 rfl ?_
    refine pw_iconst eX0_wrongSums_20 ⟨by decide, by decide⟩ ?_
    refine pw_icmp_eq eX0_wrongSums_21 (fun c3 => ?_) (fun c3 => ?_)
    · have h := h.1 c3
      obtain ⟨ob4, h⟩ := h
      refine pw_iinc (ls2 := [some (Aq r0), some (Iq x1), some (Iq x2), some (Iq (x3 + 1)), some (Iq (mem (r0 + 3) (8 * (x1).toNat + (x3).toNat)))]) eX0_wrongSums_41 rfl ob4 rfl ?_
      refine pw_goto eX0_wrongSums_44 ?_
      exact pw_drop (bs := [true, true, true, true, false]) h
    · have h := h.2 c3
      refine pw_iload eX0_wrongSums_24 rfl ?_
      refine pw_aload_n eX0_wrongSums_26 rfl rfl ?_
      refine gf_RX0_9 rfl eX0_wrongSums_27 (shR hr0) ?_
      refine pw_iload_n eX0_wrongSums_30 rfl rfl ?_
      obtain ⟨ob5, h⟩ := h
      refine pw_iald eX0_wrongSums_31 (shR1 hr0) ob5 ?_
      refine pw_icmp_eq eX0_wrongSums_32 (fun c6 => ?_) (fun c6 => ?_)
      · have h := h.1 c6
        obtain ⟨ob7, h⟩ := h
        refine pw_iinc (ls2 := [some (Aq r0), some (Iq x1), some (Iq x2), some (Iq (x3 + 1)), some (Iq (mem (r0 + 3) (8 * (x1).toNat + (x3).toNat)))]) eX0_wrongSums_41 rfl ob7 rfl ?_
        refine pw_goto eX0_wrongSums_44 ?_
        exact pw_drop (bs := [true, true, true, true, false]) h
      · have h := h.2 c6
        refine pw_iload_n eX0_wrongSums_35 rfl rfl ?_
        refine pw_iconst eX0_wrongSums_36 ⟨by decide, by decide⟩ ?_
        refine pw_iload_n eX0_wrongSums_37 rfl rfl ?_
        refine pw_ishl eX0_wrongSums_38 ?_
        refine pw_ior eX0_wrongSums_39 ?_
        refine pw_istore_n (ls2 := [some (Aq r0), some (Iq x1), some (Iq (bOr x2 (bShl 1 x3))), some (Iq x3), some (Iq (mem (r0 + 3) (8 * (x1).toNat + (x3).toNat)))]) eX0_wrongSums_40 rfl (by decide) rfl ?_
        obtain ⟨ob8, h⟩ := h
        refine pw_iinc (ls2 := [some (Aq r0), some (Iq x1), some (Iq (bOr x2 (bShl 1 x3))), some (Iq (x3 + 1)), some (Iq (mem (r0 + 3) (8 * (x1).toNat + (x3).toNat)))]) eX0_wrongSums_41 rfl ob8 rfl ?_
        refine pw_goto eX0_wrongSums_44 ?_
        exact pw_drop (bs := [true, true, true, true, false]) h
set_option maxRecDepth 100000 in
theorem rg_X0_answeredSums_0 {S : Sx} {Q : Option PV → Zm → Prop} {mem : Zm}  {r0 : Nat} {x1 : Int} (hr0 : isRoom r0)
    (h : PW S mX0_answeredSums Q 4 [some (Aq r0), some (Iq x1), some (Iq 0), some (Iq 0)] [] mem) :
    PW S mX0_answeredSums Q 0 [some (Aq r0), some (Iq x1), none, none] [] mem := by
  refine pw_iconst eX0_answeredSums_0 ⟨by decide, by decide⟩ ?_
  refine pw_istore_n (ls2 := [some (Aq r0), some (Iq x1), some (Iq 0), none]) eX0_answeredSums_1 rfl (by decide) rfl ?_
  refine pw_iconst eX0_answeredSums_2 ⟨by decide, by decide⟩ ?_
  refine pw_istore_n (ls2 := [some (Aq r0), some (Iq x1), some (Iq 0), some (Iq 0)]) eX0_answeredSums_3 rfl (by decide) rfl ?_
  exact h

set_option maxRecDepth 100000 in
theorem rg_X0_answeredSums_4 {S : Sx} {Q : Option PV → Zm → Prop} {mem : Zm}  {r0 : Nat} {x1 x2 x3 : Int} (hr0 : isRoom r0)
    (h : (((8 ≤ x3) → (Q (some (Iq x2)) mem)) ∧ (¬ (8 ≤ x3) → ((0 ≤ x1 ∧ x1 < 8 ∧ 0 ≤ x3 ∧ x3 < 8) ∧ (((mem (r0 + 3) (8 * (x1).toNat + (x3).toNat) = -1) → ((in32 (x3 + 1)) ∧ PW S mX0_answeredSums Q 4 [some (Aq r0), some (Iq x1), some (Iq x2), some (Iq (x3 + 1))] [] mem)) ∧ (¬ (mem (r0 + 3) (8 * (x1).toNat + (x3).toNat) = -1) → ((in32 (x3 + 1)) ∧ PW S mX0_answeredSums Q 4 [some (Aq r0), some (Iq x1), some (Iq (bOr x2 (bShl 1 x3))), some (Iq (x3 + 1))] [] mem))))))) :
    PW S mX0_answeredSums Q 4 [some (Aq r0), some (Iq x1), some (Iq x2), some (Iq x3)] [] mem := by
  refine pw_iload_n eX0_answeredSums_4 rfl rfl ?_
  refine pw_bipush eX0_answeredSums_5 ⟨by decide, by decide⟩ (by decide) ?_
  refine pw_icmp_ge eX0_answeredSums_7 (fun c1 => ?_) (fun c1 => ?_)
  · have h := h.1 c1
    refine pw_iload_n eX0_answeredSums_32 rfl rfl ?_
    exact pw_iret eX0_answeredSums_33 h
  · have h := h.2 c1
    refine pw_aload_n eX0_answeredSums_10 rfl rfl ?_
    refine pw_iload_n eX0_answeredSums_11 rfl rfl ?_
    refine pw_iload_n eX0_answeredSums_12 rfl rfl ?_
    obtain ⟨ob2, h⟩ := h
    refine pw_cV (z := mX0_answerOf) (av := [Iq x1, Iq x3]) (st := []) eX0_answeredSums_13 lk_RX0_86 rfl (by decide) (by decide) (shR hr0) rfl rfl (Nat.le_of_ble_eq_true rfl) rfl (ct_X0_answerOf (mem := mem) hr0 ob2) ?_
    show PW S mX0_answeredSums Q 16 [some (Aq r0), some (Iq x1), some (Iq x2), some (Iq x3)] [Iq (mem (r0 + 3) (8 * (x1).toNat + (x3).toNat))] mem
    refine pw_iconst eX0_answeredSums_16 ⟨by decide, by decide⟩ ?_
    refine pw_icmp_eq eX0_answeredSums_17 (fun c3 => ?_) (fun c3 => ?_)
    · have h := h.1 c3
      obtain ⟨ob4, h⟩ := h
      refine pw_iinc (ls2 := [some (Aq r0), some (Iq x1), some (Iq x2), some (Iq (x3 + 1))]) eX0_answeredSums_26 rfl ob4 rfl ?_
      refine pw_goto eX0_answeredSums_29 ?_
      exact h
    · have h := h.2 c3
      refine pw_iload_n eX0_answeredSums_20 rfl rfl ?_
      refine pw_iconst eX0_answeredSums_21 ⟨by decide, by decide⟩ ?_
      refine pw_iload_n eX0_answeredSums_22 rfl rfl ?_
      refine pw_ishl eX0_answeredSums_23 ?_
      refine pw_ior eX0_answeredSums_24 ?_
      refine pw_istore_n (ls2 := [some (Aq r0), some (Iq x1), some (Iq (bOr x2 (bShl 1 x3))), some (Iq x3)]) eX0_answeredSums_25 rfl (by decide) rfl ?_
      obtain ⟨ob5, h⟩ := h
      refine pw_iinc (ls2 := [some (Aq r0), some (Iq x1), some (Iq (bOr x2 (bShl 1 x3))), some (Iq (x3 + 1))]) eX0_answeredSums_26 rfl ob5 rfl ?_
      refine pw_goto eX0_answeredSums_29 ?_
      exact h
set_option maxRecDepth 100000 in
theorem rg_X0_copiedChildren_0 {S : Sx} {Q : Option PV → Zm → Prop} {mem : Zm}  {r0 : Nat} (hr0 : isRoom r0)
    (h : PW S mX0_copiedChildren Q 4 [some (Aq r0), some (Iq 0), some (Iq 0), none] [] mem) :
    PW S mX0_copiedChildren Q 0 [some (Aq r0), none, none, none] [] mem := by
  refine pw_iconst eX0_copiedChildren_0 ⟨by decide, by decide⟩ ?_
  refine pw_istore_n (ls2 := [some (Aq r0), some (Iq 0), none, none]) eX0_copiedChildren_1 rfl (by decide) rfl ?_
  refine pw_iconst eX0_copiedChildren_2 ⟨by decide, by decide⟩ ?_
  refine pw_istore_n (ls2 := [some (Aq r0), some (Iq 0), some (Iq 0), none]) eX0_copiedChildren_3 rfl (by decide) rfl ?_
  exact h

set_option maxRecDepth 100000 in
theorem rg_X0_copiedChildren_4 {S : Sx} {Q : Option PV → Zm → Prop} {mem : Zm}  {r0 : Nat} {x1 x2 : Int} (hr0 : isRoom r0)
    (h : (((mem r0 7 ≤ x2) → (Q (some (Iq x1)) mem)) ∧ (¬ (mem r0 7 ≤ x2) → ((0 ≤ x2 ∧ x2 < 8) ∧ (((mem (r0 + 2) (6 * (x2).toNat + 2) = -1) → ((in32 (x2 + 1)) ∧ PW S mX0_copiedChildren Q 4 [some (Aq r0), some (Iq x1), some (Iq (x2 + 1)), none] [] mem)) ∧ (¬ (mem (r0 + 2) (6 * (x2).toNat + 2) = -1) → ((in32 (x2 + 1)) ∧ PW S mX0_copiedChildren Q 4 [some (Aq r0), some (Iq (bOr x1 (bShl 1 (mem (r0 + 2) (6 * (x2).toNat + 2))))), some (Iq (x2 + 1)), none] [] mem))))))) :
    PW S mX0_copiedChildren Q 4 [some (Aq r0), some (Iq x1), some (Iq x2), none] [] mem := by
  refine pw_iload_n eX0_copiedChildren_4 rfl rfl ?_
  refine pw_aload_n eX0_copiedChildren_5 rfl rfl ?_
  refine gf_RX0_34 rfl eX0_copiedChildren_6 (shR hr0) ?_
  refine pw_icmp_ge eX0_copiedChildren_9 (fun c1 => ?_) (fun c1 => ?_)
  · have h := h.1 c1
    refine pw_iload_n eX0_copiedChildren_36 rfl rfl ?_
    exact pw_iret eX0_copiedChildren_37 h
  · have h := h.2 c1
    refine pw_aload_n eX0_copiedChildren_12 rfl rfl ?_
    refine pw_iload_n eX0_copiedChildren_13 rfl rfl ?_
    refine pw_iconst eX0_copiedChildren_14 ⟨by decide, by decide⟩ ?_
    obtain ⟨ob2, h⟩ := h
    refine pw_cV (z := mX0_fact) (av := [Iq x2, Iq 2]) (st := []) eX0_copiedChildren_15 lk_RX0_59 rfl (by decide) (by decide) (shR hr0) rfl rfl (Nat.le_of_ble_eq_true rfl) rfl (ct_X0_fact (mem := mem) hr0 ⟨ob2.1, ob2.2, by decide, by decide⟩) ?_
    show PW S mX0_copiedChildren Q 18 [some (Aq r0), some (Iq x1), some (Iq x2), none] [Iq (mem (r0 + 2) (6 * (x2).toNat + 2))] mem
    refine pw_istore_n (ls2 := [some (Aq r0), some (Iq x1), some (Iq x2), some (Iq (mem (r0 + 2) (6 * (x2).toNat + 2)))]) eX0_copiedChildren_18 rfl (by decide) rfl ?_
    refine pw_iload_n eX0_copiedChildren_19 rfl rfl ?_
    refine pw_iconst eX0_copiedChildren_20 ⟨by decide, by decide⟩ ?_
    refine pw_icmp_eq eX0_copiedChildren_21 (fun c3 => ?_) (fun c3 => ?_)
    · have h := h.1 c3
      obtain ⟨ob4, h⟩ := h
      refine pw_iinc (ls2 := [some (Aq r0), some (Iq x1), some (Iq (x2 + 1)), some (Iq (mem (r0 + 2) (6 * (x2).toNat + 2)))]) eX0_copiedChildren_30 rfl ob4 rfl ?_
      refine pw_goto eX0_copiedChildren_33 ?_
      exact pw_drop (bs := [true, true, true, false]) h
    · have h := h.2 c3
      refine pw_iload_n eX0_copiedChildren_24 rfl rfl ?_
      refine pw_iconst eX0_copiedChildren_25 ⟨by decide, by decide⟩ ?_
      refine pw_iload_n eX0_copiedChildren_26 rfl rfl ?_
      refine pw_ishl eX0_copiedChildren_27 ?_
      refine pw_ior eX0_copiedChildren_28 ?_
      refine pw_istore_n (ls2 := [some (Aq r0), some (Iq (bOr x1 (bShl 1 (mem (r0 + 2) (6 * (x2).toNat + 2))))), some (Iq x2), some (Iq (mem (r0 + 2) (6 * (x2).toNat + 2)))]) eX0_copiedChildren_29 rfl (by decide) rfl ?_
      obtain ⟨ob5, h⟩ := h
      refine pw_iinc (ls2 := [some (Aq r0), some (Iq (bOr x1 (bShl 1 (mem (r0 + 2) (6 * (x2).toNat + 2))))), some (Iq (x2 + 1)), some (Iq (mem (r0 + 2) (6 * (x2).toNat + 2)))]) eX0_copiedChildren_30 rfl ob5 rfl ?_
      refine pw_goto eX0_copiedChildren_33 ?_
      exact pw_drop (bs := [true, true, true, false]) h
set_option maxRecDepth 100000 in
theorem rg_X0_bestChildren_0 {S : Sx} {Q : Option PV → Zm → Prop} {mem : Zm}  {r0 : Nat} (hr0 : isRoom r0)
    (h : PW S mX0_bestChildren Q 6 [some (Aq r0), some (Iq 0), some (Iq (-1)), some (Iq 0), none] [] mem) :
    PW S mX0_bestChildren Q 0 [some (Aq r0), none, none, none, none] [] mem := by
  refine pw_iconst eX0_bestChildren_0 ⟨by decide, by decide⟩ ?_
  refine pw_istore_n (ls2 := [some (Aq r0), some (Iq 0), none, none, none]) eX0_bestChildren_1 rfl (by decide) rfl ?_
  refine pw_iconst eX0_bestChildren_2 ⟨by decide, by decide⟩ ?_
  refine pw_istore_n (ls2 := [some (Aq r0), some (Iq 0), some (Iq (-1)), none, none]) eX0_bestChildren_3 rfl (by decide) rfl ?_
  refine pw_iconst eX0_bestChildren_4 ⟨by decide, by decide⟩ ?_
  refine pw_istore_n (ls2 := [some (Aq r0), some (Iq 0), some (Iq (-1)), some (Iq 0), none]) eX0_bestChildren_5 rfl (by decide) rfl ?_
  exact h

set_option maxRecDepth 100000 in
theorem rg_X0_bestChildren_6 {S : Sx} {Q : Option PV → Zm → Prop} {mem : Zm}  {r0 : Nat} {x1 x2 x3 : Int} (hr0 : isRoom r0)
    (h : (((mem r0 7 ≤ x3) → (Q (some (Iq x1)) mem)) ∧ (¬ (mem r0 7 ≤ x3) → ((0 ≤ x3 ∧ x3 < 8) ∧ (((mem (r0 + 2) (6 * (x3).toNat + 3) ≤ x2) → ((((mem (r0 + 2) (6 * (x3).toNat + 3) = x2) → ((in32 (x3 + 1)) ∧ PW S mX0_bestChildren Q 6 [some (Aq r0), some (Iq (bOr x1 (bShl 1 x3))), some (Iq x2), some (Iq (x3 + 1)), none] [] mem)) ∧ (¬ (mem (r0 + 2) (6 * (x3).toNat + 3) = x2) → ((in32 (x3 + 1)) ∧ PW S mX0_bestChildren Q 6 [some (Aq r0), some (Iq x1), some (Iq x2), some (Iq (x3 + 1)), none] [] mem))))) ∧ (¬ (mem (r0 + 2) (6 * (x3).toNat + 3) ≤ x2) → ((((mem (r0 + 2) (6 * (x3).toNat + 3) = mem (r0 + 2) (6 * (x3).toNat + 3)) → ((in32 (x3 + 1)) ∧ PW S mX0_bestChildren Q 6 [some (Aq r0), some (Iq (bOr 0 (bShl 1 x3))), some (Iq (mem (r0 + 2) (6 * (x3).toNat + 3))), some (Iq (x3 + 1)), none] [] mem)) ∧ (¬ (mem (r0 + 2) (6 * (x3).toNat + 3) = mem (r0 + 2) (6 * (x3).toNat + 3)) → ((in32 (x3 + 1)) ∧ PW S mX0_bestChildren Q 6 [some (Aq r0), some (Iq 0), some (Iq (mem (r0 + 2) (6 * (x3).toNat + 3))), some (Iq (x3 + 1)), none] [] mem)))))))))) :
    PW S mX0_bestChildren Q 6 [some (Aq r0), some (Iq x1), some (Iq x2), some (Iq x3), none] [] mem := by
  refine pw_iload_n eX0_bestChildren_6 rfl rfl ?_
  refine pw_aload_n eX0_bestChildren_7 rfl rfl ?_
  refine gf_RX0_34 rfl eX0_bestChildren_8 (shR hr0) ?_
  refine pw_icmp_ge eX0_bestChildren_11 (fun c1 => ?_) (fun c1 => ?_)
  · have h := h.1 c1
    refine pw_iload_n eX0_bestChildren_51 rfl rfl ?_
    exact pw_iret eX0_bestChildren_52 h
  · have h := h.2 c1
    refine pw_aload_n eX0_bestChildren_14 rfl rfl ?_
    refine pw_iload_n eX0_bestChildren_15 rfl rfl ?_
    refine pw_iconst eX0_bestChildren_16 ⟨by decide, by decide⟩ ?_
    obtain ⟨ob2, h⟩ := h
    refine pw_cV (z := mX0_fact) (av := [Iq x3, Iq 3]) (st := []) eX0_bestChildren_17 lk_RX0_59 rfl (by decide) (by decide) (shR hr0) rfl rfl (Nat.le_of_ble_eq_true rfl) rfl (ct_X0_fact (mem := mem) hr0 ⟨ob2.1, ob2.2, by decide, by decide⟩) ?_
    show PW S mX0_bestChildren Q 20 [some (Aq r0), some (Iq x1), some (Iq x2), some (Iq x3), none] [Iq (mem (r0 + 2) (6 * (x3).toNat + 3))] mem
    refine pw_istore (ls2 := [some (Aq r0), some (Iq x1), some (Iq x2), some (Iq x3), some (Iq (mem (r0 + 2) (6 * (x3).toNat + 3)))]) eX0_bestChildren_20 (by decide) rfl ?_
    refine pw_iload eX0_bestChildren_22 rfl ?_
    refine pw_iload_n eX0_bestChildren_24 rfl rfl ?_
    refine pw_icmp_le eX0_bestChildren_25 (fun c3 => ?_) (fun c3 => ?_)
    · have h := h.1 c3
      refine pw_iload eX0_bestChildren_33 rfl ?_
      refine pw_iload_n eX0_bestChildren_35 rfl rfl ?_
      refine pw_icmp_ne eX0_bestChildren_36 (fun c4 => ?_) (fun c4 => ?_)
      · have h := h.2 c4
        obtain ⟨ob5, h⟩ := h
        refine pw_iinc (ls2 := [some (Aq r0), some (Iq x1), some (Iq x2), some (Iq (x3 + 1)), some (Iq (mem (r0 + 2) (6 * (x3).toNat + 3)))]) eX0_bestChildren_45 rfl ob5 rfl ?_
        refine pw_goto eX0_bestChildren_48 ?_
        exact pw_drop (bs := [true, true, true, true, false]) h
      · have h := h.1 (Classical.not_not.mp c4)
        refine pw_iload_n eX0_bestChildren_39 rfl rfl ?_
        refine pw_iconst eX0_bestChildren_40 ⟨by decide, by decide⟩ ?_
        refine pw_iload_n eX0_bestChildren_41 rfl rfl ?_
        refine pw_ishl eX0_bestChildren_42 ?_
        refine pw_ior eX0_bestChildren_43 ?_
        refine pw_istore_n (ls2 := [some (Aq r0), some (Iq (bOr x1 (bShl 1 x3))), some (Iq x2), some (Iq x3), some (Iq (mem (r0 + 2) (6 * (x3).toNat + 3)))]) eX0_bestChildren_44 rfl (by decide) rfl ?_
        obtain ⟨ob6, h⟩ := h
        refine pw_iinc (ls2 := [some (Aq r0), some (Iq (bOr x1 (bShl 1 x3))), some (Iq x2), some (Iq (x3 + 1)), some (Iq (mem (r0 + 2) (6 * (x3).toNat + 3)))]) eX0_bestChildren_45 rfl ob6 rfl ?_
        refine pw_goto eX0_bestChildren_48 ?_
        exact pw_drop (bs := [true, true, true, true, false]) h
    · have h := h.2 c3
      refine pw_iload eX0_bestChildren_28 rfl ?_
      refine pw_istore_n (ls2 := [some (Aq r0), some (Iq x1), some (Iq (mem (r0 + 2) (6 * (x3).toNat + 3))), some (Iq x3), some (Iq (mem (r0 + 2) (6 * (x3).toNat + 3)))]) eX0_bestChildren_30 rfl (by decide) rfl ?_
      refine pw_iconst eX0_bestChildren_31 ⟨by decide, by decide⟩ ?_
      refine pw_istore_n (ls2 := [some (Aq r0), some (Iq 0), some (Iq (mem (r0 + 2) (6 * (x3).toNat + 3))), some (Iq x3), some (Iq (mem (r0 + 2) (6 * (x3).toNat + 3)))]) eX0_bestChildren_32 rfl (by decide) rfl ?_
      refine pw_iload eX0_bestChildren_33 rfl ?_
      refine pw_iload_n eX0_bestChildren_35 rfl rfl ?_
      refine pw_icmp_ne eX0_bestChildren_36 (fun c7 => ?_) (fun c7 => ?_)
      · have h := h.2 c7
        obtain ⟨ob8, h⟩ := h
        refine pw_iinc (ls2 := [some (Aq r0), some (Iq 0), some (Iq (mem (r0 + 2) (6 * (x3).toNat + 3))), some (Iq (x3 + 1)), some (Iq (mem (r0 + 2) (6 * (x3).toNat + 3)))]) eX0_bestChildren_45 rfl ob8 rfl ?_
        refine pw_goto eX0_bestChildren_48 ?_
        exact pw_drop (bs := [true, true, true, true, false]) h
      · have h := h.1 (Classical.not_not.mp c7)
        refine pw_iload_n eX0_bestChildren_39 rfl rfl ?_
        refine pw_iconst eX0_bestChildren_40 ⟨by decide, by decide⟩ ?_
        refine pw_iload_n eX0_bestChildren_41 rfl rfl ?_
        refine pw_ishl eX0_bestChildren_42 ?_
        refine pw_ior eX0_bestChildren_43 ?_
        refine pw_istore_n (ls2 := [some (Aq r0), some (Iq (bOr 0 (bShl 1 x3))), some (Iq (mem (r0 + 2) (6 * (x3).toNat + 3))), some (Iq x3), some (Iq (mem (r0 + 2) (6 * (x3).toNat + 3)))]) eX0_bestChildren_44 rfl (by decide) rfl ?_
        obtain ⟨ob9, h⟩ := h
        refine pw_iinc (ls2 := [some (Aq r0), some (Iq (bOr 0 (bShl 1 x3))), some (Iq (mem (r0 + 2) (6 * (x3).toNat + 3))), some (Iq (x3 + 1)), some (Iq (mem (r0 + 2) (6 * (x3).toNat + 3)))]) eX0_bestChildren_45 rfl ob9 rfl ?_
        refine pw_goto eX0_bestChildren_48 ?_
        exact pw_drop (bs := [true, true, true, true, false]) h
set_option maxRecDepth 100000 in
theorem rg_X0_unknownSums_0 {S : Sx} {Q : Option PV → Zm → Prop} {mem : Zm}  {r0 : Nat} (hr0 : isRoom r0)
    (h : PW S mX0_unknownSums Q 4 [some (Aq r0), some (Iq 0), some (Iq 0)] [] mem) :
    PW S mX0_unknownSums Q 0 [some (Aq r0), none, none] [] mem := by
  refine pw_iconst eX0_unknownSums_0 ⟨by decide, by decide⟩ ?_
  refine pw_istore_n (ls2 := [some (Aq r0), some (Iq 0), none]) eX0_unknownSums_1 rfl (by decide) rfl ?_
  refine pw_iconst eX0_unknownSums_2 ⟨by decide, by decide⟩ ?_
  refine pw_istore_n (ls2 := [some (Aq r0), some (Iq 0), some (Iq 0)]) eX0_unknownSums_3 rfl (by decide) rfl ?_
  exact h

set_option maxRecDepth 100000 in
theorem rg_X0_unknownSums_4 {S : Sx} {Q : Option PV → Zm → Prop} {mem : Zm}  {r0 : Nat} {x1 x2 : Int} (hr0 : isRoom r0)
    (h : (((mem r0 7 ≤ x2) → (Q (some (Iq (bAnd 255 (bXor x1 (-1))))) mem)) ∧ (¬ (mem r0 7 ≤ x2) → ((0 ≤ x2 ∧ x2 < 8) ∧ (in32 (x2 + 1)) ∧ PW S mX0_unknownSums Q 4 [some (Aq r0), some (Iq (bOr x1 (mem (r0 + 2) (6 * (x2).toNat + 1)))), some (Iq (x2 + 1))] [] mem)))) :
    PW S mX0_unknownSums Q 4 [some (Aq r0), some (Iq x1), some (Iq x2)] [] mem := by
  refine pw_iload_n eX0_unknownSums_4 rfl rfl ?_
  refine pw_aload_n eX0_unknownSums_5 rfl rfl ?_
  refine gf_RX0_34 rfl eX0_unknownSums_6 (shR hr0) ?_
  refine pw_icmp_ge eX0_unknownSums_9 (fun c1 => ?_) (fun c1 => ?_)
  · have h := h.1 c1
    refine pw_sipush eX0_unknownSums_27 ⟨by decide, by decide⟩ (by decide) ?_
    refine pw_iload_n eX0_unknownSums_30 rfl rfl ?_
    refine pw_iconst eX0_unknownSums_31 ⟨by decide, by decide⟩ ?_
    refine pw_ixor eX0_unknownSums_32 ?_
    refine pw_iand eX0_unknownSums_33 ?_
    exact pw_iret eX0_unknownSums_34 h
  · have h := h.2 c1
    refine pw_iload_n eX0_unknownSums_12 rfl rfl ?_
    refine pw_aload_n eX0_unknownSums_13 rfl rfl ?_
    refine pw_iload_n eX0_unknownSums_14 rfl rfl ?_
    refine pw_iconst eX0_unknownSums_15 ⟨by decide, by decide⟩ ?_
    obtain ⟨ob2, h⟩ := h
    refine pw_cV (z := mX0_fact) (av := [Iq x2, Iq 1]) (st := [Iq x1]) eX0_unknownSums_16 lk_RX0_59 rfl (by decide) (by decide) (shR hr0) rfl rfl (Nat.le_of_ble_eq_true rfl) rfl (ct_X0_fact (mem := mem) hr0 ⟨ob2.1, ob2.2, by decide, by decide⟩) ?_
    show PW S mX0_unknownSums Q 19 [some (Aq r0), some (Iq x1), some (Iq x2)] [Iq (mem (r0 + 2) (6 * (x2).toNat + 1)), Iq x1] mem
    refine pw_ior eX0_unknownSums_19 ?_
    refine pw_istore_n (ls2 := [some (Aq r0), some (Iq (bOr x1 (mem (r0 + 2) (6 * (x2).toNat + 1)))), some (Iq x2)]) eX0_unknownSums_20 rfl (by decide) rfl ?_
    obtain ⟨ob3, h⟩ := h
    refine pw_iinc (ls2 := [some (Aq r0), some (Iq (bOr x1 (mem (r0 + 2) (6 * (x2).toNat + 1)))), some (Iq (x2 + 1))]) eX0_unknownSums_21 rfl ob3 rfl ?_
    refine pw_goto eX0_unknownSums_24 ?_
    exact h
set_option maxRecDepth 100000 in
theorem rg_X0_chainLength_0 {S : Sx} {Q : Option PV → Zm → Prop} {mem : Zm}  {r0 : Nat} {x1 : Int} (hr0 : isRoom r0)
    (h : PW S mX0_chainLength Q 4 [some (Aq r0), some (Iq x1), some (Iq x1), some (Iq 0), none] [] mem) :
    PW S mX0_chainLength Q 0 [some (Aq r0), some (Iq x1), none, none, none] [] mem := by
  refine pw_iload_n eX0_chainLength_0 rfl rfl ?_
  refine pw_istore_n (ls2 := [some (Aq r0), some (Iq x1), some (Iq x1), none, none]) eX0_chainLength_1 rfl (by decide) rfl ?_
  refine pw_iconst eX0_chainLength_2 ⟨by decide, by decide⟩ ?_
  refine pw_istore_n (ls2 := [some (Aq r0), some (Iq x1), some (Iq x1), some (Iq 0), none]) eX0_chainLength_3 rfl (by decide) rfl ?_
  exact h

set_option maxRecDepth 100000 in
theorem rg_X0_chainLength_4 {S : Sx} {Q : Option PV → Zm → Prop} {mem : Zm}  {r0 : Nat} {x1 x2 x3 : Int} (hr0 : isRoom r0)
    (h : (((8 ≤ x3) → (Q (some (Iq 8)) mem)) ∧ (¬ (8 ≤ x3) → ((0 ≤ x2 ∧ x2 < 8) ∧ (((0 ≤ mem (r0 + 2) (6 * (x2).toNat + 2) ∧ mem (r0 + 2) (6 * (x2).toNat + 2) < mem r0 7) → ((in32 (x3 + 1)) ∧ PW S mX0_chainLength Q 4 [some (Aq r0), some (Iq x1), some (Iq (mem (r0 + 2) (6 * (x2).toNat + 2))), some (Iq (x3 + 1)), none] [] mem)) ∧ (¬ (0 ≤ mem (r0 + 2) (6 * (x2).toNat + 2) ∧ mem (r0 + 2) (6 * (x2).toNat + 2) < mem r0 7) → (Q (some (Iq x3)) mem))))))) :
    PW S mX0_chainLength Q 4 [some (Aq r0), some (Iq x1), some (Iq x2), some (Iq x3), none] [] mem := by
  refine pw_iload_n eX0_chainLength_4 rfl rfl ?_
  refine pw_bipush eX0_chainLength_5 ⟨by decide, by decide⟩ (by decide) ?_
  refine pw_icmp_ge eX0_chainLength_7 (fun c1 => ?_) (fun c1 => ?_)
  · have h := h.1 c1
    refine pw_bipush eX0_chainLength_38 ⟨by decide, by decide⟩ (by decide) ?_
    exact pw_iret eX0_chainLength_40 h
  · have h := h.2 c1
    refine pw_aload_n eX0_chainLength_10 rfl rfl ?_
    refine pw_iload_n eX0_chainLength_11 rfl rfl ?_
    refine pw_iconst eX0_chainLength_12 ⟨by decide, by decide⟩ ?_
    obtain ⟨ob2, h⟩ := h
    refine pw_cV (z := mX0_fact) (av := [Iq x2, Iq 2]) (st := []) eX0_chainLength_13 lk_RX0_59 rfl (by decide) (by decide) (shR hr0) rfl rfl (Nat.le_of_ble_eq_true rfl) rfl (ct_X0_fact (mem := mem) hr0 ⟨ob2.1, ob2.2, by decide, by decide⟩) ?_
    show PW S mX0_chainLength Q 16 [some (Aq r0), some (Iq x1), some (Iq x2), some (Iq x3), none] [Iq (mem (r0 + 2) (6 * (x2).toNat + 2))] mem
    refine pw_istore (ls2 := [some (Aq r0), some (Iq x1), some (Iq x2), some (Iq x3), some (Iq (mem (r0 + 2) (6 * (x2).toNat + 2)))]) eX0_chainLength_16 (by decide) rfl ?_
    refine pw_aload_n eX0_chainLength_18 rfl rfl ?_
    refine pw_iload eX0_chainLength_19 rfl ?_
    refine pw_cV (z := mX0_has) (av := [Iq (mem (r0 + 2) (6 * (x2).toNat + 2))]) (st := []) eX0_chainLength_21 lk_RX0_97 rfl (by decide) (by decide) (shR hr0) rfl rfl (Nat.le_of_ble_eq_true rfl) rfl (ct_X0_has (mem := mem) hr0) ?_
    show PW S mX0_chainLength Q 24 [some (Aq r0), some (Iq x1), some (Iq x2), some (Iq x3), some (Iq (mem (r0 + 2) (6 * (x2).toNat + 2)))] [Iq (bI (0 ≤ mem (r0 + 2) (6 * (x2).toNat + 2) ∧ mem (r0 + 2) (6 * (x2).toNat + 2) < mem r0 7))] mem
    refine pw_if_ne eX0_chainLength_24 (fun c3 => ?_) (fun c3 => ?_)
    · have h := h.1 (bI1.mp c3)
      refine pw_iload eX0_chainLength_29 rfl ?_
      refine pw_istore_n (ls2 := [some (Aq r0), some (Iq x1), some (Iq (mem (r0 + 2) (6 * (x2).toNat + 2))), some (Iq x3), some (Iq (mem (r0 + 2) (6 * (x2).toNat + 2)))]) eX0_chainLength_31 rfl (by decide) rfl ?_
      obtain ⟨ob4, h⟩ := h
      refine pw_iinc (ls2 := [some (Aq r0), some (Iq x1), some (Iq (mem (r0 + 2) (6 * (x2).toNat + 2))), some (Iq (x3 + 1)), some (Iq (mem (r0 + 2) (6 * (x2).toNat + 2)))]) eX0_chainLength_32 rfl ob4 rfl ?_
      refine pw_goto eX0_chainLength_35 ?_
      exact pw_drop (bs := [true, true, true, true, false]) h
    · have h := h.2 (bI0.mp (Classical.not_not.mp c3))
      refine pw_iload_n eX0_chainLength_27 rfl rfl ?_
      exact pw_iret eX0_chainLength_28 h
set_option maxRecDepth 100000 in
theorem rg_X1_renew_0 {S : Sx} {Q : Option PV → Zm → Prop} {mem : Zm}  {r0 : Nat} {x1 x2 : Int} (hr0 : isSheet r0)
    (h : (∃ (m2 : Zm), Ct1 S mJ7_fill_53178 [Aq (r0 + 1), Iq 0] (mup (mup mem r0 1 x1) r0 2 x2) none m2 ∧ (Q none m2))) :
    PW S mX1_renew Q 0 [some (Aq r0), some (Iq x1), some (Iq x2)] [] mem := by
  refine pw_aload_n eX1_renew_0 rfl rfl ?_
  refine pw_iload_n eX1_renew_1 rfl rfl ?_
  refine pf_RX1_15 rfl eX1_renew_2 (shS hr0) ?_
  refine pw_aload_n eX1_renew_5 rfl rfl ?_
  refine pw_iload_n eX1_renew_6 rfl rfl ?_
  refine pf_RX1_19 rfl eX1_renew_7 (shS hr0) ?_
  refine pw_aload_n eX1_renew_10 rfl rfl ?_
  refine gf_RX1_9 rfl eX1_renew_11 (shS hr0) ?_
  refine pw_iconst eX1_renew_14 ⟨by decide, by decide⟩ ?_
  obtain ⟨m2, hc3, h⟩ := h
  refine pw_cS (z := mJ7_fill_53178) (av := [Aq (r0 + 1), Iq 0]) (st := []) eX1_renew_15 lk_RX1_22 rfl (by decide) (by decide) (Nat.le_of_ble_eq_true rfl) rfl hc3 ?_
  show PW S mX1_renew Q 18 [some (Aq r0), some (Iq x1), some (Iq x2)] [] m2
  exact pw_vret eX1_renew_18 h
set_option maxRecDepth 100000 in
theorem rg_X2_nextToken_0 {S : Sx} {Q : Option PV → Zm → Prop} {mem : Zm}   
    (h : (((mem 22 1 ≤ mem 22 3) → (((((mup (mup (mup mem 22 2 (mem 22 3)) 22 5 0) 22 6 (-1)) 22 2 < (mup (mup (mup mem 22 2 (mem 22 3)) 22 5 0) 22 6 (-1)) 22 1) → ((0 ≤ (mup (mup (mup mem 22 2 (mem 22 3)) 22 5 0) 22 6 (-1)) 22 2 ∧ (mup (mup (mup mem 22 2 (mem 22 3)) 22 5 0) 22 6 (-1)) 22 2 < 120) ∧ ((((mup (mup (mup mem 22 2 (mem 22 3)) 22 5 0) 22 6 (-1)) 23 ((mup (mup (mup mem 22 2 (mem 22 3)) 22 5 0) 22 6 (-1)) 22 2).toNat < 97) → ((0 ≤ (mup (mup (mup mem 22 2 (mem 22 3)) 22 5 0) 22 6 (-1)) 22 2 ∧ (mup (mup (mup mem 22 2 (mem 22 3)) 22 5 0) 22 6 (-1)) 22 2 < 120) ∧ ((((mup (mup (mup mem 22 2 (mem 22 3)) 22 5 0) 22 6 (-1)) 23 ((mup (mup (mup mem 22 2 (mem 22 3)) 22 5 0) 22 6 (-1)) 22 2).toNat < 48) → ((0 ≤ (mup (mup (mup mem 22 2 (mem 22 3)) 22 5 0) 22 6 (-1)) 22 2 ∧ (mup (mup (mup mem 22 2 (mem 22 3)) 22 5 0) 22 6 (-1)) 22 2 < 120) ∧ ((((mup (mup (mup mem 22 2 (mem 22 3)) 22 5 0) 22 6 (-1)) 23 ((mup (mup (mup mem 22 2 (mem 22 3)) 22 5 0) 22 6 (-1)) 22 2).toNat = 59) → ((in32 (((mup (mup (mup (mup mem 22 2 (mem 22 3)) 22 5 0) 22 6 (-1)) 22 4 3) 22 3) + 1)) ∧ Q none (mup (mup (mup (mup (mup mem 22 2 (mem 22 3)) 22 5 0) 22 6 (-1)) 22 4 3) 22 3 (((mup (mup (mup (mup mem 22 2 (mem 22 3)) 22 5 0) 22 6 (-1)) 22 4 3) 22 3) + 1)))) ∧ (¬ ((mup (mup (mup mem 22 2 (mem 22 3)) 22 5 0) 22 6 (-1)) 23 ((mup (mup (mup mem 22 2 (mem 22 3)) 22 5 0) 22 6 (-1)) 22 2).toNat = 59) → ((in32 (((mup (mup (mup (mup mem 22 2 (mem 22 3)) 22 5 0) 22 6 (-1)) 22 4 4) 22 3) + 1)) ∧ Q none (mup (mup (mup (mup (mup mem 22 2 (mem 22 3)) 22 5 0) 22 6 (-1)) 22 4 4) 22 3 (((mup (mup (mup (mup mem 22 2 (mem 22 3)) 22 5 0) 22 6 (-1)) 22 4 4) 22 3) + 1))))))) ∧ (¬ ((mup (mup (mup mem 22 2 (mem 22 3)) 22 5 0) 22 6 (-1)) 23 ((mup (mup (mup mem 22 2 (mem 22 3)) 22 5 0) 22 6 (-1)) 22 2).toNat < 48) → ((0 ≤ (mup (mup (mup mem 22 2 (mem 22 3)) 22 5 0) 22 6 (-1)) 22 2 ∧ (mup (mup (mup mem 22 2 (mem 22 3)) 22 5 0) 22 6 (-1)) 22 2 < 120) ∧ (((57 < (mup (mup (mup mem 22 2 (mem 22 3)) 22 5 0) 22 6 (-1)) 23 ((mup (mup (mup mem 22 2 (mem 22 3)) 22 5 0) 22 6 (-1)) 22 2).toNat) → ((0 ≤ (mup (mup (mup mem 22 2 (mem 22 3)) 22 5 0) 22 6 (-1)) 22 2 ∧ (mup (mup (mup mem 22 2 (mem 22 3)) 22 5 0) 22 6 (-1)) 22 2 < 120) ∧ ((((mup (mup (mup mem 22 2 (mem 22 3)) 22 5 0) 22 6 (-1)) 23 ((mup (mup (mup mem 22 2 (mem 22 3)) 22 5 0) 22 6 (-1)) 22 2).toNat = 59) → ((in32 (((mup (mup (mup (mup mem 22 2 (mem 22 3)) 22 5 0) 22 6 (-1)) 22 4 3) 22 3) + 1)) ∧ Q none (mup (mup (mup (mup (mup mem 22 2 (mem 22 3)) 22 5 0) 22 6 (-1)) 22 4 3) 22 3 (((mup (mup (mup (mup mem 22 2 (mem 22 3)) 22 5 0) 22 6 (-1)) 22 4 3) 22 3) + 1)))) ∧ (¬ ((mup (mup (mup mem 22 2 (mem 22 3)) 22 5 0) 22 6 (-1)) 23 ((mup (mup (mup mem 22 2 (mem 22 3)) 22 5 0) 22 6 (-1)) 22 2).toNat = 59) → ((in32 (((mup (mup (mup (mup mem 22 2 (mem 22 3)) 22 5 0) 22 6 (-1)) 22 4 4) 22 3) + 1)) ∧ Q none (mup (mup (mup (mup (mup mem 22 2 (mem 22 3)) 22 5 0) 22 6 (-1)) 22 4 4) 22 3 (((mup (mup (mup (mup mem 22 2 (mem 22 3)) 22 5 0) 22 6 (-1)) 22 4 4) 22 3) + 1))))))) ∧ (¬ (57 < (mup (mup (mup mem 22 2 (mem 22 3)) 22 5 0) 22 6 (-1)) 23 ((mup (mup (mup mem 22 2 (mem 22 3)) 22 5 0) 22 6 (-1)) 22 2).toNat) → ((∃ (m18 : Zm), Ct1 S mX2_takeNumber [Aq 22] (mup (mup (mup mem 22 2 (mem 22 3)) 22 5 0) 22 6 (-1)) none m18 ∧ (Q none m18)))))))))) ∧ (¬ ((mup (mup (mup mem 22 2 (mem 22 3)) 22 5 0) 22 6 (-1)) 23 ((mup (mup (mup mem 22 2 (mem 22 3)) 22 5 0) 22 6 (-1)) 22 2).toNat < 97) → ((0 ≤ (mup (mup (mup mem 22 2 (mem 22 3)) 22 5 0) 22 6 (-1)) 22 2 ∧ (mup (mup (mup mem 22 2 (mem 22 3)) 22 5 0) 22 6 (-1)) 22 2 < 120) ∧ (((122 < (mup (mup (mup mem 22 2 (mem 22 3)) 22 5 0) 22 6 (-1)) 23 ((mup (mup (mup mem 22 2 (mem 22 3)) 22 5 0) 22 6 (-1)) 22 2).toNat) → ((0 ≤ (mup (mup (mup mem 22 2 (mem 22 3)) 22 5 0) 22 6 (-1)) 22 2 ∧ (mup (mup (mup mem 22 2 (mem 22 3)) 22 5 0) 22 6 (-1)) 22 2 < 120) ∧ ((((mup (mup (mup mem 22 2 (mem 22 3)) 22 5 0) 22 6 (-1)) 23 ((mup (mup (mup mem 22 2 (mem 22 3)) 22 5 0) 22 6 (-1)) 22 2).toNat < 48) → ((0 ≤ (mup (mup (mup mem 22 2 (mem 22 3)) 22 5 0) 22 6 (-1)) 22 2 ∧ (mup (mup (mup mem 22 2 (mem 22 3)) 22 5 0) 22 6 (-1)) 22 2 < 120) ∧ ((((mup (mup (mup mem 22 2 (mem 22 3)) 22 5 0) 22 6 (-1)) 23 ((mup (mup (mup mem 22 2 (mem 22 3)) 22 5 0) 22 6 (-1)) 22 2).toNat = 59) → ((in32 (((mup (mup (mup (mup mem 22 2 (mem 22 3)) 22 5 0) 22 6 (-1)) 22 4 3) 22 3) + 1)) ∧ Q none (mup (mup (mup (mup (mup mem 22 2 (mem 22 3)) 22 5 0) 22 6 (-1)) 22 4 3) 22 3 (((mup (mup (mup (mup mem 22 2 (mem 22 3)) 22 5 0) 22 6 (-1)) 22 4 3) 22 3) + 1)))) ∧ (¬ ((mup (mup (mup mem 22 2 (mem 22 3)) 22 5 0) 22 6 (-1)) 23 ((mup (mup (mup mem 22 2 (mem 22 3)) 22 5 0) 22 6 (-1)) 22 2).toNat = 59) → ((in32 (((mup (mup (mup (mup mem 22 2 (mem 22 3)) 22 5 0) 22 6 (-1)) 22 4 4) 22 3) + 1)) ∧ Q none (mup (mup (mup (mup (mup mem 22 2 (mem 22 3)) 22 5 0) 22 6 (-1)) 22 4 4) 22 3 (((mup (mup (mup (mup mem 22 2 (mem 22 3)) 22 5 0) 22 6 (-1)) 22 4 4) 22 3) + 1))))))) ∧ (¬ ((mup (mup (mup mem 22 2 (mem 22 3)) 22 5 0) 22 6 (-1)) 23 ((mup (mup (mup mem 22 2 (mem 22 3)) 22 5 0) 22 6 (-1)) 22 2).toNat < 48) → ((0 ≤ (mup (mup (mup mem 22 2 (mem 22 3)) 22 5 0) 22 6 (-1)) 22 2 ∧ (mup (mup (mup mem 22 2 (mem 22 3)) 22 5 0) 22 6 (-1)) 22 2 < 120) ∧ (((57 < (mup (mup (mup mem 22 2 (mem 22 3)) 22 5 0) 22 6 (-1)) 23 ((mup (mup (mup mem 22 2 (mem 22 3)) 22 5 0) 22 6 (-1)) 22 2).toNat) → ((0 ≤ (mup (mup (mup mem 22 2 (mem 22 3)) 22 5 0) 22 6 (-1)) 22 2 ∧ (mup (mup (mup mem 22 2 (mem 22 3)) 22 5 0) 22 6 (-1)) 22 2 < 120) ∧ ((((mup (mup (mup mem 22 2 (mem 22 3)) 22 5 0) 22 6 (-1)) 23 ((mup (mup (mup mem 22 2 (mem 22 3)) 22 5 0) 22 6 (-1)) 22 2).toNat = 59) → ((in32 (((mup (mup (mup (mup mem 22 2 (mem 22 3)) 22 5 0) 22 6 (-1)) 22 4 3) 22 3) + 1)) ∧ Q none (mup (mup (mup (mup (mup mem 22 2 (mem 22 3)) 22 5 0) 22 6 (-1)) 22 4 3) 22 3 (((mup (mup (mup (mup mem 22 2 (mem 22 3)) 22 5 0) 22 6 (-1)) 22 4 3) 22 3) + 1)))) ∧ (¬ ((mup (mup (mup mem 22 2 (mem 22 3)) 22 5 0) 22 6 (-1)) 23 ((mup (mup (mup mem 22 2 (mem 22 3)) 22 5 0) 22 6 (-1)) 22 2).toNat = 59) → ((in32 (((mup (mup (mup (mup mem 22 2 (mem 22 3)) 22 5 0) 22 6 (-1)) 22 4 4) 22 3) + 1)) ∧ Q none (mup (mup (mup (mup (mup mem 22 2 (mem 22 3)) 22 5 0) 22 6 (-1)) 22 4 4) 22 3 (((mup (mup (mup (mup mem 22 2 (mem 22 3)) 22 5 0) 22 6 (-1)) 22 4 4) 22 3) + 1))))))) ∧ (¬ (57 < (mup (mup (mup mem 22 2 (mem 22 3)) 22 5 0) 22 6 (-1)) 23 ((mup (mup (mup mem 22 2 (mem 22 3)) 22 5 0) 22 6 (-1)) 22 2).toNat) → ((∃ (m35 : Zm), Ct1 S mX2_takeNumber [Aq 22] (mup (mup (mup mem 22 2 (mem 22 3)) 22 5 0) 22 6 (-1)) none m35 ∧ (Q none m35)))))))))) ∧ (¬ (122 < (mup (mup (mup mem 22 2 (mem 22 3)) 22 5 0) 22 6 (-1)) 23 ((mup (mup (mup mem 22 2 (mem 22 3)) 22 5 0) 22 6 (-1)) 22 2).toNat) → ((∃ (m38 : Zm), Ct1 S mX2_takeWord [Aq 22] (mup (mup (mup mem 22 2 (mem 22 3)) 22 5 0) 22 6 (-1)) none m38 ∧ (Q none m38)))))))))) ∧ (¬ ((mup (mup (mup mem 22 2 (mem 22 3)) 22 5 0) 22 6 (-1)) 22 2 < (mup (mup (mup mem 22 2 (mem 22 3)) 22 5 0) 22 6 (-1)) 22 1) → (Q none (mup (mup (mup (mup mem 22 2 (mem 22 3)) 22 5 0) 22 6 (-1)) 22 4 0)))))) ∧ (¬ (mem 22 1 ≤ mem 22 3) → ((0 ≤ mem 22 3 ∧ mem 22 3 < 120) ∧ (((mem 23 (mem 22 3).toNat = 32) → ((in32 ((mem 22 3) + 1)) ∧ PW S mX2_nextToken Q 0 [some (Aq 22)] [] (mup mem 22 3 ((mem 22 3) + 1)))) ∧ (¬ (mem 23 (mem 22 3).toNat = 32) → (((((mup (mup (mup mem 22 2 (mem 22 3)) 22 5 0) 22 6 (-1)) 22 2 < (mup (mup (mup mem 22 2 (mem 22 3)) 22 5 0) 22 6 (-1)) 22 1) → ((0 ≤ (mup (mup (mup mem 22 2 (mem 22 3)) 22 5 0) 22 6 (-1)) 22 2 ∧ (mup (mup (mup mem 22 2 (mem 22 3)) 22 5 0) 22 6 (-1)) 22 2 < 120) ∧ ((((mup (mup (mup mem 22 2 (mem 22 3)) 22 5 0) 22 6 (-1)) 23 ((mup (mup (mup mem 22 2 (mem 22 3)) 22 5 0) 22 6 (-1)) 22 2).toNat < 97) → ((0 ≤ (mup (mup (mup mem 22 2 (mem 22 3)) 22 5 0) 22 6 (-1)) 22 2 ∧ (mup (mup (mup mem 22 2 (mem 22 3)) 22 5 0) 22 6 (-1)) 22 2 < 120) ∧ ((((mup (mup (mup mem 22 2 (mem 22 3)) 22 5 0) 22 6 (-1)) 23 ((mup (mup (mup mem 22 2 (mem 22 3)) 22 5 0) 22 6 (-1)) 22 2).toNat < 48) → ((0 ≤ (mup (mup (mup mem 22 2 (mem 22 3)) 22 5 0) 22 6 (-1)) 22 2 ∧ (mup (mup (mup mem 22 2 (mem 22 3)) 22 5 0) 22 6 (-1)) 22 2 < 120) ∧ ((((mup (mup (mup mem 22 2 (mem 22 3)) 22 5 0) 22 6 (-1)) 23 ((mup (mup (mup mem 22 2 (mem 22 3)) 22 5 0) 22 6 (-1)) 22 2).toNat = 59) → ((in32 (((mup (mup (mup (mup mem 22 2 (mem 22 3)) 22 5 0) 22 6 (-1)) 22 4 3) 22 3) + 1)) ∧ Q none (mup (mup (mup (mup (mup mem 22 2 (mem 22 3)) 22 5 0) 22 6 (-1)) 22 4 3) 22 3 (((mup (mup (mup (mup mem 22 2 (mem 22 3)) 22 5 0) 22 6 (-1)) 22 4 3) 22 3) + 1)))) ∧ (¬ ((mup (mup (mup mem 22 2 (mem 22 3)) 22 5 0) 22 6 (-1)) 23 ((mup (mup (mup mem 22 2 (mem 22 3)) 22 5 0) 22 6 (-1)) 22 2).toNat = 59) → ((in32 (((mup (mup (mup (mup mem 22 2 (mem 22 3)) 22 5 0) 22 6 (-1)) 22 4 4) 22 3) + 1)) ∧ Q none (mup (mup (mup (mup (mup mem 22 2 (mem 22 3)) 22 5 0) 22 6 (-1)) 22 4 4) 22 3 (((mup (mup (mup (mup mem 22 2 (mem 22 3)) 22 5 0) 22 6 (-1)) 22 4 4) 22 3) + 1))))))) ∧ (¬ ((mup (mup (mup mem 22 2 (mem 22 3)) 22 5 0) 22 6 (-1)) 23 ((mup (mup (mup mem 22 2 (mem 22 3)) 22 5 0) 22 6 (-1)) 22 2).toNat < 48) → ((0 ≤ (mup (mup (mup mem 22 2 (mem 22 3)) 22 5 0) 22 6 (-1)) 22 2 ∧ (mup (mup (mup mem 22 2 (mem 22 3)) 22 5 0) 22 6 (-1)) 22 2 < 120) ∧ (((57 < (mup (mup (mup mem 22 2 (mem 22 3)) 22 5 0) 22 6 (-1)) 23 ((mup (mup (mup mem 22 2 (mem 22 3)) 22 5 0) 22 6 (-1)) 22 2).toNat) → ((0 ≤ (mup (mup (mup mem 22 2 (mem 22 3)) 22 5 0) 22 6 (-1)) 22 2 ∧ (mup (mup (mup mem 22 2 (mem 22 3)) 22 5 0) 22 6 (-1)) 22 2 < 120) ∧ ((((mup (mup (mup mem 22 2 (mem 22 3)) 22 5 0) 22 6 (-1)) 23 ((mup (mup (mup mem 22 2 (mem 22 3)) 22 5 0) 22 6 (-1)) 22 2).toNat = 59) → ((in32 (((mup (mup (mup (mup mem 22 2 (mem 22 3)) 22 5 0) 22 6 (-1)) 22 4 3) 22 3) + 1)) ∧ Q none (mup (mup (mup (mup (mup mem 22 2 (mem 22 3)) 22 5 0) 22 6 (-1)) 22 4 3) 22 3 (((mup (mup (mup (mup mem 22 2 (mem 22 3)) 22 5 0) 22 6 (-1)) 22 4 3) 22 3) + 1)))) ∧ (¬ ((mup (mup (mup mem 22 2 (mem 22 3)) 22 5 0) 22 6 (-1)) 23 ((mup (mup (mup mem 22 2 (mem 22 3)) 22 5 0) 22 6 (-1)) 22 2).toNat = 59) → ((in32 (((mup (mup (mup (mup mem 22 2 (mem 22 3)) 22 5 0) 22 6 (-1)) 22 4 4) 22 3) + 1)) ∧ Q none (mup (mup (mup (mup (mup mem 22 2 (mem 22 3)) 22 5 0) 22 6 (-1)) 22 4 4) 22 3 (((mup (mup (mup (mup mem 22 2 (mem 22 3)) 22 5 0) 22 6 (-1)) 22 4 4) 22 3) + 1))))))) ∧ (¬ (57 < (mup (mup (mup mem 22 2 (mem 22 3)) 22 5 0) 22 6 (-1)) 23 ((mup (mup (mup mem 22 2 (mem 22 3)) 22 5 0) 22 6 (-1)) 22 2).toNat) → ((∃ (m58 : Zm), Ct1 S mX2_takeNumber [Aq 22] (mup (mup (mup mem 22 2 (mem 22 3)) 22 5 0) 22 6 (-1)) none m58 ∧ (Q none m58)))))))))) ∧ (¬ ((mup (mup (mup mem 22 2 (mem 22 3)) 22 5 0) 22 6 (-1)) 23 ((mup (mup (mup mem 22 2 (mem 22 3)) 22 5 0) 22 6 (-1)) 22 2).toNat < 97) → ((0 ≤ (mup (mup (mup mem 22 2 (mem 22 3)) 22 5 0) 22 6 (-1)) 22 2 ∧ (mup (mup (mup mem 22 2 (mem 22 3)) 22 5 0) 22 6 (-1)) 22 2 < 120) ∧ (((122 < (mup (mup (mup mem 22 2 (mem 22 3)) 22 5 0) 22 6 (-1)) 23 ((mup (mup (mup mem 22 2 (mem 22 3)) 22 5 0) 22 6 (-1)) 22 2).toNat) → ((0 ≤ (mup (mup (mup mem 22 2 (mem 22 3)) 22 5 0) 22 6 (-1)) 22 2 ∧ (mup (mup (mup mem 22 2 (mem 22 3)) 22 5 0) 22 6 (-1)) 22 2 < 120) ∧ ((((mup (mup (mup mem 22 2 (mem 22 3)) 22 5 0) 22 6 (-1)) 23 ((mup (mup (mup mem 22 2 (mem 22 3)) 22 5 0) 22 6 (-1)) 22 2).toNat < 48) → ((0 ≤ (mup (mup (mup mem 22 2 (mem 22 3)) 22 5 0) 22 6 (-1)) 22 2 ∧ (mup (mup (mup mem 22 2 (mem 22 3)) 22 5 0) 22 6 (-1)) 22 2 < 120) ∧ ((((mup (mup (mup mem 22 2 (mem 22 3)) 22 5 0) 22 6 (-1)) 23 ((mup (mup (mup mem 22 2 (mem 22 3)) 22 5 0) 22 6 (-1)) 22 2).toNat = 59) → ((in32 (((mup (mup (mup (mup mem 22 2 (mem 22 3)) 22 5 0) 22 6 (-1)) 22 4 3) 22 3) + 1)) ∧ Q none (mup (mup (mup (mup (mup mem 22 2 (mem 22 3)) 22 5 0) 22 6 (-1)) 22 4 3) 22 3 (((mup (mup (mup (mup mem 22 2 (mem 22 3)) 22 5 0) 22 6 (-1)) 22 4 3) 22 3) + 1)))) ∧ (¬ ((mup (mup (mup mem 22 2 (mem 22 3)) 22 5 0) 22 6 (-1)) 23 ((mup (mup (mup mem 22 2 (mem 22 3)) 22 5 0) 22 6 (-1)) 22 2).toNat = 59) → ((in32 (((mup (mup (mup (mup mem 22 2 (mem 22 3)) 22 5 0) 22 6 (-1)) 22 4 4) 22 3) + 1)) ∧ Q none (mup (mup (mup (mup (mup mem 22 2 (mem 22 3)) 22 5 0) 22 6 (-1)) 22 4 4) 22 3 (((mup (mup (mup (mup mem 22 2 (mem 22 3)) 22 5 0) 22 6 (-1)) 22 4 4) 22 3) + 1))))))) ∧ (¬ ((mup (mup (mup mem 22 2 (mem 22 3)) 22 5 0) 22 6 (-1)) 23 ((mup (mup (mup mem 22 2 (mem 22 3)) 22 5 0) 22 6 (-1)) 22 2).toNat < 48) → ((0 ≤ (mup (mup (mup mem 22 2 (mem 22 3)) 22 5 0) 22 6 (-1)) 22 2 ∧ (mup (mup (mup mem 22 2 (mem 22 3)) 22 5 0) 22 6 (-1)) 22 2 < 120) ∧ (((57 < (mup (mup (mup mem 22 2 (mem 22 3)) 22 5 0) 22 6 (-1)) 23 ((mup (mup (mup mem 22 2 (mem 22 3)) 22 5 0) 22 6 (-1)) 22 2).toNat) → ((0 ≤ (mup (mup (mup mem 22 2 (mem 22 3)) 22 5 0) 22 6 (-1)) 22 2 ∧ (mup (mup (mup mem 22 2 (mem 22 3)) 22 5 0) 22 6 (-1)) 22 2 < 120) ∧ ((((mup (mup (mup mem 22 2 (mem 22 3)) 22 5 0) 22 6 (-1)) 23 ((mup (mup (mup mem 22 2 (mem 22 3)) 22 5 0) 22 6 (-1)) 22 2).toNat = 59) → ((in32 (((mup (mup (mup (mup mem 22 2 (mem 22 3)) 22 5 0) 22 6 (-1)) 22 4 3) 22 3) + 1)) ∧ Q none (mup (mup (mup (mup (mup mem 22 2 (mem 22 3)) 22 5 0) 22 6 (-1)) 22 4 3) 22 3 (((mup (mup (mup (mup mem 22 2 (mem 22 3)) 22 5 0) 22 6 (-1)) 22 4 3) 22 3) + 1)))) ∧ (¬ ((mup (mup (mup mem 22 2 (mem 22 3)) 22 5 0) 22 6 (-1)) 23 ((mup (mup (mup mem 22 2 (mem 22 3)) 22 5 0) 22 6 (-1)) 22 2).toNat = 59) → ((in32 (((mup (mup (mup (mup mem 22 2 (mem 22 3)) 22 5 0) 22 6 (-1)) 22 4 4) 22 3) + 1)) ∧ Q none (mup (mup (mup (mup (mup mem 22 2 (mem 22 3)) 22 5 0) 22 6 (-1)) 22 4 4) 22 3 (((mup (mup (mup (mup mem 22 2 (mem 22 3)) 22 5 0) 22 6 (-1)) 22 4 4) 22 3) + 1))))))) ∧ (¬ (57 < (mup (mup (mup mem 22 2 (mem 22 3)) 22 5 0) 22 6 (-1)) 23 ((mup (mup (mup mem 22 2 (mem 22 3)) 22 5 0) 22 6 (-1)) 22 2).toNat) → ((∃ (m75 : Zm), Ct1 S mX2_takeNumber [Aq 22] (mup (mup (mup mem 22 2 (mem 22 3)) 22 5 0) 22 6 (-1)) none m75 ∧ (Q none m75)))))))))) ∧ (¬ (122 < (mup (mup (mup mem 22 2 (mem 22 3)) 22 5 0) 22 6 (-1)) 23 ((mup (mup (mup mem 22 2 (mem 22 3)) 22 5 0) 22 6 (-1)) 22 2).toNat) → ((∃ (m78 : Zm), Ct1 S mX2_takeWord [Aq 22] (mup (mup (mup mem 22 2 (mem 22 3)) 22 5 0) 22 6 (-1)) none m78 ∧ (Q none m78)))))))))) ∧ (¬ ((mup (mup (mup mem 22 2 (mem 22 3)) 22 5 0) 22 6 (-1)) 22 2 < (mup (mup (mup mem 22 2 (mem 22 3)) 22 5 0) 22 6 (-1)) 22 1) → (Q none (mup (mup (mup (mup mem 22 2 (mem 22 3)) 22 5 0) 22 6 (-1)) 22 4 0))))))))))) :
    PW S mX2_nextToken Q 0 [some (Aq 22)] [] mem := by
  refine pw_aload_n eX2_nextToken_0 rfl rfl ?_
  refine gf_RX2_22 rfl eX2_nextToken_1 sh22 ?_
  refine pw_aload_n eX2_nextToken_4 rfl rfl ?_
  refine gf_RX2_15 rfl eX2_nextToken_5 sh22 ?_
  refine pw_icmp_ge eX2_nextToken_8 (fun c1 => ?_) (fun c1 => ?_)
  · have h := h.1 c1
    refine pw_aload_n eX2_nextToken_38 rfl rfl ?_
    refine pw_aload_n eX2_nextToken_39 rfl rfl ?_
    refine gf_RX2_22 rfl eX2_nextToken_40 sh22 ?_
    refine pf_RX2_19 rfl eX2_nextToken_43 sh22 ?_
    refine pw_aload_n eX2_nextToken_46 rfl rfl ?_
    refine pw_lconst (v := 0) eX2_nextToken_47 ⟨by decide, by decide⟩ rfl ?_
    refine pf_RX2_28 rfl eX2_nextToken_48 ?_
    refine pw_aload_n eX2_nextToken_51 rfl rfl ?_
    refine pw_iconst eX2_nextToken_52 ⟨by decide, by decide⟩ ?_
    refine pf_RX2_32 rfl eX2_nextToken_53 sh22 ?_
    refine pw_aload_n eX2_nextToken_56 rfl rfl ?_
    refine gf_RX2_19 rfl eX2_nextToken_57 sh22 ?_
    refine pw_aload_n eX2_nextToken_60 rfl rfl ?_
    refine gf_RX2_15 rfl eX2_nextToken_61 sh22 ?_
    refine pw_icmp_lt eX2_nextToken_64 (fun c2 => ?_) (fun c2 => ?_)
    · have h := h.1 c2
      refine pw_aload_n eX2_nextToken_75 rfl rfl ?_
      refine gf_RX2_9 rfl eX2_nextToken_76 sh22 ?_
      refine pw_aload_n eX2_nextToken_79 rfl rfl ?_
      refine gf_RX2_19 rfl eX2_nextToken_80 sh22 ?_
      obtain ⟨ob3, h⟩ := h
      refine pw_bald eX2_nextToken_83 sh23 ob3 ?_
      refine pw_bipush eX2_nextToken_84 ⟨by decide, by decide⟩ (by decide) ?_
      refine pw_icmp_lt eX2_nextToken_86 (fun c4 => ?_) (fun c4 => ?_)
      · have h := h.1 c4
        refine pw_aload_n eX2_nextToken_110 rfl rfl ?_
        refine gf_RX2_9 rfl eX2_nextToken_111 sh22 ?_
        refine pw_aload_n eX2_nextToken_114 rfl rfl ?_
        refine gf_RX2_19 rfl eX2_nextToken_115 sh22 ?_
        obtain ⟨ob5, h⟩ := h
        refine pw_bald eX2_nextToken_118 sh23 ob5 ?_
        refine pw_bipush eX2_nextToken_119 ⟨by decide, by decide⟩ (by decide) ?_
        refine pw_icmp_lt eX2_nextToken_121 (fun c6 => ?_) (fun c6 => ?_)
        · have h := h.1 c6
          refine pw_aload_n eX2_nextToken_145 rfl rfl ?_
          refine pw_aload_n eX2_nextToken_146 rfl rfl ?_
          refine gf_RX2_9 rfl eX2_nextToken_147 sh22 ?_
          refine pw_aload_n eX2_nextToken_150 rfl rfl ?_
          refine gf_RX2_19 rfl eX2_nextToken_151 sh22 ?_
          obtain ⟨ob7, h⟩ := h
          refine pw_bald eX2_nextToken_154 sh23 ob7 ?_
          refine pw_bipush eX2_nextToken_155 ⟨by decide, by decide⟩ (by decide) ?_
          refine pw_icmp_ne eX2_nextToken_157 (fun c8 => ?_) (fun c8 => ?_)
          · have h := h.2 c8
            refine pw_iconst eX2_nextToken_164 ⟨by decide, by decide⟩ ?_
            refine pf_RX2_25 rfl eX2_nextToken_165 sh22 ?_
            refine pw_aload_n eX2_nextToken_168 rfl rfl ?_
            refine pw_dup eX2_nextToken_169 rfl ?_
            refine gf_RX2_22 rfl eX2_nextToken_170 sh22 ?_
            refine pw_iconst eX2_nextToken_173 ⟨by decide, by decide⟩ ?_
            obtain ⟨ob9, h⟩ := h
            refine pw_iadd eX2_nextToken_174 ob9 ?_
            refine pf_RX2_22 rfl eX2_nextToken_175 sh22 ?_
            exact pw_vret eX2_nextToken_178 h
          · have h := h.1 (Classical.not_not.mp c8)
            refine pw_iconst eX2_nextToken_160 ⟨by decide, by decide⟩ ?_
            refine pw_goto eX2_nextToken_161 ?_
            refine pf_RX2_25 rfl eX2_nextToken_165 sh22 ?_
            refine pw_aload_n eX2_nextToken_168 rfl rfl ?_
            refine pw_dup eX2_nextToken_169 rfl ?_
            refine gf_RX2_22 rfl eX2_nextToken_170 sh22 ?_
            refine pw_iconst eX2_nextToken_173 ⟨by decide, by decide⟩ ?_
            obtain ⟨ob10, h⟩ := h
            refine pw_iadd eX2_nextToken_174 ob10 ?_
            refine pf_RX2_22 rfl eX2_nextToken_175 sh22 ?_
            exact pw_vret eX2_nextToken_178 h
        · have h := h.2 c6
          refine pw_aload_n eX2_nextToken_124 rfl rfl ?_
          refine gf_RX2_9 rfl eX2_nextToken_125 sh22 ?_
          refine pw_aload_n eX2_nextToken_128 rfl rfl ?_
          refine gf_RX2_19 rfl eX2_nextToken_129 sh22 ?_
          obtain ⟨ob11, h⟩ := h
          refine pw_bald eX2_nextToken_132 sh23 ob11 ?_
          refine pw_bipush eX2_nextToken_133 ⟨by decide, by decide⟩ (by decide) ?_
          refine pw_icmp_gt eX2_nextToken_135 (fun c12 => ?_) (fun c12 => ?_)
          · have h := h.1 c12
            refine pw_aload_n eX2_nextToken_145 rfl rfl ?_
            refine pw_aload_n eX2_nextToken_146 rfl rfl ?_
            refine gf_RX2_9 rfl eX2_nextToken_147 sh22 ?_
            refine pw_aload_n eX2_nextToken_150 rfl rfl ?_
            refine gf_RX2_19 rfl eX2_nextToken_151 sh22 ?_
            obtain ⟨ob13, h⟩ := h
            refine pw_bald eX2_nextToken_154 sh23 ob13 ?_
            refine pw_bipush eX2_nextToken_155 ⟨by decide, by decide⟩ (by decide) ?_
            refine pw_icmp_ne eX2_nextToken_157 (fun c14 => ?_) (fun c14 => ?_)
            · have h := h.2 c14
              refine pw_iconst eX2_nextToken_164 ⟨by decide, by decide⟩ ?_
              refine pf_RX2_25 rfl eX2_nextToken_165 sh22 ?_
              refine pw_aload_n eX2_nextToken_168 rfl rfl ?_
              refine pw_dup eX2_nextToken_169 rfl ?_
              refine gf_RX2_22 rfl eX2_nextToken_170 sh22 ?_
              refine pw_iconst eX2_nextToken_173 ⟨by decide, by decide⟩ ?_
              obtain ⟨ob15, h⟩ := h
              refine pw_iadd eX2_nextToken_174 ob15 ?_
              refine pf_RX2_22 rfl eX2_nextToken_175 sh22 ?_
              exact pw_vret eX2_nextToken_178 h
            · have h := h.1 (Classical.not_not.mp c14)
              refine pw_iconst eX2_nextToken_160 ⟨by decide, by decide⟩ ?_
              refine pw_goto eX2_nextToken_161 ?_
              refine pf_RX2_25 rfl eX2_nextToken_165 sh22 ?_
              refine pw_aload_n eX2_nextToken_168 rfl rfl ?_
              refine pw_dup eX2_nextToken_169 rfl ?_
              refine gf_RX2_22 rfl eX2_nextToken_170 sh22 ?_
              refine pw_iconst eX2_nextToken_173 ⟨by decide, by decide⟩ ?_
              obtain ⟨ob16, h⟩ := h
              refine pw_iadd eX2_nextToken_174 ob16 ?_
              refine pf_RX2_22 rfl eX2_nextToken_175 sh22 ?_
              exact pw_vret eX2_nextToken_178 h
          · have h := h.2 c12
            refine pw_aload_n eX2_nextToken_138 rfl rfl ?_
            obtain ⟨m18, hc19, h⟩ := h
            refine pw_cV (z := mX2_takeNumber) (av := []) (st := []) eX2_nextToken_139 lk_RX2_97 rfl (by decide) (by decide) sh22 rfl rfl (Nat.le_of_ble_eq_true rfl) rfl hc19 ?_
            show PW S mX2_nextToken Q 142 [some (Aq 22)] [] m18
            refine pw_goto eX2_nextToken_142 ?_
            exact pw_vret eX2_nextToken_178 h
      · have h := h.2 c4
        refine pw_aload_n eX2_nextToken_89 rfl rfl ?_
        refine gf_RX2_9 rfl eX2_nextToken_90 sh22 ?_
        refine pw_aload_n eX2_nextToken_93 rfl rfl ?_
        refine gf_RX2_19 rfl eX2_nextToken_94 sh22 ?_
        obtain ⟨ob20, h⟩ := h
        refine pw_bald eX2_nextToken_97 sh23 ob20 ?_
        refine pw_bipush eX2_nextToken_98 ⟨by decide, by decide⟩ (by decide) ?_
        refine pw_icmp_gt eX2_nextToken_100 (fun c21 => ?_) (fun c21 => ?_)
        · have h := h.1 c21
          refine pw_aload_n eX2_nextToken_110 rfl rfl ?_
          refine gf_RX2_9 rfl eX2_nextToken_111 sh22 ?_
          refine pw_aload_n eX2_nextToken_114 rfl rfl ?_
          refine gf_RX2_19 rfl eX2_nextToken_115 sh22 ?_
          obtain ⟨ob22, h⟩ := h
          refine pw_bald eX2_nextToken_118 sh23 ob22 ?_
          refine pw_bipush eX2_nextToken_119 ⟨by decide, by decide⟩ (by decide) ?_
          refine pw_icmp_lt eX2_nextToken_121 (fun c23 => ?_) (fun c23 => ?_)
          · have h := h.1 c23
            refine pw_aload_n eX2_nextToken_145 rfl rfl ?_
            refine pw_aload_n eX2_nextToken_146 rfl rfl ?_
            refine gf_RX2_9 rfl eX2_nextToken_147 sh22 ?_
            refine pw_aload_n eX2_nextToken_150 rfl rfl ?_
            refine gf_RX2_19 rfl eX2_nextToken_151 sh22 ?_
            obtain ⟨ob24, h⟩ := h
            refine pw_bald eX2_nextToken_154 sh23 ob24 ?_
            refine pw_bipush eX2_nextToken_155 ⟨by decide, by decide⟩ (by decide) ?_
            refine pw_icmp_ne eX2_nextToken_157 (fun c25 => ?_) (fun c25 => ?_)
            · have h := h.2 c25
              refine pw_iconst eX2_nextToken_164 ⟨by decide, by decide⟩ ?_
              refine pf_RX2_25 rfl eX2_nextToken_165 sh22 ?_
              refine pw_aload_n eX2_nextToken_168 rfl rfl ?_
              refine pw_dup eX2_nextToken_169 rfl ?_
              refine gf_RX2_22 rfl eX2_nextToken_170 sh22 ?_
              refine pw_iconst eX2_nextToken_173 ⟨by decide, by decide⟩ ?_
              obtain ⟨ob26, h⟩ := h
              refine pw_iadd eX2_nextToken_174 ob26 ?_
              refine pf_RX2_22 rfl eX2_nextToken_175 sh22 ?_
              exact pw_vret eX2_nextToken_178 h
            · have h := h.1 (Classical.not_not.mp c25)
              refine pw_iconst eX2_nextToken_160 ⟨by decide, by decide⟩ ?_
              refine pw_goto eX2_nextToken_161 ?_
              refine pf_RX2_25 rfl eX2_nextToken_165 sh22 ?_
              refine pw_aload_n eX2_nextToken_168 rfl rfl ?_
              refine pw_dup eX2_nextToken_169 rfl ?_
              refine gf_RX2_22 rfl eX2_nextToken_170 sh22 ?_
              refine pw_iconst eX2_nextToken_173 ⟨by decide, by decide⟩ ?_
              obtain ⟨ob27, h⟩ := h
              refine pw_iadd eX2_nextToken_174 ob27 ?_
              refine pf_RX2_22 rfl eX2_nextToken_175 sh22 ?_
              exact pw_vret eX2_nextToken_178 h
          · have h := h.2 c23
            refine pw_aload_n eX2_nextToken_124 rfl rfl ?_
            refine gf_RX2_9 rfl eX2_nextToken_125 sh22 ?_
            refine pw_aload_n eX2_nextToken_128 rfl rfl ?_
            refine gf_RX2_19 rfl eX2_nextToken_129 sh22 ?_
            obtain ⟨ob28, h⟩ := h
            refine pw_bald eX2_nextToken_132 sh23 ob28 ?_
            refine pw_bipush eX2_nextToken_133 ⟨by decide, by decide⟩ (by decide) ?_
            refine pw_icmp_gt eX2_nextToken_135 (fun c29 => ?_) (fun c29 => ?_)
            · have h := h.1 c29
              refine pw_aload_n eX2_nextToken_145 rfl rfl ?_
              refine pw_aload_n eX2_nextToken_146 rfl rfl ?_
              refine gf_RX2_9 rfl eX2_nextToken_147 sh22 ?_
              refine pw_aload_n eX2_nextToken_150 rfl rfl ?_
              refine gf_RX2_19 rfl eX2_nextToken_151 sh22 ?_
              obtain ⟨ob30, h⟩ := h
              refine pw_bald eX2_nextToken_154 sh23 ob30 ?_
              refine pw_bipush eX2_nextToken_155 ⟨by decide, by decide⟩ (by decide) ?_
              refine pw_icmp_ne eX2_nextToken_157 (fun c31 => ?_) (fun c31 => ?_)
              · have h := h.2 c31
                refine pw_iconst eX2_nextToken_164 ⟨by decide, by decide⟩ ?_
                refine pf_RX2_25 rfl eX2_nextToken_165 sh22 ?_
                refine pw_aload_n eX2_nextToken_168 rfl rfl ?_
                refine pw_dup eX2_nextToken_169 rfl ?_
                refine gf_RX2_22 rfl eX2_nextToken_170 sh22 ?_
                refine pw_iconst eX2_nextToken_173 ⟨by decide, by decide⟩ ?_
                obtain ⟨ob32, h⟩ := h
                refine pw_iadd eX2_nextToken_174 ob32 ?_
                refine pf_RX2_22 rfl eX2_nextToken_175 sh22 ?_
                exact pw_vret eX2_nextToken_178 h
              · have h := h.1 (Classical.not_not.mp c31)
                refine pw_iconst eX2_nextToken_160 ⟨by decide, by decide⟩ ?_
                refine pw_goto eX2_nextToken_161 ?_
                refine pf_RX2_25 rfl eX2_nextToken_165 sh22 ?_
                refine pw_aload_n eX2_nextToken_168 rfl rfl ?_
                refine pw_dup eX2_nextToken_169 rfl ?_
                refine gf_RX2_22 rfl eX2_nextToken_170 sh22 ?_
                refine pw_iconst eX2_nextToken_173 ⟨by decide, by decide⟩ ?_
                obtain ⟨ob33, h⟩ := h
                refine pw_iadd eX2_nextToken_174 ob33 ?_
                refine pf_RX2_22 rfl eX2_nextToken_175 sh22 ?_
                exact pw_vret eX2_nextToken_178 h
            · have h := h.2 c29
              refine pw_aload_n eX2_nextToken_138 rfl rfl ?_
              obtain ⟨m35, hc36, h⟩ := h
              refine pw_cV (z := mX2_takeNumber) (av := []) (st := []) eX2_nextToken_139 lk_RX2_97 rfl (by decide) (by decide) sh22 rfl rfl (Nat.le_of_ble_eq_true rfl) rfl hc36 ?_
              show PW S mX2_nextToken Q 142 [some (Aq 22)] [] m35
              refine pw_goto eX2_nextToken_142 ?_
              exact pw_vret eX2_nextToken_178 h
        · have h := h.2 c21
          refine pw_aload_n eX2_nextToken_103 rfl rfl ?_
          obtain ⟨m38, hc39, h⟩ := h
          refine pw_cV (z := mX2_takeWord) (av := []) (st := []) eX2_nextToken_104 lk_RX2_94 rfl (by decide) (by decide) sh22 rfl rfl (Nat.le_of_ble_eq_true rfl) rfl hc39 ?_
          show PW S mX2_nextToken Q 107 [some (Aq 22)] [] m38
          refine pw_goto eX2_nextToken_107 ?_
          exact pw_vret eX2_nextToken_178 h
    · have h := h.2 c2
      refine pw_aload_n eX2_nextToken_67 rfl rfl ?_
      refine pw_iconst eX2_nextToken_68 ⟨by decide, by decide⟩ ?_
      refine pf_RX2_25 rfl eX2_nextToken_69 sh22 ?_
      refine pw_goto eX2_nextToken_72 ?_
      exact pw_vret eX2_nextToken_178 h
  · have h := h.2 c1
    refine pw_aload_n eX2_nextToken_11 rfl rfl ?_
    refine gf_RX2_9 rfl eX2_nextToken_12 sh22 ?_
    refine pw_aload_n eX2_nextToken_15 rfl rfl ?_
    refine gf_RX2_22 rfl eX2_nextToken_16 sh22 ?_
    obtain ⟨ob40, h⟩ := h
    refine pw_bald eX2_nextToken_19 sh23 ob40 ?_
    refine pw_bipush eX2_nextToken_20 ⟨by decide, by decide⟩ (by decide) ?_
    refine pw_icmp_ne eX2_nextToken_22 (fun c41 => ?_) (fun c41 => ?_)
    · have h := h.2 c41
      refine pw_aload_n eX2_nextToken_38 rfl rfl ?_
      refine pw_aload_n eX2_nextToken_39 rfl rfl ?_
      refine gf_RX2_22 rfl eX2_nextToken_40 sh22 ?_
      refine pf_RX2_19 rfl eX2_nextToken_43 sh22 ?_
      refine pw_aload_n eX2_nextToken_46 rfl rfl ?_
      refine pw_lconst (v := 0) eX2_nextToken_47 ⟨by decide, by decide⟩ rfl ?_
      refine pf_RX2_28 rfl eX2_nextToken_48 ?_
      refine pw_aload_n eX2_nextToken_51 rfl rfl ?_
      refine pw_iconst eX2_nextToken_52 ⟨by decide, by decide⟩ ?_
      refine pf_RX2_32 rfl eX2_nextToken_53 sh22 ?_
      refine pw_aload_n eX2_nextToken_56 rfl rfl ?_
      refine gf_RX2_19 rfl eX2_nextToken_57 sh22 ?_
      refine pw_aload_n eX2_nextToken_60 rfl rfl ?_
      refine gf_RX2_15 rfl eX2_nextToken_61 sh22 ?_
      refine pw_icmp_lt eX2_nextToken_64 (fun c42 => ?_) (fun c42 => ?_)
      · have h := h.1 c42
        refine pw_aload_n eX2_nextToken_75 rfl rfl ?_
        refine gf_RX2_9 rfl eX2_nextToken_76 sh22 ?_
        refine pw_aload_n eX2_nextToken_79 rfl rfl ?_
        refine gf_RX2_19 rfl eX2_nextToken_80 sh22 ?_
        obtain ⟨ob43, h⟩ := h
        refine pw_bald eX2_nextToken_83 sh23 ob43 ?_
        refine pw_bipush eX2_nextToken_84 ⟨by decide, by decide⟩ (by decide) ?_
        refine pw_icmp_lt eX2_nextToken_86 (fun c44 => ?_) (fun c44 => ?_)
        · have h := h.1 c44
          refine pw_aload_n eX2_nextToken_110 rfl rfl ?_
          refine gf_RX2_9 rfl eX2_nextToken_111 sh22 ?_
          refine pw_aload_n eX2_nextToken_114 rfl rfl ?_
          refine gf_RX2_19 rfl eX2_nextToken_115 sh22 ?_
          obtain ⟨ob45, h⟩ := h
          refine pw_bald eX2_nextToken_118 sh23 ob45 ?_
          refine pw_bipush eX2_nextToken_119 ⟨by decide, by decide⟩ (by decide) ?_
          refine pw_icmp_lt eX2_nextToken_121 (fun c46 => ?_) (fun c46 => ?_)
          · have h := h.1 c46
            refine pw_aload_n eX2_nextToken_145 rfl rfl ?_
            refine pw_aload_n eX2_nextToken_146 rfl rfl ?_
            refine gf_RX2_9 rfl eX2_nextToken_147 sh22 ?_
            refine pw_aload_n eX2_nextToken_150 rfl rfl ?_
            refine gf_RX2_19 rfl eX2_nextToken_151 sh22 ?_
            obtain ⟨ob47, h⟩ := h
            refine pw_bald eX2_nextToken_154 sh23 ob47 ?_
            refine pw_bipush eX2_nextToken_155 ⟨by decide, by decide⟩ (by decide) ?_
            refine pw_icmp_ne eX2_nextToken_157 (fun c48 => ?_) (fun c48 => ?_)
            · have h := h.2 c48
              refine pw_iconst eX2_nextToken_164 ⟨by decide, by decide⟩ ?_
              refine pf_RX2_25 rfl eX2_nextToken_165 sh22 ?_
              refine pw_aload_n eX2_nextToken_168 rfl rfl ?_
              refine pw_dup eX2_nextToken_169 rfl ?_
              refine gf_RX2_22 rfl eX2_nextToken_170 sh22 ?_
              refine pw_iconst eX2_nextToken_173 ⟨by decide, by decide⟩ ?_
              obtain ⟨ob49, h⟩ := h
              refine pw_iadd eX2_nextToken_174 ob49 ?_
              refine pf_RX2_22 rfl eX2_nextToken_175 sh22 ?_
              exact pw_vret eX2_nextToken_178 h
            · have h := h.1 (Classical.not_not.mp c48)
              refine pw_iconst eX2_nextToken_160 ⟨by decide, by decide⟩ ?_
              refine pw_goto eX2_nextToken_161 ?_
              refine pf_RX2_25 rfl eX2_nextToken_165 sh22 ?_
              refine pw_aload_n eX2_nextToken_168 rfl rfl ?_
              refine pw_dup eX2_nextToken_169 rfl ?_
              refine gf_RX2_22 rfl eX2_nextToken_170 sh22 ?_
              refine pw_iconst eX2_nextToken_173 ⟨by decide, by decide⟩ ?_
              obtain ⟨ob50, h⟩ := h
              refine pw_iadd eX2_nextToken_174 ob50 ?_
              refine pf_RX2_22 rfl eX2_nextToken_175 sh22 ?_
              exact pw_vret eX2_nextToken_178 h
          · have h := h.2 c46
            refine pw_aload_n eX2_nextToken_124 rfl rfl ?_
            refine gf_RX2_9 rfl eX2_nextToken_125 sh22 ?_
            refine pw_aload_n eX2_nextToken_128 rfl rfl ?_
            refine gf_RX2_19 rfl eX2_nextToken_129 sh22 ?_
            obtain ⟨ob51, h⟩ := h
            refine pw_bald eX2_nextToken_132 sh23 ob51 ?_
            refine pw_bipush eX2_nextToken_133 ⟨by decide, by decide⟩ (by decide) ?_
            refine pw_icmp_gt eX2_nextToken_135 (fun c52 => ?_) (fun c52 => ?_)
            · have h := h.1 c52
              refine pw_aload_n eX2_nextToken_145 rfl rfl ?_
              refine pw_aload_n eX2_nextToken_146 rfl rfl ?_
              refine gf_RX2_9 rfl eX2_nextToken_147 sh22 ?_
              refine pw_aload_n eX2_nextToken_150 rfl rfl ?_
              refine gf_RX2_19 rfl eX2_nextToken_151 sh22 ?_
              obtain ⟨ob53, h⟩ := h
              refine pw_bald eX2_nextToken_154 sh23 ob53 ?_
              refine pw_bipush eX2_nextToken_155 ⟨by decide, by decide⟩ (by decide) ?_
              refine pw_icmp_ne eX2_nextToken_157 (fun c54 => ?_) (fun c54 => ?_)
              · have h := h.2 c54
                refine pw_iconst eX2_nextToken_164 ⟨by decide, by decide⟩ ?_
                refine pf_RX2_25 rfl eX2_nextToken_165 sh22 ?_
                refine pw_aload_n eX2_nextToken_168 rfl rfl ?_
                refine pw_dup eX2_nextToken_169 rfl ?_
                refine gf_RX2_22 rfl eX2_nextToken_170 sh22 ?_
                refine pw_iconst eX2_nextToken_173 ⟨by decide, by decide⟩ ?_
                obtain ⟨ob55, h⟩ := h
                refine pw_iadd eX2_nextToken_174 ob55 ?_
                refine pf_RX2_22 rfl eX2_nextToken_175 sh22 ?_
                exact pw_vret eX2_nextToken_178 h
              · have h := h.1 (Classical.not_not.mp c54)
                refine pw_iconst eX2_nextToken_160 ⟨by decide, by decide⟩ ?_
                refine pw_goto eX2_nextToken_161 ?_
                refine pf_RX2_25 rfl eX2_nextToken_165 sh22 ?_
                refine pw_aload_n eX2_nextToken_168 rfl rfl ?_
                refine pw_dup eX2_nextToken_169 rfl ?_
                refine gf_RX2_22 rfl eX2_nextToken_170 sh22 ?_
                refine pw_iconst eX2_nextToken_173 ⟨by decide, by decide⟩ ?_
                obtain ⟨ob56, h⟩ := h
                refine pw_iadd eX2_nextToken_174 ob56 ?_
                refine pf_RX2_22 rfl eX2_nextToken_175 sh22 ?_
                exact pw_vret eX2_nextToken_178 h
            · have h := h.2 c52
              refine pw_aload_n eX2_nextToken_138 rfl rfl ?_
              obtain ⟨m58, hc59, h⟩ := h
              refine pw_cV (z := mX2_takeNumber) (av := []) (st := []) eX2_nextToken_139 lk_RX2_97 rfl (by decide) (by decide) sh22 rfl rfl (Nat.le_of_ble_eq_true rfl) rfl hc59 ?_
              show PW S mX2_nextToken Q 142 [some (Aq 22)] [] m58
              refine pw_goto eX2_nextToken_142 ?_
              exact pw_vret eX2_nextToken_178 h
        · have h := h.2 c44
          refine pw_aload_n eX2_nextToken_89 rfl rfl ?_
          refine gf_RX2_9 rfl eX2_nextToken_90 sh22 ?_
          refine pw_aload_n eX2_nextToken_93 rfl rfl ?_
          refine gf_RX2_19 rfl eX2_nextToken_94 sh22 ?_
          obtain ⟨ob60, h⟩ := h
          refine pw_bald eX2_nextToken_97 sh23 ob60 ?_
          refine pw_bipush eX2_nextToken_98 ⟨by decide, by decide⟩ (by decide) ?_
          refine pw_icmp_gt eX2_nextToken_100 (fun c61 => ?_) (fun c61 => ?_)
          · have h := h.1 c61
            refine pw_aload_n eX2_nextToken_110 rfl rfl ?_
            refine gf_RX2_9 rfl eX2_nextToken_111 sh22 ?_
            refine pw_aload_n eX2_nextToken_114 rfl rfl ?_
            refine gf_RX2_19 rfl eX2_nextToken_115 sh22 ?_
            obtain ⟨ob62, h⟩ := h
            refine pw_bald eX2_nextToken_118 sh23 ob62 ?_
            refine pw_bipush eX2_nextToken_119 ⟨by decide, by decide⟩ (by decide) ?_
            refine pw_icmp_lt eX2_nextToken_121 (fun c63 => ?_) (fun c63 => ?_)
            · have h := h.1 c63
              refine pw_aload_n eX2_nextToken_145 rfl rfl ?_
              refine pw_aload_n eX2_nextToken_146 rfl rfl ?_
              refine gf_RX2_9 rfl eX2_nextToken_147 sh22 ?_
              refine pw_aload_n eX2_nextToken_150 rfl rfl ?_
              refine gf_RX2_19 rfl eX2_nextToken_151 sh22 ?_
              obtain ⟨ob64, h⟩ := h
              refine pw_bald eX2_nextToken_154 sh23 ob64 ?_
              refine pw_bipush eX2_nextToken_155 ⟨by decide, by decide⟩ (by decide) ?_
              refine pw_icmp_ne eX2_nextToken_157 (fun c65 => ?_) (fun c65 => ?_)
              · have h := h.2 c65
                refine pw_iconst eX2_nextToken_164 ⟨by decide, by decide⟩ ?_
                refine pf_RX2_25 rfl eX2_nextToken_165 sh22 ?_
                refine pw_aload_n eX2_nextToken_168 rfl rfl ?_
                refine pw_dup eX2_nextToken_169 rfl ?_
                refine gf_RX2_22 rfl eX2_nextToken_170 sh22 ?_
                refine pw_iconst eX2_nextToken_173 ⟨by decide, by decide⟩ ?_
                obtain ⟨ob66, h⟩ := h
                refine pw_iadd eX2_nextToken_174 ob66 ?_
                refine pf_RX2_22 rfl eX2_nextToken_175 sh22 ?_
                exact pw_vret eX2_nextToken_178 h
              · have h := h.1 (Classical.not_not.mp c65)
                refine pw_iconst eX2_nextToken_160 ⟨by decide, by decide⟩ ?_
                refine pw_goto eX2_nextToken_161 ?_
                refine pf_RX2_25 rfl eX2_nextToken_165 sh22 ?_
                refine pw_aload_n eX2_nextToken_168 rfl rfl ?_
                refine pw_dup eX2_nextToken_169 rfl ?_
                refine gf_RX2_22 rfl eX2_nextToken_170 sh22 ?_
                refine pw_iconst eX2_nextToken_173 ⟨by decide, by decide⟩ ?_
                obtain ⟨ob67, h⟩ := h
                refine pw_iadd eX2_nextToken_174 ob67 ?_
                refine pf_RX2_22 rfl eX2_nextToken_175 sh22 ?_
                exact pw_vret eX2_nextToken_178 h
            · have h := h.2 c63
              refine pw_aload_n eX2_nextToken_124 rfl rfl ?_
              refine gf_RX2_9 rfl eX2_nextToken_125 sh22 ?_
              refine pw_aload_n eX2_nextToken_128 rfl rfl ?_
              refine gf_RX2_19 rfl eX2_nextToken_129 sh22 ?_
              obtain ⟨ob68, h⟩ := h
              refine pw_bald eX2_nextToken_132 sh23 ob68 ?_
              refine pw_bipush eX2_nextToken_133 ⟨by decide, by decide⟩ (by decide) ?_
              refine pw_icmp_gt eX2_nextToken_135 (fun c69 => ?_) (fun c69 => ?_)
              · have h := h.1 c69
                refine pw_aload_n eX2_nextToken_145 rfl rfl ?_
                refine pw_aload_n eX2_nextToken_146 rfl rfl ?_
                refine gf_RX2_9 rfl eX2_nextToken_147 sh22 ?_
                refine pw_aload_n eX2_nextToken_150 rfl rfl ?_
                refine gf_RX2_19 rfl eX2_nextToken_151 sh22 ?_
                obtain ⟨ob70, h⟩ := h
                refine pw_bald eX2_nextToken_154 sh23 ob70 ?_
                refine pw_bipush eX2_nextToken_155 ⟨by decide, by decide⟩ (by decide) ?_
                refine pw_icmp_ne eX2_nextToken_157 (fun c71 => ?_) (fun c71 => ?_)
                · have h := h.2 c71
                  refine pw_iconst eX2_nextToken_164 ⟨by decide, by decide⟩ ?_
                  refine pf_RX2_25 rfl eX2_nextToken_165 sh22 ?_
                  refine pw_aload_n eX2_nextToken_168 rfl rfl ?_
                  refine pw_dup eX2_nextToken_169 rfl ?_
                  refine gf_RX2_22 rfl eX2_nextToken_170 sh22 ?_
                  refine pw_iconst eX2_nextToken_173 ⟨by decide, by decide⟩ ?_
                  obtain ⟨ob72, h⟩ := h
                  refine pw_iadd eX2_nextToken_174 ob72 ?_
                  refine pf_RX2_22 rfl eX2_nextToken_175 sh22 ?_
                  exact pw_vret eX2_nextToken_178 h
                · have h := h.1 (Classical.not_not.mp c71)
                  refine pw_iconst eX2_nextToken_160 ⟨by decide, by decide⟩ ?_
                  refine pw_goto eX2_nextToken_161 ?_
                  refine pf_RX2_25 rfl eX2_nextToken_165 sh22 ?_
                  refine pw_aload_n eX2_nextToken_168 rfl rfl ?_
                  refine pw_dup eX2_nextToken_169 rfl ?_
                  refine gf_RX2_22 rfl eX2_nextToken_170 sh22 ?_
                  refine pw_iconst eX2_nextToken_173 ⟨by decide, by decide⟩ ?_
                  obtain ⟨ob73, h⟩ := h
                  refine pw_iadd eX2_nextToken_174 ob73 ?_
                  refine pf_RX2_22 rfl eX2_nextToken_175 sh22 ?_
                  exact pw_vret eX2_nextToken_178 h
              · have h := h.2 c69
                refine pw_aload_n eX2_nextToken_138 rfl rfl ?_
                obtain ⟨m75, hc76, h⟩ := h
                refine pw_cV (z := mX2_takeNumber) (av := []) (st := []) eX2_nextToken_139 lk_RX2_97 rfl (by decide) (by decide) sh22 rfl rfl (Nat.le_of_ble_eq_true rfl) rfl hc76 ?_
                show PW S mX2_nextToken Q 142 [some (Aq 22)] [] m75
                refine pw_goto eX2_nextToken_142 ?_
                exact pw_vret eX2_nextToken_178 h
          · have h := h.2 c61
            refine pw_aload_n eX2_nextToken_103 rfl rfl ?_
            obtain ⟨m78, hc79, h⟩ := h
            refine pw_cV (z := mX2_takeWord) (av := []) (st := []) eX2_nextToken_104 lk_RX2_94 rfl (by decide) (by decide) sh22 rfl rfl (Nat.le_of_ble_eq_true rfl) rfl hc79 ?_
            show PW S mX2_nextToken Q 107 [some (Aq 22)] [] m78
            refine pw_goto eX2_nextToken_107 ?_
            exact pw_vret eX2_nextToken_178 h
      · have h := h.2 c42
        refine pw_aload_n eX2_nextToken_67 rfl rfl ?_
        refine pw_iconst eX2_nextToken_68 ⟨by decide, by decide⟩ ?_
        refine pf_RX2_25 rfl eX2_nextToken_69 sh22 ?_
        refine pw_goto eX2_nextToken_72 ?_
        exact pw_vret eX2_nextToken_178 h
    · have h := h.1 (Classical.not_not.mp c41)
      refine pw_aload_n eX2_nextToken_25 rfl rfl ?_
      refine pw_dup eX2_nextToken_26 rfl ?_
      refine gf_RX2_22 rfl eX2_nextToken_27 sh22 ?_
      refine pw_iconst eX2_nextToken_30 ⟨by decide, by decide⟩ ?_
      obtain ⟨ob80, h⟩ := h
      refine pw_iadd eX2_nextToken_31 ob80 ?_
      refine pf_RX2_22 rfl eX2_nextToken_32 sh22 ?_
      refine pw_goto eX2_nextToken_35 ?_
      exact h
set_option maxRecDepth 100000 in
theorem rg_X3_image_0 {S : Sx} {Q : Option PV → Zm → Prop} {mem : Zm}   
    (h : (∃ (m2 : Zm), Ct1 S mX0_become [Aq 15, Aq 1] mem none m2 ∧ (Q (some (Iq 1)) (mup m2 0 3 1)))) :
    PW S mX3_image Q 0 [some (Aq 0)] [] mem := by
  refine pw_aload_n eX3_image_0 rfl rfl ?_
  refine gf_RX3_19 rfl eX3_image_1 sh0 ?_
  refine pw_aload_n eX3_image_4 rfl rfl ?_
  refine gf_RX3_10 rfl eX3_image_5 sh0 ?_
  obtain ⟨m2, hc3, h⟩ := h
  refine pw_cV (z := mX0_become) (av := [Aq 1]) (st := []) eX3_image_8 lk_RX3_126 rfl (by decide) (by decide) (shR isR15) rfl rfl (Nat.le_of_ble_eq_true rfl) rfl hc3 ?_
  show PW S mX3_image Q 11 [some (Aq 0)] [] m2
  refine pw_aload_n eX3_image_11 rfl rfl ?_
  refine pw_iconst eX3_image_12 ⟨by decide, by decide⟩ ?_
  refine pf_RX3_22 rfl eX3_image_13 sh0 (Or.inr rfl) ?_
  refine pw_iconst eX3_image_16 ⟨by decide, by decide⟩ ?_
  exact pw_iret eX3_image_17 h
set_option maxRecDepth 100000 in
theorem rg_X3_finding_0 {S : Sx} {Q : Option PV → Zm → Prop} {mem : Zm}   {x1 : Int} 
    (h : (in32 ((-1000001) - x1)) ∧ (((0 ≤ (-1000001) - x1 ∧ (-1000001) - x1 ≤ 6) → ((0 ≤ (-1000001) - x1 ∧ (-1000001) - x1 < 7) ∧ (in32 ((mem 33 ((-1000001) - x1).toNat) + 1)) ∧ (0 ≤ (-1000001) - x1 ∧ (-1000001) - x1 < 7) ∧ Q (some (Iq x1)) (mup mem 33 ((-1000001) - x1).toNat ((mem 33 ((-1000001) - x1).toNat) + 1)))) ∧ (¬ (0 ≤ (-1000001) - x1 ∧ (-1000001) - x1 ≤ 6) → (Q (some (Iq x1)) mem)))) :
    PW S mX3_finding Q 0 [some (Aq 0), some (Iq x1), none] [] mem := by
  refine pw_ldc (n := (-1000001)) eX3_finding_0 ⟨by decide, by decide⟩ kc_RX3_48 ?_
  refine pw_iload_n eX3_finding_2 rfl rfl ?_
  obtain ⟨ob1, h⟩ := h
  refine pw_isub eX3_finding_3 ob1 ?_
  refine pw_istore_n (ls2 := [some (Aq 0), some (Iq x1), some (Iq ((-1000001) - x1))]) eX3_finding_4 rfl (by decide) rfl ?_
  refine pw_iload_n eX3_finding_5 rfl rfl ?_
  refine pw_iconst eX3_finding_6 ⟨by decide, by decide⟩ ?_
  refine pw_bipush eX3_finding_7 ⟨by decide, by decide⟩ (by decide) ?_
  refine pw_cS (z := mX3_within) (av := [Iq ((-1000001) - x1), Iq 0, Iq 6]) (st := []) eX3_finding_9 lk_RX3_44 rfl (by decide) (by decide) (Nat.le_of_ble_eq_true rfl) rfl (ct_X3_within (mem := mem)) ?_
  show PW S mX3_finding Q 12 [some (Aq 0), some (Iq x1), some (Iq ((-1000001) - x1))] [Iq (bI (0 ≤ (-1000001) - x1 ∧ (-1000001) - x1 ≤ 6))] mem
  refine pw_if_eq eX3_finding_12 (fun c2 => ?_) (fun c2 => ?_)
  · have h := h.2 (bI0.mp c2)
    refine pw_iload_n eX3_finding_25 rfl rfl ?_
    exact pw_iret eX3_finding_26 h
  · have h := h.1 (bI1.mp c2)
    refine pw_aload_n eX3_finding_15 rfl rfl ?_
    refine gf_RX3_40 rfl eX3_finding_16 sh0 ?_
    refine pw_iload_n eX3_finding_19 rfl rfl ?_
    refine pw_dup2 eX3_finding_20 rfl rfl ?_
    obtain ⟨ob3, h⟩ := h
    refine pw_iald eX3_finding_21 sh33 ob3 ?_
    refine pw_iconst eX3_finding_22 ⟨by decide, by decide⟩ ?_
    obtain ⟨ob4, h⟩ := h
    refine pw_iadd eX3_finding_23 ob4 ?_
    obtain ⟨ob5, h⟩ := h
    refine pw_iast eX3_finding_24 sh33 ob5 ?_
    refine pw_iload_n eX3_finding_25 rfl rfl ?_
    exact pw_iret eX3_finding_26 h
set_option maxRecDepth 100000 in
theorem rg_X3_canBecome_0 {S : Sx} {Q : Option PV → Zm → Prop} {mem : Zm}   {x1 x2 x3 : Int} 
    (h : (((x2 = 0) → (Q (some (Iq (bI (0 ≤ x3 ∧ x3 ≤ 6)))) mem)) ∧ ((x2 = 1) → (Q (some (Iq (bI (0 ≤ x3 ∧ x3 ≤ 255)))) mem)) ∧ ((x2 = 2) → ((((x3 = -1) → (Q (some (Iq 1)) mem)) ∧ (¬ (x3 = -1) → ((((0 ≤ x3 ∧ x3 < mem 1 7) → ((((x3 = x1) → (Q (some (Iq 0)) mem)) ∧ (¬ (x3 = x1) → (Q (some (Iq 1)) mem))))) ∧ (¬ (0 ≤ x3 ∧ x3 < mem 1 7) → (Q (some (Iq 0)) mem)))))))) ∧ ((x2 = 3) → (Q (some (Iq (bI (0 ≤ x3 ∧ x3 ≤ 9999)))) mem)) ∧ ((x2 = 4) → (Q (some (Iq (bI (0 ≤ x3 ∧ x3 ≤ 999)))) mem)) ∧ ((x2 < 0 ∨ 4 < x2) → (Q (some (Iq (bI (0 ≤ x3 ∧ x3 ≤ 9999)))) mem)))) :
    PW S mX3_canBecome Q 0 [some (Aq 0), some (Iq x1), some (Iq x2), some (Iq x3)] [] mem := by
  refine pw_iload_n eX3_canBecome_0 rfl rfl ?_
  obtain ⟨hk0, hk1, hk2, hk3, hk4, hkd⟩ := h
  refine pw_tsw (ps := [(0, 36), (1, 44), (2, 53), (3, 80), (4, 89)]) (td := 98) eX3_canBecome_1 rfl (by decide) (by decide) rfl ⟨fun c1 => ?_, fun c1 => ?_, fun c1 => ?_, fun c1 => ?_, fun c1 => ?_, trivial⟩ (fun c1 => ?_)
  · have h := hk0 c1
    refine pw_iload_n eX3_canBecome_36 rfl rfl ?_
    refine pw_iconst eX3_canBecome_37 ⟨by decide, by decide⟩ ?_
    refine pw_bipush eX3_canBecome_38 ⟨by decide, by decide⟩ (by decide) ?_
    refine pw_cS (z := mX3_within) (av := [Iq x3, Iq 0, Iq 6]) (st := []) eX3_canBecome_40 lk_RX3_44 rfl (by decide) (by decide) (Nat.le_of_ble_eq_true rfl) rfl (ct_X3_within (mem := mem)) ?_
    show PW S mX3_canBecome Q 43 [some (Aq 0), some (Iq x1), some (Iq x2), some (Iq x3)] [Iq (bI (0 ≤ x3 ∧ x3 ≤ 6))] mem
    exact pw_iret eX3_canBecome_43 h
  · have h := hk1 c1
    refine pw_iload_n eX3_canBecome_44 rfl rfl ?_
    refine pw_iconst eX3_canBecome_45 ⟨by decide, by decide⟩ ?_
    refine pw_sipush eX3_canBecome_46 ⟨by decide, by decide⟩ (by decide) ?_
    refine pw_cS (z := mX3_within) (av := [Iq x3, Iq 0, Iq 255]) (st := []) eX3_canBecome_49 lk_RX3_44 rfl (by decide) (by decide) (Nat.le_of_ble_eq_true rfl) rfl (ct_X3_within (mem := mem)) ?_
    show PW S mX3_canBecome Q 52 [some (Aq 0), some (Iq x1), some (Iq x2), some (Iq x3)] [Iq (bI (0 ≤ x3 ∧ x3 ≤ 255))] mem
    exact pw_iret eX3_canBecome_52 h
  · have h := hk2 c1
    refine pw_iload_n eX3_canBecome_53 rfl rfl ?_
    refine pw_iconst eX3_canBecome_54 ⟨by decide, by decide⟩ ?_
    refine pw_icmp_eq eX3_canBecome_55 (fun c2 => ?_) (fun c2 => ?_)
    · have h := h.1 c2
      refine pw_iconst eX3_canBecome_74 ⟨by decide, by decide⟩ ?_
      refine pw_goto eX3_canBecome_75 ?_
      exact pw_iret eX3_canBecome_79 h
    · have h := h.2 c2
      refine pw_aload_n eX3_canBecome_58 rfl rfl ?_
      refine gf_RX3_10 rfl eX3_canBecome_59 sh0 ?_
      refine pw_iload_n eX3_canBecome_62 rfl rfl ?_
      refine pw_cV (z := mX0_has) (av := [Iq x3]) (st := []) eX3_canBecome_63 lk_RX3_68 rfl (by decide) (by decide) (shR isR1) rfl rfl (Nat.le_of_ble_eq_true rfl) rfl (ct_X0_has (mem := mem) isR1) ?_
      show PW S mX3_canBecome Q 66 [some (Aq 0), some (Iq x1), some (Iq x2), some (Iq x3)] [Iq (bI (0 ≤ x3 ∧ x3 < mem 1 7))] mem
      refine pw_if_eq eX3_canBecome_66 (fun c3 => ?_) (fun c3 => ?_)
      · have h := h.2 (bI0.mp c3)
        refine pw_iconst eX3_canBecome_78 ⟨by decide, by decide⟩ ?_
        exact pw_iret eX3_canBecome_79 h
      · have h := h.1 (bI1.mp c3)
        refine pw_iload_n eX3_canBecome_69 rfl rfl ?_
        refine pw_iload_n eX3_canBecome_70 rfl rfl ?_
        refine pw_icmp_eq eX3_canBecome_71 (fun c4 => ?_) (fun c4 => ?_)
        · have h := h.1 c4
          refine pw_iconst eX3_canBecome_78 ⟨by decide, by decide⟩ ?_
          exact pw_iret eX3_canBecome_79 h
        · have h := h.2 c4
          refine pw_iconst eX3_canBecome_74 ⟨by decide, by decide⟩ ?_
          refine pw_goto eX3_canBecome_75 ?_
          exact pw_iret eX3_canBecome_79 h
  · have h := hk3 c1
    refine pw_iload_n eX3_canBecome_80 rfl rfl ?_
    refine pw_iconst eX3_canBecome_81 ⟨by decide, by decide⟩ ?_
    refine pw_sipush eX3_canBecome_82 ⟨by decide, by decide⟩ (by decide) ?_
    refine pw_cS (z := mX3_within) (av := [Iq x3, Iq 0, Iq 9999]) (st := []) eX3_canBecome_85 lk_RX3_44 rfl (by decide) (by decide) (Nat.le_of_ble_eq_true rfl) rfl (ct_X3_within (mem := mem)) ?_
    show PW S mX3_canBecome Q 88 [some (Aq 0), some (Iq x1), some (Iq x2), some (Iq x3)] [Iq (bI (0 ≤ x3 ∧ x3 ≤ 9999))] mem
    exact pw_iret eX3_canBecome_88 h
  · have h := hk4 c1
    refine pw_iload_n eX3_canBecome_89 rfl rfl ?_
    refine pw_iconst eX3_canBecome_90 ⟨by decide, by decide⟩ ?_
    refine pw_sipush eX3_canBecome_91 ⟨by decide, by decide⟩ (by decide) ?_
    refine pw_cS (z := mX3_within) (av := [Iq x3, Iq 0, Iq 999]) (st := []) eX3_canBecome_94 lk_RX3_44 rfl (by decide) (by decide) (Nat.le_of_ble_eq_true rfl) rfl (ct_X3_within (mem := mem)) ?_
    show PW S mX3_canBecome Q 97 [some (Aq 0), some (Iq x1), some (Iq x2), some (Iq x3)] [Iq (bI (0 ≤ x3 ∧ x3 ≤ 999))] mem
    exact pw_iret eX3_canBecome_97 h
  · have h := hkd c1
    refine pw_iload_n eX3_canBecome_98 rfl rfl ?_
    refine pw_iconst eX3_canBecome_99 ⟨by decide, by decide⟩ ?_
    refine pw_sipush eX3_canBecome_100 ⟨by decide, by decide⟩ (by decide) ?_
    refine pw_cS (z := mX3_within) (av := [Iq x3, Iq 0, Iq 9999]) (st := []) eX3_canBecome_103 lk_RX3_44 rfl (by decide) (by decide) (Nat.le_of_ble_eq_true rfl) rfl (ct_X3_within (mem := mem)) ?_
    show PW S mX3_canBecome Q 106 [some (Aq 0), some (Iq x1), some (Iq x2), some (Iq x3)] [Iq (bI (0 ≤ x3 ∧ x3 ≤ 9999))] mem
    exact pw_iret eX3_canBecome_106 h
set_option maxRecDepth 100000 in
theorem rg_X3_sheetCheck_0 {S : Sx} {Q : Option PV → Zm → Prop} {mem : Zm}   {x1 : Int} 
    (h : (((0 ≤ x1 ∧ x1 ≤ 3) → ((0 ≤ x1 ∧ x1 < 4) ∧ (((mem (25 + 2 * (x1).toNat) 1 = 0) → (Q (some (Iq (-1000006))) mem)) ∧ (¬ (mem (25 + 2 * (x1).toNat) 1 = 0) → (Q (some (Iq 0)) mem))))) ∧ (¬ (0 ≤ x1 ∧ x1 ≤ 3) → (Q (some (Iq (-1000001))) mem)))) :
    PW S mX3_sheetCheck Q 0 [some (Aq 0), some (Iq x1)] [] mem := by
  refine pw_iload_n eX3_sheetCheck_0 rfl rfl ?_
  refine pw_iconst eX3_sheetCheck_1 ⟨by decide, by decide⟩ ?_
  refine pw_iconst eX3_sheetCheck_2 ⟨by decide, by decide⟩ ?_
  refine pw_cS (z := mX3_within) (av := [Iq x1, Iq 0, Iq 3]) (st := []) eX3_sheetCheck_3 lk_RX3_44 rfl (by decide) (by decide) (Nat.le_of_ble_eq_true rfl) rfl (ct_X3_within (mem := mem)) ?_
  show PW S mX3_sheetCheck Q 6 [some (Aq 0), some (Iq x1)] [Iq (bI (0 ≤ x1 ∧ x1 ≤ 3))] mem
  refine pw_if_ne eX3_sheetCheck_6 (fun c1 => ?_) (fun c1 => ?_)
  · have h := h.1 (bI1.mp c1)
    refine pw_aload_n eX3_sheetCheck_12 rfl rfl ?_
    refine gf_RX3_35 rfl eX3_sheetCheck_13 sh0 ?_
    refine pw_iload_n eX3_sheetCheck_16 rfl rfl ?_
    obtain ⟨ob2, h⟩ := h
    refine pw_aald eX3_sheetCheck_17 sh24 ob2 ?_
    refine pw_cV (z := mX1_isMissing) (av := []) (st := []) eX3_sheetCheck_18 lk_RX3_208 rfl (by decide) (by decide) (shS (isSh ob2)) rfl rfl (Nat.le_of_ble_eq_true rfl) rfl (ct_X1_isMissing (mem := mem) (isSh ob2)) ?_
    show PW S mX3_sheetCheck Q 21 [some (Aq 0), some (Iq x1)] [Iq (bI (mem (25 + 2 * (x1).toNat) 1 = 0))] mem
    refine pw_if_eq eX3_sheetCheck_21 (fun c3 => ?_) (fun c3 => ?_)
    · have h := h.2 (bI0.mp c3)
      refine pw_iconst eX3_sheetCheck_29 ⟨by decide, by decide⟩ ?_
      exact pw_iret eX3_sheetCheck_30 h
    · have h := h.1 (bI1.mp c3)
      refine pw_ldc (n := (-1000006)) eX3_sheetCheck_24 ⟨by decide, by decide⟩ kc_RX3_190 ?_
      refine pw_goto eX3_sheetCheck_26 ?_
      exact pw_iret eX3_sheetCheck_30 h
  · have h := h.2 (bI0.mp (Classical.not_not.mp c1))
    refine pw_ldc (n := (-1000001)) eX3_sheetCheck_9 ⟨by decide, by decide⟩ kc_RX3_48 ?_
    exact pw_iret eX3_sheetCheck_11 h
set_option maxRecDepth 100000 in
theorem rg_X3_tryWithoutCopiesFrom_0 {S : Sx} {Q : Option PV → Zm → Prop} {mem : Zm}   {x1 : Int} 
    (h : (∃ (m2 : Zm), Ct1 S mX0_become [Aq 8, Aq 1] mem none m2 ∧ (PW S mX3_tryWithoutCopiesFrom Q 13 [some (Aq 0), some (Iq x1), some (Iq 0), none] [] m2))) :
    PW S mX3_tryWithoutCopiesFrom Q 0 [some (Aq 0), some (Iq x1), none, none] [] mem := by
  refine pw_aload_n eX3_tryWithoutCopiesFrom_0 rfl rfl ?_
  refine gf_RX3_16 rfl eX3_tryWithoutCopiesFrom_1 sh0 ?_
  refine pw_aload_n eX3_tryWithoutCopiesFrom_4 rfl rfl ?_
  refine gf_RX3_10 rfl eX3_tryWithoutCopiesFrom_5 sh0 ?_
  obtain ⟨m2, hc3, h⟩ := h
  refine pw_cV (z := mX0_become) (av := [Aq 1]) (st := []) eX3_tryWithoutCopiesFrom_8 lk_RX3_126 rfl (by decide) (by decide) (shR isR8) rfl rfl (Nat.le_of_ble_eq_true rfl) rfl hc3 ?_
  show PW S mX3_tryWithoutCopiesFrom Q 11 [some (Aq 0), some (Iq x1), none, none] [] m2
  refine pw_iconst eX3_tryWithoutCopiesFrom_11 ⟨by decide, by decide⟩ ?_
  refine pw_istore_n (ls2 := [some (Aq 0), some (Iq x1), some (Iq 0), none]) eX3_tryWithoutCopiesFrom_12 rfl (by decide) rfl ?_
  exact h

set_option maxRecDepth 100000 in
theorem rg_X3_tryWithoutCopiesFrom_13 {S : Sx} {Q : Option PV → Zm → Prop} {mem : Zm}   {x1 x2 : Int} 
    (h : (((mem 8 7 ≤ x2) → (Q none mem)) ∧ (¬ (mem 8 7 ≤ x2) → ((0 ≤ x2 ∧ x2 < 8) ∧ (((mem (8 + 2) (6 * (x2).toNat + 2) = -1) → ((in32 (x2 + 1)) ∧ PW S mX3_tryWithoutCopiesFrom Q 13 [some (Aq 0), some (Iq x1), some (Iq (x2 + 1)), none] [] mem)) ∧ (¬ (mem (8 + 2) (6 * (x2).toNat + 2) = -1) → ((((bAnd (bShr x1 (mem (8 + 2) (6 * (x2).toNat + 2))) 1 = 1) → ((0 ≤ x2 ∧ x2 < 8) ∧ (in32 (x2 + 1)) ∧ PW S mX3_tryWithoutCopiesFrom Q 13 [some (Aq 0), some (Iq x1), some (Iq (x2 + 1)), none] [] (mup mem (8 + 2) (6 * (x2).toNat + 2) (-1)))) ∧ (¬ (bAnd (bShr x1 (mem (8 + 2) (6 * (x2).toNat + 2))) 1 = 1) → ((in32 (x2 + 1)) ∧ PW S mX3_tryWithoutCopiesFrom Q 13 [some (Aq 0), some (Iq x1), some (Iq (x2 + 1)), none] [] mem)))))))))) :
    PW S mX3_tryWithoutCopiesFrom Q 13 [some (Aq 0), some (Iq x1), some (Iq x2), none] [] mem := by
  refine pw_iload_n eX3_tryWithoutCopiesFrom_13 rfl rfl ?_
  refine pw_aload_n eX3_tryWithoutCopiesFrom_14 rfl rfl ?_
  refine gf_RX3_16 rfl eX3_tryWithoutCopiesFrom_15 sh0 ?_
  refine gf_RX3_60 rfl eX3_tryWithoutCopiesFrom_18 (shR isR8) ?_
  refine pw_icmp_ge eX3_tryWithoutCopiesFrom_21 (fun c1 => ?_) (fun c1 => ?_)
  · have h := h.1 c1
    exact pw_vret eX3_tryWithoutCopiesFrom_64 h
  · have h := h.2 c1
    refine pw_aload_n eX3_tryWithoutCopiesFrom_24 rfl rfl ?_
    refine gf_RX3_16 rfl eX3_tryWithoutCopiesFrom_25 sh0 ?_
    refine pw_iload_n eX3_tryWithoutCopiesFrom_28 rfl rfl ?_
    refine pw_iconst eX3_tryWithoutCopiesFrom_29 ⟨by decide, by decide⟩ ?_
    obtain ⟨ob2, h⟩ := h
    refine pw_cV (z := mX0_fact) (av := [Iq x2, Iq 2]) (st := []) eX3_tryWithoutCopiesFrom_30 lk_RX3_81 rfl (by decide) (by decide) (shR isR8) rfl rfl (Nat.le_of_ble_eq_true rfl) rfl (ct_X0_fact (mem := mem) isR8 ⟨ob2.1, ob2.2, by decide, by decide⟩) ?_
    show PW S mX3_tryWithoutCopiesFrom Q 33 [some (Aq 0), some (Iq x1), some (Iq x2), none] [Iq (mem (8 + 2) (6 * (x2).toNat + 2))] mem
    refine pw_istore_n (ls2 := [some (Aq 0), some (Iq x1), some (Iq x2), some (Iq (mem (8 + 2) (6 * (x2).toNat + 2)))]) eX3_tryWithoutCopiesFrom_33 rfl (by decide) rfl ?_
    refine pw_iload_n eX3_tryWithoutCopiesFrom_34 rfl rfl ?_
    refine pw_iconst eX3_tryWithoutCopiesFrom_35 ⟨by decide, by decide⟩ ?_
    refine pw_icmp_eq eX3_tryWithoutCopiesFrom_36 (fun c3 => ?_) (fun c3 => ?_)
    · have h := h.1 c3
      obtain ⟨ob4, h⟩ := h
      refine pw_iinc (ls2 := [some (Aq 0), some (Iq x1), some (Iq (x2 + 1)), some (Iq (mem (8 + 2) (6 * (x2).toNat + 2)))]) eX3_tryWithoutCopiesFrom_58 rfl ob4 rfl ?_
      refine pw_goto eX3_tryWithoutCopiesFrom_61 ?_
      exact pw_drop (bs := [true, true, true, false]) h
    · have h := h.2 c3
      refine pw_iload_n eX3_tryWithoutCopiesFrom_39 rfl rfl ?_
      refine pw_iload_n eX3_tryWithoutCopiesFrom_40 rfl rfl ?_
      refine pw_ishr eX3_tryWithoutCopiesFrom_41 ?_
      refine pw_iconst eX3_tryWithoutCopiesFrom_42 ⟨by decide, by decide⟩ ?_
      refine pw_iand eX3_tryWithoutCopiesFrom_43 ?_
      refine pw_iconst eX3_tryWithoutCopiesFrom_44 ⟨by decide, by decide⟩ ?_
      refine pw_icmp_ne eX3_tryWithoutCopiesFrom_45 (fun c5 => ?_) (fun c5 => ?_)
      · have h := h.2 c5
        obtain ⟨ob6, h⟩ := h
        refine pw_iinc (ls2 := [some (Aq 0), some (Iq x1), some (Iq (x2 + 1)), some (Iq (mem (8 + 2) (6 * (x2).toNat + 2)))]) eX3_tryWithoutCopiesFrom_58 rfl ob6 rfl ?_
        refine pw_goto eX3_tryWithoutCopiesFrom_61 ?_
        exact pw_drop (bs := [true, true, true, false]) h
      · have h := h.1 (Classical.not_not.mp c5)
        refine pw_aload_n eX3_tryWithoutCopiesFrom_48 rfl rfl ?_
        refine gf_RX3_16 rfl eX3_tryWithoutCopiesFrom_49 sh0 ?_
        refine pw_iload_n eX3_tryWithoutCopiesFrom_52 rfl rfl ?_
        refine pw_iconst eX3_tryWithoutCopiesFrom_53 ⟨by decide, by decide⟩ ?_
        refine pw_iconst eX3_tryWithoutCopiesFrom_54 ⟨by decide, by decide⟩ ?_
        obtain ⟨ob7, h⟩ := h
        refine pw_cV (z := mX0_setFact) (av := [Iq x2, Iq 2, Iq (-1)]) (st := []) eX3_tryWithoutCopiesFrom_55 lk_RX3_87 rfl (by decide) (by decide) (shR isR8) rfl rfl (Nat.le_of_ble_eq_true rfl) rfl (ct_X0_setFact (mem := mem) isR8 ⟨ob7.1, ob7.2, by decide, by decide⟩) ?_
        show PW S mX3_tryWithoutCopiesFrom Q 58 [some (Aq 0), some (Iq x1), some (Iq x2), some (Iq (mem (8 + 2) (6 * (x2).toNat + 2)))] [] (mup mem (8 + 2) (6 * (x2).toNat + 2) (-1))
        obtain ⟨ob8, h⟩ := h
        refine pw_iinc (ls2 := [some (Aq 0), some (Iq x1), some (Iq (x2 + 1)), some (Iq (mem (8 + 2) (6 * (x2).toNat + 2)))]) eX3_tryWithoutCopiesFrom_58 rfl ob8 rfl ?_
        refine pw_goto eX3_tryWithoutCopiesFrom_61 ?_
        exact pw_drop (bs := [true, true, true, false]) h
set_option maxRecDepth 100000 in
theorem rg_X3_fitsUnknown_0 {S : Sx} {Q : Option PV → Zm → Prop} {mem : Zm}  {r1 : Nat} {x2 x3 : Int} (hr1 : isSheet r1)
    (h : (0 ≤ x2 ∧ x2 < 8 ∧ 0 ≤ x3 ∧ x3 < 8) ∧ (0 ≤ x3 ∧ mem r1 2 ≤ 40) ∧ Q (some (Iq (bI (mem r1 2 ≤ x3 ∨ mem (r1 + 1) (x3).toNat = -2 ∨ mem (r1 + 1) (x3).toNat = mem (8 + 3) (8 * (x2).toNat + (x3).toNat))))) mem) :
    PW S mX3_fitsUnknown Q 0 [some (Aq 0), some (Aq r1), some (Iq x2), some (Iq x3)] [] mem := by
  refine pw_aload_n eX3_fitsUnknown_0 rfl rfl ?_
  refine pw_iload_n eX3_fitsUnknown_1 rfl rfl ?_
  refine pw_aload_n eX3_fitsUnknown_2 rfl rfl ?_
  refine gf_RX3_16 rfl eX3_fitsUnknown_3 sh0 ?_
  refine pw_iload_n eX3_fitsUnknown_6 rfl rfl ?_
  refine pw_iload_n eX3_fitsUnknown_7 rfl rfl ?_
  obtain ⟨ob1, h⟩ := h
  refine pw_cV (z := mX0_answerOf) (av := [Iq x2, Iq x3]) (st := [Iq x3, Aq r1]) eX3_fitsUnknown_8 lk_RX3_91 rfl (by decide) (by decide) (shR isR8) rfl rfl (Nat.le_of_ble_eq_true rfl) rfl (ct_X0_answerOf (mem := mem) isR8 ob1) ?_
  show PW S mX3_fitsUnknown Q 11 [some (Aq 0), some (Aq r1), some (Iq x2), some (Iq x3)] [Iq (mem (8 + 3) (8 * (x2).toNat + (x3).toNat)), Iq x3, Aq r1] mem
  obtain ⟨ob2, h⟩ := h
  refine pw_cV (z := mX1_allows) (av := [Iq x3, Iq (mem (8 + 3) (8 * (x2).toNat + (x3).toNat))]) (st := []) eX3_fitsUnknown_11 lk_RX3_230 rfl (by decide) (by decide) (shS hr1) rfl rfl (Nat.le_of_ble_eq_true rfl) rfl (ct_X1_allows (mem := mem) hr1 ob2) ?_
  show PW S mX3_fitsUnknown Q 14 [some (Aq 0), some (Aq r1), some (Iq x2), some (Iq x3)] [Iq (bI (mem r1 2 ≤ x3 ∨ mem (r1 + 1) (x3).toNat = -2 ∨ mem (r1 + 1) (x3).toNat = mem (8 + 3) (8 * (x2).toNat + (x3).toNat)))] mem
  exact pw_iret eX3_fitsUnknown_14 h
set_option maxRecDepth 100000 in
theorem rg_X3_fitsKnown_0 {S : Sx} {Q : Option PV → Zm → Prop} {mem : Zm}  {r1 : Nat} {x2 : Int} (hr1 : isSheet r1)
    (h : (0 ≤ x2 ∧ x2 < 8) ∧ (0 ≤ x2 ∧ mem r1 2 ≤ 40) ∧ Q (some (Iq (bI (mem r1 2 ≤ x2 ∨ mem (r1 + 1) (x2).toNat = -2 ∨ mem (r1 + 1) (x2).toNat = mem 2 (x2).toNat)))) mem) :
    PW S mX3_fitsKnown Q 0 [some (Aq 0), some (Aq r1), some (Iq x2)] [] mem := by
  refine pw_aload_n eX3_fitsKnown_0 rfl rfl ?_
  refine pw_iload_n eX3_fitsKnown_1 rfl rfl ?_
  refine pw_aload_n eX3_fitsKnown_2 rfl rfl ?_
  refine gf_RX3_10 rfl eX3_fitsKnown_3 sh0 ?_
  refine gf_RX3_53 rfl eX3_fitsKnown_6 (shR isR1) ?_
  refine pw_iload_n eX3_fitsKnown_9 rfl rfl ?_
  obtain ⟨ob1, h⟩ := h
  refine pw_iald eX3_fitsKnown_10 sh2 ob1 ?_
  obtain ⟨ob2, h⟩ := h
  refine pw_cV (z := mX1_allows) (av := [Iq x2, Iq (mem 2 (x2).toNat)]) (st := []) eX3_fitsKnown_11 lk_RX3_230 rfl (by decide) (by decide) (shS hr1) rfl rfl (Nat.le_of_ble_eq_true rfl) rfl (ct_X1_allows (mem := mem) hr1 ob2) ?_
  show PW S mX3_fitsKnown Q 14 [some (Aq 0), some (Aq r1), some (Iq x2)] [Iq (bI (mem r1 2 ≤ x2 ∨ mem (r1 + 1) (x2).toNat = -2 ∨ mem (r1 + 1) (x2).toNat = mem 2 (x2).toNat))] mem
  exact pw_iret eX3_fitsKnown_14 h
set_option maxRecDepth 100000 in
theorem rg_X3_isUnder_0 {S : Sx} {Q : Option PV → Zm → Prop} {mem : Zm}   {x0 x1 : Int} 
    (h : PW S mX3_isUnder Q 4 [some (Iq x0), some (Iq x1), some (Iq x0), some (Iq 0)] [] mem) :
    PW S mX3_isUnder Q 0 [some (Iq x0), some (Iq x1), none, none] [] mem := by
  refine pw_iload_n eX3_isUnder_0 rfl rfl ?_
  refine pw_istore_n (ls2 := [some (Iq x0), some (Iq x1), some (Iq x0), none]) eX3_isUnder_1 rfl (by decide) rfl ?_
  refine pw_iconst eX3_isUnder_2 ⟨by decide, by decide⟩ ?_
  refine pw_istore_n (ls2 := [some (Iq x0), some (Iq x1), some (Iq x0), some (Iq 0)]) eX3_isUnder_3 rfl (by decide) rfl ?_
  exact h

set_option maxRecDepth 100000 in
theorem rg_X3_isUnder_4 {S : Sx} {Q : Option PV → Zm → Prop} {mem : Zm}   {x0 x1 x2 x3 : Int} 
    (h : (((7 ≤ x3) → (Q (some (Iq 0)) mem)) ∧ (¬ (7 ≤ x3) → ((((0 ≤ x2 ∧ x2 ≤ 6) → ((((x2 = x1) → (Q (some (Iq 1)) mem)) ∧ (¬ (x2 = x1) → ((0 ≤ x2 ∧ x2 < 7) ∧ (in32 (x3 + 1)) ∧ PW S mX3_isUnder Q 4 [some (Iq x0), some (Iq x1), some (Iq (tbU (x2).toNat)), some (Iq (x3 + 1))] [] mem))))) ∧ (¬ (0 ≤ x2 ∧ x2 ≤ 6) → (Q (some (Iq 0)) mem))))))) :
    PW S mX3_isUnder Q 4 [some (Iq x0), some (Iq x1), some (Iq x2), some (Iq x3)] [] mem := by
  refine pw_iload_n eX3_isUnder_4 rfl rfl ?_
  refine pw_bipush eX3_isUnder_5 ⟨by decide, by decide⟩ (by decide) ?_
  refine pw_icmp_ge eX3_isUnder_7 (fun c1 => ?_) (fun c1 => ?_)
  · have h := h.1 c1
    refine pw_iconst eX3_isUnder_39 ⟨by decide, by decide⟩ ?_
    exact pw_iret eX3_isUnder_40 h
  · have h := h.2 c1
    refine pw_iload_n eX3_isUnder_10 rfl rfl ?_
    refine pw_iconst eX3_isUnder_11 ⟨by decide, by decide⟩ ?_
    refine pw_bipush eX3_isUnder_12 ⟨by decide, by decide⟩ (by decide) ?_
    refine pw_cS (z := mX3_within) (av := [Iq x2, Iq 0, Iq 6]) (st := []) eX3_isUnder_14 lk_RX3_44 rfl (by decide) (by decide) (Nat.le_of_ble_eq_true rfl) rfl (ct_X3_within (mem := mem)) ?_
    show PW S mX3_isUnder Q 17 [some (Iq x0), some (Iq x1), some (Iq x2), some (Iq x3)] [Iq (bI (0 ≤ x2 ∧ x2 ≤ 6))] mem
    refine pw_if_eq eX3_isUnder_17 (fun c2 => ?_) (fun c2 => ?_)
    · have h := h.2 (bI0.mp c2)
      refine pw_iconst eX3_isUnder_39 ⟨by decide, by decide⟩ ?_
      exact pw_iret eX3_isUnder_40 h
    · have h := h.1 (bI1.mp c2)
      refine pw_iload_n eX3_isUnder_20 rfl rfl ?_
      refine pw_iload_n eX3_isUnder_21 rfl rfl ?_
      refine pw_icmp_ne eX3_isUnder_22 (fun c3 => ?_) (fun c3 => ?_)
      · have h := h.2 c3
        refine pw_gsU eX3_isUnder_27 lf_RX3_233 ?_
        refine pw_iload_n eX3_isUnder_30 rfl rfl ?_
        obtain ⟨ob4, h⟩ := h
        refine pw_ialdU eX3_isUnder_31 ob4 ?_
        refine pw_istore_n (ls2 := [some (Iq x0), some (Iq x1), some (Iq (tbU (x2).toNat)), some (Iq x3)]) eX3_isUnder_32 rfl (by decide) rfl ?_
        obtain ⟨ob5, h⟩ := h
        refine pw_iinc (ls2 := [some (Iq x0), some (Iq x1), some (Iq (tbU (x2).toNat)), some (Iq (x3 + 1))]) eX3_isUnder_33 rfl ob5 rfl ?_
        refine pw_goto eX3_isUnder_36 ?_
        exact h
      · have h := h.1 (Classical.not_not.mp c3)
        refine pw_iconst eX3_isUnder_25 ⟨by decide, by decide⟩ ?_
        exact pw_iret eX3_isUnder_26 h
set_option maxRecDepth 100000 in
theorem rg_X4_orNone_0 {S : Sx} {Q : Option PV → Zm → Prop} {mem : Zm}   {x1 : Int} 
    (h : (((0 ≤ x1) → (Q (some (Iq x1)) mem)) ∧ (¬ (0 ≤ x1) → ((fOK mem (-1000004)) ∧ Q (some (Iq (-1000004))) (fnds mem (-1000004)))))) :
    PW S mX4_orNone Q 0 [some (Aq 34), some (Iq x1)] [] mem := by
  refine pw_iload_n eX4_orNone_0 rfl rfl ?_
  refine pw_if_ge eX4_orNone_1 (fun c1 => ?_) (fun c1 => ?_)
  · have h := h.1 c1
    refine pw_iload_n eX4_orNone_13 rfl rfl ?_
    exact pw_iret eX4_orNone_14 h
  · have h := h.2 c1
    refine pw_aload_n eX4_orNone_4 rfl rfl ?_
    refine pw_ldc (n := (-1000004)) eX4_orNone_5 ⟨by decide, by decide⟩ kc_RX4_38 ?_
    obtain ⟨ob2, h⟩ := h
    refine pw_cV (z := mX4_finds) (av := [Iq (-1000004)]) (st := []) eX4_orNone_7 lk_RX4_39 rfl (by decide) (by decide) sh34 rfl rfl (Nat.le_of_ble_eq_true rfl) rfl (ct_X4_finds' (mem := mem) ob2) ?_
    show PW S mX4_orNone Q 10 [some (Aq 34), some (Iq x1)] [Iq (-1000004)] (fnds mem (-1000004))
    refine pw_goto eX4_orNone_10 ?_
    exact pw_iret eX4_orNone_14 h
set_option maxRecDepth 100000 in
theorem rg_X4_right_0 {S : Sx} {Q : Option PV → Zm → Prop} {mem : Zm}   {x1 x2 : Int} 
    (h : (((0 ≤ x1 ∧ x1 < 8) → ((((0 ≤ x2 ∧ x2 ≤ 99) → ((in32 (4 + x1)) ∧ (0 ≤ 4 + x1 ∧ 4 + x1 < 134) ∧ Q (some (Iq (mem 35 (4 + x1).toNat))) (mup mem 35 (4 + x1).toNat x2))) ∧ (¬ (0 ≤ x2 ∧ x2 ≤ 99) → ((fOK mem (-1000001)) ∧ Q (some (Iq (-1000001))) (fnds mem (-1000001))))))) ∧ (¬ (0 ≤ x1 ∧ x1 < 8) → ((fOK mem (-1000001)) ∧ Q (some (Iq (-1000001))) (fnds mem (-1000001)))))) :
    PW S mX4_right Q 0 [some (Aq 34), some (Iq x1), some (Iq x2)] [] mem := by
  refine pw_iload_n eX4_right_0 rfl rfl ?_
  refine pw_cS (z := mX4_isSum) (av := [Iq x1]) (st := []) eX4_right_1 lk_RX4_43 rfl (by decide) (by decide) (Nat.le_of_ble_eq_true rfl) rfl (ct_X4_isSum (mem := mem)) ?_
  show PW S mX4_right Q 4 [some (Aq 34), some (Iq x1), some (Iq x2)] [Iq (bI (0 ≤ x1 ∧ x1 < 8))] mem
  refine pw_if_eq eX4_right_4 (fun c1 => ?_) (fun c1 => ?_)
  · have h := h.2 (bI0.mp c1)
    refine pw_aload_n eX4_right_30 rfl rfl ?_
    refine pw_ldc (n := (-1000001)) eX4_right_31 ⟨by decide, by decide⟩ kc_RX4_37 ?_
    obtain ⟨ob2, h⟩ := h
    refine pw_cV (z := mX4_finds) (av := [Iq (-1000001)]) (st := []) eX4_right_33 lk_RX4_39 rfl (by decide) (by decide) sh34 rfl rfl (Nat.le_of_ble_eq_true rfl) rfl (ct_X4_finds' (mem := mem) ob2) ?_
    show PW S mX4_right Q 36 [some (Aq 34), some (Iq x1), some (Iq x2)] [Iq (-1000001)] (fnds mem (-1000001))
    exact pw_iret eX4_right_36 h
  · have h := h.1 (bI1.mp c1)
    refine pw_iload_n eX4_right_7 rfl rfl ?_
    refine pw_i2l eX4_right_8 ?_
    refine pw_lconst (v := 0) eX4_right_9 ⟨by decide, by decide⟩ rfl ?_
    refine pw_ldc2 (n := 99) eX4_right_10 ⟨by decide, by decide⟩ kc_RX4_47 ?_
    refine pw_cS (z := mX4_isIn) (av := [Jq x2, Jq 0, Jq 99]) (st := []) eX4_right_13 lk_RX4_49 rfl (by decide) (by decide) (Nat.le_of_ble_eq_true rfl) rfl (ct_X4_isIn (mem := mem)) ?_
    show PW S mX4_right Q 16 [some (Aq 34), some (Iq x1), some (Iq x2)] [Iq (bI (0 ≤ x2 ∧ x2 ≤ 99))] mem
    refine pw_if_eq eX4_right_16 (fun c3 => ?_) (fun c3 => ?_)
    · have h := h.2 (bI0.mp c3)
      refine pw_aload_n eX4_right_30 rfl rfl ?_
      refine pw_ldc (n := (-1000001)) eX4_right_31 ⟨by decide, by decide⟩ kc_RX4_37 ?_
      obtain ⟨ob4, h⟩ := h
      refine pw_cV (z := mX4_finds) (av := [Iq (-1000001)]) (st := []) eX4_right_33 lk_RX4_39 rfl (by decide) (by decide) sh34 rfl rfl (Nat.le_of_ble_eq_true rfl) rfl (ct_X4_finds' (mem := mem) ob4) ?_
      show PW S mX4_right Q 36 [some (Aq 34), some (Iq x1), some (Iq x2)] [Iq (-1000001)] (fnds mem (-1000001))
      exact pw_iret eX4_right_36 h
    · have h := h.1 (bI1.mp c3)
      refine pw_aload_n eX4_right_19 rfl rfl ?_
      refine pw_iconst eX4_right_20 ⟨by decide, by decide⟩ ?_
      refine pw_iload_n eX4_right_21 rfl rfl ?_
      obtain ⟨ob5, h⟩ := h
      refine pw_iadd eX4_right_22 ob5 ?_
      refine pw_iload_n eX4_right_23 rfl rfl ?_
      obtain ⟨ob6, h⟩ := h
      refine pw_cV (z := mX4_becomes) (av := [Iq (4 + x1), Iq x2]) (st := []) eX4_right_24 lk_RX4_53 rfl (by decide) (by decide) sh34 rfl rfl (Nat.le_of_ble_eq_true rfl) rfl (ct_X4_becomes (mem := mem) ob6) ?_
      show PW S mX4_right Q 27 [some (Aq 34), some (Iq x1), some (Iq x2)] [Iq (mem 35 (4 + x1).toNat)] (mup mem 35 (4 + x1).toNat x2)
      refine pw_goto eX4_right_27 ?_
      exact pw_iret eX4_right_36 h
set_option maxRecDepth 100000 in
theorem rg_X4_isRight_0 {S : Sx} {Q : Option PV → Zm → Prop} {mem : Zm}   {x1 : Int} 
    (h : (((0 ≤ x1 ∧ x1 < 8) → ((in32 (4 + x1)) ∧ (0 ≤ 4 + x1 ∧ 4 + x1 < 134) ∧ Q (some (Iq (mem 35 (4 + x1).toNat))) mem)) ∧ (¬ (0 ≤ x1 ∧ x1 < 8) → ((fOK mem (-1000001)) ∧ Q (some (Iq (-1000001))) (fnds mem (-1000001)))))) :
    PW S mX4_isRight Q 0 [some (Aq 34), some (Iq x1)] [] mem := by
  refine pw_iload_n eX4_isRight_0 rfl rfl ?_
  refine pw_cS (z := mX4_isSum) (av := [Iq x1]) (st := []) eX4_isRight_1 lk_RX4_43 rfl (by decide) (by decide) (Nat.le_of_ble_eq_true rfl) rfl (ct_X4_isSum (mem := mem)) ?_
  show PW S mX4_isRight Q 4 [some (Aq 34), some (Iq x1)] [Iq (bI (0 ≤ x1 ∧ x1 < 8))] mem
  refine pw_if_eq eX4_isRight_4 (fun c1 => ?_) (fun c1 => ?_)
  · have h := h.2 (bI0.mp c1)
    refine pw_aload_n eX4_isRight_18 rfl rfl ?_
    refine pw_ldc (n := (-1000001)) eX4_isRight_19 ⟨by decide, by decide⟩ kc_RX4_37 ?_
    obtain ⟨ob2, h⟩ := h
    refine pw_cV (z := mX4_finds) (av := [Iq (-1000001)]) (st := []) eX4_isRight_21 lk_RX4_39 rfl (by decide) (by decide) sh34 rfl rfl (Nat.le_of_ble_eq_true rfl) rfl (ct_X4_finds' (mem := mem) ob2) ?_
    show PW S mX4_isRight Q 24 [some (Aq 34), some (Iq x1)] [Iq (-1000001)] (fnds mem (-1000001))
    exact pw_iret eX4_isRight_24 h
  · have h := h.1 (bI1.mp c1)
    refine pw_aload_n eX4_isRight_7 rfl rfl ?_
    refine gf_RX4_7 rfl eX4_isRight_8 sh34 ?_
    refine pw_iconst eX4_isRight_11 ⟨by decide, by decide⟩ ?_
    refine pw_iload_n eX4_isRight_12 rfl rfl ?_
    obtain ⟨ob3, h⟩ := h
    refine pw_iadd eX4_isRight_13 ob3 ?_
    obtain ⟨ob4, h⟩ := h
    refine pw_iald eX4_isRight_14 sh35 ob4 ?_
    refine pw_goto eX4_isRight_15 ?_
    exact pw_iret eX4_isRight_24 h
set_option maxRecDepth 100000 in
theorem rg_X4_limit_0 {S : Sx} {Q : Option PV → Zm → Prop} {mem : Zm}   {x1 : Int} 
    (h : (((1 ≤ x1 ∧ x1 ≤ 9) → (Q (some (Iq (mem 35 3))) (mup mem 35 3 x1))) ∧ (¬ (1 ≤ x1 ∧ x1 ≤ 9) → ((fOK mem (-1000001)) ∧ Q (some (Iq (-1000001))) (fnds mem (-1000001)))))) :
    PW S mX4_limit Q 0 [some (Aq 34), some (Iq x1)] [] mem := by
  refine pw_iload_n eX4_limit_0 rfl rfl ?_
  refine pw_i2l eX4_limit_1 ?_
  refine pw_lconst (v := 1) eX4_limit_2 ⟨by decide, by decide⟩ rfl ?_
  refine pw_ldc2 (n := 9) eX4_limit_3 ⟨by decide, by decide⟩ kc_RX4_57 ?_
  refine pw_cS (z := mX4_isIn) (av := [Jq x1, Jq 1, Jq 9]) (st := []) eX4_limit_6 lk_RX4_49 rfl (by decide) (by decide) (Nat.le_of_ble_eq_true rfl) rfl (ct_X4_isIn (mem := mem)) ?_
  show PW S mX4_limit Q 9 [some (Aq 34), some (Iq x1)] [Iq (bI (1 ≤ x1 ∧ x1 ≤ 9))] mem
  refine pw_if_eq eX4_limit_9 (fun c1 => ?_) (fun c1 => ?_)
  · have h := h.2 (bI0.mp c1)
    refine pw_aload_n eX4_limit_21 rfl rfl ?_
    refine pw_ldc (n := (-1000001)) eX4_limit_22 ⟨by decide, by decide⟩ kc_RX4_37 ?_
    obtain ⟨ob2, h⟩ := h
    refine pw_cV (z := mX4_finds) (av := [Iq (-1000001)]) (st := []) eX4_limit_24 lk_RX4_39 rfl (by decide) (by decide) sh34 rfl rfl (Nat.le_of_ble_eq_true rfl) rfl (ct_X4_finds' (mem := mem) ob2) ?_
    show PW S mX4_limit Q 27 [some (Aq 34), some (Iq x1)] [Iq (-1000001)] (fnds mem (-1000001))
    exact pw_iret eX4_limit_27 h
  · have h := h.1 (bI1.mp c1)
    refine pw_aload_n eX4_limit_12 rfl rfl ?_
    refine pw_iconst eX4_limit_13 ⟨by decide, by decide⟩ ?_
    refine pw_iload_n eX4_limit_14 rfl rfl ?_
    refine pw_cV (z := mX4_becomes) (av := [Iq 3, Iq x1]) (st := []) eX4_limit_15 lk_RX4_53 rfl (by decide) (by decide) sh34 rfl rfl (Nat.le_of_ble_eq_true rfl) rfl (ct_X4_becomes (mem := mem) (by decide)) ?_
    show PW S mX4_limit Q 18 [some (Aq 34), some (Iq x1)] [Iq (mem 35 3)] (mup mem 35 3 x1)
    refine pw_goto eX4_limit_18 ?_
    exact pw_iret eX4_limit_27 h
set_option maxRecDepth 100000 in
theorem rg_X4_comes_0 {S : Sx} {Q : Option PV → Zm → Prop} {mem : Zm}   {x1 x2 : Int} 
    (h : (0 ≤ mem 35 0 ∧ mem 35 0 < 8) ∧ (0 ≤ 12 + 14 * (mem 35 0) + 0 ∧ 12 + 14 * (mem 35 0) + 0 < 134) ∧ (0 ≤ mem 35 0 ∧ mem 35 0 < 8) ∧ (0 ≤ 12 + 14 * (mem 35 0) + 1 ∧ 12 + 14 * (mem 35 0) + 1 < 134) ∧ (0 ≤ mem 35 0 ∧ mem 35 0 < 8) ∧ (0 ≤ 12 + 14 * (mem 35 0) + 2 ∧ 12 + 14 * (mem 35 0) + 2 < 134) ∧ (0 ≤ mem 35 0 ∧ mem 35 0 < 8) ∧ (0 ≤ 12 + 14 * (mem 35 0) + 3 ∧ 12 + 14 * (mem 35 0) + 3 < 134) ∧ (0 ≤ mem 35 0 ∧ mem 35 0 < 8) ∧ (0 ≤ 12 + 14 * (mem 35 0) + 4 ∧ 12 + 14 * (mem 35 0) + 4 < 134) ∧ (0 ≤ mem 35 0 ∧ mem 35 0 < 8) ∧ (0 ≤ 12 + 14 * (mem 35 0) + 5 ∧ 12 + 14 * (mem 35 0) + 5 < 134) ∧ PW S mX4_comes Q 76 [some (Aq 34), some (Iq x1), some (Iq x2), some (Iq (mem 35 0)), some (Iq 0)] [] (mup (mup (mup (mup (mup (mup mem 35 (12 + 14 * (mem 35 0) + 0).toNat x1) 35 (12 + 14 * (mem 35 0) + 1).toNat x2) 35 (12 + 14 * (mem 35 0) + 2).toNat (-1)) 35 (12 + 14 * (mem 35 0) + 3).toNat 0) 35 (12 + 14 * (mem 35 0) + 4).toNat 5) 35 (12 + 14 * (mem 35 0) + 5).toNat 0)) :
    PW S mX4_comes Q 0 [some (Aq 34), some (Iq x1), some (Iq x2), none, none] [] mem := by
  refine pw_aload_n eX4_comes_0 rfl rfl ?_
  refine gf_RX4_7 rfl eX4_comes_1 sh34 ?_
  refine pw_iconst eX4_comes_4 ⟨by decide, by decide⟩ ?_
  refine pw_iald eX4_comes_5 sh35 (by decide) ?_
  refine pw_istore_n (ls2 := [some (Aq 34), some (Iq x1), some (Iq x2), some (Iq (mem 35 0)), none]) eX4_comes_6 rfl (by decide) rfl ?_
  refine pw_aload_n eX4_comes_7 rfl rfl ?_
  refine gf_RX4_7 rfl eX4_comes_8 sh34 ?_
  refine pw_iload_n eX4_comes_11 rfl rfl ?_
  refine pw_iconst eX4_comes_12 ⟨by decide, by decide⟩ ?_
  obtain ⟨ob1, h⟩ := h
  refine pw_cS (z := mX4_at) (av := [Iq (mem 35 0), Iq 0]) (st := [Aq 35]) eX4_comes_13 lk_RX4_59 rfl (by decide) (by decide) (Nat.le_of_ble_eq_true rfl) rfl (ct_X4_at (mem := mem) ⟨ob1.1, ob1.2, by decide, by decide⟩) ?_
  show PW S mX4_comes Q 16 [some (Aq 34), some (Iq x1), some (Iq x2), some (Iq (mem 35 0)), none] [Iq (12 + 14 * (mem 35 0) + 0), Aq 35] mem
  refine pw_iload_n eX4_comes_16 rfl rfl ?_
  obtain ⟨ob2, h⟩ := h
  refine pw_iast eX4_comes_17 sh35 ob2 ?_
  refine pw_aload_n eX4_comes_18 rfl rfl ?_
  refine gf_RX4_7 rfl eX4_comes_19 sh34 ?_
  refine pw_iload_n eX4_comes_22 rfl rfl ?_
  refine pw_iconst eX4_comes_23 ⟨by decide, by decide⟩ ?_
  obtain ⟨ob3, h⟩ := h
  refine pw_cS (z := mX4_at) (av := [Iq (mem 35 0), Iq 1]) (st := [Aq 35]) eX4_comes_24 lk_RX4_59 rfl (by decide) (by decide) (Nat.le_of_ble_eq_true rfl) rfl (ct_X4_at (mem := mup mem 35 (12 + 14 * (mem 35 0) + 0).toNat x1) ⟨ob3.1, ob3.2, by decide, by decide⟩) ?_
  show PW S mX4_comes Q 27 [some (Aq 34), some (Iq x1), some (Iq x2), some (Iq (mem 35 0)), none] [Iq (12 + 14 * (mem 35 0) + 1), Aq 35] (mup mem 35 (12 + 14 * (mem 35 0) + 0).toNat x1)
  refine pw_iload_n eX4_comes_27 rfl rfl ?_
  obtain ⟨ob4, h⟩ := h
  refine pw_iast eX4_comes_28 sh35 ob4 ?_
  refine pw_aload_n eX4_comes_29 rfl rfl ?_
  refine gf_RX4_7 rfl eX4_comes_30 sh34 ?_
  refine pw_iload_n eX4_comes_33 rfl rfl ?_
  refine pw_iconst eX4_comes_34 ⟨by decide, by decide⟩ ?_
  obtain ⟨ob5, h⟩ := h
  refine pw_cS (z := mX4_at) (av := [Iq (mem 35 0), Iq 2]) (st := [Aq 35]) eX4_comes_35 lk_RX4_59 rfl (by decide) (by decide) (Nat.le_of_ble_eq_true rfl) rfl (ct_X4_at (mem := mup (mup mem 35 (12 + 14 * (mem 35 0) + 0).toNat x1) 35 (12 + 14 * (mem 35 0) + 1).toNat x2) ⟨ob5.1, ob5.2, by decide, by decide⟩) ?_
  show PW S mX4_comes Q 38 [some (Aq 34), some (Iq x1), some (Iq x2), some (Iq (mem 35 0)), none] [Iq (12 + 14 * (mem 35 0) + 2), Aq 35] (mup (mup mem 35 (12 + 14 * (mem 35 0) + 0).toNat x1) 35 (12 + 14 * (mem 35 0) + 1).toNat x2)
  refine pw_iconst eX4_comes_38 ⟨by decide, by decide⟩ ?_
  obtain ⟨ob6, h⟩ := h
  refine pw_iast eX4_comes_39 sh35 ob6 ?_
  refine pw_aload_n eX4_comes_40 rfl rfl ?_
  refine gf_RX4_7 rfl eX4_comes_41 sh34 ?_
  refine pw_iload_n eX4_comes_44 rfl rfl ?_
  refine pw_iconst eX4_comes_45 ⟨by decide, by decide⟩ ?_
  obtain ⟨ob7, h⟩ := h
  refine pw_cS (z := mX4_at) (av := [Iq (mem 35 0), Iq 3]) (st := [Aq 35]) eX4_comes_46 lk_RX4_59 rfl (by decide) (by decide) (Nat.le_of_ble_eq_true rfl) rfl (ct_X4_at (mem := mup (mup (mup mem 35 (12 + 14 * (mem 35 0) + 0).toNat x1) 35 (12 + 14 * (mem 35 0) + 1).toNat x2) 35 (12 + 14 * (mem 35 0) + 2).toNat (-1)) ⟨ob7.1, ob7.2, by decide, by decide⟩) ?_
  show PW S mX4_comes Q 49 [some (Aq 34), some (Iq x1), some (Iq x2), some (Iq (mem 35 0)), none] [Iq (12 + 14 * (mem 35 0) + 3), Aq 35] (mup (mup (mup mem 35 (12 + 14 * (mem 35 0) + 0).toNat x1) 35 (12 + 14 * (mem 35 0) + 1).toNat x2) 35 (12 + 14 * (mem 35 0) + 2).toNat (-1))
  refine pw_iconst eX4_comes_49 ⟨by decide, by decide⟩ ?_
  obtain ⟨ob8, h⟩ := h
  refine pw_iast eX4_comes_50 sh35 ob8 ?_
  refine pw_aload_n eX4_comes_51 rfl rfl ?_
  refine gf_RX4_7 rfl eX4_comes_52 sh34 ?_
  refine pw_iload_n eX4_comes_55 rfl rfl ?_
  refine pw_iconst eX4_comes_56 ⟨by decide, by decide⟩ ?_
  obtain ⟨ob9, h⟩ := h
  refine pw_cS (z := mX4_at) (av := [Iq (mem 35 0), Iq 4]) (st := [Aq 35]) eX4_comes_57 lk_RX4_59 rfl (by decide) (by decide) (Nat.le_of_ble_eq_true rfl) rfl (ct_X4_at (mem := mup (mup (mup (mup mem 35 (12 + 14 * (mem 35 0) + 0).toNat x1) 35 (12 + 14 * (mem 35 0) + 1).toNat x2) 35 (12 + 14 * (mem 35 0) + 2).toNat (-1)) 35 (12 + 14 * (mem 35 0) + 3).toNat 0) ⟨ob9.1, ob9.2, by decide, by decide⟩) ?_
  show PW S mX4_comes Q 60 [some (Aq 34), some (Iq x1), some (Iq x2), some (Iq (mem 35 0)), none] [Iq (12 + 14 * (mem 35 0) + 4), Aq 35] (mup (mup (mup (mup mem 35 (12 + 14 * (mem 35 0) + 0).toNat x1) 35 (12 + 14 * (mem 35 0) + 1).toNat x2) 35 (12 + 14 * (mem 35 0) + 2).toNat (-1)) 35 (12 + 14 * (mem 35 0) + 3).toNat 0)
  refine pw_iconst eX4_comes_60 ⟨by decide, by decide⟩ ?_
  obtain ⟨ob10, h⟩ := h
  refine pw_iast eX4_comes_61 sh35 ob10 ?_
  refine pw_aload_n eX4_comes_62 rfl rfl ?_
  refine gf_RX4_7 rfl eX4_comes_63 sh34 ?_
  refine pw_iload_n eX4_comes_66 rfl rfl ?_
  refine pw_iconst eX4_comes_67 ⟨by decide, by decide⟩ ?_
  obtain ⟨ob11, h⟩ := h
  refine pw_cS (z := mX4_at) (av := [Iq (mem 35 0), Iq 5]) (st := [Aq 35]) eX4_comes_68 lk_RX4_59 rfl (by decide) (by decide) (Nat.le_of_ble_eq_true rfl) rfl (ct_X4_at (mem := mup (mup (mup (mup (mup mem 35 (12 + 14 * (mem 35 0) + 0).toNat x1) 35 (12 + 14 * (mem 35 0) + 1).toNat x2) 35 (12 + 14 * (mem 35 0) + 2).toNat (-1)) 35 (12 + 14 * (mem 35 0) + 3).toNat 0) 35 (12 + 14 * (mem 35 0) + 4).toNat 5) ⟨ob11.1, ob11.2, by decide, by decide⟩) ?_
  show PW S mX4_comes Q 71 [some (Aq 34), some (Iq x1), some (Iq x2), some (Iq (mem 35 0)), none] [Iq (12 + 14 * (mem 35 0) + 5), Aq 35] (mup (mup (mup (mup (mup mem 35 (12 + 14 * (mem 35 0) + 0).toNat x1) 35 (12 + 14 * (mem 35 0) + 1).toNat x2) 35 (12 + 14 * (mem 35 0) + 2).toNat (-1)) 35 (12 + 14 * (mem 35 0) + 3).toNat 0) 35 (12 + 14 * (mem 35 0) + 4).toNat 5)
  refine pw_iconst eX4_comes_71 ⟨by decide, by decide⟩ ?_
  obtain ⟨ob12, h⟩ := h
  refine pw_iast eX4_comes_72 sh35 ob12 ?_
  refine pw_iconst eX4_comes_73 ⟨by decide, by decide⟩ ?_
  refine pw_istore (ls2 := [some (Aq 34), some (Iq x1), some (Iq x2), some (Iq (mem 35 0)), some (Iq 0)]) eX4_comes_74 (by decide) rfl ?_
  exact h

set_option maxRecDepth 100000 in
theorem rg_X4_comes_76 {S : Sx} {Q : Option PV → Zm → Prop} {mem : Zm}   {x1 x2 x3 x4 : Int} 
    (h : (((8 ≤ x4) → ((in32 ((mem 35 0) + 1)) ∧ Q none (mup mem 35 0 ((mem 35 0) + 1)))) ∧ (¬ (8 ≤ x4) → ((in32 (6 + x4)) ∧ (0 ≤ x3 ∧ x3 < 8 ∧ 0 ≤ 6 + x4 ∧ 6 + x4 < 14) ∧ (0 ≤ 12 + 14 * x3 + (6 + x4) ∧ 12 + 14 * x3 + (6 + x4) < 134) ∧ (in32 (x4 + 1)) ∧ PW S mX4_comes Q 76 [some (Aq 34), some (Iq x1), some (Iq x2), some (Iq x3), some (Iq (x4 + 1))] [] (mup mem 35 (12 + 14 * x3 + (6 + x4)).toNat (-1)))))) :
    PW S mX4_comes Q 76 [some (Aq 34), some (Iq x1), some (Iq x2), some (Iq x3), some (Iq x4)] [] mem := by
  refine pw_iload eX4_comes_76 rfl ?_
  refine pw_bipush eX4_comes_78 ⟨by decide, by decide⟩ (by decide) ?_
  refine pw_icmp_ge eX4_comes_80 (fun c1 => ?_) (fun c1 => ?_)
  · have h := h.1 c1
    refine pw_aload_n eX4_comes_104 rfl rfl ?_
    refine gf_RX4_7 rfl eX4_comes_105 sh34 ?_
    refine pw_iconst eX4_comes_108 ⟨by decide, by decide⟩ ?_
    refine pw_dup2 eX4_comes_109 rfl rfl ?_
    refine pw_iald eX4_comes_110 sh35 (by decide) ?_
    refine pw_iconst eX4_comes_111 ⟨by decide, by decide⟩ ?_
    obtain ⟨ob2, h⟩ := h
    refine pw_iadd eX4_comes_112 ob2 ?_
    refine pw_iast eX4_comes_113 sh35 (by decide) ?_
    exact pw_vret eX4_comes_114 h
  · have h := h.2 c1
    refine pw_aload_n eX4_comes_83 rfl rfl ?_
    refine gf_RX4_7 rfl eX4_comes_84 sh34 ?_
    refine pw_iload_n eX4_comes_87 rfl rfl ?_
    refine pw_bipush eX4_comes_88 ⟨by decide, by decide⟩ (by decide) ?_
    refine pw_iload eX4_comes_90 rfl ?_
    obtain ⟨ob3, h⟩ := h
    refine pw_iadd eX4_comes_92 ob3 ?_
    obtain ⟨ob4, h⟩ := h
    refine pw_cS (z := mX4_at) (av := [Iq x3, Iq (6 + x4)]) (st := [Aq 35]) eX4_comes_93 lk_RX4_59 rfl (by decide) (by decide) (Nat.le_of_ble_eq_true rfl) rfl (ct_X4_at (mem := mem) ob4) ?_
    show PW S mX4_comes Q 96 [some (Aq 34), some (Iq x1), some (Iq x2), some (Iq x3), some (Iq x4)] [Iq (12 + 14 * x3 + (6 + x4)), Aq 35] mem
    refine pw_iconst eX4_comes_96 ⟨by decide, by decide⟩ ?_
    obtain ⟨ob5, h⟩ := h
    refine pw_iast eX4_comes_97 sh35 ob5 ?_
    obtain ⟨ob6, h⟩ := h
    refine pw_iinc (ls2 := [some (Aq 34), some (Iq x1), some (Iq x2), some (Iq x3), some (Iq (x4 + 1))]) eX4_comes_98 rfl ob6 rfl ?_
    refine pw_goto eX4_comes_101 ?_
    exact h
set_option maxRecDepth 100000 in
theorem rg_X4_lends_0 {S : Sx} {Q : Option PV → Zm → Prop} {mem : Zm}   {x1 : Int} 
    (h : (0 ≤ x1 ∧ x1 < 8) ∧ ((((mem 35 (12 + 14 * (x1).toNat)) = 4) → ((0 ≤ mem 35 1) ∧ ((((mem 35 1) % 2 = 0) → (Q (some (Iq 1)) mem)) ∧ (¬ ((mem 35 1) % 2 = 0) → (Q (some (Iq 0)) mem))))) ∧ (((mem 35 (12 + 14 * (x1).toNat)) = 5) → (Q (some (Iq 0)) mem)) ∧ (((mem 35 (12 + 14 * (x1).toNat)) = 6) → ((0 ≤ x1 ∧ x1 < 8) ∧ (((20 ≤ mem 35 (12 + 14 * (x1).toNat + 4)) → (Q (some (Iq 0)) mem)) ∧ (¬ (20 ≤ mem 35 (12 + 14 * (x1).toNat + 4)) → (Q (some (Iq 1)) mem))))) ∧ (((mem 35 (12 + 14 * (x1).toNat)) < 4 ∨ 6 < (mem 35 (12 + 14 * (x1).toNat))) → (Q (some (Iq 1)) mem)))) :
    PW S mX4_lends Q 0 [some (Aq 34), some (Iq x1)] [] mem := by
  refine pw_aload_n eX4_lends_0 rfl rfl ?_
  refine pw_iload_n eX4_lends_1 rfl rfl ?_
  refine pw_iconst eX4_lends_2 ⟨by decide, by decide⟩ ?_
  obtain ⟨ob1, h⟩ := h
  refine pw_cV (z := mX4_its) (av := [Iq x1, Iq 0]) (st := []) eX4_lends_3 lk_RX4_71 rfl (by decide) (by decide) sh34 rfl rfl (Nat.le_of_ble_eq_true rfl) rfl (ct_X4_its (mem := mem) ⟨ob1.1, ob1.2, by decide, by decide⟩) ?_
  show PW S mX4_lends Q 6 [some (Aq 34), some (Iq x1)] [Iq (mem 35 (12 + 14 * (x1).toNat))] mem
  obtain ⟨hk0, hk1, hk2, hkd⟩ := h
  refine pw_tsw (ps := [(4, 32), (5, 49), (6, 51)]) (td := 68) eX4_lends_6 rfl (by decide) (by decide) rfl ⟨fun c2 => ?_, fun c2 => ?_, fun c2 => ?_, trivial⟩ (fun c2 => ?_)
  · have h := hk0 c2
    refine pw_aload_n eX4_lends_32 rfl rfl ?_
    refine gf_RX4_7 rfl eX4_lends_33 sh34 ?_
    refine pw_iconst eX4_lends_36 ⟨by decide, by decide⟩ ?_
    refine pw_iald eX4_lends_37 sh35 (by decide) ?_
    refine pw_iconst eX4_lends_38 ⟨by decide, by decide⟩ ?_
    obtain ⟨ob3, h⟩ := h
    refine pw_irem eX4_lends_39 ob3 (by decide) ?_
    refine pw_if_ne eX4_lends_40 (fun c4 => ?_) (fun c4 => ?_)
    · have h := h.2 c4
      refine pw_iconst eX4_lends_47 ⟨by decide, by decide⟩ ?_
      exact pw_iret eX4_lends_48 h
    · have h := h.1 (Classical.not_not.mp c4)
      refine pw_iconst eX4_lends_43 ⟨by decide, by decide⟩ ?_
      refine pw_goto eX4_lends_44 ?_
      exact pw_iret eX4_lends_48 h
  · have h := hk1 c2
    refine pw_iconst eX4_lends_49 ⟨by decide, by decide⟩ ?_
    exact pw_iret eX4_lends_50 h
  · have h := hk2 c2
    refine pw_aload_n eX4_lends_51 rfl rfl ?_
    refine pw_iload_n eX4_lends_52 rfl rfl ?_
    refine pw_iconst eX4_lends_53 ⟨by decide, by decide⟩ ?_
    obtain ⟨ob5, h⟩ := h
    refine pw_cV (z := mX4_its) (av := [Iq x1, Iq 4]) (st := []) eX4_lends_54 lk_RX4_71 rfl (by decide) (by decide) sh34 rfl rfl (Nat.le_of_ble_eq_true rfl) rfl (ct_X4_its (mem := mem) ⟨ob5.1, ob5.2, by decide, by decide⟩) ?_
    show PW S mX4_lends Q 57 [some (Aq 34), some (Iq x1)] [Iq (mem 35 (12 + 14 * (x1).toNat + 4))] mem
    refine pw_bipush eX4_lends_57 ⟨by decide, by decide⟩ (by decide) ?_
    refine pw_icmp_ge eX4_lends_59 (fun c6 => ?_) (fun c6 => ?_)
    · have h := h.1 c6
      refine pw_iconst eX4_lends_66 ⟨by decide, by decide⟩ ?_
      exact pw_iret eX4_lends_67 h
    · have h := h.2 c6
      refine pw_iconst eX4_lends_62 ⟨by decide, by decide⟩ ?_
      refine pw_goto eX4_lends_63 ?_
      exact pw_iret eX4_lends_67 h
  · have h := hkd c2
    refine pw_iconst eX4_lends_68 ⟨by decide, by decide⟩ ?_
    exact pw_iret eX4_lends_69 h
set_option maxRecDepth 100000 in
theorem rg_X4_slipsOf_0 {S : Sx} {Q : Option PV → Zm → Prop} {mem : Zm}   {x1 x2 x3 : Int} 
    (h : (((0 ≤ x3) → ((0 ≤ x2) ∧ (((x2 % 2 = 1) → ((0 ≤ x3) ∧ (in32 ((x3 % 10) * 10)) ∧ (0 ≤ x3) ∧ (in32 (((x3 % 10) * 10) + (x3 / 10))) ∧ (0 ≤ ((x3 % 10) * 10) + (x3 / 10)) ∧ (in32 (10 * (o7 ((((x3 % 10) * 10) + (x3 / 10)) / 10)))) ∧ (0 ≤ ((x3 % 10) * 10) + (x3 / 10)) ∧ (in32 ((10 * (o7 ((((x3 % 10) * 10) + (x3 / 10)) / 10))) + (o7 ((((x3 % 10) * 10) + (x3 / 10)) % 10)))) ∧ (((x1 = 1) → ((0 ≤ x2) ∧ (((x2 % 4 = 0) → (Q (some (Iq (-1))) mem)) ∧ (¬ (x2 % 4 = 0) → (Q (some (Iq x3)) mem))))) ∧ ((x1 = 2) → (Q (some (Iq (((x3 % 10) * 10) + (x3 / 10)))) mem)) ∧ ((x1 = 3) → (Q (some (Iq ((10 * (o7 ((((x3 % 10) * 10) + (x3 / 10)) / 10))) + (o7 ((((x3 % 10) * 10) + (x3 / 10)) % 10))))) mem)) ∧ ((x1 = 4) → ((0 ≤ mem 35 1) ∧ ((((mem 35 1) % 2 = 1) → (Q (some (Iq (-1))) mem)) ∧ (¬ ((mem 35 1) % 2 = 1) → (Q (some (Iq ((10 * (o7 ((((x3 % 10) * 10) + (x3 / 10)) / 10))) + (o7 ((((x3 % 10) * 10) + (x3 / 10)) % 10))))) mem))))) ∧ ((x1 = 5) → (Q (some (Iq (-1))) mem)) ∧ ((x1 = 6) → ((0 ≤ x2) ∧ (((x2 % 4 = 0) → (Q (some (Iq (-1))) mem)) ∧ (¬ (x2 % 4 = 0) → (Q (some (Iq x3)) mem))))) ∧ ((x1 < 1 ∨ 6 < x1) → (Q (some (Iq x3)) mem))))) ∧ (¬ (x2 % 2 = 1) → ((0 ≤ x3) ∧ (in32 (10 * (o7 (x3 / 10)))) ∧ (0 ≤ x3) ∧ (in32 ((10 * (o7 (x3 / 10))) + (o7 (x3 % 10)))) ∧ (((x1 = 1) → ((0 ≤ x2) ∧ (((x2 % 4 = 0) → (Q (some (Iq (-1))) mem)) ∧ (¬ (x2 % 4 = 0) → (Q (some (Iq x3)) mem))))) ∧ ((x1 = 2) → (Q (some (Iq x3)) mem)) ∧ ((x1 = 3) → (Q (some (Iq ((10 * (o7 (x3 / 10))) + (o7 (x3 % 10))))) mem)) ∧ ((x1 = 4) → ((0 ≤ mem 35 1) ∧ ((((mem 35 1) % 2 = 1) → (Q (some (Iq (-1))) mem)) ∧ (¬ ((mem 35 1) % 2 = 1) → (Q (some (Iq ((10 * (o7 (x3 / 10))) + (o7 (x3 % 10))))) mem))))) ∧ ((x1 = 5) → (Q (some (Iq (-1))) mem)) ∧ ((x1 = 6) → ((0 ≤ x2) ∧ (((x2 % 4 = 0) → (Q (some (Iq (-1))) mem)) ∧ (¬ (x2 % 4 = 0) → (Q (some (Iq x3)) mem))))) ∧ ((x1 < 1 ∨ 6 < x1) → (Q (some (Iq x3)) mem)))))))) ∧ (¬ (0 ≤ x3) → (Q (some (Iq (-1))) mem)))) :
    PW S mX4_slipsOf Q 0 [some (Aq 34), some (Iq x1), some (Iq x2), some (Iq x3), none, none] [] mem := by
  refine pw_iload_n eX4_slipsOf_0 rfl rfl ?_
  refine pw_if_ge eX4_slipsOf_1 (fun c1 => ?_) (fun c1 => ?_)
  · have h := h.1 c1
    refine pw_iload_n eX4_slipsOf_6 rfl rfl ?_
    refine pw_iconst eX4_slipsOf_7 ⟨by decide, by decide⟩ ?_
    obtain ⟨ob2, h⟩ := h
    refine pw_irem eX4_slipsOf_8 ob2 (by decide) ?_
    refine pw_iconst eX4_slipsOf_9 ⟨by decide, by decide⟩ ?_
    refine pw_icmp_ne eX4_slipsOf_10 (fun c3 => ?_) (fun c3 => ?_)
    · have h := h.2 c3
      refine pw_iload_n eX4_slipsOf_28 rfl rfl ?_
      refine pw_istore (ls2 := [some (Aq 34), some (Iq x1), some (Iq x2), some (Iq x3), some (Iq x3), none]) eX4_slipsOf_29 (by decide) rfl ?_
      refine pw_bipush eX4_slipsOf_31 ⟨by decide, by decide⟩ (by decide) ?_
      refine pw_iload eX4_slipsOf_33 rfl ?_
      refine pw_bipush eX4_slipsOf_35 ⟨by decide, by decide⟩ (by decide) ?_
      obtain ⟨ob4, h⟩ := h
      refine pw_idiv eX4_slipsOf_37 ob4 (by decide) ?_
      refine pw_cS (z := mX4_oneForSeven) (av := [Iq (x3 / 10)]) (st := [Iq 10]) eX4_slipsOf_38 lk_RX4_74 rfl (by decide) (by decide) (Nat.le_of_ble_eq_true rfl) rfl (ct_X4_oneForSeven (mem := mem)) ?_
      show PW S mX4_slipsOf Q 41 [some (Aq 34), some (Iq x1), some (Iq x2), some (Iq x3), some (Iq x3), none] [Iq (o7 (x3 / 10)), Iq 10] mem
      obtain ⟨ob5, h⟩ := h
      refine pw_imul eX4_slipsOf_41 ob5 ?_
      refine pw_iload eX4_slipsOf_42 rfl ?_
      refine pw_bipush eX4_slipsOf_44 ⟨by decide, by decide⟩ (by decide) ?_
      obtain ⟨ob6, h⟩ := h
      refine pw_irem eX4_slipsOf_46 ob6 (by decide) ?_
      refine pw_cS (z := mX4_oneForSeven) (av := [Iq (x3 % 10)]) (st := [Iq (10 * (o7 (x3 / 10)))]) eX4_slipsOf_47 lk_RX4_74 rfl (by decide) (by decide) (Nat.le_of_ble_eq_true rfl) rfl (ct_X4_oneForSeven (mem := mem)) ?_
      show PW S mX4_slipsOf Q 50 [some (Aq 34), some (Iq x1), some (Iq x2), some (Iq x3), some (Iq x3), none] [Iq (o7 (x3 % 10)), Iq (10 * (o7 (x3 / 10)))] mem
      obtain ⟨ob7, h⟩ := h
      refine pw_iadd eX4_slipsOf_50 ob7 ?_
      refine pw_istore (ls2 := [some (Aq 34), some (Iq x1), some (Iq x2), some (Iq x3), some (Iq x3), some (Iq ((10 * (o7 (x3 / 10))) + (o7 (x3 % 10))))]) eX4_slipsOf_51 (by decide) rfl ?_
      refine pw_iload_n eX4_slipsOf_53 rfl rfl ?_
      obtain ⟨hk0, hk1, hk2, hk3, hk4, hk5, hkd⟩ := h
      refine pw_tsw (ps := [(1, 92), (2, 104), (3, 107), (4, 110), (5, 129), (6, 92)]) (td := 131) eX4_slipsOf_54 rfl (by decide) (by decide) rfl ⟨fun c8 => ?_, fun c8 => ?_, fun c8 => ?_, fun c8 => ?_, fun c8 => ?_, fun c8 => ?_, trivial⟩ (fun c8 => ?_)
      · have h := hk0 c8
        refine pw_iload_n eX4_slipsOf_92 rfl rfl ?_
        refine pw_iconst eX4_slipsOf_93 ⟨by decide, by decide⟩ ?_
        obtain ⟨ob9, h⟩ := h
        refine pw_irem eX4_slipsOf_94 ob9 (by decide) ?_
        refine pw_if_ne eX4_slipsOf_95 (fun c10 => ?_) (fun c10 => ?_)
        · have h := h.2 c10
          refine pw_iload_n eX4_slipsOf_102 rfl rfl ?_
          exact pw_iret eX4_slipsOf_103 h
        · have h := h.1 (Classical.not_not.mp c10)
          refine pw_iconst eX4_slipsOf_98 ⟨by decide, by decide⟩ ?_
          refine pw_goto eX4_slipsOf_99 ?_
          exact pw_iret eX4_slipsOf_103 h
      · have h := hk1 c8
        refine pw_iload eX4_slipsOf_104 rfl ?_
        exact pw_iret eX4_slipsOf_106 h
      · have h := hk2 c8
        refine pw_iload eX4_slipsOf_107 rfl ?_
        exact pw_iret eX4_slipsOf_109 h
      · have h := hk3 c8
        refine pw_aload_n eX4_slipsOf_110 rfl rfl ?_
        refine gf_RX4_7 rfl eX4_slipsOf_111 sh34 ?_
        refine pw_iconst eX4_slipsOf_114 ⟨by decide, by decide⟩ ?_
        refine pw_iald eX4_slipsOf_115 sh35 (by decide) ?_
        refine pw_iconst eX4_slipsOf_116 ⟨by decide, by decide⟩ ?_
        obtain ⟨ob11, h⟩ := h
        refine pw_irem eX4_slipsOf_117 ob11 (by decide) ?_
        refine pw_iconst eX4_slipsOf_118 ⟨by decide, by decide⟩ ?_
        refine pw_icmp_ne eX4_slipsOf_119 (fun c12 => ?_) (fun c12 => ?_)
        · have h := h.2 c12
          refine pw_iload eX4_slipsOf_126 rfl ?_
          exact pw_iret eX4_slipsOf_128 h
        · have h := h.1 (Classical.not_not.mp c12)
          refine pw_iconst eX4_slipsOf_122 ⟨by decide, by decide⟩ ?_
          refine pw_goto eX4_slipsOf_123 ?_
          exact pw_iret eX4_slipsOf_128 h
      · have h := hk4 c8
        refine pw_iconst eX4_slipsOf_129 ⟨by decide, by decide⟩ ?_
        exact pw_iret eX4_slipsOf_130 h
      · have h := hk5 c8
        refine pw_iload_n eX4_slipsOf_92 rfl rfl ?_
        refine pw_iconst eX4_slipsOf_93 ⟨by decide, by decide⟩ ?_
        obtain ⟨ob13, h⟩ := h
        refine pw_irem eX4_slipsOf_94 ob13 (by decide) ?_
        refine pw_if_ne eX4_slipsOf_95 (fun c14 => ?_) (fun c14 => ?_)
        · have h := h.2 c14
          refine pw_iload_n eX4_slipsOf_102 rfl rfl ?_
          exact pw_iret eX4_slipsOf_103 h
        · have h := h.1 (Classical.not_not.mp c14)
          refine pw_iconst eX4_slipsOf_98 ⟨by decide, by decide⟩ ?_
          refine pw_goto eX4_slipsOf_99 ?_
          exact pw_iret eX4_slipsOf_103 h
      · have h := hkd c8
        refine pw_iload_n eX4_slipsOf_131 rfl rfl ?_
        exact pw_iret eX4_slipsOf_132 h
    · have h := h.1 (Classical.not_not.mp c3)
      refine pw_iload_n eX4_slipsOf_13 rfl rfl ?_
      refine pw_bipush eX4_slipsOf_14 ⟨by decide, by decide⟩ (by decide) ?_
      obtain ⟨ob15, h⟩ := h
      refine pw_irem eX4_slipsOf_16 ob15 (by decide) ?_
      refine pw_bipush eX4_slipsOf_17 ⟨by decide, by decide⟩ (by decide) ?_
      obtain ⟨ob16, h⟩ := h
      refine pw_imul eX4_slipsOf_19 ob16 ?_
      refine pw_iload_n eX4_slipsOf_20 rfl rfl ?_
      refine pw_bipush eX4_slipsOf_21 ⟨by decide, by decide⟩ (by decide) ?_
      obtain ⟨ob17, h⟩ := h
      refine pw_idiv eX4_slipsOf_23 ob17 (by decide) ?_
      obtain ⟨ob18, h⟩ := h
      refine pw_iadd eX4_slipsOf_24 ob18 ?_
      refine pw_goto eX4_slipsOf_25 ?_
      refine pw_istore (ls2 := [some (Aq 34), some (Iq x1), some (Iq x2), some (Iq x3), some (Iq (((x3 % 10) * 10) + (x3 / 10))), none]) eX4_slipsOf_29 (by decide) rfl ?_
      refine pw_bipush eX4_slipsOf_31 ⟨by decide, by decide⟩ (by decide) ?_
      refine pw_iload eX4_slipsOf_33 rfl ?_
      refine pw_bipush eX4_slipsOf_35 ⟨by decide, by decide⟩ (by decide) ?_
      obtain ⟨ob19, h⟩ := h
      refine pw_idiv eX4_slipsOf_37 ob19 (by decide) ?_
      refine pw_cS (z := mX4_oneForSeven) (av := [Iq ((((x3 % 10) * 10) + (x3 / 10)) / 10)]) (st := [Iq 10]) eX4_slipsOf_38 lk_RX4_74 rfl (by decide) (by decide) (Nat.le_of_ble_eq_true rfl) rfl (ct_X4_oneForSeven (mem := mem)) ?_
      show PW S mX4_slipsOf Q 41 [some (Aq 34), some (Iq x1), some (Iq x2), some (Iq x3), some (Iq (((x3 % 10) * 10) + (x3 / 10))), none] [Iq (o7 ((((x3 % 10) * 10) + (x3 / 10)) / 10)), Iq 10] mem
      obtain ⟨ob20, h⟩ := h
      refine pw_imul eX4_slipsOf_41 ob20 ?_
      refine pw_iload eX4_slipsOf_42 rfl ?_
      refine pw_bipush eX4_slipsOf_44 ⟨by decide, by decide⟩ (by decide) ?_
      obtain ⟨ob21, h⟩ := h
      refine pw_irem eX4_slipsOf_46 ob21 (by decide) ?_
      refine pw_cS (z := mX4_oneForSeven) (av := [Iq ((((x3 % 10) * 10) + (x3 / 10)) % 10)]) (st := [Iq (10 * (o7 ((((x3 % 10) * 10) + (x3 / 10)) / 10)))]) eX4_slipsOf_47 lk_RX4_74 rfl (by decide) (by decide) (Nat.le_of_ble_eq_true rfl) rfl (ct_X4_oneForSeven (mem := mem)) ?_
      show PW S mX4_slipsOf Q 50 [some (Aq 34), some (Iq x1), some (Iq x2), some (Iq x3), some (Iq (((x3 % 10) * 10) + (x3 / 10))), none] [Iq (o7 ((((x3 % 10) * 10) + (x3 / 10)) % 10)), Iq (10 * (o7 ((((x3 % 10) * 10) + (x3 / 10)) / 10)))] mem
      obtain ⟨ob22, h⟩ := h
      refine pw_iadd eX4_slipsOf_50 ob22 ?_
      refine pw_istore (ls2 := [some (Aq 34), some (Iq x1), some (Iq x2), some (Iq x3), some (Iq (((x3 % 10) * 10) + (x3 / 10))), some (Iq ((10 * (o7 ((((x3 % 10) * 10) + (x3 / 10)) / 10))) + (o7 ((((x3 % 10) * 10) + (x3 / 10)) % 10))))]) eX4_slipsOf_51 (by decide) rfl ?_
      refine pw_iload_n eX4_slipsOf_53 rfl rfl ?_
      obtain ⟨hk0, hk1, hk2, hk3, hk4, hk5, hkd⟩ := h
      refine pw_tsw (ps := [(1, 92), (2, 104), (3, 107), (4, 110), (5, 129), (6, 92)]) (td := 131) eX4_slipsOf_54 rfl (by decide) (by decide) rfl ⟨fun c23 => ?_, fun c23 => ?_, fun c23 => ?_, fun c23 => ?_, fun c23 => ?_, fun c23 => ?_, trivial⟩ (fun c23 => ?_)
      · have h := hk0 c23
        refine pw_iload_n eX4_slipsOf_92 rfl rfl ?_
        refine pw_iconst eX4_slipsOf_93 ⟨by decide, by decide⟩ ?_
        obtain ⟨ob24, h⟩ := h
        refine pw_irem eX4_slipsOf_94 ob24 (by decide) ?_
        refine pw_if_ne eX4_slipsOf_95 (fun c25 => ?_) (fun c25 => ?_)
        · have h := h.2 c25
          refine pw_iload_n eX4_slipsOf_102 rfl rfl ?_
          exact pw_iret eX4_slipsOf_103 h
        · have h := h.1 (Classical.not_not.mp c25)
          refine pw_iconst eX4_slipsOf_98 ⟨by decide, by decide⟩ ?_
          refine pw_goto eX4_slipsOf_99 ?_
          exact pw_iret eX4_slipsOf_103 h
      · have h := hk1 c23
        refine pw_iload eX4_slipsOf_104 rfl ?_
        exact pw_iret eX4_slipsOf_106 h
      · have h := hk2 c23
        refine pw_iload eX4_slipsOf_107 rfl ?_
        exact pw_iret eX4_slipsOf_109 h
      · have h := hk3 c23
        refine pw_aload_n eX4_slipsOf_110 rfl rfl ?_
        refine gf_RX4_7 rfl eX4_slipsOf_111 sh34 ?_
        refine pw_iconst eX4_slipsOf_114 ⟨by decide, by decide⟩ ?_
        refine pw_iald eX4_slipsOf_115 sh35 (by decide) ?_
        refine pw_iconst eX4_slipsOf_116 ⟨by decide, by decide⟩ ?_
        obtain ⟨ob26, h⟩ := h
        refine pw_irem eX4_slipsOf_117 ob26 (by decide) ?_
        refine pw_iconst eX4_slipsOf_118 ⟨by decide, by decide⟩ ?_
        refine pw_icmp_ne eX4_slipsOf_119 (fun c27 => ?_) (fun c27 => ?_)
        · have h := h.2 c27
          refine pw_iload eX4_slipsOf_126 rfl ?_
          exact pw_iret eX4_slipsOf_128 h
        · have h := h.1 (Classical.not_not.mp c27)
          refine pw_iconst eX4_slipsOf_122 ⟨by decide, by decide⟩ ?_
          refine pw_goto eX4_slipsOf_123 ?_
          exact pw_iret eX4_slipsOf_128 h
      · have h := hk4 c23
        refine pw_iconst eX4_slipsOf_129 ⟨by decide, by decide⟩ ?_
        exact pw_iret eX4_slipsOf_130 h
      · have h := hk5 c23
        refine pw_iload_n eX4_slipsOf_92 rfl rfl ?_
        refine pw_iconst eX4_slipsOf_93 ⟨by decide, by decide⟩ ?_
        obtain ⟨ob28, h⟩ := h
        refine pw_irem eX4_slipsOf_94 ob28 (by decide) ?_
        refine pw_if_ne eX4_slipsOf_95 (fun c29 => ?_) (fun c29 => ?_)
        · have h := h.2 c29
          refine pw_iload_n eX4_slipsOf_102 rfl rfl ?_
          exact pw_iret eX4_slipsOf_103 h
        · have h := h.1 (Classical.not_not.mp c29)
          refine pw_iconst eX4_slipsOf_98 ⟨by decide, by decide⟩ ?_
          refine pw_goto eX4_slipsOf_99 ?_
          exact pw_iret eX4_slipsOf_103 h
      · have h := hkd c23
        refine pw_iload_n eX4_slipsOf_131 rfl rfl ?_
        exact pw_iret eX4_slipsOf_132 h
  · have h := h.2 c1
    refine pw_iconst eX4_slipsOf_4 ⟨by decide, by decide⟩ ?_
    exact pw_iret eX4_slipsOf_5 h
set_option maxRecDepth 100000 in
theorem rg_X4_answered_0 {S : Sx} {Q : Option PV → Zm → Prop} {mem : Zm}   {x1 : Int} 
    (h : PW S mX4_answered Q 4 [some (Aq 34), some (Iq x1), some (Iq 0), some (Iq 0)] [] mem) :
    PW S mX4_answered Q 0 [some (Aq 34), some (Iq x1), none, none] [] mem := by
  refine pw_iconst eX4_answered_0 ⟨by decide, by decide⟩ ?_
  refine pw_istore_n (ls2 := [some (Aq 34), some (Iq x1), some (Iq 0), none]) eX4_answered_1 rfl (by decide) rfl ?_
  refine pw_iconst eX4_answered_2 ⟨by decide, by decide⟩ ?_
  refine pw_istore_n (ls2 := [some (Aq 34), some (Iq x1), some (Iq 0), some (Iq 0)]) eX4_answered_3 rfl (by decide) rfl ?_
  exact h

set_option maxRecDepth 100000 in
theorem rg_X4_answered_4 {S : Sx} {Q : Option PV → Zm → Prop} {mem : Zm}   {x1 x2 x3 : Int} 
    (h : (((8 ≤ x3) → (Q (some (Iq x2)) mem)) ∧ (¬ (8 ≤ x3) → ((in32 (6 + x3)) ∧ (0 ≤ x1 ∧ x1 < 8 ∧ 0 ≤ 6 + x3 ∧ 6 + x3 < 14) ∧ (((mem 35 (12 + 14 * (x1).toNat + (6 + x3).toNat) = -1) → ((in32 (x3 + 1)) ∧ PW S mX4_answered Q 4 [some (Aq 34), some (Iq x1), some (Iq (bOr x2 0)), some (Iq (x3 + 1))] [] mem)) ∧ (¬ (mem 35 (12 + 14 * (x1).toNat + (6 + x3).toNat) = -1) → ((in32 (x3 + 1)) ∧ PW S mX4_answered Q 4 [some (Aq 34), some (Iq x1), some (Iq (bOr x2 (bShl 1 x3))), some (Iq (x3 + 1))] [] mem))))))) :
    PW S mX4_answered Q 4 [some (Aq 34), some (Iq x1), some (Iq x2), some (Iq x3)] [] mem := by
  refine pw_iload_n eX4_answered_4 rfl rfl ?_
  refine pw_bipush eX4_answered_5 ⟨by decide, by decide⟩ (by decide) ?_
  refine pw_icmp_ge eX4_answered_7 (fun c1 => ?_) (fun c1 => ?_)
  · have h := h.1 c1
    refine pw_iload_n eX4_answered_39 rfl rfl ?_
    exact pw_iret eX4_answered_40 h
  · have h := h.2 c1
    refine pw_iload_n eX4_answered_10 rfl rfl ?_
    refine pw_aload_n eX4_answered_11 rfl rfl ?_
    refine pw_iload_n eX4_answered_12 rfl rfl ?_
    refine pw_bipush eX4_answered_13 ⟨by decide, by decide⟩ (by decide) ?_
    refine pw_iload_n eX4_answered_15 rfl rfl ?_
    obtain ⟨ob2, h⟩ := h
    refine pw_iadd eX4_answered_16 ob2 ?_
    obtain ⟨ob3, h⟩ := h
    refine pw_cV (z := mX4_its) (av := [Iq x1, Iq (6 + x3)]) (st := [Iq x2]) eX4_answered_17 lk_RX4_71 rfl (by decide) (by decide) sh34 rfl rfl (Nat.le_of_ble_eq_true rfl) rfl (ct_X4_its (mem := mem) ob3) ?_
    show PW S mX4_answered Q 20 [some (Aq 34), some (Iq x1), some (Iq x2), some (Iq x3)] [Iq (mem 35 (12 + 14 * (x1).toNat + (6 + x3).toNat)), Iq x2] mem
    refine pw_iconst eX4_answered_20 ⟨by decide, by decide⟩ ?_
    refine pw_icmp_eq eX4_answered_21 (fun c4 => ?_) (fun c4 => ?_)
    · have h := h.1 c4
      refine pw_iconst eX4_answered_30 ⟨by decide, by decide⟩ ?_
      refine pw_ior eX4_answered_31 ?_
      refine pw_istore_n (ls2 := [some (Aq 34), some (Iq x1), some (Iq (bOr x2 0)), some (Iq x3)]) eX4_answered_32 rfl (by decide) rfl ?_
      obtain ⟨ob5, h⟩ := h
      refine pw_iinc (ls2 := [some (Aq 34), some (Iq x1), some (Iq (bOr x2 0)), some (Iq (x3 + 1))]) eX4_answered_33 rfl ob5 rfl ?_
      refine pw_goto eX4_answered_36 ?_
      exact h
    · have h := h.2 c4
      refine pw_iconst eX4_answered_24 ⟨by decide, by decide⟩ ?_
      refine pw_iload_n eX4_answered_25 rfl rfl ?_
      refine pw_ishl eX4_answered_26 ?_
      refine pw_goto eX4_answered_27 ?_
      refine pw_ior eX4_answered_31 ?_
      refine pw_istore_n (ls2 := [some (Aq 34), some (Iq x1), some (Iq (bOr x2 (bShl 1 x3))), some (Iq x3)]) eX4_answered_32 rfl (by decide) rfl ?_
      obtain ⟨ob6, h⟩ := h
      refine pw_iinc (ls2 := [some (Aq 34), some (Iq x1), some (Iq (bOr x2 (bShl 1 x3))), some (Iq (x3 + 1))]) eX4_answered_33 rfl ob6 rfl ?_
      refine pw_goto eX4_answered_36 ?_
      exact h
set_option maxRecDepth 100000 in
theorem rg_X4_may_0 {S : Sx} {Q : Option PV → Zm → Prop} {mem : Zm}   {x1 x2 x3 : Int} 
    (h : (((x2 = 0) → (Q (some (Iq (bI (0 ≤ x3 ∧ x3 ≤ 6)))) mem)) ∧ ((x2 = 1) → (Q (some (Iq (bI (0 ≤ x3 ∧ x3 ≤ 255)))) mem)) ∧ ((x2 = 2) → ((((x3 = -1) → (Q (some (Iq 1)) mem)) ∧ (¬ (x3 = -1) → ((((0 ≤ x3 ∧ x3 < mem 35 0) → ((((x3 = x1) → (Q (some (Iq 0)) mem)) ∧ (¬ (x3 = x1) → (Q (some (Iq 1)) mem))))) ∧ (¬ (0 ≤ x3 ∧ x3 < mem 35 0) → (Q (some (Iq 0)) mem)))))))) ∧ ((x2 = 3) → (Q (some (Iq (bI (0 ≤ x3 ∧ x3 ≤ 9999)))) mem)) ∧ ((x2 = 4) → (Q (some (Iq (bI (0 ≤ x3 ∧ x3 ≤ 999)))) mem)) ∧ ((x2 = 5) → (Q (some (Iq (bI (0 ≤ x3 ∧ x3 ≤ 9999)))) mem)) ∧ ((x2 < 0 ∨ 5 < x2) → (Q (some (Iq 0)) mem)))) :
    PW S mX4_may Q 0 [some (Aq 34), some (Iq x1), some (Iq x2), some (Iq x3)] [] mem := by
  refine pw_iload_n eX4_may_0 rfl rfl ?_
  obtain ⟨hk0, hk1, hk2, hk3, hk4, hk5, hkd⟩ := h
  refine pw_tsw (ps := [(0, 40), (1, 50), (2, 60), (3, 94), (4, 84), (5, 94)]) (td := 104) eX4_may_1 rfl (by decide) (by decide) rfl ⟨fun c1 => ?_, fun c1 => ?_, fun c1 => ?_, fun c1 => ?_, fun c1 => ?_, fun c1 => ?_, trivial⟩ (fun c1 => ?_)
  · have h := hk0 c1
    refine pw_iload_n eX4_may_40 rfl rfl ?_
    refine pw_i2l eX4_may_41 ?_
    refine pw_lconst (v := 0) eX4_may_42 ⟨by decide, by decide⟩ rfl ?_
    refine pw_ldc2 (n := 6) eX4_may_43 ⟨by decide, by decide⟩ kc_RX4_62 ?_
    refine pw_cS (z := mX4_isIn) (av := [Jq x3, Jq 0, Jq 6]) (st := []) eX4_may_46 lk_RX4_49 rfl (by decide) (by decide) (Nat.le_of_ble_eq_true rfl) rfl (ct_X4_isIn (mem := mem)) ?_
    show PW S mX4_may Q 49 [some (Aq 34), some (Iq x1), some (Iq x2), some (Iq x3)] [Iq (bI (0 ≤ x3 ∧ x3 ≤ 6))] mem
    exact pw_iret eX4_may_49 h
  · have h := hk1 c1
    refine pw_iload_n eX4_may_50 rfl rfl ?_
    refine pw_i2l eX4_may_51 ?_
    refine pw_lconst (v := 0) eX4_may_52 ⟨by decide, by decide⟩ rfl ?_
    refine pw_ldc2 (n := 255) eX4_may_53 ⟨by decide, by decide⟩ kc_RX4_64 ?_
    refine pw_cS (z := mX4_isIn) (av := [Jq x3, Jq 0, Jq 255]) (st := []) eX4_may_56 lk_RX4_49 rfl (by decide) (by decide) (Nat.le_of_ble_eq_true rfl) rfl (ct_X4_isIn (mem := mem)) ?_
    show PW S mX4_may Q 59 [some (Aq 34), some (Iq x1), some (Iq x2), some (Iq x3)] [Iq (bI (0 ≤ x3 ∧ x3 ≤ 255))] mem
    exact pw_iret eX4_may_59 h
  · have h := hk2 c1
    refine pw_iload_n eX4_may_60 rfl rfl ?_
    refine pw_iconst eX4_may_61 ⟨by decide, by decide⟩ ?_
    refine pw_icmp_eq eX4_may_62 (fun c2 => ?_) (fun c2 => ?_)
    · have h := h.1 c2
      refine pw_iconst eX4_may_78 ⟨by decide, by decide⟩ ?_
      refine pw_goto eX4_may_79 ?_
      exact pw_iret eX4_may_83 h
    · have h := h.2 c2
      refine pw_aload_n eX4_may_65 rfl rfl ?_
      refine pw_iload_n eX4_may_66 rfl rfl ?_
      refine pw_cV (z := mX4_isChild) (av := [Iq x3]) (st := []) eX4_may_67 lk_RX4_77 rfl (by decide) (by decide) sh34 rfl rfl (Nat.le_of_ble_eq_true rfl) rfl (ct_X4_isChild (mem := mem)) ?_
      show PW S mX4_may Q 70 [some (Aq 34), some (Iq x1), some (Iq x2), some (Iq x3)] [Iq (bI (0 ≤ x3 ∧ x3 < mem 35 0))] mem
      refine pw_if_eq eX4_may_70 (fun c3 => ?_) (fun c3 => ?_)
      · have h := h.2 (bI0.mp c3)
        refine pw_iconst eX4_may_82 ⟨by decide, by decide⟩ ?_
        exact pw_iret eX4_may_83 h
      · have h := h.1 (bI1.mp c3)
        refine pw_iload_n eX4_may_73 rfl rfl ?_
        refine pw_iload_n eX4_may_74 rfl rfl ?_
        refine pw_icmp_eq eX4_may_75 (fun c4 => ?_) (fun c4 => ?_)
        · have h := h.1 c4
          refine pw_iconst eX4_may_82 ⟨by decide, by decide⟩ ?_
          exact pw_iret eX4_may_83 h
        · have h := h.2 c4
          refine pw_iconst eX4_may_78 ⟨by decide, by decide⟩ ?_
          refine pw_goto eX4_may_79 ?_
          exact pw_iret eX4_may_83 h
  · have h := hk3 c1
    refine pw_iload_n eX4_may_94 rfl rfl ?_
    refine pw_i2l eX4_may_95 ?_
    refine pw_lconst (v := 0) eX4_may_96 ⟨by decide, by decide⟩ rfl ?_
    refine pw_ldc2 (n := 9999) eX4_may_97 ⟨by decide, by decide⟩ kc_RX4_93 ?_
    refine pw_cS (z := mX4_isIn) (av := [Jq x3, Jq 0, Jq 9999]) (st := []) eX4_may_100 lk_RX4_49 rfl (by decide) (by decide) (Nat.le_of_ble_eq_true rfl) rfl (ct_X4_isIn (mem := mem)) ?_
    show PW S mX4_may Q 103 [some (Aq 34), some (Iq x1), some (Iq x2), some (Iq x3)] [Iq (bI (0 ≤ x3 ∧ x3 ≤ 9999))] mem
    exact pw_iret eX4_may_103 h
  · have h := hk4 c1
    refine pw_iload_n eX4_may_84 rfl rfl ?_
    refine pw_i2l eX4_may_85 ?_
    refine pw_lconst (v := 0) eX4_may_86 ⟨by decide, by decide⟩ rfl ?_
    refine pw_ldc2 (n := 999) eX4_may_87 ⟨by decide, by decide⟩ kc_RX4_91 ?_
    refine pw_cS (z := mX4_isIn) (av := [Jq x3, Jq 0, Jq 999]) (st := []) eX4_may_90 lk_RX4_49 rfl (by decide) (by decide) (Nat.le_of_ble_eq_true rfl) rfl (ct_X4_isIn (mem := mem)) ?_
    show PW S mX4_may Q 93 [some (Aq 34), some (Iq x1), some (Iq x2), some (Iq x3)] [Iq (bI (0 ≤ x3 ∧ x3 ≤ 999))] mem
    exact pw_iret eX4_may_93 h
  · have h := hk5 c1
    refine pw_iload_n eX4_may_94 rfl rfl ?_
    refine pw_i2l eX4_may_95 ?_
    refine pw_lconst (v := 0) eX4_may_96 ⟨by decide, by decide⟩ rfl ?_
    refine pw_ldc2 (n := 9999) eX4_may_97 ⟨by decide, by decide⟩ kc_RX4_93 ?_
    refine pw_cS (z := mX4_isIn) (av := [Jq x3, Jq 0, Jq 9999]) (st := []) eX4_may_100 lk_RX4_49 rfl (by decide) (by decide) (Nat.le_of_ble_eq_true rfl) rfl (ct_X4_isIn (mem := mem)) ?_
    show PW S mX4_may Q 103 [some (Aq 34), some (Iq x1), some (Iq x2), some (Iq x3)] [Iq (bI (0 ≤ x3 ∧ x3 ≤ 9999))] mem
    exact pw_iret eX4_may_103 h
  · have h := hkd c1
    refine pw_iconst eX4_may_104 ⟨by decide, by decide⟩ ?_
    exact pw_iret eX4_may_105 h
set_option maxRecDepth 100000 in
theorem rg_X4_answer_0 {S : Sx} {Q : Option PV → Zm → Prop} {mem : Zm}   {x1 x2 : Int} 
    (h : (((0 ≤ x1 ∧ x1 < mem 35 0) → ((((0 ≤ x2 ∧ x2 < 8) → ((in32 (6 + x2)) ∧ (0 ≤ x1 ∧ x1 < 8 ∧ 0 ≤ 6 + x2 ∧ 6 + x2 < 14) ∧ Q (some (Iq (mem 35 (12 + 14 * (x1).toNat + (6 + x2).toNat)))) mem)) ∧ (¬ (0 ≤ x2 ∧ x2 < 8) → ((fOK mem (-1000001)) ∧ Q (some (Iq (-1000001))) (fnds mem (-1000001))))))) ∧ (¬ (0 ≤ x1 ∧ x1 < mem 35 0) → ((fOK mem (-1000001)) ∧ Q (some (Iq (-1000001))) (fnds mem (-1000001)))))) :
    PW S mX4_answer Q 0 [some (Aq 34), some (Iq x1), some (Iq x2)] [] mem := by
  refine pw_aload_n eX4_answer_0 rfl rfl ?_
  refine pw_iload_n eX4_answer_1 rfl rfl ?_
  refine pw_cV (z := mX4_isChild) (av := [Iq x1]) (st := []) eX4_answer_2 lk_RX4_77 rfl (by decide) (by decide) sh34 rfl rfl (Nat.le_of_ble_eq_true rfl) rfl (ct_X4_isChild (mem := mem)) ?_
  show PW S mX4_answer Q 5 [some (Aq 34), some (Iq x1), some (Iq x2)] [Iq (bI (0 ≤ x1 ∧ x1 < mem 35 0))] mem
  refine pw_if_eq eX4_answer_5 (fun c1 => ?_) (fun c1 => ?_)
  · have h := h.2 (bI0.mp c1)
    refine pw_aload_n eX4_answer_27 rfl rfl ?_
    refine pw_ldc (n := (-1000001)) eX4_answer_28 ⟨by decide, by decide⟩ kc_RX4_37 ?_
    obtain ⟨ob2, h⟩ := h
    refine pw_cV (z := mX4_finds) (av := [Iq (-1000001)]) (st := []) eX4_answer_30 lk_RX4_39 rfl (by decide) (by decide) sh34 rfl rfl (Nat.le_of_ble_eq_true rfl) rfl (ct_X4_finds' (mem := mem) ob2) ?_
    show PW S mX4_answer Q 33 [some (Aq 34), some (Iq x1), some (Iq x2)] [Iq (-1000001)] (fnds mem (-1000001))
    exact pw_iret eX4_answer_33 h
  · have h := h.1 (bI1.mp c1)
    refine pw_iload_n eX4_answer_8 rfl rfl ?_
    refine pw_cS (z := mX4_isSum) (av := [Iq x2]) (st := []) eX4_answer_9 lk_RX4_43 rfl (by decide) (by decide) (Nat.le_of_ble_eq_true rfl) rfl (ct_X4_isSum (mem := mem)) ?_
    show PW S mX4_answer Q 12 [some (Aq 34), some (Iq x1), some (Iq x2)] [Iq (bI (0 ≤ x2 ∧ x2 < 8))] mem
    refine pw_if_eq eX4_answer_12 (fun c3 => ?_) (fun c3 => ?_)
    · have h := h.2 (bI0.mp c3)
      refine pw_aload_n eX4_answer_27 rfl rfl ?_
      refine pw_ldc (n := (-1000001)) eX4_answer_28 ⟨by decide, by decide⟩ kc_RX4_37 ?_
      obtain ⟨ob4, h⟩ := h
      refine pw_cV (z := mX4_finds) (av := [Iq (-1000001)]) (st := []) eX4_answer_30 lk_RX4_39 rfl (by decide) (by decide) sh34 rfl rfl (Nat.le_of_ble_eq_true rfl) rfl (ct_X4_finds' (mem := mem) ob4) ?_
      show PW S mX4_answer Q 33 [some (Aq 34), some (Iq x1), some (Iq x2)] [Iq (-1000001)] (fnds mem (-1000001))
      exact pw_iret eX4_answer_33 h
    · have h := h.1 (bI1.mp c3)
      refine pw_aload_n eX4_answer_15 rfl rfl ?_
      refine pw_iload_n eX4_answer_16 rfl rfl ?_
      refine pw_bipush eX4_answer_17 ⟨by decide, by decide⟩ (by decide) ?_
      refine pw_iload_n eX4_answer_19 rfl rfl ?_
      obtain ⟨ob5, h⟩ := h
      refine pw_iadd eX4_answer_20 ob5 ?_
      obtain ⟨ob6, h⟩ := h
      refine pw_cV (z := mX4_its) (av := [Iq x1, Iq (6 + x2)]) (st := []) eX4_answer_21 lk_RX4_71 rfl (by decide) (by decide) sh34 rfl rfl (Nat.le_of_ble_eq_true rfl) rfl (ct_X4_its (mem := mem) ob6) ?_
      show PW S mX4_answer Q 24 [some (Aq 34), some (Iq x1), some (Iq x2)] [Iq (mem 35 (12 + 14 * (x1).toNat + (6 + x2).toNat))] mem
      refine pw_goto eX4_answer_24 ?_
      exact pw_iret eX4_answer_33 h
set_option maxRecDepth 100000 in
theorem rg_X4_alikeOf_0 {S : Sx} {Q : Option PV → Zm → Prop} {mem : Zm}   {x1 x2 : Int} 
    (h : PW S mX4_alikeOf Q 5 [some (Aq 34), some (Iq x1), some (Iq x2), some (Iq 0), some (Iq 0), none] [] mem) :
    PW S mX4_alikeOf Q 0 [some (Aq 34), some (Iq x1), some (Iq x2), none, none, none] [] mem := by
  refine pw_iconst eX4_alikeOf_0 ⟨by decide, by decide⟩ ?_
  refine pw_istore_n (ls2 := [some (Aq 34), some (Iq x1), some (Iq x2), some (Iq 0), none, none]) eX4_alikeOf_1 rfl (by decide) rfl ?_
  refine pw_iconst eX4_alikeOf_2 ⟨by decide, by decide⟩ ?_
  refine pw_istore (ls2 := [some (Aq 34), some (Iq x1), some (Iq x2), some (Iq 0), some (Iq 0), none]) eX4_alikeOf_3 (by decide) rfl ?_
  exact h

set_option maxRecDepth 100000 in
theorem rg_X4_alikeOf_5 {S : Sx} {Q : Option PV → Zm → Prop} {mem : Zm}   {x1 x2 x3 x4 : Int} 
    (h : (((8 ≤ x4) → (Q (some (Iq x3)) mem)) ∧ (¬ (8 ≤ x4) → ((in32 (6 + x4)) ∧ (0 ≤ x1 ∧ x1 < 8 ∧ 0 ≤ 6 + x4 ∧ 6 + x4 < 14) ∧ (in32 (6 + x4)) ∧ (0 ≤ x2 ∧ x2 < 8 ∧ 0 ≤ 6 + x4 ∧ 6 + x4 < 14) ∧ (((mem 35 (12 + 14 * (x1).toNat + (6 + x4).toNat) = mem 35 (12 + 14 * (x2).toNat + (6 + x4).toNat)) → ((((mem 35 (12 + 14 * (x1).toNat + (6 + x4).toNat) = -1) → ((in32 (x4 + 1)) ∧ PW S mX4_alikeOf Q 5 [some (Aq 34), some (Iq x1), some (Iq x2), some (Iq (bOr x3 0)), some (Iq (x4 + 1)), none] [] mem)) ∧ (¬ (mem 35 (12 + 14 * (x1).toNat + (6 + x4).toNat) = -1) → ((in32 (4 + x4)) ∧ (0 ≤ 4 + x4 ∧ 4 + x4 < 134) ∧ (((mem 35 (12 + 14 * (x1).toNat + (6 + x4).toNat) = mem 35 (4 + x4).toNat) → ((in32 (x4 + 1)) ∧ PW S mX4_alikeOf Q 5 [some (Aq 34), some (Iq x1), some (Iq x2), some (Iq (bOr x3 0)), some (Iq (x4 + 1)), none] [] mem)) ∧ (¬ (mem 35 (12 + 14 * (x1).toNat + (6 + x4).toNat) = mem 35 (4 + x4).toNat) → ((in32 (x4 + 1)) ∧ PW S mX4_alikeOf Q 5 [some (Aq 34), some (Iq x1), some (Iq x2), some (Iq (bOr x3 (bShl 1 x4))), some (Iq (x4 + 1)), none] [] mem)))))))) ∧ (¬ (mem 35 (12 + 14 * (x1).toNat + (6 + x4).toNat) = mem 35 (12 + 14 * (x2).toNat + (6 + x4).toNat)) → ((in32 (x4 + 1)) ∧ PW S mX4_alikeOf Q 5 [some (Aq 34), some (Iq x1), some (Iq x2), some (Iq (bOr x3 0)), some (Iq (x4 + 1)), none] [] mem))))))) :
    PW S mX4_alikeOf Q 5 [some (Aq 34), some (Iq x1), some (Iq x2), some (Iq x3), some (Iq x4), none] [] mem := by
  refine pw_iload eX4_alikeOf_5 rfl ?_
  refine pw_bipush eX4_alikeOf_7 ⟨by decide, by decide⟩ (by decide) ?_
  refine pw_icmp_ge eX4_alikeOf_9 (fun c1 => ?_) (fun c1 => ?_)
  · have h := h.1 c1
    refine pw_iload_n eX4_alikeOf_76 rfl rfl ?_
    exact pw_iret eX4_alikeOf_77 h
  · have h := h.2 c1
    refine pw_aload_n eX4_alikeOf_12 rfl rfl ?_
    refine pw_iload_n eX4_alikeOf_13 rfl rfl ?_
    refine pw_bipush eX4_alikeOf_14 ⟨by decide, by decide⟩ (by decide) ?_
    refine pw_iload eX4_alikeOf_16 rfl ?_
    obtain ⟨ob2, h⟩ := h
    refine pw_iadd eX4_alikeOf_18 ob2 ?_
    obtain ⟨ob3, h⟩ := h
    refine pw_cV (z := mX4_its) (av := [Iq x1, Iq (6 + x4)]) (st := []) eX4_alikeOf_19 lk_RX4_71 rfl (by decide) (by decide) sh34 rfl rfl (Nat.le_of_ble_eq_true rfl) rfl (ct_X4_its (mem := mem) ob3) ?_
    show PW S mX4_alikeOf Q 22 [some (Aq 34), some (Iq x1), some (Iq x2), some (Iq x3), some (Iq x4), none] [Iq (mem 35 (12 + 14 * (x1).toNat + (6 + x4).toNat))] mem
    refine pw_istore (ls2 := [some (Aq 34), some (Iq x1), some (Iq x2), some (Iq x3), some (Iq x4), some (Iq (mem 35 (12 + 14 * (x1).toNat + (6 + x4).toNat)))]) eX4_alikeOf_22 (by decide) rfl ?_
    refine pw_iload_n eX4_alikeOf_24 rfl rfl ?_
    refine pw_iload eX4_alikeOf_25 rfl ?_
    refine pw_aload_n eX4_alikeOf_27 rfl rfl ?_
    refine pw_iload_n eX4_alikeOf_28 rfl rfl ?_
    refine pw_bipush eX4_alikeOf_29 ⟨by decide, by decide⟩ (by decide) ?_
    refine pw_iload eX4_alikeOf_31 rfl ?_
    obtain ⟨ob4, h⟩ := h
    refine pw_iadd eX4_alikeOf_33 ob4 ?_
    obtain ⟨ob5, h⟩ := h
    refine pw_cV (z := mX4_its) (av := [Iq x2, Iq (6 + x4)]) (st := [Iq (mem 35 (12 + 14 * (x1).toNat + (6 + x4).toNat)), Iq x3]) eX4_alikeOf_34 lk_RX4_71 rfl (by decide) (by decide) sh34 rfl rfl (Nat.le_of_ble_eq_true rfl) rfl (ct_X4_its (mem := mem) ob5) ?_
    show PW S mX4_alikeOf Q 37 [some (Aq 34), some (Iq x1), some (Iq x2), some (Iq x3), some (Iq x4), some (Iq (mem 35 (12 + 14 * (x1).toNat + (6 + x4).toNat)))] [Iq (mem 35 (12 + 14 * (x2).toNat + (6 + x4).toNat)), Iq (mem 35 (12 + 14 * (x1).toNat + (6 + x4).toNat)), Iq x3] mem
    refine pw_icmp_ne eX4_alikeOf_37 (fun c6 => ?_) (fun c6 => ?_)
    · have h := h.2 c6
      refine pw_iconst eX4_alikeOf_67 ⟨by decide, by decide⟩ ?_
      refine pw_ior eX4_alikeOf_68 ?_
      refine pw_istore_n (ls2 := [some (Aq 34), some (Iq x1), some (Iq x2), some (Iq (bOr x3 0)), some (Iq x4), some (Iq (mem 35 (12 + 14 * (x1).toNat + (6 + x4).toNat)))]) eX4_alikeOf_69 rfl (by decide) rfl ?_
      obtain ⟨ob7, h⟩ := h
      refine pw_iinc (ls2 := [some (Aq 34), some (Iq x1), some (Iq x2), some (Iq (bOr x3 0)), some (Iq (x4 + 1)), some (Iq (mem 35 (12 + 14 * (x1).toNat + (6 + x4).toNat)))]) eX4_alikeOf_70 rfl ob7 rfl ?_
      refine pw_goto eX4_alikeOf_73 ?_
      exact pw_drop (bs := [true, true, true, true, true, false]) h
    · have h := h.1 (Classical.not_not.mp c6)
      refine pw_iload eX4_alikeOf_40 rfl ?_
      refine pw_iconst eX4_alikeOf_42 ⟨by decide, by decide⟩ ?_
      refine pw_icmp_eq eX4_alikeOf_43 (fun c8 => ?_) (fun c8 => ?_)
      · have h := h.1 c8
        refine pw_iconst eX4_alikeOf_67 ⟨by decide, by decide⟩ ?_
        refine pw_ior eX4_alikeOf_68 ?_
        refine pw_istore_n (ls2 := [some (Aq 34), some (Iq x1), some (Iq x2), some (Iq (bOr x3 0)), some (Iq x4), some (Iq (mem 35 (12 + 14 * (x1).toNat + (6 + x4).toNat)))]) eX4_alikeOf_69 rfl (by decide) rfl ?_
        obtain ⟨ob9, h⟩ := h
        refine pw_iinc (ls2 := [some (Aq 34), some (Iq x1), some (Iq x2), some (Iq (bOr x3 0)), some (Iq (x4 + 1)), some (Iq (mem 35 (12 + 14 * (x1).toNat + (6 + x4).toNat)))]) eX4_alikeOf_70 rfl ob9 rfl ?_
        refine pw_goto eX4_alikeOf_73 ?_
        exact pw_drop (bs := [true, true, true, true, true, false]) h
      · have h := h.2 c8
        refine pw_iload eX4_alikeOf_46 rfl ?_
        refine pw_aload_n eX4_alikeOf_48 rfl rfl ?_
        refine gf_RX4_7 rfl eX4_alikeOf_49 sh34 ?_
        refine pw_iconst eX4_alikeOf_52 ⟨by decide, by decide⟩ ?_
        refine pw_iload eX4_alikeOf_53 rfl ?_
        obtain ⟨ob10, h⟩ := h
        refine pw_iadd eX4_alikeOf_55 ob10 ?_
        obtain ⟨ob11, h⟩ := h
        refine pw_iald eX4_alikeOf_56 sh35 ob11 ?_
        refine pw_icmp_eq eX4_alikeOf_57 (fun c12 => ?_) (fun c12 => ?_)
        · have h := h.1 c12
          refine pw_iconst eX4_alikeOf_67 ⟨by decide, by decide⟩ ?_
          refine pw_ior eX4_alikeOf_68 ?_
          refine pw_istore_n (ls2 := [some (Aq 34), some (Iq x1), some (Iq x2), some (Iq (bOr x3 0)), some (Iq x4), some (Iq (mem 35 (12 + 14 * (x1).toNat + (6 + x4).toNat)))]) eX4_alikeOf_69 rfl (by decide) rfl ?_
          obtain ⟨ob13, h⟩ := h
          refine pw_iinc (ls2 := [some (Aq 34), some (Iq x1), some (Iq x2), some (Iq (bOr x3 0)), some (Iq (x4 + 1)), some (Iq (mem 35 (12 + 14 * (x1).toNat + (6 + x4).toNat)))]) eX4_alikeOf_70 rfl ob13 rfl ?_
          refine pw_goto eX4_alikeOf_73 ?_
          exact pw_drop (bs := [true, true, true, true, true, false]) h
        · have h := h.2 c12
          refine pw_iconst eX4_alikeOf_60 ⟨by decide, by decide⟩ ?_
          refine pw_iload eX4_alikeOf_61 rfl ?_
          refine pw_ishl eX4_alikeOf_63 ?_
          refine pw_goto eX4_alikeOf_64 ?_
          refine pw_ior eX4_alikeOf_68 ?_
          refine pw_istore_n (ls2 := [some (Aq 34), some (Iq x1), some (Iq x2), some (Iq (bOr x3 (bShl 1 x4))), some (Iq x4), some (Iq (mem 35 (12 + 14 * (x1).toNat + (6 + x4).toNat)))]) eX4_alikeOf_69 rfl (by decide) rfl ?_
          obtain ⟨ob14, h⟩ := h
          refine pw_iinc (ls2 := [some (Aq 34), some (Iq x1), some (Iq x2), some (Iq (bOr x3 (bShl 1 x4))), some (Iq (x4 + 1)), some (Iq (mem 35 (12 + 14 * (x1).toNat + (6 + x4).toNat)))]) eX4_alikeOf_70 rfl ob14 rfl ?_
          refine pw_goto eX4_alikeOf_73 ?_
          exact pw_drop (bs := [true, true, true, true, true, false]) h
set_option maxRecDepth 100000 in
theorem rg_X4_sumOf_0 {S : Sx} {Q : Option PV → Zm → Prop} {mem : Zm}   {x1 : Int} 
    (h : PW S mX4_sumOf Q 4 [some (Aq 34), some (Iq x1), some (Iq 0), some (Iq 0)] [] mem) :
    PW S mX4_sumOf Q 0 [some (Aq 34), some (Iq x1), none, none] [] mem := by
  refine pw_iconst eX4_sumOf_0 ⟨by decide, by decide⟩ ?_
  refine pw_istore_n (ls2 := [some (Aq 34), some (Iq x1), some (Iq 0), none]) eX4_sumOf_1 rfl (by decide) rfl ?_
  refine pw_iconst eX4_sumOf_2 ⟨by decide, by decide⟩ ?_
  refine pw_istore_n (ls2 := [some (Aq 34), some (Iq x1), some (Iq 0), some (Iq 0)]) eX4_sumOf_3 rfl (by decide) rfl ?_
  exact h

set_option maxRecDepth 100000 in
theorem rg_X4_sumOf_4 {S : Sx} {Q : Option PV → Zm → Prop} {mem : Zm}   {x1 x2 x3 : Int} 
    (h : (((mem 35 0 ≤ x3) → (Q (some (Iq x2)) mem)) ∧ (¬ (mem 35 0 ≤ x3) → ((0 ≤ x3 ∧ x3 < 8 ∧ 0 ≤ x1 ∧ x1 < 14) ∧ (in32 (x2 + (mem 35 (12 + 14 * (x3).toNat + (x1).toNat)))) ∧ (in32 (x3 + 1)) ∧ PW S mX4_sumOf Q 4 [some (Aq 34), some (Iq x1), some (Iq (x2 + (mem 35 (12 + 14 * (x3).toNat + (x1).toNat)))), some (Iq (x3 + 1))] [] mem)))) :
    PW S mX4_sumOf Q 4 [some (Aq 34), some (Iq x1), some (Iq x2), some (Iq x3)] [] mem := by
  refine pw_iload_n eX4_sumOf_4 rfl rfl ?_
  refine pw_aload_n eX4_sumOf_5 rfl rfl ?_
  refine gf_RX4_7 rfl eX4_sumOf_6 sh34 ?_
  refine pw_iconst eX4_sumOf_9 ⟨by decide, by decide⟩ ?_
  refine pw_iald eX4_sumOf_10 sh35 (by decide) ?_
  refine pw_icmp_ge eX4_sumOf_11 (fun c1 => ?_) (fun c1 => ?_)
  · have h := h.1 c1
    refine pw_iload_n eX4_sumOf_29 rfl rfl ?_
    exact pw_iret eX4_sumOf_30 h
  · have h := h.2 c1
    refine pw_iload_n eX4_sumOf_14 rfl rfl ?_
    refine pw_aload_n eX4_sumOf_15 rfl rfl ?_
    refine pw_iload_n eX4_sumOf_16 rfl rfl ?_
    refine pw_iload_n eX4_sumOf_17 rfl rfl ?_
    obtain ⟨ob2, h⟩ := h
    refine pw_cV (z := mX4_its) (av := [Iq x3, Iq x1]) (st := [Iq x2]) eX4_sumOf_18 lk_RX4_71 rfl (by decide) (by decide) sh34 rfl rfl (Nat.le_of_ble_eq_true rfl) rfl (ct_X4_its (mem := mem) ob2) ?_
    show PW S mX4_sumOf Q 21 [some (Aq 34), some (Iq x1), some (Iq x2), some (Iq x3)] [Iq (mem 35 (12 + 14 * (x3).toNat + (x1).toNat)), Iq x2] mem
    obtain ⟨ob3, h⟩ := h
    refine pw_iadd eX4_sumOf_21 ob3 ?_
    refine pw_istore_n (ls2 := [some (Aq 34), some (Iq x1), some (Iq (x2 + (mem 35 (12 + 14 * (x3).toNat + (x1).toNat)))), some (Iq x3)]) eX4_sumOf_22 rfl (by decide) rfl ?_
    obtain ⟨ob4, h⟩ := h
    refine pw_iinc (ls2 := [some (Aq 34), some (Iq x1), some (Iq (x2 + (mem 35 (12 + 14 * (x3).toNat + (x1).toNat)))), some (Iq (x3 + 1))]) eX4_sumOf_23 rfl ob4 rfl ?_
    refine pw_goto eX4_sumOf_26 ?_
    exact h
set_option maxRecDepth 100000 in
theorem rg_X4_lenders_0 {S : Sx} {Q : Option PV → Zm → Prop} {mem : Zm}   
    (h : PW S mX4_lenders Q 4 [some (Aq 34), some (Iq 0), some (Iq 0)] [] mem) :
    PW S mX4_lenders Q 0 [some (Aq 34), none, none] [] mem := by
  refine pw_iconst eX4_lenders_0 ⟨by decide, by decide⟩ ?_
  refine pw_istore_n (ls2 := [some (Aq 34), some (Iq 0), none]) eX4_lenders_1 rfl (by decide) rfl ?_
  refine pw_iconst eX4_lenders_2 ⟨by decide, by decide⟩ ?_
  refine pw_istore_n (ls2 := [some (Aq 34), some (Iq 0), some (Iq 0)]) eX4_lenders_3 rfl (by decide) rfl ?_
  exact h

set_option maxRecDepth 100000 in
theorem rg_X4_lenders_4 {S : Sx} {Q : Option PV → Zm → Prop} {mem : Zm}   {x1 x2 : Int} 
    (h : (((mem 35 0 ≤ x2) → (Q (some (Iq x1)) mem)) ∧ (¬ (mem 35 0 ≤ x2) → ((0 ≤ x2 ∧ x2 < 8) ∧ (((mem 35 (12 + 14 * (x2).toNat + 2) < 0) → ((in32 (x2 + 1)) ∧ PW S mX4_lenders Q 4 [some (Aq 34), some (Iq (bOr x1 0)), some (Iq (x2 + 1))] [] mem)) ∧ (¬ (mem 35 (12 + 14 * (x2).toNat + 2) < 0) → ((0 ≤ x2 ∧ x2 < 8) ∧ (in32 (x2 + 1)) ∧ PW S mX4_lenders Q 4 [some (Aq 34), some (Iq (bOr x1 (bShl 1 (mem 35 (12 + 14 * (x2).toNat + 2))))), some (Iq (x2 + 1))] [] mem))))))) :
    PW S mX4_lenders Q 4 [some (Aq 34), some (Iq x1), some (Iq x2)] [] mem := by
  refine pw_iload_n eX4_lenders_4 rfl rfl ?_
  refine pw_aload_n eX4_lenders_5 rfl rfl ?_
  refine gf_RX4_7 rfl eX4_lenders_6 sh34 ?_
  refine pw_iconst eX4_lenders_9 ⟨by decide, by decide⟩ ?_
  refine pw_iald eX4_lenders_10 sh35 (by decide) ?_
  refine pw_icmp_ge eX4_lenders_11 (fun c1 => ?_) (fun c1 => ?_)
  · have h := h.1 c1
    refine pw_iload_n eX4_lenders_44 rfl rfl ?_
    exact pw_iret eX4_lenders_45 h
  · have h := h.2 c1
    refine pw_iload_n eX4_lenders_14 rfl rfl ?_
    refine pw_aload_n eX4_lenders_15 rfl rfl ?_
    refine pw_iload_n eX4_lenders_16 rfl rfl ?_
    refine pw_iconst eX4_lenders_17 ⟨by decide, by decide⟩ ?_
    obtain ⟨ob2, h⟩ := h
    refine pw_cV (z := mX4_its) (av := [Iq x2, Iq 2]) (st := [Iq x1]) eX4_lenders_18 lk_RX4_71 rfl (by decide) (by decide) sh34 rfl rfl (Nat.le_of_ble_eq_true rfl) rfl (ct_X4_its (mem := mem) ⟨ob2.1, ob2.2, by decide, by decide⟩) ?_
    show PW S mX4_lenders Q 21 [some (Aq 34), some (Iq x1), some (Iq x2)] [Iq (mem 35 (12 + 14 * (x2).toNat + 2)), Iq x1] mem
    refine pw_if_lt eX4_lenders_21 (fun c3 => ?_) (fun c3 => ?_)
    · have h := h.1 c3
      refine pw_iconst eX4_lenders_35 ⟨by decide, by decide⟩ ?_
      refine pw_ior eX4_lenders_36 ?_
      refine pw_istore_n (ls2 := [some (Aq 34), some (Iq (bOr x1 0)), some (Iq x2)]) eX4_lenders_37 rfl (by decide) rfl ?_
      obtain ⟨ob4, h⟩ := h
      refine pw_iinc (ls2 := [some (Aq 34), some (Iq (bOr x1 0)), some (Iq (x2 + 1))]) eX4_lenders_38 rfl ob4 rfl ?_
      refine pw_goto eX4_lenders_41 ?_
      exact h
    · have h := h.2 c3
      refine pw_iconst eX4_lenders_24 ⟨by decide, by decide⟩ ?_
      refine pw_aload_n eX4_lenders_25 rfl rfl ?_
      refine pw_iload_n eX4_lenders_26 rfl rfl ?_
      refine pw_iconst eX4_lenders_27 ⟨by decide, by decide⟩ ?_
      obtain ⟨ob5, h⟩ := h
      refine pw_cV (z := mX4_its) (av := [Iq x2, Iq 2]) (st := [Iq 1, Iq x1]) eX4_lenders_28 lk_RX4_71 rfl (by decide) (by decide) sh34 rfl rfl (Nat.le_of_ble_eq_true rfl) rfl (ct_X4_its (mem := mem) ⟨ob5.1, ob5.2, by decide, by decide⟩) ?_
      show PW S mX4_lenders Q 31 [some (Aq 34), some (Iq x1), some (Iq x2)] [Iq (mem 35 (12 + 14 * (x2).toNat + 2)), Iq 1, Iq x1] mem
      refine pw_ishl eX4_lenders_31 ?_
      refine pw_goto eX4_lenders_32 ?_
      refine pw_ior eX4_lenders_36 ?_
      refine pw_istore_n (ls2 := [some (Aq 34), some (Iq (bOr x1 (bShl 1 (mem 35 (12 + 14 * (x2).toNat + 2))))), some (Iq x2)]) eX4_lenders_37 rfl (by decide) rfl ?_
      obtain ⟨ob6, h⟩ := h
      refine pw_iinc (ls2 := [some (Aq 34), some (Iq (bOr x1 (bShl 1 (mem 35 (12 + 14 * (x2).toNat + 2))))), some (Iq (x2 + 1))]) eX4_lenders_38 rfl ob6 rfl ?_
      refine pw_goto eX4_lenders_41 ?_
      exact h
set_option maxRecDepth 100000 in
theorem rg_X4_bests_0 {S : Sx} {Q : Option PV → Zm → Prop} {mem : Zm}   
    (h : PW S mX4_bests Q 6 [some (Aq 34), some (Iq 0), some (Iq (-1)), some (Iq 0), none] [] mem) :
    PW S mX4_bests Q 0 [some (Aq 34), none, none, none, none] [] mem := by
  refine pw_iconst eX4_bests_0 ⟨by decide, by decide⟩ ?_
  refine pw_istore_n (ls2 := [some (Aq 34), some (Iq 0), none, none, none]) eX4_bests_1 rfl (by decide) rfl ?_
  refine pw_iconst eX4_bests_2 ⟨by decide, by decide⟩ ?_
  refine pw_istore_n (ls2 := [some (Aq 34), some (Iq 0), some (Iq (-1)), none, none]) eX4_bests_3 rfl (by decide) rfl ?_
  refine pw_iconst eX4_bests_4 ⟨by decide, by decide⟩ ?_
  refine pw_istore_n (ls2 := [some (Aq 34), some (Iq 0), some (Iq (-1)), some (Iq 0), none]) eX4_bests_5 rfl (by decide) rfl ?_
  exact h

set_option maxRecDepth 100000 in
theorem rg_X4_bests_6 {S : Sx} {Q : Option PV → Zm → Prop} {mem : Zm}   {x1 x2 x3 : Int} 
    (h : (((mem 35 0 ≤ x3) → (Q (some (Iq x1)) mem)) ∧ (¬ (mem 35 0 ≤ x3) → ((0 ≤ x3 ∧ x3 < 8) ∧ (((mem 35 (12 + 14 * (x3).toNat + 3) ≤ x2) → ((((mem 35 (12 + 14 * (x3).toNat + 3) = x2) → ((in32 (x3 + 1)) ∧ PW S mX4_bests Q 6 [some (Aq 34), some (Iq (bOr x1 (bShl 1 x3))), some (Iq (max x2 (mem 35 (12 + 14 * (x3).toNat + 3)))), some (Iq (x3 + 1)), none] [] mem)) ∧ (¬ (mem 35 (12 + 14 * (x3).toNat + 3) = x2) → ((in32 (x3 + 1)) ∧ PW S mX4_bests Q 6 [some (Aq 34), some (Iq x1), some (Iq (max x2 (mem 35 (12 + 14 * (x3).toNat + 3)))), some (Iq (x3 + 1)), none] [] mem))))) ∧ (¬ (mem 35 (12 + 14 * (x3).toNat + 3) ≤ x2) → ((in32 (x3 + 1)) ∧ PW S mX4_bests Q 6 [some (Aq 34), some (Iq (bShl 1 x3)), some (Iq (max x2 (mem 35 (12 + 14 * (x3).toNat + 3)))), some (Iq (x3 + 1)), none] [] mem))))))) :
    PW S mX4_bests Q 6 [some (Aq 34), some (Iq x1), some (Iq x2), some (Iq x3), none] [] mem := by
  refine pw_iload_n eX4_bests_6 rfl rfl ?_
  refine pw_aload_n eX4_bests_7 rfl rfl ?_
  refine gf_RX4_7 rfl eX4_bests_8 sh34 ?_
  refine pw_iconst eX4_bests_11 ⟨by decide, by decide⟩ ?_
  refine pw_iald eX4_bests_12 sh35 (by decide) ?_
  refine pw_icmp_ge eX4_bests_13 (fun c1 => ?_) (fun c1 => ?_)
  · have h := h.1 c1
    refine pw_iload_n eX4_bests_65 rfl rfl ?_
    exact pw_iret eX4_bests_66 h
  · have h := h.2 c1
    refine pw_aload_n eX4_bests_16 rfl rfl ?_
    refine pw_iload_n eX4_bests_17 rfl rfl ?_
    refine pw_iconst eX4_bests_18 ⟨by decide, by decide⟩ ?_
    obtain ⟨ob2, h⟩ := h
    refine pw_cV (z := mX4_its) (av := [Iq x3, Iq 3]) (st := []) eX4_bests_19 lk_RX4_71 rfl (by decide) (by decide) sh34 rfl rfl (Nat.le_of_ble_eq_true rfl) rfl (ct_X4_its (mem := mem) ⟨ob2.1, ob2.2, by decide, by decide⟩) ?_
    show PW S mX4_bests Q 22 [some (Aq 34), some (Iq x1), some (Iq x2), some (Iq x3), none] [Iq (mem 35 (12 + 14 * (x3).toNat + 3))] mem
    refine pw_istore (ls2 := [some (Aq 34), some (Iq x1), some (Iq x2), some (Iq x3), some (Iq (mem 35 (12 + 14 * (x3).toNat + 3)))]) eX4_bests_22 (by decide) rfl ?_
    refine pw_iload eX4_bests_24 rfl ?_
    refine pw_iload_n eX4_bests_26 rfl rfl ?_
    refine pw_icmp_le eX4_bests_27 (fun c3 => ?_) (fun c3 => ?_)
    · have h := h.1 c3
      refine pw_iload eX4_bests_36 rfl ?_
      refine pw_iload_n eX4_bests_38 rfl rfl ?_
      refine pw_icmp_ne eX4_bests_39 (fun c4 => ?_) (fun c4 => ?_)
      · have h := h.2 c4
        refine pw_iload_n eX4_bests_50 rfl rfl ?_
        refine pw_istore_n (ls2 := [some (Aq 34), some (Iq x1), some (Iq x2), some (Iq x3), some (Iq (mem 35 (12 + 14 * (x3).toNat + 3)))]) eX4_bests_51 rfl (by decide) rfl ?_
        refine pw_iload_n eX4_bests_52 rfl rfl ?_
        refine pw_iload eX4_bests_53 rfl ?_
        refine pw_cS (z := mX4_greatest) (av := [Iq x2, Iq (mem 35 (12 + 14 * (x3).toNat + 3))]) (st := []) eX4_bests_55 lk_RX4_137 rfl (by decide) (by decide) (Nat.le_of_ble_eq_true rfl) rfl (ct_X4_greatest (mem := mem)) ?_
        show PW S mX4_bests Q 58 [some (Aq 34), some (Iq x1), some (Iq x2), some (Iq x3), some (Iq (mem 35 (12 + 14 * (x3).toNat + 3)))] [Iq (max x2 (mem 35 (12 + 14 * (x3).toNat + 3)))] mem
        refine pw_istore_n (ls2 := [some (Aq 34), some (Iq x1), some (Iq (max x2 (mem 35 (12 + 14 * (x3).toNat + 3)))), some (Iq x3), some (Iq (mem 35 (12 + 14 * (x3).toNat + 3)))]) eX4_bests_58 rfl (by decide) rfl ?_
        obtain ⟨ob5, h⟩ := h
        refine pw_iinc (ls2 := [some (Aq 34), some (Iq x1), some (Iq (max x2 (mem 35 (12 + 14 * (x3).toNat + 3)))), some (Iq (x3 + 1)), some (Iq (mem 35 (12 + 14 * (x3).toNat + 3)))]) eX4_bests_59 rfl ob5 rfl ?_
        refine pw_goto eX4_bests_62 ?_
        exact pw_drop (bs := [true, true, true, true, false]) h
      · have h := h.1 (Classical.not_not.mp c4)
        refine pw_iload_n eX4_bests_42 rfl rfl ?_
        refine pw_iconst eX4_bests_43 ⟨by decide, by decide⟩ ?_
        refine pw_iload_n eX4_bests_44 rfl rfl ?_
        refine pw_ishl eX4_bests_45 ?_
        refine pw_ior eX4_bests_46 ?_
        refine pw_goto eX4_bests_47 ?_
        refine pw_istore_n (ls2 := [some (Aq 34), some (Iq (bOr x1 (bShl 1 x3))), some (Iq x2), some (Iq x3), some (Iq (mem 35 (12 + 14 * (x3).toNat + 3)))]) eX4_bests_51 rfl (by decide) rfl ?_
        refine pw_iload_n eX4_bests_52 rfl rfl ?_
        refine pw_iload eX4_bests_53 rfl ?_
        refine pw_cS (z := mX4_greatest) (av := [Iq x2, Iq (mem 35 (12 + 14 * (x3).toNat + 3))]) (st := []) eX4_bests_55 lk_RX4_137 rfl (by decide) (by decide) (Nat.le_of_ble_eq_true rfl) rfl (ct_X4_greatest (mem := mem)) ?_
        show PW S mX4_bests Q 58 [some (Aq 34), some (Iq (bOr x1 (bShl 1 x3))), some (Iq x2), some (Iq x3), some (Iq (mem 35 (12 + 14 * (x3).toNat + 3)))] [Iq (max x2 (mem 35 (12 + 14 * (x3).toNat + 3)))] mem
        refine pw_istore_n (ls2 := [some (Aq 34), some (Iq (bOr x1 (bShl 1 x3))), some (Iq (max x2 (mem 35 (12 + 14 * (x3).toNat + 3)))), some (Iq x3), some (Iq (mem 35 (12 + 14 * (x3).toNat + 3)))]) eX4_bests_58 rfl (by decide) rfl ?_
        obtain ⟨ob6, h⟩ := h
        refine pw_iinc (ls2 := [some (Aq 34), some (Iq (bOr x1 (bShl 1 x3))), some (Iq (max x2 (mem 35 (12 + 14 * (x3).toNat + 3)))), some (Iq (x3 + 1)), some (Iq (mem 35 (12 + 14 * (x3).toNat + 3)))]) eX4_bests_59 rfl ob6 rfl ?_
        refine pw_goto eX4_bests_62 ?_
        exact pw_drop (bs := [true, true, true, true, false]) h
    · have h := h.2 c3
      refine pw_iconst eX4_bests_30 ⟨by decide, by decide⟩ ?_
      refine pw_iload_n eX4_bests_31 rfl rfl ?_
      refine pw_ishl eX4_bests_32 ?_
      refine pw_goto eX4_bests_33 ?_
      refine pw_istore_n (ls2 := [some (Aq 34), some (Iq (bShl 1 x3)), some (Iq x2), some (Iq x3), some (Iq (mem 35 (12 + 14 * (x3).toNat + 3)))]) eX4_bests_51 rfl (by decide) rfl ?_
      refine pw_iload_n eX4_bests_52 rfl rfl ?_
      refine pw_iload eX4_bests_53 rfl ?_
      refine pw_cS (z := mX4_greatest) (av := [Iq x2, Iq (mem 35 (12 + 14 * (x3).toNat + 3))]) (st := []) eX4_bests_55 lk_RX4_137 rfl (by decide) (by decide) (Nat.le_of_ble_eq_true rfl) rfl (ct_X4_greatest (mem := mem)) ?_
      show PW S mX4_bests Q 58 [some (Aq 34), some (Iq (bShl 1 x3)), some (Iq x2), some (Iq x3), some (Iq (mem 35 (12 + 14 * (x3).toNat + 3)))] [Iq (max x2 (mem 35 (12 + 14 * (x3).toNat + 3)))] mem
      refine pw_istore_n (ls2 := [some (Aq 34), some (Iq (bShl 1 x3)), some (Iq (max x2 (mem 35 (12 + 14 * (x3).toNat + 3)))), some (Iq x3), some (Iq (mem 35 (12 + 14 * (x3).toNat + 3)))]) eX4_bests_58 rfl (by decide) rfl ?_
      obtain ⟨ob7, h⟩ := h
      refine pw_iinc (ls2 := [some (Aq 34), some (Iq (bShl 1 x3)), some (Iq (max x2 (mem 35 (12 + 14 * (x3).toNat + 3)))), some (Iq (x3 + 1)), some (Iq (mem 35 (12 + 14 * (x3).toNat + 3)))]) eX4_bests_59 rfl ob7 rfl ?_
      refine pw_goto eX4_bests_62 ?_
      exact pw_drop (bs := [true, true, true, true, false]) h
set_option maxRecDepth 100000 in
theorem rg_X4_unknown_0 {S : Sx} {Q : Option PV → Zm → Prop} {mem : Zm}   
    (h : PW S mX4_unknown Q 6 [some (Aq 34), some (Iq 255), some (Iq 0)] [] mem) :
    PW S mX4_unknown Q 0 [some (Aq 34), none, none] [] mem := by
  refine pw_sipush eX4_unknown_0 ⟨by decide, by decide⟩ (by decide) ?_
  refine pw_istore_n (ls2 := [some (Aq 34), some (Iq 255), none]) eX4_unknown_3 rfl (by decide) rfl ?_
  refine pw_iconst eX4_unknown_4 ⟨by decide, by decide⟩ ?_
  refine pw_istore_n (ls2 := [some (Aq 34), some (Iq 255), some (Iq 0)]) eX4_unknown_5 rfl (by decide) rfl ?_
  exact h

set_option maxRecDepth 100000 in
theorem rg_X4_unknown_6 {S : Sx} {Q : Option PV → Zm → Prop} {mem : Zm}   {x1 x2 : Int} 
    (h : (((mem 35 0 ≤ x2) → (Q (some (Iq x1)) mem)) ∧ (¬ (mem 35 0 ≤ x2) → ((0 ≤ x2 ∧ x2 < 8) ∧ (in32 (x2 + 1)) ∧ PW S mX4_unknown Q 6 [some (Aq 34), some (Iq (bAnd x1 (bXor (mem 35 (12 + 14 * (x2).toNat + 1)) (-1)))), some (Iq (x2 + 1))] [] mem)))) :
    PW S mX4_unknown Q 6 [some (Aq 34), some (Iq x1), some (Iq x2)] [] mem := by
  refine pw_iload_n eX4_unknown_6 rfl rfl ?_
  refine pw_aload_n eX4_unknown_7 rfl rfl ?_
  refine gf_RX4_7 rfl eX4_unknown_8 sh34 ?_
  refine pw_iconst eX4_unknown_11 ⟨by decide, by decide⟩ ?_
  refine pw_iald eX4_unknown_12 sh35 (by decide) ?_
  refine pw_icmp_ge eX4_unknown_13 (fun c1 => ?_) (fun c1 => ?_)
  · have h := h.1 c1
    refine pw_iload_n eX4_unknown_33 rfl rfl ?_
    exact pw_iret eX4_unknown_34 h
  · have h := h.2 c1
    refine pw_iload_n eX4_unknown_16 rfl rfl ?_
    refine pw_aload_n eX4_unknown_17 rfl rfl ?_
    refine pw_iload_n eX4_unknown_18 rfl rfl ?_
    refine pw_iconst eX4_unknown_19 ⟨by decide, by decide⟩ ?_
    obtain ⟨ob2, h⟩ := h
    refine pw_cV (z := mX4_its) (av := [Iq x2, Iq 1]) (st := [Iq x1]) eX4_unknown_20 lk_RX4_71 rfl (by decide) (by decide) sh34 rfl rfl (Nat.le_of_ble_eq_true rfl) rfl (ct_X4_its (mem := mem) ⟨ob2.1, ob2.2, by decide, by decide⟩) ?_
    show PW S mX4_unknown Q 23 [some (Aq 34), some (Iq x1), some (Iq x2)] [Iq (mem 35 (12 + 14 * (x2).toNat + 1)), Iq x1] mem
    refine pw_iconst eX4_unknown_23 ⟨by decide, by decide⟩ ?_
    refine pw_ixor eX4_unknown_24 ?_
    refine pw_iand eX4_unknown_25 ?_
    refine pw_istore_n (ls2 := [some (Aq 34), some (Iq (bAnd x1 (bXor (mem 35 (12 + 14 * (x2).toNat + 1)) (-1)))), some (Iq x2)]) eX4_unknown_26 rfl (by decide) rfl ?_
    obtain ⟨ob3, h⟩ := h
    refine pw_iinc (ls2 := [some (Aq 34), some (Iq (bAnd x1 (bXor (mem 35 (12 + 14 * (x2).toNat + 1)) (-1)))), some (Iq (x2 + 1))]) eX4_unknown_27 rfl ob3 rfl ?_
    refine pw_goto eX4_unknown_30 ?_
    exact h
set_option maxRecDepth 100000 in
theorem rg_X4_chain_0 {S : Sx} {Q : Option PV → Zm → Prop} {mem : Zm}   {x1 : Int} 
    (h : (((0 ≤ x1 ∧ x1 < mem 35 0) → (PW S mX4_chain Q 19 [some (Aq 34), some (Iq x1), some (Iq 0), some (Iq x1)] [] mem)) ∧ (¬ (0 ≤ x1 ∧ x1 < mem 35 0) → ((fOK mem (-1000001)) ∧ Q (some (Iq (-1000001))) (fnds mem (-1000001)))))) :
    PW S mX4_chain Q 0 [some (Aq 34), some (Iq x1), none, none] [] mem := by
  refine pw_aload_n eX4_chain_0 rfl rfl ?_
  refine pw_iload_n eX4_chain_1 rfl rfl ?_
  refine pw_cV (z := mX4_isChild) (av := [Iq x1]) (st := []) eX4_chain_2 lk_RX4_77 rfl (by decide) (by decide) sh34 rfl rfl (Nat.le_of_ble_eq_true rfl) rfl (ct_X4_isChild (mem := mem)) ?_
  show PW S mX4_chain Q 5 [some (Aq 34), some (Iq x1), none, none] [Iq (bI (0 ≤ x1 ∧ x1 < mem 35 0))] mem
  refine pw_if_ne eX4_chain_5 (fun c1 => ?_) (fun c1 => ?_)
  · have h := h.1 (bI1.mp c1)
    refine pw_iconst eX4_chain_15 ⟨by decide, by decide⟩ ?_
    refine pw_istore_n (ls2 := [some (Aq 34), some (Iq x1), some (Iq 0), none]) eX4_chain_16 rfl (by decide) rfl ?_
    refine pw_iload_n eX4_chain_17 rfl rfl ?_
    refine pw_istore_n (ls2 := [some (Aq 34), some (Iq x1), some (Iq 0), some (Iq x1)]) eX4_chain_18 rfl (by decide) rfl ?_
    exact h
  · have h := h.2 (bI0.mp (Classical.not_not.mp c1))
    refine pw_aload_n eX4_chain_8 rfl rfl ?_
    refine pw_ldc (n := (-1000001)) eX4_chain_9 ⟨by decide, by decide⟩ kc_RX4_37 ?_
    obtain ⟨ob2, h⟩ := h
    refine pw_cV (z := mX4_finds) (av := [Iq (-1000001)]) (st := []) eX4_chain_11 lk_RX4_39 rfl (by decide) (by decide) sh34 rfl rfl (Nat.le_of_ble_eq_true rfl) rfl (ct_X4_finds' (mem := mem) ob2) ?_
    show PW S mX4_chain Q 14 [some (Aq 34), some (Iq x1), none, none] [Iq (-1000001)] (fnds mem (-1000001))
    exact pw_iret eX4_chain_14 h

set_option maxRecDepth 100000 in
theorem rg_X4_chain_19 {S : Sx} {Q : Option PV → Zm → Prop} {mem : Zm}   {x1 x2 x3 : Int} 
    (h : (((8 ≤ x2) → (Q (some (Iq x2)) mem)) ∧ (¬ (8 ≤ x2) → ((0 ≤ x3 ∧ x3 < 8) ∧ (((mem 35 (12 + 14 * (x3).toNat + 2) < 0) → (Q (some (Iq x2)) mem)) ∧ (¬ (mem 35 (12 + 14 * (x3).toNat + 2) < 0) → ((0 ≤ x3 ∧ x3 < 8) ∧ (in32 (x2 + 1)) ∧ PW S mX4_chain Q 19 [some (Aq 34), some (Iq x1), some (Iq (x2 + 1)), some (Iq (mem 35 (12 + 14 * (x3).toNat + 2)))] [] mem))))))) :
    PW S mX4_chain Q 19 [some (Aq 34), some (Iq x1), some (Iq x2), some (Iq x3)] [] mem := by
  refine pw_iload_n eX4_chain_19 rfl rfl ?_
  refine pw_bipush eX4_chain_20 ⟨by decide, by decide⟩ (by decide) ?_
  refine pw_icmp_ge eX4_chain_22 (fun c1 => ?_) (fun c1 => ?_)
  · have h := h.1 c1
    refine pw_iload_n eX4_chain_47 rfl rfl ?_
    exact pw_iret eX4_chain_48 h
  · have h := h.2 c1
    refine pw_aload_n eX4_chain_25 rfl rfl ?_
    refine pw_iload_n eX4_chain_26 rfl rfl ?_
    refine pw_iconst eX4_chain_27 ⟨by decide, by decide⟩ ?_
    obtain ⟨ob2, h⟩ := h
    refine pw_cV (z := mX4_its) (av := [Iq x3, Iq 2]) (st := []) eX4_chain_28 lk_RX4_71 rfl (by decide) (by decide) sh34 rfl rfl (Nat.le_of_ble_eq_true rfl) rfl (ct_X4_its (mem := mem) ⟨ob2.1, ob2.2, by decide, by decide⟩) ?_
    show PW S mX4_chain Q 31 [some (Aq 34), some (Iq x1), some (Iq x2), some (Iq x3)] [Iq (mem 35 (12 + 14 * (x3).toNat + 2))] mem
    refine pw_if_lt eX4_chain_31 (fun c3 => ?_) (fun c3 => ?_)
    · have h := h.1 c3
      refine pw_iload_n eX4_chain_47 rfl rfl ?_
      exact pw_iret eX4_chain_48 h
    · have h := h.2 c3
      refine pw_aload_n eX4_chain_34 rfl rfl ?_
      refine pw_iload_n eX4_chain_35 rfl rfl ?_
      refine pw_iconst eX4_chain_36 ⟨by decide, by decide⟩ ?_
      obtain ⟨ob4, h⟩ := h
      refine pw_cV (z := mX4_its) (av := [Iq x3, Iq 2]) (st := []) eX4_chain_37 lk_RX4_71 rfl (by decide) (by decide) sh34 rfl rfl (Nat.le_of_ble_eq_true rfl) rfl (ct_X4_its (mem := mem) ⟨ob4.1, ob4.2, by decide, by decide⟩) ?_
      show PW S mX4_chain Q 40 [some (Aq 34), some (Iq x1), some (Iq x2), some (Iq x3)] [Iq (mem 35 (12 + 14 * (x3).toNat + 2))] mem
      refine pw_istore_n (ls2 := [some (Aq 34), some (Iq x1), some (Iq x2), some (Iq (mem 35 (12 + 14 * (x3).toNat + 2)))]) eX4_chain_40 rfl (by decide) rfl ?_
      obtain ⟨ob5, h⟩ := h
      refine pw_iinc (ls2 := [some (Aq 34), some (Iq x1), some (Iq (x2 + 1)), some (Iq (mem 35 (12 + 14 * (x3).toNat + 2)))]) eX4_chain_41 rfl ob5 rfl ?_
      refine pw_goto eX4_chain_44 ?_
      exact h
set_option maxRecDepth 100000 in
theorem rg_X4_isAsked_0 {S : Sx} {Q : Option PV → Zm → Prop} {mem : Zm}   {x1 x2 : Int} 
    (h : (((0 ≤ x1 ∧ x1 < mem 35 0) → ((((0 ≤ x2 ∧ x2 ≤ 20) → (Q (some (Iq 1)) mem)) ∧ (¬ (0 ≤ x2 ∧ x2 ≤ 20) → (Q (some (Iq 0)) mem))))) ∧ (¬ (0 ≤ x1 ∧ x1 < mem 35 0) → (Q (some (Iq 0)) mem)))) :
    PW S mX4_isAsked Q 0 [some (Aq 34), some (Iq x1), some (Iq x2)] [] mem := by
  refine pw_aload_n eX4_isAsked_0 rfl rfl ?_
  refine pw_iload_n eX4_isAsked_1 rfl rfl ?_
  refine pw_cV (z := mX4_isChild) (av := [Iq x1]) (st := []) eX4_isAsked_2 lk_RX4_77 rfl (by decide) (by decide) sh34 rfl rfl (Nat.le_of_ble_eq_true rfl) rfl (ct_X4_isChild (mem := mem)) ?_
  show PW S mX4_isAsked Q 5 [some (Aq 34), some (Iq x1), some (Iq x2)] [Iq (bI (0 ≤ x1 ∧ x1 < mem 35 0))] mem
  refine pw_if_eq eX4_isAsked_5 (fun c1 => ?_) (fun c1 => ?_)
  · have h := h.2 (bI0.mp c1)
    refine pw_iconst eX4_isAsked_24 ⟨by decide, by decide⟩ ?_
    exact pw_iret eX4_isAsked_25 h
  · have h := h.1 (bI1.mp c1)
    refine pw_iload_n eX4_isAsked_8 rfl rfl ?_
    refine pw_i2l eX4_isAsked_9 ?_
    refine pw_lconst (v := 0) eX4_isAsked_10 ⟨by decide, by decide⟩ rfl ?_
    refine pw_ldc2 (n := 20) eX4_isAsked_11 ⟨by decide, by decide⟩ kc_RX4_161 ?_
    refine pw_cS (z := mX4_isIn) (av := [Jq x2, Jq 0, Jq 20]) (st := []) eX4_isAsked_14 lk_RX4_49 rfl (by decide) (by decide) (Nat.le_of_ble_eq_true rfl) rfl (ct_X4_isIn (mem := mem)) ?_
    show PW S mX4_isAsked Q 17 [some (Aq 34), some (Iq x1), some (Iq x2)] [Iq (bI (0 ≤ x2 ∧ x2 ≤ 20))] mem
    refine pw_if_eq eX4_isAsked_17 (fun c2 => ?_) (fun c2 => ?_)
    · have h := h.2 (bI0.mp c2)
      refine pw_iconst eX4_isAsked_24 ⟨by decide, by decide⟩ ?_
      exact pw_iret eX4_isAsked_25 h
    · have h := h.1 (bI1.mp c2)
      refine pw_iconst eX4_isAsked_20 ⟨by decide, by decide⟩ ?_
      refine pw_goto eX4_isAsked_21 ?_
      exact pw_iret eX4_isAsked_25 h
set_option maxRecDepth 100000 in
theorem rg_X4_odds_0 {S : Sx} {Q : Option PV → Zm → Prop} {mem : Zm}   {x1 x2 x3 : Int} 
    (h : (((0 ≤ x1 ∧ x1 < mem 35 0) → ((((0 ≤ x2 ∧ x2 ≤ 20) → ((((0 ≤ x3 ∧ x3 ≤ 1) → ((0 ≤ x1 ∧ x1 < 8) ∧ (0 ≤ mem 35 (12 + 14 * (x1).toNat + 1) ∧ mem 35 (12 + 14 * (x1).toNat + 1) < 256) ∧ PW S mX4_odds Q 58 [some (Aq 34), some (Iq x1), some (Iq x2), some (Iq x3), some (Jq 1), none, some (Jq 1), none, some (Iq (pcn (mem 35 (12 + 14 * (x1).toNat + 1)))), some (Iq 0)] [] mem)) ∧ (¬ (0 ≤ x3 ∧ x3 ≤ 1) → ((fOK mem (-1000001)) ∧ Q (some (Jq (-1000001))) (fnds mem (-1000001))))))) ∧ (¬ (0 ≤ x2 ∧ x2 ≤ 20) → ((fOK mem (-1000001)) ∧ Q (some (Jq (-1000001))) (fnds mem (-1000001))))))) ∧ (¬ (0 ≤ x1 ∧ x1 < mem 35 0) → ((fOK mem (-1000001)) ∧ Q (some (Jq (-1000001))) (fnds mem (-1000001)))))) :
    PW S mX4_odds Q 0 [some (Aq 34), some (Iq x1), some (Iq x2), some (Iq x3), none, none, none, none, none, none] [] mem := by
  refine pw_aload_n eX4_odds_0 rfl rfl ?_
  refine pw_iload_n eX4_odds_1 rfl rfl ?_
  refine pw_cV (z := mX4_isChild) (av := [Iq x1]) (st := []) eX4_odds_2 lk_RX4_77 rfl (by decide) (by decide) sh34 rfl rfl (Nat.le_of_ble_eq_true rfl) rfl (ct_X4_isChild (mem := mem)) ?_
  show PW S mX4_odds Q 5 [some (Aq 34), some (Iq x1), some (Iq x2), some (Iq x3), none, none, none, none, none, none] [Iq (bI (0 ≤ x1 ∧ x1 < mem 35 0))] mem
  refine pw_if_eq eX4_odds_5 (fun c1 => ?_) (fun c1 => ?_)
  · have h := h.2 (bI0.mp c1)
    refine pw_aload_n eX4_odds_30 rfl rfl ?_
    refine pw_ldc (n := (-1000001)) eX4_odds_31 ⟨by decide, by decide⟩ kc_RX4_37 ?_
    obtain ⟨ob2, h⟩ := h
    refine pw_cV (z := mX4_finds) (av := [Iq (-1000001)]) (st := []) eX4_odds_33 lk_RX4_39 rfl (by decide) (by decide) sh34 rfl rfl (Nat.le_of_ble_eq_true rfl) rfl (ct_X4_finds' (mem := mem) ob2) ?_
    show PW S mX4_odds Q 36 [some (Aq 34), some (Iq x1), some (Iq x2), some (Iq x3), none, none, none, none, none, none] [Iq (-1000001)] (fnds mem (-1000001))
    refine pw_i2l eX4_odds_36 ?_
    exact pw_lret eX4_odds_37 h
  · have h := h.1 (bI1.mp c1)
    refine pw_iload_n eX4_odds_8 rfl rfl ?_
    refine pw_i2l eX4_odds_9 ?_
    refine pw_lconst (v := 0) eX4_odds_10 ⟨by decide, by decide⟩ rfl ?_
    refine pw_ldc2 (n := 20) eX4_odds_11 ⟨by decide, by decide⟩ kc_RX4_161 ?_
    refine pw_cS (z := mX4_isIn) (av := [Jq x2, Jq 0, Jq 20]) (st := []) eX4_odds_14 lk_RX4_49 rfl (by decide) (by decide) (Nat.le_of_ble_eq_true rfl) rfl (ct_X4_isIn (mem := mem)) ?_
    show PW S mX4_odds Q 17 [some (Aq 34), some (Iq x1), some (Iq x2), some (Iq x3), none, none, none, none, none, none] [Iq (bI (0 ≤ x2 ∧ x2 ≤ 20))] mem
    refine pw_if_eq eX4_odds_17 (fun c3 => ?_) (fun c3 => ?_)
    · have h := h.2 (bI0.mp c3)
      refine pw_aload_n eX4_odds_30 rfl rfl ?_
      refine pw_ldc (n := (-1000001)) eX4_odds_31 ⟨by decide, by decide⟩ kc_RX4_37 ?_
      obtain ⟨ob4, h⟩ := h
      refine pw_cV (z := mX4_finds) (av := [Iq (-1000001)]) (st := []) eX4_odds_33 lk_RX4_39 rfl (by decide) (by decide) sh34 rfl rfl (Nat.le_of_ble_eq_true rfl) rfl (ct_X4_finds' (mem := mem) ob4) ?_
      show PW S mX4_odds Q 36 [some (Aq 34), some (Iq x1), some (Iq x2), some (Iq x3), none, none, none, none, none, none] [Iq (-1000001)] (fnds mem (-1000001))
      refine pw_i2l eX4_odds_36 ?_
      exact pw_lret eX4_odds_37 h
    · have h := h.1 (bI1.mp c3)
      refine pw_iload_n eX4_odds_20 rfl rfl ?_
      refine pw_i2l eX4_odds_21 ?_
      refine pw_lconst (v := 0) eX4_odds_22 ⟨by decide, by decide⟩ rfl ?_
      refine pw_lconst (v := 1) eX4_odds_23 ⟨by decide, by decide⟩ rfl ?_
      refine pw_cS (z := mX4_isIn) (av := [Jq x3, Jq 0, Jq 1]) (st := []) eX4_odds_24 lk_RX4_49 rfl (by decide) (by decide) (Nat.le_of_ble_eq_true rfl) rfl (ct_X4_isIn (mem := mem)) ?_
      show PW S mX4_odds Q 27 [some (Aq 34), some (Iq x1), some (Iq x2), some (Iq x3), none, none, none, none, none, none] [Iq (bI (0 ≤ x3 ∧ x3 ≤ 1))] mem
      refine pw_if_ne eX4_odds_27 (fun c5 => ?_) (fun c5 => ?_)
      · have h := h.1 (bI1.mp c5)
        refine pw_lconst (v := 1) eX4_odds_38 ⟨by decide, by decide⟩ rfl ?_
        refine pw_lstore (ls2 := [some (Aq 34), some (Iq x1), some (Iq x2), some (Iq x3), some (Jq 1), none, none, none, none, none]) eX4_odds_39 (by decide) rfl ?_
        refine pw_lconst (v := 1) eX4_odds_41 ⟨by decide, by decide⟩ rfl ?_
        refine pw_lstore (ls2 := [some (Aq 34), some (Iq x1), some (Iq x2), some (Iq x3), some (Jq 1), none, some (Jq 1), none, none, none]) eX4_odds_42 (by decide) rfl ?_
        refine pw_aload_n eX4_odds_44 rfl rfl ?_
        refine pw_iload_n eX4_odds_45 rfl rfl ?_
        refine pw_iconst eX4_odds_46 ⟨by decide, by decide⟩ ?_
        obtain ⟨ob6, h⟩ := h
        refine pw_cV (z := mX4_its) (av := [Iq x1, Iq 1]) (st := []) eX4_odds_47 lk_RX4_71 rfl (by decide) (by decide) sh34 rfl rfl (Nat.le_of_ble_eq_true rfl) rfl (ct_X4_its (mem := mem) ⟨ob6.1, ob6.2, by decide, by decide⟩) ?_
        show PW S mX4_odds Q 50 [some (Aq 34), some (Iq x1), some (Iq x2), some (Iq x3), some (Jq 1), none, some (Jq 1), none, none, none] [Iq (mem 35 (12 + 14 * (x1).toNat + 1))] mem
        obtain ⟨ob7, h⟩ := h
        refine pw_cS (z := mX4_many) (av := [Iq (mem 35 (12 + 14 * (x1).toNat + 1))]) (st := []) eX4_odds_50 lk_RX4_111 rfl (by decide) (by decide) (Nat.le_of_ble_eq_true rfl) rfl (ct_X4_many (mem := mem) ob7) ?_
        show PW S mX4_odds Q 53 [some (Aq 34), some (Iq x1), some (Iq x2), some (Iq x3), some (Jq 1), none, some (Jq 1), none, none, none] [Iq (pcn (mem 35 (12 + 14 * (x1).toNat + 1)))] mem
        refine pw_istore (ls2 := [some (Aq 34), some (Iq x1), some (Iq x2), some (Iq x3), some (Jq 1), none, some (Jq 1), none, some (Iq (pcn (mem 35 (12 + 14 * (x1).toNat + 1)))), none]) eX4_odds_53 (by decide) rfl ?_
        refine pw_iconst eX4_odds_55 ⟨by decide, by decide⟩ ?_
        refine pw_istore (ls2 := [some (Aq 34), some (Iq x1), some (Iq x2), some (Iq x3), some (Jq 1), none, some (Jq 1), none, some (Iq (pcn (mem 35 (12 + 14 * (x1).toNat + 1)))), some (Iq 0)]) eX4_odds_56 (by decide) rfl ?_
        exact h
      · have h := h.2 (bI0.mp (Classical.not_not.mp c5))
        refine pw_aload_n eX4_odds_30 rfl rfl ?_
        refine pw_ldc (n := (-1000001)) eX4_odds_31 ⟨by decide, by decide⟩ kc_RX4_37 ?_
        obtain ⟨ob8, h⟩ := h
        refine pw_cV (z := mX4_finds) (av := [Iq (-1000001)]) (st := []) eX4_odds_33 lk_RX4_39 rfl (by decide) (by decide) sh34 rfl rfl (Nat.le_of_ble_eq_true rfl) rfl (ct_X4_finds' (mem := mem) ob8) ?_
        show PW S mX4_odds Q 36 [some (Aq 34), some (Iq x1), some (Iq x2), some (Iq x3), none, none, none, none, none, none] [Iq (-1000001)] (fnds mem (-1000001))
        refine pw_i2l eX4_odds_36 ?_
        exact pw_lret eX4_odds_37 h

set_option maxRecDepth 100000 in
theorem rg_X4_odds_58 {S : Sx} {Q : Option PV → Zm → Prop} {mem : Zm}   {x1 x2 x3 x4 x6 x8 x9 : Int} 
    (h : (((x2 ≤ x9) → ((((cmpL x4 0 = 0) → (PW S mX4_odds Q 101 [some (Aq 34), some (Iq x1), some (Iq x2), some (Iq x3), some (Jq x4), none, some (Jq 1), none, some (Iq x8), some (Iq x9)] [] mem)) ∧ (¬ (cmpL x4 0 = 0) → (PW S mX4_odds Q 101 [some (Aq 34), some (Iq x1), some (Iq x2), some (Iq x3), some (Jq x4), none, some (Jq x6), none, some (Iq x8), some (Iq x9)] [] mem))))) ∧ (¬ (x2 ≤ x9) → ((in32 (x9 + 1)) ∧ PW S mX4_odds Q 58 [some (Aq 34), some (Iq x1), some (Iq x2), some (Iq x3), some (Jq (wrL (x4 * x8))), none, some (Jq (wrL (x6 * 8))), none, some (Iq x8), some (Iq (x9 + 1))] [] mem)))) :
    PW S mX4_odds Q 58 [some (Aq 34), some (Iq x1), some (Iq x2), some (Iq x3), some (Jq x4), none, some (Jq x6), none, some (Iq x8), some (Iq x9)] [] mem := by
  refine pw_iload eX4_odds_58 rfl ?_
  refine pw_iload_n eX4_odds_60 rfl rfl ?_
  refine pw_icmp_ge eX4_odds_61 (fun c1 => ?_) (fun c1 => ?_)
  · have h := h.1 c1
    refine pw_lload eX4_odds_86 rfl ?_
    refine pw_lconst (v := 0) eX4_odds_88 ⟨by decide, by decide⟩ rfl ?_
    refine pw_lcmp eX4_odds_89 ?_
    refine pw_if_ne eX4_odds_90 (fun c2 => ?_) (fun c2 => ?_)
    · have h := h.2 c2
      refine pw_lload eX4_odds_97 rfl ?_
      refine pw_lstore (ls2 := [some (Aq 34), some (Iq x1), some (Iq x2), some (Iq x3), some (Jq x4), none, some (Jq x6), none, some (Iq x8), some (Iq x9)]) eX4_odds_99 (by decide) rfl ?_
      exact h
    · have h := h.1 (Classical.not_not.mp c2)
      refine pw_lconst (v := 1) eX4_odds_93 ⟨by decide, by decide⟩ rfl ?_
      refine pw_goto eX4_odds_94 ?_
      refine pw_lstore (ls2 := [some (Aq 34), some (Iq x1), some (Iq x2), some (Iq x3), some (Jq x4), none, some (Jq 1), none, some (Iq x8), some (Iq x9)]) eX4_odds_99 (by decide) rfl ?_
      exact h
  · have h := h.2 c1
    refine pw_lload eX4_odds_64 rfl ?_
    refine pw_iload eX4_odds_66 rfl ?_
    refine pw_i2l eX4_odds_68 ?_
    refine pw_lmul eX4_odds_69 ?_
    refine pw_lstore (ls2 := [some (Aq 34), some (Iq x1), some (Iq x2), some (Iq x3), some (Jq (wrL (x4 * x8))), none, some (Jq x6), none, some (Iq x8), some (Iq x9)]) eX4_odds_70 (by decide) rfl ?_
    refine pw_lload eX4_odds_72 rfl ?_
    refine pw_ldc2 (n := 8) eX4_odds_74 ⟨by decide, by decide⟩ kc_RX4_80 ?_
    refine pw_lmul eX4_odds_77 ?_
    refine pw_lstore (ls2 := [some (Aq 34), some (Iq x1), some (Iq x2), some (Iq x3), some (Jq (wrL (x4 * x8))), none, some (Jq (wrL (x6 * 8))), none, some (Iq x8), some (Iq x9)]) eX4_odds_78 (by decide) rfl ?_
    obtain ⟨ob3, h⟩ := h
    refine pw_iinc (ls2 := [some (Aq 34), some (Iq x1), some (Iq x2), some (Iq x3), some (Jq (wrL (x4 * x8))), none, some (Jq (wrL (x6 * 8))), none, some (Iq x8), some (Iq (x9 + 1))]) eX4_odds_80 rfl ob3 rfl ?_
    refine pw_goto eX4_odds_83 ?_
    exact h

set_option maxRecDepth 100000 in
theorem rg_X4_odds_101 {S : Sx} {Q : Option PV → Zm → Prop} {mem : Zm}   {x1 x2 x3 x4 x6 x8 x9 : Int} 
    (h : (0 ≤ x4) ∧ (((cmpL (x4 % 2) 0 = 0) → ((0 ≤ x6) ∧ (((cmpL (x6 % 2) 0 = 0) → ((0 ≤ x4) ∧ (0 ≤ x6) ∧ PW S mX4_odds Q 101 [some (Aq 34), some (Iq x1), some (Iq x2), some (Iq x3), some (Jq (x4 / 2)), none, some (Jq (x6 / 2)), none, some (Iq x8), some (Iq x9)] [] mem)) ∧ (¬ (cmpL (x6 % 2) 0 = 0) → ((((x3 = 0) → (Q (some (Jq x4)) mem)) ∧ (¬ (x3 = 0) → (Q (some (Jq x6)) mem)))))))) ∧ (¬ (cmpL (x4 % 2) 0 = 0) → ((((x3 = 0) → (Q (some (Jq x4)) mem)) ∧ (¬ (x3 = 0) → (Q (some (Jq x6)) mem))))))) :
    PW S mX4_odds Q 101 [some (Aq 34), some (Iq x1), some (Iq x2), some (Iq x3), some (Jq x4), none, some (Jq x6), none, some (Iq x8), some (Iq x9)] [] mem := by
  refine pw_lload eX4_odds_101 rfl ?_
  refine pw_ldc2 (n := 2) eX4_odds_103 ⟨by decide, by decide⟩ kc_RX4_198 ?_
  obtain ⟨ob1, h⟩ := h
  refine pw_lrem eX4_odds_106 ob1 (by decide) ?_
  refine pw_lconst (v := 0) eX4_odds_107 ⟨by decide, by decide⟩ rfl ?_
  refine pw_lcmp eX4_odds_108 ?_
  refine pw_if_ne eX4_odds_109 (fun c2 => ?_) (fun c2 => ?_)
  · have h := h.2 c2
    refine pw_iload_n eX4_odds_142 rfl rfl ?_
    refine pw_if_ne eX4_odds_143 (fun c3 => ?_) (fun c3 => ?_)
    · have h := h.2 c3
      refine pw_lload eX4_odds_151 rfl ?_
      exact pw_lret eX4_odds_153 h
    · have h := h.1 (Classical.not_not.mp c3)
      refine pw_lload eX4_odds_146 rfl ?_
      refine pw_goto eX4_odds_148 ?_
      exact pw_lret eX4_odds_153 h
  · have h := h.1 (Classical.not_not.mp c2)
    refine pw_lload eX4_odds_112 rfl ?_
    refine pw_ldc2 (n := 2) eX4_odds_114 ⟨by decide, by decide⟩ kc_RX4_198 ?_
    obtain ⟨ob4, h⟩ := h
    refine pw_lrem eX4_odds_117 ob4 (by decide) ?_
    refine pw_lconst (v := 0) eX4_odds_118 ⟨by decide, by decide⟩ rfl ?_
    refine pw_lcmp eX4_odds_119 ?_
    refine pw_if_ne eX4_odds_120 (fun c5 => ?_) (fun c5 => ?_)
    · have h := h.2 c5
      refine pw_iload_n eX4_odds_142 rfl rfl ?_
      refine pw_if_ne eX4_odds_143 (fun c6 => ?_) (fun c6 => ?_)
      · have h := h.2 c6
        refine pw_lload eX4_odds_151 rfl ?_
        exact pw_lret eX4_odds_153 h
      · have h := h.1 (Classical.not_not.mp c6)
        refine pw_lload eX4_odds_146 rfl ?_
        refine pw_goto eX4_odds_148 ?_
        exact pw_lret eX4_odds_153 h
    · have h := h.1 (Classical.not_not.mp c5)
      refine pw_lload eX4_odds_123 rfl ?_
      refine pw_ldc2 (n := 2) eX4_odds_125 ⟨by decide, by decide⟩ kc_RX4_198 ?_
      obtain ⟨ob7, h⟩ := h
      refine pw_ldiv eX4_odds_128 ob7 (by decide) ?_
      refine pw_lstore (ls2 := [some (Aq 34), some (Iq x1), some (Iq x2), some (Iq x3), some (Jq (x4 / 2)), none, some (Jq x6), none, some (Iq x8), some (Iq x9)]) eX4_odds_129 (by decide) rfl ?_
      refine pw_lload eX4_odds_131 rfl ?_
      refine pw_ldc2 (n := 2) eX4_odds_133 ⟨by decide, by decide⟩ kc_RX4_198 ?_
      obtain ⟨ob8, h⟩ := h
      refine pw_ldiv eX4_odds_136 ob8 (by decide) ?_
      refine pw_lstore (ls2 := [some (Aq 34), some (Iq x1), some (Iq x2), some (Iq x3), some (Jq (x4 / 2)), none, some (Jq (x6 / 2)), none, some (Iq x8), some (Iq x9)]) eX4_odds_137 (by decide) rfl ?_
      refine pw_goto eX4_odds_139 ?_
      exact h
set_option maxRecDepth 100000 in
theorem rg_X4_seed_0 {S : Sx} {Q : Option PV → Zm → Prop} {mem : Zm}   {x1 : Int} 
    (h : Q (some (Iq (mem 35 2))) (mup mem 35 2 x1)) :
    PW S mX4_seed Q 0 [some (Aq 34), some (Iq x1)] [] mem := by
  refine pw_aload_n eX4_seed_0 rfl rfl ?_
  refine pw_iconst eX4_seed_1 ⟨by decide, by decide⟩ ?_
  refine pw_iload_n eX4_seed_2 rfl rfl ?_
  refine pw_cV (z := mX4_becomes) (av := [Iq 2, Iq x1]) (st := []) eX4_seed_3 lk_RX4_53 rfl (by decide) (by decide) sh34 rfl rfl (Nat.le_of_ble_eq_true rfl) rfl (ct_X4_becomes (mem := mem) (by decide)) ?_
  show PW S mX4_seed Q 6 [some (Aq 34), some (Iq x1)] [Iq (mem 35 2)] (mup mem 35 2 x1)
  exact pw_iret eX4_seed_6 h
set_option maxRecDepth 100000 in
theorem rg_X4_feed_0 {S : Sx} {Q : Option PV → Zm → Prop} {mem : Zm}   {x1 x2 : Int} 
    (h : (((1 ≤ x2 ∧ x2 ≤ 4) → ((in32 ((mem 34 7) + x2)) ∧ ((((mem 34 7) + x2 ≤ 120) → ((in32 (x2 - 1)) ∧ PW S mX4_feed Q 41 [some (Aq 34), some (Iq x1), some (Iq x2), some (Iq (x2 - 1))] [] mem)) ∧ (¬ ((mem 34 7) + x2 ≤ 120) → ((fOK mem (-1000002)) ∧ Q (some (Iq (-1000002))) (fnds mem (-1000002))))))) ∧ (¬ (1 ≤ x2 ∧ x2 ≤ 4) → ((fOK mem (-1000001)) ∧ Q (some (Iq (-1000001))) (fnds mem (-1000001)))))) :
    PW S mX4_feed Q 0 [some (Aq 34), some (Iq x1), some (Iq x2), none] [] mem := by
  refine pw_iload_n eX4_feed_0 rfl rfl ?_
  refine pw_i2l eX4_feed_1 ?_
  refine pw_lconst (v := 1) eX4_feed_2 ⟨by decide, by decide⟩ rfl ?_
  refine pw_ldc2 (n := 4) eX4_feed_3 ⟨by decide, by decide⟩ kc_RX4_200 ?_
  refine pw_cS (z := mX4_isIn) (av := [Jq x2, Jq 1, Jq 4]) (st := []) eX4_feed_6 lk_RX4_49 rfl (by decide) (by decide) (Nat.le_of_ble_eq_true rfl) rfl (ct_X4_isIn (mem := mem)) ?_
  show PW S mX4_feed Q 9 [some (Aq 34), some (Iq x1), some (Iq x2), none] [Iq (bI (1 ≤ x2 ∧ x2 ≤ 4))] mem
  refine pw_if_ne eX4_feed_9 (fun c1 => ?_) (fun c1 => ?_)
  · have h := h.1 (bI1.mp c1)
    refine pw_aload_n eX4_feed_19 rfl rfl ?_
    refine gf_RX4_202 rfl eX4_feed_20 sh34 ?_
    refine pw_iload_n eX4_feed_23 rfl rfl ?_
    obtain ⟨ob2, h⟩ := h
    refine pw_iadd eX4_feed_24 ob2 ?_
    refine pw_bipush eX4_feed_25 ⟨by decide, by decide⟩ (by decide) ?_
    refine pw_icmp_le eX4_feed_27 (fun c3 => ?_) (fun c3 => ?_)
    · have h := h.1 c3
      refine pw_iload_n eX4_feed_37 rfl rfl ?_
      refine pw_iconst eX4_feed_38 ⟨by decide, by decide⟩ ?_
      obtain ⟨ob4, h⟩ := h
      refine pw_isub eX4_feed_39 ob4 ?_
      refine pw_istore_n (ls2 := [some (Aq 34), some (Iq x1), some (Iq x2), some (Iq (x2 - 1))]) eX4_feed_40 rfl (by decide) rfl ?_
      exact h
    · have h := h.2 c3
      refine pw_aload_n eX4_feed_30 rfl rfl ?_
      refine pw_ldc (n := (-1000002)) eX4_feed_31 ⟨by decide, by decide⟩ kc_RX4_66 ?_
      obtain ⟨ob5, h⟩ := h
      refine pw_cV (z := mX4_finds) (av := [Iq (-1000002)]) (st := []) eX4_feed_33 lk_RX4_39 rfl (by decide) (by decide) sh34 rfl rfl (Nat.le_of_ble_eq_true rfl) rfl (ct_X4_finds' (mem := mem) ob5) ?_
      show PW S mX4_feed Q 36 [some (Aq 34), some (Iq x1), some (Iq x2), none] [Iq (-1000002)] (fnds mem (-1000002))
      exact pw_iret eX4_feed_36 h
  · have h := h.2 (bI0.mp (Classical.not_not.mp c1))
    refine pw_aload_n eX4_feed_12 rfl rfl ?_
    refine pw_ldc (n := (-1000001)) eX4_feed_13 ⟨by decide, by decide⟩ kc_RX4_37 ?_
    obtain ⟨ob6, h⟩ := h
    refine pw_cV (z := mX4_finds) (av := [Iq (-1000001)]) (st := []) eX4_feed_15 lk_RX4_39 rfl (by decide) (by decide) sh34 rfl rfl (Nat.le_of_ble_eq_true rfl) rfl (ct_X4_finds' (mem := mem) ob6) ?_
    show PW S mX4_feed Q 18 [some (Aq 34), some (Iq x1), some (Iq x2), none] [Iq (-1000001)] (fnds mem (-1000001))
    exact pw_iret eX4_feed_18 h

set_option maxRecDepth 100000 in
theorem rg_X4_feed_41 {S : Sx} {Q : Option PV → Zm → Prop} {mem : Zm}   {x1 x2 x3 : Int} 
    (h : (((x3 < 0) → (Q (some (Iq (mem 34 7))) mem)) ∧ (¬ (x3 < 0) → ((in32 (8 * x3)) ∧ (0 ≤ mem 34 7 ∧ mem 34 7 < 120) ∧ (in32 (((mup mem 40 (mem 34 7).toNat (bAnd (bShr x1 (8 * x3)) 255)) 34 7) + 1)) ∧ (in32 (x3 + (-1))) ∧ PW S mX4_feed Q 41 [some (Aq 34), some (Iq x1), some (Iq x2), some (Iq (x3 + (-1)))] [] (mup (mup mem 40 (mem 34 7).toNat (bAnd (bShr x1 (8 * x3)) 255)) 34 7 (((mup mem 40 (mem 34 7).toNat (bAnd (bShr x1 (8 * x3)) 255)) 34 7) + 1)))))) :
    PW S mX4_feed Q 41 [some (Aq 34), some (Iq x1), some (Iq x2), some (Iq x3)] [] mem := by
  refine pw_iload_n eX4_feed_41 rfl rfl ?_
  refine pw_if_lt eX4_feed_42 (fun c1 => ?_) (fun c1 => ?_)
  · have h := h.1 c1
    refine pw_aload_n eX4_feed_80 rfl rfl ?_
    refine gf_RX4_202 rfl eX4_feed_81 sh34 ?_
    exact pw_iret eX4_feed_84 h
  · have h := h.2 c1
    refine pw_aload_n eX4_feed_45 rfl rfl ?_
    refine gf_RX4_25 rfl eX4_feed_46 sh34 ?_
    refine pw_aload_n eX4_feed_49 rfl rfl ?_
    refine gf_RX4_202 rfl eX4_feed_50 sh34 ?_
    refine pw_iload_n eX4_feed_53 rfl rfl ?_
    refine pw_bipush eX4_feed_54 ⟨by decide, by decide⟩ (by decide) ?_
    refine pw_iload_n eX4_feed_56 rfl rfl ?_
    obtain ⟨ob2, h⟩ := h
    refine pw_imul eX4_feed_57 ob2 ?_
    refine pw_ishr eX4_feed_58 ?_
    refine pw_sipush eX4_feed_59 ⟨by decide, by decide⟩ (by decide) ?_
    refine pw_iand eX4_feed_62 ?_
    obtain ⟨ob3, h⟩ := h
    refine pw_iast eX4_feed_63 sh40 ob3 ?_
    refine pw_aload_n eX4_feed_64 rfl rfl ?_
    refine pw_dup eX4_feed_65 rfl ?_
    refine gf_RX4_202 rfl eX4_feed_66 sh34 ?_
    refine pw_iconst eX4_feed_69 ⟨by decide, by decide⟩ ?_
    obtain ⟨ob4, h⟩ := h
    refine pw_iadd eX4_feed_70 ob4 ?_
    refine pf_RX4_202 rfl eX4_feed_71 sh34 ?_
    obtain ⟨ob5, h⟩ := h
    refine pw_iinc (ls2 := [some (Aq 34), some (Iq x1), some (Iq x2), some (Iq (x3 + (-1)))]) eX4_feed_74 rfl ob5 rfl ?_
    refine pw_goto eX4_feed_77 ?_
    exact h
set_option maxRecDepth 100000 in
theorem rg_X4_nextToken_0 {S : Sx} {Q : Option PV → Zm → Prop} {mem : Zm}   
    (h : PW S mX4_nextToken Q 8 [some (Aq 34), none] [] (mup mem 34 14 (mem 34 15))) :
    PW S mX4_nextToken Q 0 [some (Aq 34), none] [] mem := by
  refine pw_aload_n eX4_nextToken_0 rfl rfl ?_
  refine pw_aload_n eX4_nextToken_1 rfl rfl ?_
  refine gf_RX4_205 rfl eX4_nextToken_2 sh34 ?_
  refine pf_RX4_208 rfl eX4_nextToken_5 sh34 ?_
  exact h

set_option maxRecDepth 100000 in
theorem rg_X4_nextToken_8 {S : Sx} {Q : Option PV → Zm → Prop} {mem : Zm}   
    (h : (0 ≤ mem 34 14 ∧ mem 34 7 ≤ 120) ∧ (((btA mem (mem 34 14) = 32) → ((in32 ((mem 34 14) + 1)) ∧ PW S mX4_nextToken Q 8 [some (Aq 34), none] [] (mup mem 34 14 ((mem 34 14) + 1)))) ∧ (¬ (btA mem (mem 34 14) = 32) → ((0 ≤ (mup mem 34 15 (mem 34 14)) 34 14 ∧ (mup mem 34 15 (mem 34 14)) 34 7 ≤ 120) ∧ (((0 ≤ btA (mup mem 34 15 (mem 34 14)) ((mup mem 34 15 (mem 34 14)) 34 14)) → ((((97 ≤ btA (mup mem 34 15 (mem 34 14)) ((mup mem 34 15 (mem 34 14)) 34 14) ∧ btA (mup mem 34 15 (mem 34 14)) ((mup mem 34 15 (mem 34 14)) 34 14) ≤ 122) → (PW S mX4_nextToken Q 101 [some (Aq 34), some (Iq (btA (mup mem 34 15 (mem 34 14)) ((mup mem 34 15 (mem 34 14)) 34 14)))] [] (mup (mup (mup mem 34 15 (mem 34 14)) 34 13 1) 34 16 0))) ∧ (¬ (97 ≤ btA (mup mem 34 15 (mem 34 14)) ((mup mem 34 15 (mem 34 14)) 34 14) ∧ btA (mup mem 34 15 (mem 34 14)) ((mup mem 34 15 (mem 34 14)) 34 14) ≤ 122) → ((((48 ≤ btA (mup mem 34 15 (mem 34 14)) ((mup mem 34 15 (mem 34 14)) 34 14) ∧ btA (mup mem 34 15 (mem 34 14)) ((mup mem 34 15 (mem 34 14)) 34 14) ≤ 57) → (PW S mX4_nextToken Q 101 [some (Aq 34), some (Iq (btA (mup mem 34 15 (mem 34 14)) ((mup mem 34 15 (mem 34 14)) 34 14)))] [] (mup (mup (mup mem 34 15 (mem 34 14)) 34 13 2) 34 16 0))) ∧ (¬ (48 ≤ btA (mup mem 34 15 (mem 34 14)) ((mup mem 34 15 (mem 34 14)) 34 14) ∧ btA (mup mem 34 15 (mem 34 14)) ((mup mem 34 15 (mem 34 14)) 34 14) ≤ 57) → ((((btA (mup mem 34 15 (mem 34 14)) ((mup mem 34 15 (mem 34 14)) 34 14) = 59) → (PW S mX4_nextToken Q 101 [some (Aq 34), some (Iq (btA (mup mem 34 15 (mem 34 14)) ((mup mem 34 15 (mem 34 14)) 34 14)))] [] (mup (mup (mup mem 34 15 (mem 34 14)) 34 13 3) 34 16 0))) ∧ (¬ (btA (mup mem 34 15 (mem 34 14)) ((mup mem 34 15 (mem 34 14)) 34 14) = 59) → (PW S mX4_nextToken Q 101 [some (Aq 34), some (Iq (btA (mup mem 34 15 (mem 34 14)) ((mup mem 34 15 (mem 34 14)) 34 14)))] [] (mup (mup (mup mem 34 15 (mem 34 14)) 34 13 4) 34 16 0)))))))))))) ∧ (¬ (0 ≤ btA (mup mem 34 15 (mem 34 14)) ((mup mem 34 15 (mem 34 14)) 34 14)) → (PW S mX4_nextToken Q 101 [some (Aq 34), some (Iq (btA (mup mem 34 15 (mem 34 14)) ((mup mem 34 15 (mem 34 14)) 34 14)))] [] (mup (mup (mup mem 34 15 (mem 34 14)) 34 13 0) 34 16 0)))))))) :
    PW S mX4_nextToken Q 8 [some (Aq 34), none] [] mem := by
  refine pw_aload_n eX4_nextToken_8 rfl rfl ?_
  refine pw_aload_n eX4_nextToken_9 rfl rfl ?_
  refine gf_RX4_208 rfl eX4_nextToken_10 sh34 ?_
  obtain ⟨ob1, h⟩ := h
  refine pw_cV (z := mX4_byteAt) (av := [Iq (mem 34 14)]) (st := []) eX4_nextToken_13 lk_RX4_211 rfl (by decide) (by decide) sh34 rfl rfl (Nat.le_of_ble_eq_true rfl) rfl (ct_X4_byteAt' (mem := mem) ob1) ?_
  show PW S mX4_nextToken Q 16 [some (Aq 34), none] [Iq (btA mem (mem 34 14))] mem
  refine pw_bipush eX4_nextToken_16 ⟨by decide, by decide⟩ (by decide) ?_
  refine pw_icmp_ne eX4_nextToken_18 (fun c2 => ?_) (fun c2 => ?_)
  · have h := h.2 c2
    refine pw_aload_n eX4_nextToken_34 rfl rfl ?_
    refine pw_aload_n eX4_nextToken_35 rfl rfl ?_
    refine gf_RX4_208 rfl eX4_nextToken_36 sh34 ?_
    refine pf_RX4_205 rfl eX4_nextToken_39 sh34 ?_
    refine pw_aload_n eX4_nextToken_42 rfl rfl ?_
    refine pw_aload_n eX4_nextToken_43 rfl rfl ?_
    refine gf_RX4_208 rfl eX4_nextToken_44 sh34 ?_
    obtain ⟨ob3, h⟩ := h
    refine pw_cV (z := mX4_byteAt) (av := [Iq ((mup mem 34 15 (mem 34 14)) 34 14)]) (st := []) eX4_nextToken_47 lk_RX4_211 rfl (by decide) (by decide) sh34 rfl rfl (Nat.le_of_ble_eq_true rfl) rfl (ct_X4_byteAt' (mem := mup mem 34 15 (mem 34 14)) ob3) ?_
    show PW S mX4_nextToken Q 50 [some (Aq 34), none] [Iq (btA (mup mem 34 15 (mem 34 14)) ((mup mem 34 15 (mem 34 14)) 34 14))] (mup mem 34 15 (mem 34 14))
    refine pw_istore_n (ls2 := [some (Aq 34), some (Iq (btA (mup mem 34 15 (mem 34 14)) ((mup mem 34 15 (mem 34 14)) 34 14)))]) eX4_nextToken_50 rfl (by decide) rfl ?_
    refine pw_aload_n eX4_nextToken_51 rfl rfl ?_
    refine pw_iload_n eX4_nextToken_52 rfl rfl ?_
    refine pw_if_ge eX4_nextToken_53 (fun c4 => ?_) (fun c4 => ?_)
    · have h := h.1 c4
      refine pw_iload_n eX4_nextToken_60 rfl rfl ?_
      refine pw_cS (z := mX4_isLetter) (av := [Iq (btA (mup mem 34 15 (mem 34 14)) ((mup mem 34 15 (mem 34 14)) 34 14))]) (st := [Aq 34]) eX4_nextToken_61 lk_RX4_214 rfl (by decide) (by decide) (Nat.le_of_ble_eq_true rfl) rfl (ct_X4_isLetter (mem := mup mem 34 15 (mem 34 14))) ?_
      show PW S mX4_nextToken Q 64 [some (Aq 34), some (Iq (btA (mup mem 34 15 (mem 34 14)) ((mup mem 34 15 (mem 34 14)) 34 14)))] [Iq (bI (97 ≤ btA (mup mem 34 15 (mem 34 14)) ((mup mem 34 15 (mem 34 14)) 34 14) ∧ btA (mup mem 34 15 (mem 34 14)) ((mup mem 34 15 (mem 34 14)) 34 14) ≤ 122)), Aq 34] (mup mem 34 15 (mem 34 14))
      refine pw_if_eq eX4_nextToken_64 (fun c5 => ?_) (fun c5 => ?_)
      · have h := h.2 (bI0.mp c5)
        refine pw_iload_n eX4_nextToken_71 rfl rfl ?_
        refine pw_cS (z := mX4_isDigit) (av := [Iq (btA (mup mem 34 15 (mem 34 14)) ((mup mem 34 15 (mem 34 14)) 34 14))]) (st := [Aq 34]) eX4_nextToken_72 lk_RX4_217 rfl (by decide) (by decide) (Nat.le_of_ble_eq_true rfl) rfl (ct_X4_isDigit (mem := mup mem 34 15 (mem 34 14))) ?_
        show PW S mX4_nextToken Q 75 [some (Aq 34), some (Iq (btA (mup mem 34 15 (mem 34 14)) ((mup mem 34 15 (mem 34 14)) 34 14)))] [Iq (bI (48 ≤ btA (mup mem 34 15 (mem 34 14)) ((mup mem 34 15 (mem 34 14)) 34 14) ∧ btA (mup mem 34 15 (mem 34 14)) ((mup mem 34 15 (mem 34 14)) 34 14) ≤ 57)), Aq 34] (mup mem 34 15 (mem 34 14))
        refine pw_if_eq eX4_nextToken_75 (fun c6 => ?_) (fun c6 => ?_)
        · have h := h.2 (bI0.mp c6)
          refine pw_iload_n eX4_nextToken_82 rfl rfl ?_
          refine pw_bipush eX4_nextToken_83 ⟨by decide, by decide⟩ (by decide) ?_
          refine pw_icmp_ne eX4_nextToken_85 (fun c7 => ?_) (fun c7 => ?_)
          · have h := h.2 c7
            refine pw_iconst eX4_nextToken_92 ⟨by decide, by decide⟩ ?_
            refine pf_RX4_220 rfl eX4_nextToken_93 sh34 ?_
            refine pw_aload_n eX4_nextToken_96 rfl rfl ?_
            refine pw_iconst eX4_nextToken_97 ⟨by decide, by decide⟩ ?_
            refine pf_RX4_223 rfl eX4_nextToken_98 sh34 ?_
            exact h
          · have h := h.1 (Classical.not_not.mp c7)
            refine pw_iconst eX4_nextToken_88 ⟨by decide, by decide⟩ ?_
            refine pw_goto eX4_nextToken_89 ?_
            refine pf_RX4_220 rfl eX4_nextToken_93 sh34 ?_
            refine pw_aload_n eX4_nextToken_96 rfl rfl ?_
            refine pw_iconst eX4_nextToken_97 ⟨by decide, by decide⟩ ?_
            refine pf_RX4_223 rfl eX4_nextToken_98 sh34 ?_
            exact h
        · have h := h.1 (bI1.mp c6)
          refine pw_iconst eX4_nextToken_78 ⟨by decide, by decide⟩ ?_
          refine pw_goto eX4_nextToken_79 ?_
          refine pf_RX4_220 rfl eX4_nextToken_93 sh34 ?_
          refine pw_aload_n eX4_nextToken_96 rfl rfl ?_
          refine pw_iconst eX4_nextToken_97 ⟨by decide, by decide⟩ ?_
          refine pf_RX4_223 rfl eX4_nextToken_98 sh34 ?_
          exact h
      · have h := h.1 (bI1.mp c5)
        refine pw_iconst eX4_nextToken_67 ⟨by decide, by decide⟩ ?_
        refine pw_goto eX4_nextToken_68 ?_
        refine pf_RX4_220 rfl eX4_nextToken_93 sh34 ?_
        refine pw_aload_n eX4_nextToken_96 rfl rfl ?_
        refine pw_iconst eX4_nextToken_97 ⟨by decide, by decide⟩ ?_
        refine pf_RX4_223 rfl eX4_nextToken_98 sh34 ?_
        exact h
    · have h := h.2 c4
      refine pw_iconst eX4_nextToken_56 ⟨by decide, by decide⟩ ?_
      refine pw_goto eX4_nextToken_57 ?_
      refine pf_RX4_220 rfl eX4_nextToken_93 sh34 ?_
      refine pw_aload_n eX4_nextToken_96 rfl rfl ?_
      refine pw_iconst eX4_nextToken_97 ⟨by decide, by decide⟩ ?_
      refine pf_RX4_223 rfl eX4_nextToken_98 sh34 ?_
      exact h
  · have h := h.1 (Classical.not_not.mp c2)
    refine pw_aload_n eX4_nextToken_21 rfl rfl ?_
    refine pw_dup eX4_nextToken_22 rfl ?_
    refine gf_RX4_208 rfl eX4_nextToken_23 sh34 ?_
    refine pw_iconst eX4_nextToken_26 ⟨by decide, by decide⟩ ?_
    obtain ⟨ob8, h⟩ := h
    refine pw_iadd eX4_nextToken_27 ob8 ?_
    refine pf_RX4_208 rfl eX4_nextToken_28 sh34 ?_
    refine pw_goto eX4_nextToken_31 ?_
    exact h

set_option maxRecDepth 100000 in
theorem rg_X4_nextToken_101 {S : Sx} {Q : Option PV → Zm → Prop} {mem : Zm}   {x1 : Int} 
    (h : (((mem 34 13 = 1) → ((0 ≤ mem 34 15 ∧ mem 34 7 ≤ 120) ∧ (((97 ≤ btA mem (mem 34 15) ∧ btA mem (mem 34 15) ≤ 122) → ((in32 ((mem 34 15) + 1)) ∧ PW S mX4_nextToken Q 101 [some (Aq 34), some (Iq x1)] [] (mup mem 34 15 ((mem 34 15) + 1)))) ∧ (¬ (97 ≤ btA mem (mem 34 15) ∧ btA mem (mem 34 15) ≤ 122) → (PW S mX4_nextToken Q 136 [some (Aq 34), some (Iq x1)] [] mem))))) ∧ (¬ (mem 34 13 = 1) → (PW S mX4_nextToken Q 136 [some (Aq 34), some (Iq x1)] [] mem)))) :
    PW S mX4_nextToken Q 101 [some (Aq 34), some (Iq x1)] [] mem := by
  refine pw_aload_n eX4_nextToken_101 rfl rfl ?_
  refine gf_RX4_220 rfl eX4_nextToken_102 sh34 ?_
  refine pw_iconst eX4_nextToken_105 ⟨by decide, by decide⟩ ?_
  refine pw_icmp_ne eX4_nextToken_106 (fun c1 => ?_) (fun c1 => ?_)
  · have h := h.2 c1
    exact h
  · have h := h.1 (Classical.not_not.mp c1)
    refine pw_aload_n eX4_nextToken_109 rfl rfl ?_
    refine pw_aload_n eX4_nextToken_110 rfl rfl ?_
    refine gf_RX4_205 rfl eX4_nextToken_111 sh34 ?_
    obtain ⟨ob2, h⟩ := h
    refine pw_cV (z := mX4_byteAt) (av := [Iq (mem 34 15)]) (st := []) eX4_nextToken_114 lk_RX4_211 rfl (by decide) (by decide) sh34 rfl rfl (Nat.le_of_ble_eq_true rfl) rfl (ct_X4_byteAt' (mem := mem) ob2) ?_
    show PW S mX4_nextToken Q 117 [some (Aq 34), some (Iq x1)] [Iq (btA mem (mem 34 15))] mem
    refine pw_cS (z := mX4_isLetter) (av := [Iq (btA mem (mem 34 15))]) (st := []) eX4_nextToken_117 lk_RX4_214 rfl (by decide) (by decide) (Nat.le_of_ble_eq_true rfl) rfl (ct_X4_isLetter (mem := mem)) ?_
    show PW S mX4_nextToken Q 120 [some (Aq 34), some (Iq x1)] [Iq (bI (97 ≤ btA mem (mem 34 15) ∧ btA mem (mem 34 15) ≤ 122))] mem
    refine pw_if_eq eX4_nextToken_120 (fun c3 => ?_) (fun c3 => ?_)
    · have h := h.2 (bI0.mp c3)
      exact h
    · have h := h.1 (bI1.mp c3)
      refine pw_aload_n eX4_nextToken_123 rfl rfl ?_
      refine pw_dup eX4_nextToken_124 rfl ?_
      refine gf_RX4_205 rfl eX4_nextToken_125 sh34 ?_
      refine pw_iconst eX4_nextToken_128 ⟨by decide, by decide⟩ ?_
      obtain ⟨ob4, h⟩ := h
      refine pw_iadd eX4_nextToken_129 ob4 ?_
      refine pf_RX4_205 rfl eX4_nextToken_130 sh34 ?_
      refine pw_goto eX4_nextToken_133 ?_
      exact h

set_option maxRecDepth 100000 in
theorem rg_X4_nextToken_136 {S : Sx} {Q : Option PV → Zm → Prop} {mem : Zm}   {x1 : Int} 
    (h : (((mem 34 13 = 2) → ((0 ≤ mem 34 15 ∧ mem 34 7 ≤ 120) ∧ (((48 ≤ btA mem (mem 34 15) ∧ btA mem (mem 34 15) ≤ 57) → ((((mem 34 16 ≤ 999) → ((in32 (10 * (mem 34 16))) ∧ (0 ≤ mem 34 15 ∧ mem 34 7 ≤ 120) ∧ (in32 ((10 * (mem 34 16)) + (btA mem (mem 34 15)))) ∧ (in32 (((10 * (mem 34 16)) + (btA mem (mem 34 15))) - 48)) ∧ (in32 (((mup mem 34 16 (((10 * (mem 34 16)) + (btA mem (mem 34 15))) - 48)) 34 15) + 1)) ∧ PW S mX4_nextToken Q 136 [some (Aq 34), some (Iq x1)] [] (mup (mup mem 34 16 (((10 * (mem 34 16)) + (btA mem (mem 34 15))) - 48)) 34 15 (((mup mem 34 16 (((10 * (mem 34 16)) + (btA mem (mem 34 15))) - 48)) 34 15) + 1)))) ∧ (¬ (mem 34 16 ≤ 999) → ((in32 (((mup mem 34 16 (mem 34 16)) 34 15) + 1)) ∧ PW S mX4_nextToken Q 136 [some (Aq 34), some (Iq x1)] [] (mup (mup mem 34 16 (mem 34 16)) 34 15 (((mup mem 34 16 (mem 34 16)) 34 15) + 1))))))) ∧ (¬ (48 ≤ btA mem (mem 34 15) ∧ btA mem (mem 34 15) ≤ 57) → ((((mem 34 13 ≤ 2) → ((in32 ((mem 34 15) + 0)) ∧ Q none (mup mem 34 15 ((mem 34 15) + 0)))) ∧ (¬ (mem 34 13 ≤ 2) → ((in32 ((mem 34 15) + 1)) ∧ Q none (mup mem 34 15 ((mem 34 15) + 1)))))))))) ∧ (¬ (mem 34 13 = 2) → ((((mem 34 13 ≤ 2) → ((in32 ((mem 34 15) + 0)) ∧ Q none (mup mem 34 15 ((mem 34 15) + 0)))) ∧ (¬ (mem 34 13 ≤ 2) → ((in32 ((mem 34 15) + 1)) ∧ Q none (mup mem 34 15 ((mem 34 15) + 1))))))))) :
    PW S mX4_nextToken Q 136 [some (Aq 34), some (Iq x1)] [] mem := by
  refine pw_aload_n eX4_nextToken_136 rfl rfl ?_
  refine gf_RX4_220 rfl eX4_nextToken_137 sh34 ?_
  refine pw_iconst eX4_nextToken_140 ⟨by decide, by decide⟩ ?_
  refine pw_icmp_ne eX4_nextToken_141 (fun c1 => ?_) (fun c1 => ?_)
  · have h := h.2 c1
    refine pw_aload_n eX4_nextToken_211 rfl rfl ?_
    refine pw_dup eX4_nextToken_212 rfl ?_
    refine gf_RX4_205 rfl eX4_nextToken_213 sh34 ?_
    refine pw_aload_n eX4_nextToken_216 rfl rfl ?_
    refine gf_RX4_220 rfl eX4_nextToken_217 sh34 ?_
    refine pw_iconst eX4_nextToken_220 ⟨by decide, by decide⟩ ?_
    refine pw_icmp_le eX4_nextToken_221 (fun c2 => ?_) (fun c2 => ?_)
    · have h := h.1 c2
      refine pw_iconst eX4_nextToken_228 ⟨by decide, by decide⟩ ?_
      obtain ⟨ob3, h⟩ := h
      refine pw_iadd eX4_nextToken_229 ob3 ?_
      refine pf_RX4_205 rfl eX4_nextToken_230 sh34 ?_
      exact pw_vret eX4_nextToken_233 h
    · have h := h.2 c2
      refine pw_iconst eX4_nextToken_224 ⟨by decide, by decide⟩ ?_
      refine pw_goto eX4_nextToken_225 ?_
      obtain ⟨ob4, h⟩ := h
      refine pw_iadd eX4_nextToken_229 ob4 ?_
      refine pf_RX4_205 rfl eX4_nextToken_230 sh34 ?_
      exact pw_vret eX4_nextToken_233 h
  · have h := h.1 (Classical.not_not.mp c1)
    refine pw_aload_n eX4_nextToken_144 rfl rfl ?_
    refine pw_aload_n eX4_nextToken_145 rfl rfl ?_
    refine gf_RX4_205 rfl eX4_nextToken_146 sh34 ?_
    obtain ⟨ob5, h⟩ := h
    refine pw_cV (z := mX4_byteAt) (av := [Iq (mem 34 15)]) (st := []) eX4_nextToken_149 lk_RX4_211 rfl (by decide) (by decide) sh34 rfl rfl (Nat.le_of_ble_eq_true rfl) rfl (ct_X4_byteAt' (mem := mem) ob5) ?_
    show PW S mX4_nextToken Q 152 [some (Aq 34), some (Iq x1)] [Iq (btA mem (mem 34 15))] mem
    refine pw_cS (z := mX4_isDigit) (av := [Iq (btA mem (mem 34 15))]) (st := []) eX4_nextToken_152 lk_RX4_217 rfl (by decide) (by decide) (Nat.le_of_ble_eq_true rfl) rfl (ct_X4_isDigit (mem := mem)) ?_
    show PW S mX4_nextToken Q 155 [some (Aq 34), some (Iq x1)] [Iq (bI (48 ≤ btA mem (mem 34 15) ∧ btA mem (mem 34 15) ≤ 57))] mem
    refine pw_if_eq eX4_nextToken_155 (fun c6 => ?_) (fun c6 => ?_)
    · have h := h.2 (bI0.mp c6)
      refine pw_aload_n eX4_nextToken_211 rfl rfl ?_
      refine pw_dup eX4_nextToken_212 rfl ?_
      refine gf_RX4_205 rfl eX4_nextToken_213 sh34 ?_
      refine pw_aload_n eX4_nextToken_216 rfl rfl ?_
      refine gf_RX4_220 rfl eX4_nextToken_217 sh34 ?_
      refine pw_iconst eX4_nextToken_220 ⟨by decide, by decide⟩ ?_
      refine pw_icmp_le eX4_nextToken_221 (fun c7 => ?_) (fun c7 => ?_)
      · have h := h.1 c7
        refine pw_iconst eX4_nextToken_228 ⟨by decide, by decide⟩ ?_
        obtain ⟨ob8, h⟩ := h
        refine pw_iadd eX4_nextToken_229 ob8 ?_
        refine pf_RX4_205 rfl eX4_nextToken_230 sh34 ?_
        exact pw_vret eX4_nextToken_233 h
      · have h := h.2 c7
        refine pw_iconst eX4_nextToken_224 ⟨by decide, by decide⟩ ?_
        refine pw_goto eX4_nextToken_225 ?_
        obtain ⟨ob9, h⟩ := h
        refine pw_iadd eX4_nextToken_229 ob9 ?_
        refine pf_RX4_205 rfl eX4_nextToken_230 sh34 ?_
        exact pw_vret eX4_nextToken_233 h
    · have h := h.1 (bI1.mp c6)
      refine pw_aload_n eX4_nextToken_158 rfl rfl ?_
      refine pw_aload_n eX4_nextToken_159 rfl rfl ?_
      refine gf_RX4_223 rfl eX4_nextToken_160 sh34 ?_
      refine pw_sipush eX4_nextToken_163 ⟨by decide, by decide⟩ (by decide) ?_
      refine pw_icmp_le eX4_nextToken_166 (fun c10 => ?_) (fun c10 => ?_)
      · have h := h.1 c10
        refine pw_bipush eX4_nextToken_176 ⟨by decide, by decide⟩ (by decide) ?_
        refine pw_aload_n eX4_nextToken_178 rfl rfl ?_
        refine gf_RX4_223 rfl eX4_nextToken_179 sh34 ?_
        obtain ⟨ob11, h⟩ := h
        refine pw_imul eX4_nextToken_182 ob11 ?_
        refine pw_aload_n eX4_nextToken_183 rfl rfl ?_
        refine pw_aload_n eX4_nextToken_184 rfl rfl ?_
        refine gf_RX4_205 rfl eX4_nextToken_185 sh34 ?_
        obtain ⟨ob12, h⟩ := h
        refine pw_cV (z := mX4_byteAt) (av := [Iq (mem 34 15)]) (st := [Iq (10 * (mem 34 16)), Aq 34]) eX4_nextToken_188 lk_RX4_211 rfl (by decide) (by decide) sh34 rfl rfl (Nat.le_of_ble_eq_true rfl) rfl (ct_X4_byteAt' (mem := mem) ob12) ?_
        show PW S mX4_nextToken Q 191 [some (Aq 34), some (Iq x1)] [Iq (btA mem (mem 34 15)), Iq (10 * (mem 34 16)), Aq 34] mem
        obtain ⟨ob13, h⟩ := h
        refine pw_iadd eX4_nextToken_191 ob13 ?_
        refine pw_bipush eX4_nextToken_192 ⟨by decide, by decide⟩ (by decide) ?_
        obtain ⟨ob14, h⟩ := h
        refine pw_isub eX4_nextToken_194 ob14 ?_
        refine pf_RX4_223 rfl eX4_nextToken_195 sh34 ?_
        refine pw_aload_n eX4_nextToken_198 rfl rfl ?_
        refine pw_dup eX4_nextToken_199 rfl ?_
        refine gf_RX4_205 rfl eX4_nextToken_200 sh34 ?_
        refine pw_iconst eX4_nextToken_203 ⟨by decide, by decide⟩ ?_
        obtain ⟨ob15, h⟩ := h
        refine pw_iadd eX4_nextToken_204 ob15 ?_
        refine pf_RX4_205 rfl eX4_nextToken_205 sh34 ?_
        refine pw_goto eX4_nextToken_208 ?_
        exact h
      · have h := h.2 c10
        refine pw_aload_n eX4_nextToken_169 rfl rfl ?_
        refine gf_RX4_223 rfl eX4_nextToken_170 sh34 ?_
        refine pw_goto eX4_nextToken_173 ?_
        refine pf_RX4_223 rfl eX4_nextToken_195 sh34 ?_
        refine pw_aload_n eX4_nextToken_198 rfl rfl ?_
        refine pw_dup eX4_nextToken_199 rfl ?_
        refine gf_RX4_205 rfl eX4_nextToken_200 sh34 ?_
        refine pw_iconst eX4_nextToken_203 ⟨by decide, by decide⟩ ?_
        obtain ⟨ob16, h⟩ := h
        refine pw_iadd eX4_nextToken_204 ob16 ?_
        refine pf_RX4_205 rfl eX4_nextToken_205 sh34 ?_
        refine pw_goto eX4_nextToken_208 ?_
        exact h
set_option maxRecDepth 100000 in
theorem rg_X4_has3_0 {S : Sx} {Q : Option PV → Zm → Prop} {mem : Zm}   {x1 x2 x3 x4 : Int} 
    (h : (in32 ((mem 34 14) + x1)) ∧ (0 ≤ (mem 34 14) + x1 ∧ mem 34 7 ≤ 120) ∧ (((btA mem ((mem 34 14) + x1) = x2) → ((in32 ((mem 34 14) + x1)) ∧ (in32 (((mem 34 14) + x1) + 1)) ∧ (0 ≤ ((mem 34 14) + x1) + 1 ∧ mem 34 7 ≤ 120) ∧ (((btA mem (((mem 34 14) + x1) + 1) = x3) → ((in32 ((mem 34 14) + x1)) ∧ (in32 (((mem 34 14) + x1) + 2)) ∧ (0 ≤ ((mem 34 14) + x1) + 2 ∧ mem 34 7 ≤ 120) ∧ (((btA mem (((mem 34 14) + x1) + 2) = x4) → (Q (some (Iq 1)) mem)) ∧ (¬ (btA mem (((mem 34 14) + x1) + 2) = x4) → (Q (some (Iq 0)) mem))))) ∧ (¬ (btA mem (((mem 34 14) + x1) + 1) = x3) → (Q (some (Iq 0)) mem))))) ∧ (¬ (btA mem ((mem 34 14) + x1) = x2) → (Q (some (Iq 0)) mem)))) :
    PW S mX4_has3 Q 0 [some (Aq 34), some (Iq x1), some (Iq x2), some (Iq x3), some (Iq x4)] [] mem := by
  refine pw_aload_n eX4_has3_0 rfl rfl ?_
  refine pw_aload_n eX4_has3_1 rfl rfl ?_
  refine gf_RX4_208 rfl eX4_has3_2 sh34 ?_
  refine pw_iload_n eX4_has3_5 rfl rfl ?_
  obtain ⟨ob1, h⟩ := h
  refine pw_iadd eX4_has3_6 ob1 ?_
  obtain ⟨ob2, h⟩ := h
  refine pw_cV (z := mX4_byteAt) (av := [Iq ((mem 34 14) + x1)]) (st := []) eX4_has3_7 lk_RX4_211 rfl (by decide) (by decide) sh34 rfl rfl (Nat.le_of_ble_eq_true rfl) rfl (ct_X4_byteAt' (mem := mem) ob2) ?_
  show PW S mX4_has3 Q 10 [some (Aq 34), some (Iq x1), some (Iq x2), some (Iq x3), some (Iq x4)] [Iq (btA mem ((mem 34 14) + x1))] mem
  refine pw_iload_n eX4_has3_10 rfl rfl ?_
  refine pw_icmp_ne eX4_has3_11 (fun c3 => ?_) (fun c3 => ?_)
  · have h := h.2 c3
    refine pw_iconst eX4_has3_51 ⟨by decide, by decide⟩ ?_
    exact pw_iret eX4_has3_52 h
  · have h := h.1 (Classical.not_not.mp c3)
    refine pw_aload_n eX4_has3_14 rfl rfl ?_
    refine pw_aload_n eX4_has3_15 rfl rfl ?_
    refine gf_RX4_208 rfl eX4_has3_16 sh34 ?_
    refine pw_iload_n eX4_has3_19 rfl rfl ?_
    obtain ⟨ob4, h⟩ := h
    refine pw_iadd eX4_has3_20 ob4 ?_
    refine pw_iconst eX4_has3_21 ⟨by decide, by decide⟩ ?_
    obtain ⟨ob5, h⟩ := h
    refine pw_iadd eX4_has3_22 ob5 ?_
    obtain ⟨ob6, h⟩ := h
    refine pw_cV (z := mX4_byteAt) (av := [Iq (((mem 34 14) + x1) + 1)]) (st := []) eX4_has3_23 lk_RX4_211 rfl (by decide) (by decide) sh34 rfl rfl (Nat.le_of_ble_eq_true rfl) rfl (ct_X4_byteAt' (mem := mem) ob6) ?_
    show PW S mX4_has3 Q 26 [some (Aq 34), some (Iq x1), some (Iq x2), some (Iq x3), some (Iq x4)] [Iq (btA mem (((mem 34 14) + x1) + 1))] mem
    refine pw_iload_n eX4_has3_26 rfl rfl ?_
    refine pw_icmp_ne eX4_has3_27 (fun c7 => ?_) (fun c7 => ?_)
    · have h := h.2 c7
      refine pw_iconst eX4_has3_51 ⟨by decide, by decide⟩ ?_
      exact pw_iret eX4_has3_52 h
    · have h := h.1 (Classical.not_not.mp c7)
      refine pw_aload_n eX4_has3_30 rfl rfl ?_
      refine pw_aload_n eX4_has3_31 rfl rfl ?_
      refine gf_RX4_208 rfl eX4_has3_32 sh34 ?_
      refine pw_iload_n eX4_has3_35 rfl rfl ?_
      obtain ⟨ob8, h⟩ := h
      refine pw_iadd eX4_has3_36 ob8 ?_
      refine pw_iconst eX4_has3_37 ⟨by decide, by decide⟩ ?_
      obtain ⟨ob9, h⟩ := h
      refine pw_iadd eX4_has3_38 ob9 ?_
      obtain ⟨ob10, h⟩ := h
      refine pw_cV (z := mX4_byteAt) (av := [Iq (((mem 34 14) + x1) + 2)]) (st := []) eX4_has3_39 lk_RX4_211 rfl (by decide) (by decide) sh34 rfl rfl (Nat.le_of_ble_eq_true rfl) rfl (ct_X4_byteAt' (mem := mem) ob10) ?_
      show PW S mX4_has3 Q 42 [some (Aq 34), some (Iq x1), some (Iq x2), some (Iq x3), some (Iq x4)] [Iq (btA mem (((mem 34 14) + x1) + 2))] mem
      refine pw_iload eX4_has3_42 rfl ?_
      refine pw_icmp_ne eX4_has3_44 (fun c11 => ?_) (fun c11 => ?_)
      · have h := h.2 c11
        refine pw_iconst eX4_has3_51 ⟨by decide, by decide⟩ ?_
        exact pw_iret eX4_has3_52 h
      · have h := h.1 (Classical.not_not.mp c11)
        refine pw_iconst eX4_has3_47 ⟨by decide, by decide⟩ ?_
        refine pw_goto eX4_has3_48 ?_
        exact pw_iret eX4_has3_52 h
set_option maxRecDepth 100000 in
theorem rg_X4_isNumber_0 {S : Sx} {Q : Option PV → Zm → Prop} {mem : Zm}   {x1 x2 : Int} 
    (h : (((mem 34 13 = 2) → ((((x1 ≤ mem 34 16 ∧ mem 34 16 ≤ x2) → (Q (some (Iq 1)) mem)) ∧ (¬ (x1 ≤ mem 34 16 ∧ mem 34 16 ≤ x2) → (Q (some (Iq 0)) (mup mem 34 17 (mem 34 14))))))) ∧ (¬ (mem 34 13 = 2) → (Q (some (Iq 0)) (mup mem 34 17 (mem 34 14)))))) :
    PW S mX4_isNumber Q 0 [some (Aq 34), some (Iq x1), some (Iq x2)] [] mem := by
  refine pw_aload_n eX4_isNumber_0 rfl rfl ?_
  refine gf_RX4_220 rfl eX4_isNumber_1 sh34 ?_
  refine pw_iconst eX4_isNumber_4 ⟨by decide, by decide⟩ ?_
  refine pw_icmp_ne eX4_isNumber_5 (fun c1 => ?_) (fun c1 => ?_)
  · have h := h.2 c1
    refine pw_aload_n eX4_isNumber_23 rfl rfl ?_
    refine pw_cV (z := mX4_fails) (av := []) (st := []) eX4_isNumber_24 lk_RX4_236 rfl (by decide) (by decide) sh34 rfl rfl (Nat.le_of_ble_eq_true rfl) rfl (ct_X4_fails (mem := mem)) ?_
    show PW S mX4_isNumber Q 27 [some (Aq 34), some (Iq x1), some (Iq x2)] [Iq 0] (mup mem 34 17 (mem 34 14))
    refine pw_if_eq eX4_isNumber_27 (fun c2 => ?_) (fun c2 => ?_)
    · skip
      refine pw_iconst eX4_isNumber_34 ⟨by decide, by decide⟩ ?_
      exact pw_iret eX4_isNumber_35 h
    · exact absurd (by decide) c2
  · have h := h.1 (Classical.not_not.mp c1)
    refine pw_aload_n eX4_isNumber_8 rfl rfl ?_
    refine gf_RX4_223 rfl eX4_isNumber_9 sh34 ?_
    refine pw_i2l eX4_isNumber_12 ?_
    refine pw_iload_n eX4_isNumber_13 rfl rfl ?_
    refine pw_i2l eX4_isNumber_14 ?_
    refine pw_iload_n eX4_isNumber_15 rfl rfl ?_
    refine pw_i2l eX4_isNumber_16 ?_
    refine pw_cS (z := mX4_isIn) (av := [Jq (mem 34 16), Jq x1, Jq x2]) (st := []) eX4_isNumber_17 lk_RX4_49 rfl (by decide) (by decide) (Nat.le_of_ble_eq_true rfl) rfl (ct_X4_isIn (mem := mem)) ?_
    show PW S mX4_isNumber Q 20 [some (Aq 34), some (Iq x1), some (Iq x2)] [Iq (bI (x1 ≤ mem 34 16 ∧ mem 34 16 ≤ x2))] mem
    refine pw_if_ne eX4_isNumber_20 (fun c3 => ?_) (fun c3 => ?_)
    · have h := h.1 (bI1.mp c3)
      refine pw_iconst eX4_isNumber_30 ⟨by decide, by decide⟩ ?_
      refine pw_goto eX4_isNumber_31 ?_
      exact pw_iret eX4_isNumber_35 h
    · have h := h.2 (bI0.mp (Classical.not_not.mp c3))
      refine pw_aload_n eX4_isNumber_23 rfl rfl ?_
      refine pw_cV (z := mX4_fails) (av := []) (st := []) eX4_isNumber_24 lk_RX4_236 rfl (by decide) (by decide) sh34 rfl rfl (Nat.le_of_ble_eq_true rfl) rfl (ct_X4_fails (mem := mem)) ?_
      show PW S mX4_isNumber Q 27 [some (Aq 34), some (Iq x1), some (Iq x2)] [Iq 0] (mup mem 34 17 (mem 34 14))
      refine pw_if_eq eX4_isNumber_27 (fun c4 => ?_) (fun c4 => ?_)
      · skip
        refine pw_iconst eX4_isNumber_34 ⟨by decide, by decide⟩ ?_
        exact pw_iret eX4_isNumber_35 h
      · exact absurd (by decide) c4
set_option maxRecDepth 100000 in
theorem rg_X4_hold_0 {S : Sx} {Q : Option PV → Zm → Prop} {mem : Zm}   {x1 x2 : Int} 
    (h : (((0 ≤ x1 ∧ x1 ≤ 9) → ((((x2 = -1) → ((in32 (124 + x1)) ∧ (0 ≤ 124 + x1 ∧ 124 + x1 < 134) ∧ Q (some (Iq 1)) (mup mem 35 (124 + x1).toNat x2))) ∧ (¬ (x2 = -1) → ((((0 ≤ x2 ∧ x2 < mem 35 0) → ((in32 (124 + x1)) ∧ (0 ≤ 124 + x1 ∧ 124 + x1 < 134) ∧ Q (some (Iq 1)) (mup mem 35 (124 + x1).toNat x2))) ∧ (¬ (0 ≤ x2 ∧ x2 < mem 35 0) → ((fOK mem (-1000001)) ∧ Q (some (Iq (-1000001))) (fnds mem (-1000001)))))))))) ∧ (¬ (0 ≤ x1 ∧ x1 ≤ 9) → ((fOK mem (-1000001)) ∧ Q (some (Iq (-1000001))) (fnds mem (-1000001)))))) :
    PW S mX4_hold Q 0 [some (Aq 34), some (Iq x1), some (Iq x2)] [] mem := by
  refine pw_iload_n eX4_hold_0 rfl rfl ?_
  refine pw_i2l eX4_hold_1 ?_
  refine pw_lconst (v := 0) eX4_hold_2 ⟨by decide, by decide⟩ rfl ?_
  refine pw_ldc2 (n := 9) eX4_hold_3 ⟨by decide, by decide⟩ kc_RX4_57 ?_
  refine pw_cS (z := mX4_isIn) (av := [Jq x1, Jq 0, Jq 9]) (st := []) eX4_hold_6 lk_RX4_49 rfl (by decide) (by decide) (Nat.le_of_ble_eq_true rfl) rfl (ct_X4_isIn (mem := mem)) ?_
  show PW S mX4_hold Q 9 [some (Aq 34), some (Iq x1), some (Iq x2)] [Iq (bI (0 ≤ x1 ∧ x1 ≤ 9))] mem
  refine pw_if_eq eX4_hold_9 (fun c1 => ?_) (fun c1 => ?_)
  · have h := h.2 (bI0.mp c1)
    refine pw_aload_n eX4_hold_25 rfl rfl ?_
    refine pw_ldc (n := (-1000001)) eX4_hold_26 ⟨by decide, by decide⟩ kc_RX4_37 ?_
    obtain ⟨ob2, h⟩ := h
    refine pw_cV (z := mX4_finds) (av := [Iq (-1000001)]) (st := []) eX4_hold_28 lk_RX4_39 rfl (by decide) (by decide) sh34 rfl rfl (Nat.le_of_ble_eq_true rfl) rfl (ct_X4_finds' (mem := mem) ob2) ?_
    show PW S mX4_hold Q 31 [some (Aq 34), some (Iq x1), some (Iq x2)] [Iq (-1000001)] (fnds mem (-1000001))
    exact pw_iret eX4_hold_31 h
  · have h := h.1 (bI1.mp c1)
    refine pw_iload_n eX4_hold_12 rfl rfl ?_
    refine pw_iconst eX4_hold_13 ⟨by decide, by decide⟩ ?_
    refine pw_icmp_eq eX4_hold_14 (fun c3 => ?_) (fun c3 => ?_)
    · have h := h.1 c3
      refine pw_aload_n eX4_hold_32 rfl rfl ?_
      refine gf_RX4_7 rfl eX4_hold_33 sh34 ?_
      refine pw_bipush eX4_hold_36 ⟨by decide, by decide⟩ (by decide) ?_
      refine pw_iload_n eX4_hold_38 rfl rfl ?_
      obtain ⟨ob4, h⟩ := h
      refine pw_iadd eX4_hold_39 ob4 ?_
      refine pw_iload_n eX4_hold_40 rfl rfl ?_
      obtain ⟨ob5, h⟩ := h
      refine pw_iast eX4_hold_41 sh35 ob5 ?_
      refine pw_iconst eX4_hold_42 ⟨by decide, by decide⟩ ?_
      exact pw_iret eX4_hold_43 h
    · have h := h.2 c3
      refine pw_aload_n eX4_hold_17 rfl rfl ?_
      refine pw_iload_n eX4_hold_18 rfl rfl ?_
      refine pw_cV (z := mX4_isChild) (av := [Iq x2]) (st := []) eX4_hold_19 lk_RX4_77 rfl (by decide) (by decide) sh34 rfl rfl (Nat.le_of_ble_eq_true rfl) rfl (ct_X4_isChild (mem := mem)) ?_
      show PW S mX4_hold Q 22 [some (Aq 34), some (Iq x1), some (Iq x2)] [Iq (bI (0 ≤ x2 ∧ x2 < mem 35 0))] mem
      refine pw_if_ne eX4_hold_22 (fun c6 => ?_) (fun c6 => ?_)
      · have h := h.1 (bI1.mp c6)
        refine pw_aload_n eX4_hold_32 rfl rfl ?_
        refine gf_RX4_7 rfl eX4_hold_33 sh34 ?_
        refine pw_bipush eX4_hold_36 ⟨by decide, by decide⟩ (by decide) ?_
        refine pw_iload_n eX4_hold_38 rfl rfl ?_
        obtain ⟨ob7, h⟩ := h
        refine pw_iadd eX4_hold_39 ob7 ?_
        refine pw_iload_n eX4_hold_40 rfl rfl ?_
        obtain ⟨ob8, h⟩ := h
        refine pw_iast eX4_hold_41 sh35 ob8 ?_
        refine pw_iconst eX4_hold_42 ⟨by decide, by decide⟩ ?_
        exact pw_iret eX4_hold_43 h
      · have h := h.2 (bI0.mp (Classical.not_not.mp c6))
        refine pw_aload_n eX4_hold_25 rfl rfl ?_
        refine pw_ldc (n := (-1000001)) eX4_hold_26 ⟨by decide, by decide⟩ kc_RX4_37 ?_
        obtain ⟨ob9, h⟩ := h
        refine pw_cV (z := mX4_finds) (av := [Iq (-1000001)]) (st := []) eX4_hold_28 lk_RX4_39 rfl (by decide) (by decide) sh34 rfl rfl (Nat.le_of_ble_eq_true rfl) rfl (ct_X4_finds' (mem := mem) ob9) ?_
        show PW S mX4_hold Q 31 [some (Aq 34), some (Iq x1), some (Iq x2)] [Iq (-1000001)] (fnds mem (-1000001))
        exact pw_iret eX4_hold_31 h
set_option maxRecDepth 100000 in
theorem rg_X4_as_0 {S : Sx} {Q : Option PV → Zm → Prop} {mem : Zm}   {x1 x2 : Int} 
    (h : (((0 ≤ x1 ∧ x1 ≤ 9) → ((((0 ≤ x2 ∧ x2 ≤ 6) → ((in32 (124 + x1)) ∧ (0 ≤ 124 + x1 ∧ 124 + x1 < 134) ∧ (((0 ≤ mem 35 (124 + x1).toNat) → ((0 ≤ mem 35 (124 + x1).toNat ∧ mem 35 (124 + x1).toNat < 8) ∧ (((undI (mem 35 (12 + 14 * (mem 35 (124 + x1).toNat).toNat)) x2 = 0) → ((fOK mem (-1000003)) ∧ Q (some (Iq (-1000003))) (fnds mem (-1000003)))) ∧ (¬ (undI (mem 35 (12 + 14 * (mem 35 (124 + x1).toNat).toNat)) x2 = 0) → (Q (some (Iq (mem 35 (124 + x1).toNat))) mem))))) ∧ (¬ (0 ≤ mem 35 (124 + x1).toNat) → ((fOK mem (-1000006)) ∧ Q (some (Iq (-1000006))) (fnds mem (-1000006))))))) ∧ (¬ (0 ≤ x2 ∧ x2 ≤ 6) → ((fOK mem (-1000001)) ∧ Q (some (Iq (-1000001))) (fnds mem (-1000001))))))) ∧ (¬ (0 ≤ x1 ∧ x1 ≤ 9) → ((fOK mem (-1000001)) ∧ Q (some (Iq (-1000001))) (fnds mem (-1000001)))))) :
    PW S mX4_as Q 0 [some (Aq 34), some (Iq x1), some (Iq x2), none] [] mem := by
  refine pw_iload_n eX4_as_0 rfl rfl ?_
  refine pw_i2l eX4_as_1 ?_
  refine pw_lconst (v := 0) eX4_as_2 ⟨by decide, by decide⟩ rfl ?_
  refine pw_ldc2 (n := 9) eX4_as_3 ⟨by decide, by decide⟩ kc_RX4_57 ?_
  refine pw_cS (z := mX4_isIn) (av := [Jq x1, Jq 0, Jq 9]) (st := []) eX4_as_6 lk_RX4_49 rfl (by decide) (by decide) (Nat.le_of_ble_eq_true rfl) rfl (ct_X4_isIn (mem := mem)) ?_
  show PW S mX4_as Q 9 [some (Aq 34), some (Iq x1), some (Iq x2), none] [Iq (bI (0 ≤ x1 ∧ x1 ≤ 9))] mem
  refine pw_if_eq eX4_as_9 (fun c1 => ?_) (fun c1 => ?_)
  · have h := h.2 (bI0.mp c1)
    refine pw_aload_n eX4_as_24 rfl rfl ?_
    refine pw_ldc (n := (-1000001)) eX4_as_25 ⟨by decide, by decide⟩ kc_RX4_37 ?_
    obtain ⟨ob2, h⟩ := h
    refine pw_cV (z := mX4_finds) (av := [Iq (-1000001)]) (st := []) eX4_as_27 lk_RX4_39 rfl (by decide) (by decide) sh34 rfl rfl (Nat.le_of_ble_eq_true rfl) rfl (ct_X4_finds' (mem := mem) ob2) ?_
    show PW S mX4_as Q 30 [some (Aq 34), some (Iq x1), some (Iq x2), none] [Iq (-1000001)] (fnds mem (-1000001))
    exact pw_iret eX4_as_30 h
  · have h := h.1 (bI1.mp c1)
    refine pw_iload_n eX4_as_12 rfl rfl ?_
    refine pw_i2l eX4_as_13 ?_
    refine pw_lconst (v := 0) eX4_as_14 ⟨by decide, by decide⟩ rfl ?_
    refine pw_ldc2 (n := 6) eX4_as_15 ⟨by decide, by decide⟩ kc_RX4_62 ?_
    refine pw_cS (z := mX4_isIn) (av := [Jq x2, Jq 0, Jq 6]) (st := []) eX4_as_18 lk_RX4_49 rfl (by decide) (by decide) (Nat.le_of_ble_eq_true rfl) rfl (ct_X4_isIn (mem := mem)) ?_
    show PW S mX4_as Q 21 [some (Aq 34), some (Iq x1), some (Iq x2), none] [Iq (bI (0 ≤ x2 ∧ x2 ≤ 6))] mem
    refine pw_if_ne eX4_as_21 (fun c3 => ?_) (fun c3 => ?_)
    · have h := h.1 (bI1.mp c3)
      refine pw_aload_n eX4_as_31 rfl rfl ?_
      refine gf_RX4_7 rfl eX4_as_32 sh34 ?_
      refine pw_bipush eX4_as_35 ⟨by decide, by decide⟩ (by decide) ?_
      refine pw_iload_n eX4_as_37 rfl rfl ?_
      obtain ⟨ob4, h⟩ := h
      refine pw_iadd eX4_as_38 ob4 ?_
      obtain ⟨ob5, h⟩ := h
      refine pw_iald eX4_as_39 sh35 ob5 ?_
      refine pw_istore_n (ls2 := [some (Aq 34), some (Iq x1), some (Iq x2), some (Iq (mem 35 (124 + x1).toNat))]) eX4_as_40 rfl (by decide) rfl ?_
      refine pw_iload_n eX4_as_41 rfl rfl ?_
      refine pw_if_ge eX4_as_42 (fun c6 => ?_) (fun c6 => ?_)
      · have h := h.1 c6
        refine pw_aload_n eX4_as_53 rfl rfl ?_
        refine pw_iload_n eX4_as_54 rfl rfl ?_
        refine pw_iconst eX4_as_55 ⟨by decide, by decide⟩ ?_
        obtain ⟨ob7, h⟩ := h
        refine pw_cV (z := mX4_its) (av := [Iq (mem 35 (124 + x1).toNat), Iq 0]) (st := []) eX4_as_56 lk_RX4_71 rfl (by decide) (by decide) sh34 rfl rfl (Nat.le_of_ble_eq_true rfl) rfl (ct_X4_its (mem := mem) ⟨ob7.1, ob7.2, by decide, by decide⟩) ?_
        show PW S mX4_as Q 59 [some (Aq 34), some (Iq x1), some (Iq x2), some (Iq (mem 35 (124 + x1).toNat))] [Iq (mem 35 (12 + 14 * (mem 35 (124 + x1).toNat).toNat))] mem
        refine pw_iload_n eX4_as_59 rfl rfl ?_
        refine pw_cS (z := mX4_isUnder) (av := [Iq (mem 35 (12 + 14 * (mem 35 (124 + x1).toNat).toNat)), Iq x2]) (st := []) eX4_as_60 lk_RX4_274 rfl (by decide) (by decide) (Nat.le_of_ble_eq_true rfl) rfl (ct_X4_isUnder (mem := mem)) ?_
        show PW S mX4_as Q 63 [some (Aq 34), some (Iq x1), some (Iq x2), some (Iq (mem 35 (124 + x1).toNat))] [Iq (undI (mem 35 (12 + 14 * (mem 35 (124 + x1).toNat).toNat)) x2)] mem
        refine pw_if_eq eX4_as_63 (fun c8 => ?_) (fun c8 => ?_)
        · have h := h.1 c8
          refine pw_aload_n eX4_as_70 rfl rfl ?_
          refine pw_ldcw (n := (-1000003)) eX4_as_71 ⟨by decide, by decide⟩ kc_RX4_277 ?_
          obtain ⟨ob9, h⟩ := h
          refine pw_cV (z := mX4_finds) (av := [Iq (-1000003)]) (st := []) eX4_as_74 lk_RX4_39 rfl (by decide) (by decide) sh34 rfl rfl (Nat.le_of_ble_eq_true rfl) rfl (ct_X4_finds' (mem := mem) ob9) ?_
          show PW S mX4_as Q 77 [some (Aq 34), some (Iq x1), some (Iq x2), some (Iq (mem 35 (124 + x1).toNat))] [Iq (-1000003)] (fnds mem (-1000003))
          exact pw_iret eX4_as_77 h
        · have h := h.2 c8
          refine pw_iload_n eX4_as_66 rfl rfl ?_
          refine pw_goto eX4_as_67 ?_
          exact pw_iret eX4_as_77 h
      · have h := h.2 c6
        refine pw_aload_n eX4_as_45 rfl rfl ?_
        refine pw_ldcw (n := (-1000006)) eX4_as_46 ⟨by decide, by decide⟩ kc_RX4_273 ?_
        obtain ⟨ob10, h⟩ := h
        refine pw_cV (z := mX4_finds) (av := [Iq (-1000006)]) (st := []) eX4_as_49 lk_RX4_39 rfl (by decide) (by decide) sh34 rfl rfl (Nat.le_of_ble_eq_true rfl) rfl (ct_X4_finds' (mem := mem) ob10) ?_
        show PW S mX4_as Q 52 [some (Aq 34), some (Iq x1), some (Iq x2), some (Iq (mem 35 (124 + x1).toNat))] [Iq (-1000006)] (fnds mem (-1000006))
        exact pw_iret eX4_as_52 h
    · have h := h.2 (bI0.mp (Classical.not_not.mp c3))
      refine pw_aload_n eX4_as_24 rfl rfl ?_
      refine pw_ldc (n := (-1000001)) eX4_as_25 ⟨by decide, by decide⟩ kc_RX4_37 ?_
      obtain ⟨ob11, h⟩ := h
      refine pw_cV (z := mX4_finds) (av := [Iq (-1000001)]) (st := []) eX4_as_27 lk_RX4_39 rfl (by decide) (by decide) sh34 rfl rfl (Nat.le_of_ble_eq_true rfl) rfl (ct_X4_finds' (mem := mem) ob11) ?_
      show PW S mX4_as Q 30 [some (Aq 34), some (Iq x1), some (Iq x2), none] [Iq (-1000001)] (fnds mem (-1000001))
      exact pw_iret eX4_as_30 h
set_option maxRecDepth 100000 in
theorem rg_X4_sheet_0 {S : Sx} {Q : Option PV → Zm → Prop} {mem : Zm}   {x1 x2 x3 : Int} 
    (h : (((0 ≤ x1 ∧ x1 < 4) → ((((x2 = 0) → ((((0 ≤ x3) → ((((x3 ≤ 40) → ((((x2 = 0) → ((0 ≤ x1 ∧ x1 < 4) ∧ (((x2 = 0) → ((0 ≤ x1 ∧ x1 < 4) ∧ PW S mX4_sheet Q 94 [some (Aq 34), some (Iq x1), some (Iq x2), some (Iq x3), some (Iq 0)] [] (mup (mup mem 41 (x1).toNat (-1)) 42 (x1).toNat 0))) ∧ (¬ (x2 = 0) → ((0 ≤ x1 ∧ x1 < 4) ∧ PW S mX4_sheet Q 94 [some (Aq 34), some (Iq x1), some (Iq x2), some (Iq x3), some (Iq 0)] [] (mup (mup mem 41 (x1).toNat (-1)) 42 (x1).toNat x3)))))) ∧ (¬ (x2 = 0) → ((0 ≤ x1 ∧ x1 < 4) ∧ (((x2 = 0) → ((0 ≤ x1 ∧ x1 < 4) ∧ PW S mX4_sheet Q 94 [some (Aq 34), some (Iq x1), some (Iq x2), some (Iq x3), some (Iq 0)] [] (mup (mup mem 41 (x1).toNat x2) 42 (x1).toNat 0))) ∧ (¬ (x2 = 0) → ((0 ≤ x1 ∧ x1 < 4) ∧ PW S mX4_sheet Q 94 [some (Aq 34), some (Iq x1), some (Iq x2), some (Iq x3), some (Iq 0)] [] (mup (mup mem 41 (x1).toNat x2) 42 (x1).toNat x3))))))))) ∧ (¬ (x3 ≤ 40) → ((fOK mem (-1000001)) ∧ Q (some (Iq (-1000001))) (fnds mem (-1000001))))))) ∧ (¬ (0 ≤ x3) → ((fOK mem (-1000007)) ∧ Q (some (Iq (-1000007))) (fnds mem (-1000007))))))) ∧ (¬ (x2 = 0) → ((((x2 = 8) → ((((0 ≤ x3) → ((((x3 ≤ 40) → ((((x2 = 0) → ((0 ≤ x1 ∧ x1 < 4) ∧ (((x2 = 0) → ((0 ≤ x1 ∧ x1 < 4) ∧ PW S mX4_sheet Q 94 [some (Aq 34), some (Iq x1), some (Iq x2), some (Iq x3), some (Iq 0)] [] (mup (mup mem 41 (x1).toNat (-1)) 42 (x1).toNat 0))) ∧ (¬ (x2 = 0) → ((0 ≤ x1 ∧ x1 < 4) ∧ PW S mX4_sheet Q 94 [some (Aq 34), some (Iq x1), some (Iq x2), some (Iq x3), some (Iq 0)] [] (mup (mup mem 41 (x1).toNat (-1)) 42 (x1).toNat x3)))))) ∧ (¬ (x2 = 0) → ((0 ≤ x1 ∧ x1 < 4) ∧ (((x2 = 0) → ((0 ≤ x1 ∧ x1 < 4) ∧ PW S mX4_sheet Q 94 [some (Aq 34), some (Iq x1), some (Iq x2), some (Iq x3), some (Iq 0)] [] (mup (mup mem 41 (x1).toNat x2) 42 (x1).toNat 0))) ∧ (¬ (x2 = 0) → ((0 ≤ x1 ∧ x1 < 4) ∧ PW S mX4_sheet Q 94 [some (Aq 34), some (Iq x1), some (Iq x2), some (Iq x3), some (Iq 0)] [] (mup (mup mem 41 (x1).toNat x2) 42 (x1).toNat x3))))))))) ∧ (¬ (x3 ≤ 40) → ((fOK mem (-1000001)) ∧ Q (some (Iq (-1000001))) (fnds mem (-1000001))))))) ∧ (¬ (0 ≤ x3) → ((fOK mem (-1000007)) ∧ Q (some (Iq (-1000007))) (fnds mem (-1000007))))))) ∧ (¬ (x2 = 8) → ((((x2 = 16) → ((((0 ≤ x3) → ((((x3 ≤ 40) → ((((x2 = 0) → ((0 ≤ x1 ∧ x1 < 4) ∧ (((x2 = 0) → ((0 ≤ x1 ∧ x1 < 4) ∧ PW S mX4_sheet Q 94 [some (Aq 34), some (Iq x1), some (Iq x2), some (Iq x3), some (Iq 0)] [] (mup (mup mem 41 (x1).toNat (-1)) 42 (x1).toNat 0))) ∧ (¬ (x2 = 0) → ((0 ≤ x1 ∧ x1 < 4) ∧ PW S mX4_sheet Q 94 [some (Aq 34), some (Iq x1), some (Iq x2), some (Iq x3), some (Iq 0)] [] (mup (mup mem 41 (x1).toNat (-1)) 42 (x1).toNat x3)))))) ∧ (¬ (x2 = 0) → ((0 ≤ x1 ∧ x1 < 4) ∧ (((x2 = 0) → ((0 ≤ x1 ∧ x1 < 4) ∧ PW S mX4_sheet Q 94 [some (Aq 34), some (Iq x1), some (Iq x2), some (Iq x3), some (Iq 0)] [] (mup (mup mem 41 (x1).toNat x2) 42 (x1).toNat 0))) ∧ (¬ (x2 = 0) → ((0 ≤ x1 ∧ x1 < 4) ∧ PW S mX4_sheet Q 94 [some (Aq 34), some (Iq x1), some (Iq x2), some (Iq x3), some (Iq 0)] [] (mup (mup mem 41 (x1).toNat x2) 42 (x1).toNat x3))))))))) ∧ (¬ (x3 ≤ 40) → ((fOK mem (-1000001)) ∧ Q (some (Iq (-1000001))) (fnds mem (-1000001))))))) ∧ (¬ (0 ≤ x3) → ((fOK mem (-1000007)) ∧ Q (some (Iq (-1000007))) (fnds mem (-1000007))))))) ∧ (¬ (x2 = 16) → ((((x2 = 32) → ((((0 ≤ x3) → ((((x3 ≤ 40) → ((((x2 = 0) → ((0 ≤ x1 ∧ x1 < 4) ∧ (((x2 = 0) → ((0 ≤ x1 ∧ x1 < 4) ∧ PW S mX4_sheet Q 94 [some (Aq 34), some (Iq x1), some (Iq x2), some (Iq x3), some (Iq 0)] [] (mup (mup mem 41 (x1).toNat (-1)) 42 (x1).toNat 0))) ∧ (¬ (x2 = 0) → ((0 ≤ x1 ∧ x1 < 4) ∧ PW S mX4_sheet Q 94 [some (Aq 34), some (Iq x1), some (Iq x2), some (Iq x3), some (Iq 0)] [] (mup (mup mem 41 (x1).toNat (-1)) 42 (x1).toNat x3)))))) ∧ (¬ (x2 = 0) → ((0 ≤ x1 ∧ x1 < 4) ∧ (((x2 = 0) → ((0 ≤ x1 ∧ x1 < 4) ∧ PW S mX4_sheet Q 94 [some (Aq 34), some (Iq x1), some (Iq x2), some (Iq x3), some (Iq 0)] [] (mup (mup mem 41 (x1).toNat x2) 42 (x1).toNat 0))) ∧ (¬ (x2 = 0) → ((0 ≤ x1 ∧ x1 < 4) ∧ PW S mX4_sheet Q 94 [some (Aq 34), some (Iq x1), some (Iq x2), some (Iq x3), some (Iq 0)] [] (mup (mup mem 41 (x1).toNat x2) 42 (x1).toNat x3))))))))) ∧ (¬ (x3 ≤ 40) → ((fOK mem (-1000001)) ∧ Q (some (Iq (-1000001))) (fnds mem (-1000001))))))) ∧ (¬ (0 ≤ x3) → ((fOK mem (-1000007)) ∧ Q (some (Iq (-1000007))) (fnds mem (-1000007))))))) ∧ (¬ (x2 = 32) → ((fOK mem (-1000001)) ∧ Q (some (Iq (-1000001))) (fnds mem (-1000001)))))))))))))))) ∧ (¬ (0 ≤ x1 ∧ x1 < 4) → ((fOK mem (-1000001)) ∧ Q (some (Iq (-1000001))) (fnds mem (-1000001)))))) :
    PW S mX4_sheet Q 0 [some (Aq 34), some (Iq x1), some (Iq x2), some (Iq x3), none] [] mem := by
  refine pw_iload_n eX4_sheet_0 rfl rfl ?_
  refine pw_cS (z := mX4_isSheet) (av := [Iq x1]) (st := []) eX4_sheet_1 lk_RX4_278 rfl (by decide) (by decide) (Nat.le_of_ble_eq_true rfl) rfl (ct_X4_isSheet (mem := mem)) ?_
  show PW S mX4_sheet Q 4 [some (Aq 34), some (Iq x1), some (Iq x2), some (Iq x3), none] [Iq (bI (0 ≤ x1 ∧ x1 < 4))] mem
  refine pw_if_eq eX4_sheet_4 (fun c1 => ?_) (fun c1 => ?_)
  · have h := h.2 (bI0.mp c1)
    refine pw_aload_n eX4_sheet_29 rfl rfl ?_
    refine pw_ldc (n := (-1000001)) eX4_sheet_30 ⟨by decide, by decide⟩ kc_RX4_37 ?_
    obtain ⟨ob2, h⟩ := h
    refine pw_cV (z := mX4_finds) (av := [Iq (-1000001)]) (st := []) eX4_sheet_32 lk_RX4_39 rfl (by decide) (by decide) sh34 rfl rfl (Nat.le_of_ble_eq_true rfl) rfl (ct_X4_finds' (mem := mem) ob2) ?_
    show PW S mX4_sheet Q 35 [some (Aq 34), some (Iq x1), some (Iq x2), some (Iq x3), none] [Iq (-1000001)] (fnds mem (-1000001))
    exact pw_iret eX4_sheet_35 h
  · have h := h.1 (bI1.mp c1)
    refine pw_iload_n eX4_sheet_7 rfl rfl ?_
    refine pw_if_eq eX4_sheet_8 (fun c3 => ?_) (fun c3 => ?_)
    · have h := h.1 c3
      refine pw_iload_n eX4_sheet_36 rfl rfl ?_
      refine pw_if_ge eX4_sheet_37 (fun c4 => ?_) (fun c4 => ?_)
      · have h := h.1 c4
        refine pw_iload_n eX4_sheet_48 rfl rfl ?_
        refine pw_bipush eX4_sheet_49 ⟨by decide, by decide⟩ (by decide) ?_
        refine pw_icmp_le eX4_sheet_51 (fun c5 => ?_) (fun c5 => ?_)
        · have h := h.1 c5
          refine pw_aload_n eX4_sheet_61 rfl rfl ?_
          refine gf_RX4_28 rfl eX4_sheet_62 sh34 ?_
          refine pw_iload_n eX4_sheet_65 rfl rfl ?_
          refine pw_iload_n eX4_sheet_66 rfl rfl ?_
          refine pw_if_ne eX4_sheet_67 (fun c6 => ?_) (fun c6 => ?_)
          · have h := h.2 c6
            refine pw_iload_n eX4_sheet_74 rfl rfl ?_
            obtain ⟨ob7, h⟩ := h
            refine pw_iast eX4_sheet_75 sh41 ob7 ?_
            refine pw_aload_n eX4_sheet_76 rfl rfl ?_
            refine gf_RX4_31 rfl eX4_sheet_77 sh34 ?_
            refine pw_iload_n eX4_sheet_80 rfl rfl ?_
            refine pw_iload_n eX4_sheet_81 rfl rfl ?_
            refine pw_if_ne eX4_sheet_82 (fun c8 => ?_) (fun c8 => ?_)
            · have h := h.2 c8
              refine pw_iload_n eX4_sheet_89 rfl rfl ?_
              obtain ⟨ob9, h⟩ := h
              refine pw_iast eX4_sheet_90 sh42 ob9 ?_
              refine pw_iconst eX4_sheet_91 ⟨by decide, by decide⟩ ?_
              refine pw_istore (ls2 := [some (Aq 34), some (Iq x1), some (Iq x2), some (Iq x3), some (Iq 0)]) eX4_sheet_92 (by decide) rfl ?_
              exact h
            · have h := h.1 (Classical.not_not.mp c8)
              refine pw_iconst eX4_sheet_85 ⟨by decide, by decide⟩ ?_
              refine pw_goto eX4_sheet_86 ?_
              obtain ⟨ob10, h⟩ := h
              refine pw_iast eX4_sheet_90 sh42 ob10 ?_
              refine pw_iconst eX4_sheet_91 ⟨by decide, by decide⟩ ?_
              refine pw_istore (ls2 := [some (Aq 34), some (Iq x1), some (Iq x2), some (Iq x3), some (Iq 0)]) eX4_sheet_92 (by decide) rfl ?_
              exact h
          · have h := h.1 (Classical.not_not.mp c6)
            refine pw_iconst eX4_sheet_70 ⟨by decide, by decide⟩ ?_
            refine pw_goto eX4_sheet_71 ?_
            obtain ⟨ob11, h⟩ := h
            refine pw_iast eX4_sheet_75 sh41 ob11 ?_
            refine pw_aload_n eX4_sheet_76 rfl rfl ?_
            refine gf_RX4_31 rfl eX4_sheet_77 sh34 ?_
            refine pw_iload_n eX4_sheet_80 rfl rfl ?_
            refine pw_iload_n eX4_sheet_81 rfl rfl ?_
            refine pw_if_ne eX4_sheet_82 (fun c12 => ?_) (fun c12 => ?_)
            · have h := h.2 c12
              refine pw_iload_n eX4_sheet_89 rfl rfl ?_
              obtain ⟨ob13, h⟩ := h
              refine pw_iast eX4_sheet_90 sh42 ob13 ?_
              refine pw_iconst eX4_sheet_91 ⟨by decide, by decide⟩ ?_
              refine pw_istore (ls2 := [some (Aq 34), some (Iq x1), some (Iq x2), some (Iq x3), some (Iq 0)]) eX4_sheet_92 (by decide) rfl ?_
              exact h
            · have h := h.1 (Classical.not_not.mp c12)
              refine pw_iconst eX4_sheet_85 ⟨by decide, by decide⟩ ?_
              refine pw_goto eX4_sheet_86 ?_
              obtain ⟨ob14, h⟩ := h
              refine pw_iast eX4_sheet_90 sh42 ob14 ?_
              refine pw_iconst eX4_sheet_91 ⟨by decide, by decide⟩ ?_
              refine pw_istore (ls2 := [some (Aq 34), some (Iq x1), some (Iq x2), some (Iq x3), some (Iq 0)]) eX4_sheet_92 (by decide) rfl ?_
              exact h
        · have h := h.2 c5
          refine pw_aload_n eX4_sheet_54 rfl rfl ?_
          refine pw_ldc (n := (-1000001)) eX4_sheet_55 ⟨by decide, by decide⟩ kc_RX4_37 ?_
          obtain ⟨ob15, h⟩ := h
          refine pw_cV (z := mX4_finds) (av := [Iq (-1000001)]) (st := []) eX4_sheet_57 lk_RX4_39 rfl (by decide) (by decide) sh34 rfl rfl (Nat.le_of_ble_eq_true rfl) rfl (ct_X4_finds' (mem := mem) ob15) ?_
          show PW S mX4_sheet Q 60 [some (Aq 34), some (Iq x1), some (Iq x2), some (Iq x3), none] [Iq (-1000001)] (fnds mem (-1000001))
          exact pw_iret eX4_sheet_60 h
      · have h := h.2 c4
        refine pw_aload_n eX4_sheet_40 rfl rfl ?_
        refine pw_ldcw (n := (-1000007)) eX4_sheet_41 ⟨by decide, by decide⟩ kc_RX4_281 ?_
        obtain ⟨ob16, h⟩ := h
        refine pw_cV (z := mX4_finds) (av := [Iq (-1000007)]) (st := []) eX4_sheet_44 lk_RX4_39 rfl (by decide) (by decide) sh34 rfl rfl (Nat.le_of_ble_eq_true rfl) rfl (ct_X4_finds' (mem := mem) ob16) ?_
        show PW S mX4_sheet Q 47 [some (Aq 34), some (Iq x1), some (Iq x2), some (Iq x3), none] [Iq (-1000007)] (fnds mem (-1000007))
        exact pw_iret eX4_sheet_47 h
    · have h := h.2 c3
      refine pw_iload_n eX4_sheet_11 rfl rfl ?_
      refine pw_bipush eX4_sheet_12 ⟨by decide, by decide⟩ (by decide) ?_
      refine pw_icmp_eq eX4_sheet_14 (fun c17 => ?_) (fun c17 => ?_)
      · have h := h.1 c17
        refine pw_iload_n eX4_sheet_36 rfl rfl ?_
        refine pw_if_ge eX4_sheet_37 (fun c18 => ?_) (fun c18 => ?_)
        · have h := h.1 c18
          refine pw_iload_n eX4_sheet_48 rfl rfl ?_
          refine pw_bipush eX4_sheet_49 ⟨by decide, by decide⟩ (by decide) ?_
          refine pw_icmp_le eX4_sheet_51 (fun c19 => ?_) (fun c19 => ?_)
          · have h := h.1 c19
            refine pw_aload_n eX4_sheet_61 rfl rfl ?_
            refine gf_RX4_28 rfl eX4_sheet_62 sh34 ?_
            refine pw_iload_n eX4_sheet_65 rfl rfl ?_
            refine pw_iload_n eX4_sheet_66 rfl rfl ?_
            refine pw_if_ne eX4_sheet_67 (fun c20 => ?_) (fun c20 => ?_)
            · have h := h.2 c20
              refine pw_iload_n eX4_sheet_74 rfl rfl ?_
              obtain ⟨ob21, h⟩ := h
              refine pw_iast eX4_sheet_75 sh41 ob21 ?_
              refine pw_aload_n eX4_sheet_76 rfl rfl ?_
              refine gf_RX4_31 rfl eX4_sheet_77 sh34 ?_
              refine pw_iload_n eX4_sheet_80 rfl rfl ?_
              refine pw_iload_n eX4_sheet_81 rfl rfl ?_
              refine pw_if_ne eX4_sheet_82 (fun c22 => ?_) (fun c22 => ?_)
              · have h := h.2 c22
                refine pw_iload_n eX4_sheet_89 rfl rfl ?_
                obtain ⟨ob23, h⟩ := h
                refine pw_iast eX4_sheet_90 sh42 ob23 ?_
                refine pw_iconst eX4_sheet_91 ⟨by decide, by decide⟩ ?_
                refine pw_istore (ls2 := [some (Aq 34), some (Iq x1), some (Iq x2), some (Iq x3), some (Iq 0)]) eX4_sheet_92 (by decide) rfl ?_
                exact h
              · have h := h.1 (Classical.not_not.mp c22)
                refine pw_iconst eX4_sheet_85 ⟨by decide, by decide⟩ ?_
                refine pw_goto eX4_sheet_86 ?_
                obtain ⟨ob24, h⟩ := h
                refine pw_iast eX4_sheet_90 sh42 ob24 ?_
                refine pw_iconst eX4_sheet_91 ⟨by decide, by decide⟩ ?_
                refine pw_istore (ls2 := [some (Aq 34), some (Iq x1), some (Iq x2), some (Iq x3), some (Iq 0)]) eX4_sheet_92 (by decide) rfl ?_
                exact h
            · have h := h.1 (Classical.not_not.mp c20)
              refine pw_iconst eX4_sheet_70 ⟨by decide, by decide⟩ ?_
              refine pw_goto eX4_sheet_71 ?_
              obtain ⟨ob25, h⟩ := h
              refine pw_iast eX4_sheet_75 sh41 ob25 ?_
              refine pw_aload_n eX4_sheet_76 rfl rfl ?_
              refine gf_RX4_31 rfl eX4_sheet_77 sh34 ?_
              refine pw_iload_n eX4_sheet_80 rfl rfl ?_
              refine pw_iload_n eX4_sheet_81 rfl rfl ?_
              refine pw_if_ne eX4_sheet_82 (fun c26 => ?_) (fun c26 => ?_)
              · have h := h.2 c26
                refine pw_iload_n eX4_sheet_89 rfl rfl ?_
                obtain ⟨ob27, h⟩ := h
                refine pw_iast eX4_sheet_90 sh42 ob27 ?_
                refine pw_iconst eX4_sheet_91 ⟨by decide, by decide⟩ ?_
                refine pw_istore (ls2 := [some (Aq 34), some (Iq x1), some (Iq x2), some (Iq x3), some (Iq 0)]) eX4_sheet_92 (by decide) rfl ?_
                exact h
              · have h := h.1 (Classical.not_not.mp c26)
                refine pw_iconst eX4_sheet_85 ⟨by decide, by decide⟩ ?_
                refine pw_goto eX4_sheet_86 ?_
                obtain ⟨ob28, h⟩ := h
                refine pw_iast eX4_sheet_90 sh42 ob28 ?_
                refine pw_iconst eX4_sheet_91 ⟨by decide, by decide⟩ ?_
                refine pw_istore (ls2 := [some (Aq 34), some (Iq x1), some (Iq x2), some (Iq x3), some (Iq 0)]) eX4_sheet_92 (by decide) rfl ?_
                exact h
          · have h := h.2 c19
            refine pw_aload_n eX4_sheet_54 rfl rfl ?_
            refine pw_ldc (n := (-1000001)) eX4_sheet_55 ⟨by decide, by decide⟩ kc_RX4_37 ?_
            obtain ⟨ob29, h⟩ := h
            refine pw_cV (z := mX4_finds) (av := [Iq (-1000001)]) (st := []) eX4_sheet_57 lk_RX4_39 rfl (by decide) (by decide) sh34 rfl rfl (Nat.le_of_ble_eq_true rfl) rfl (ct_X4_finds' (mem := mem) ob29) ?_
            show PW S mX4_sheet Q 60 [some (Aq 34), some (Iq x1), some (Iq x2), some (Iq x3), none] [Iq (-1000001)] (fnds mem (-1000001))
            exact pw_iret eX4_sheet_60 h
        · have h := h.2 c18
          refine pw_aload_n eX4_sheet_40 rfl rfl ?_
          refine pw_ldcw (n := (-1000007)) eX4_sheet_41 ⟨by decide, by decide⟩ kc_RX4_281 ?_
          obtain ⟨ob30, h⟩ := h
          refine pw_cV (z := mX4_finds) (av := [Iq (-1000007)]) (st := []) eX4_sheet_44 lk_RX4_39 rfl (by decide) (by decide) sh34 rfl rfl (Nat.le_of_ble_eq_true rfl) rfl (ct_X4_finds' (mem := mem) ob30) ?_
          show PW S mX4_sheet Q 47 [some (Aq 34), some (Iq x1), some (Iq x2), some (Iq x3), none] [Iq (-1000007)] (fnds mem (-1000007))
          exact pw_iret eX4_sheet_47 h
      · have h := h.2 c17
        refine pw_iload_n eX4_sheet_17 rfl rfl ?_
        refine pw_bipush eX4_sheet_18 ⟨by decide, by decide⟩ (by decide) ?_
        refine pw_icmp_eq eX4_sheet_20 (fun c31 => ?_) (fun c31 => ?_)
        · have h := h.1 c31
          refine pw_iload_n eX4_sheet_36 rfl rfl ?_
          refine pw_if_ge eX4_sheet_37 (fun c32 => ?_) (fun c32 => ?_)
          · have h := h.1 c32
            refine pw_iload_n eX4_sheet_48 rfl rfl ?_
            refine pw_bipush eX4_sheet_49 ⟨by decide, by decide⟩ (by decide) ?_
            refine pw_icmp_le eX4_sheet_51 (fun c33 => ?_) (fun c33 => ?_)
            · have h := h.1 c33
              refine pw_aload_n eX4_sheet_61 rfl rfl ?_
              refine gf_RX4_28 rfl eX4_sheet_62 sh34 ?_
              refine pw_iload_n eX4_sheet_65 rfl rfl ?_
              refine pw_iload_n eX4_sheet_66 rfl rfl ?_
              refine pw_if_ne eX4_sheet_67 (fun c34 => ?_) (fun c34 => ?_)
              · have h := h.2 c34
                refine pw_iload_n eX4_sheet_74 rfl rfl ?_
                obtain ⟨ob35, h⟩ := h
                refine pw_iast eX4_sheet_75 sh41 ob35 ?_
                refine pw_aload_n eX4_sheet_76 rfl rfl ?_
                refine gf_RX4_31 rfl eX4_sheet_77 sh34 ?_
                refine pw_iload_n eX4_sheet_80 rfl rfl ?_
                refine pw_iload_n eX4_sheet_81 rfl rfl ?_
                refine pw_if_ne eX4_sheet_82 (fun c36 => ?_) (fun c36 => ?_)
                · have h := h.2 c36
                  refine pw_iload_n eX4_sheet_89 rfl rfl ?_
                  obtain ⟨ob37, h⟩ := h
                  refine pw_iast eX4_sheet_90 sh42 ob37 ?_
                  refine pw_iconst eX4_sheet_91 ⟨by decide, by decide⟩ ?_
                  refine pw_istore (ls2 := [some (Aq 34), some (Iq x1), some (Iq x2), some (Iq x3), some (Iq 0)]) eX4_sheet_92 (by decide) rfl ?_
                  exact h
                · have h := h.1 (Classical.not_not.mp c36)
                  refine pw_iconst eX4_sheet_85 ⟨by decide, by decide⟩ ?_
                  refine pw_goto eX4_sheet_86 ?_
                  obtain ⟨ob38, h⟩ := h
                  refine pw_iast eX4_sheet_90 sh42 ob38 ?_
                  refine pw_iconst eX4_sheet_91 ⟨by decide, by decide⟩ ?_
                  refine pw_istore (ls2 := [some (Aq 34), some (Iq x1), some (Iq x2), some (Iq x3), some (Iq 0)]) eX4_sheet_92 (by decide) rfl ?_
                  exact h
              · have h := h.1 (Classical.not_not.mp c34)
                refine pw_iconst eX4_sheet_70 ⟨by decide, by decide⟩ ?_
                refine pw_goto eX4_sheet_71 ?_
                obtain ⟨ob39, h⟩ := h
                refine pw_iast eX4_sheet_75 sh41 ob39 ?_
                refine pw_aload_n eX4_sheet_76 rfl rfl ?_
                refine gf_RX4_31 rfl eX4_sheet_77 sh34 ?_
                refine pw_iload_n eX4_sheet_80 rfl rfl ?_
                refine pw_iload_n eX4_sheet_81 rfl rfl ?_
                refine pw_if_ne eX4_sheet_82 (fun c40 => ?_) (fun c40 => ?_)
                · have h := h.2 c40
                  refine pw_iload_n eX4_sheet_89 rfl rfl ?_
                  obtain ⟨ob41, h⟩ := h
                  refine pw_iast eX4_sheet_90 sh42 ob41 ?_
                  refine pw_iconst eX4_sheet_91 ⟨by decide, by decide⟩ ?_
                  refine pw_istore (ls2 := [some (Aq 34), some (Iq x1), some (Iq x2), some (Iq x3), some (Iq 0)]) eX4_sheet_92 (by decide) rfl ?_
                  exact h
                · have h := h.1 (Classical.not_not.mp c40)
                  refine pw_iconst eX4_sheet_85 ⟨by decide, by decide⟩ ?_
                  refine pw_goto eX4_sheet_86 ?_
                  obtain ⟨ob42, h⟩ := h
                  refine pw_iast eX4_sheet_90 sh42 ob42 ?_
                  refine pw_iconst eX4_sheet_91 ⟨by decide, by decide⟩ ?_
                  refine pw_istore (ls2 := [some (Aq 34), some (Iq x1), some (Iq x2), some (Iq x3), some (Iq 0)]) eX4_sheet_92 (by decide) rfl ?_
                  exact h
            · have h := h.2 c33
              refine pw_aload_n eX4_sheet_54 rfl rfl ?_
              refine pw_ldc (n := (-1000001)) eX4_sheet_55 ⟨by decide, by decide⟩ kc_RX4_37 ?_
              obtain ⟨ob43, h⟩ := h
              refine pw_cV (z := mX4_finds) (av := [Iq (-1000001)]) (st := []) eX4_sheet_57 lk_RX4_39 rfl (by decide) (by decide) sh34 rfl rfl (Nat.le_of_ble_eq_true rfl) rfl (ct_X4_finds' (mem := mem) ob43) ?_
              show PW S mX4_sheet Q 60 [some (Aq 34), some (Iq x1), some (Iq x2), some (Iq x3), none] [Iq (-1000001)] (fnds mem (-1000001))
              exact pw_iret eX4_sheet_60 h
          · have h := h.2 c32
            refine pw_aload_n eX4_sheet_40 rfl rfl ?_
            refine pw_ldcw (n := (-1000007)) eX4_sheet_41 ⟨by decide, by decide⟩ kc_RX4_281 ?_
            obtain ⟨ob44, h⟩ := h
            refine pw_cV (z := mX4_finds) (av := [Iq (-1000007)]) (st := []) eX4_sheet_44 lk_RX4_39 rfl (by decide) (by decide) sh34 rfl rfl (Nat.le_of_ble_eq_true rfl) rfl (ct_X4_finds' (mem := mem) ob44) ?_
            show PW S mX4_sheet Q 47 [some (Aq 34), some (Iq x1), some (Iq x2), some (Iq x3), none] [Iq (-1000007)] (fnds mem (-1000007))
            exact pw_iret eX4_sheet_47 h
        · have h := h.2 c31
          refine pw_iload_n eX4_sheet_23 rfl rfl ?_
          refine pw_bipush eX4_sheet_24 ⟨by decide, by decide⟩ (by decide) ?_
          refine pw_icmp_eq eX4_sheet_26 (fun c45 => ?_) (fun c45 => ?_)
          · have h := h.1 c45
            refine pw_iload_n eX4_sheet_36 rfl rfl ?_
            refine pw_if_ge eX4_sheet_37 (fun c46 => ?_) (fun c46 => ?_)
            · have h := h.1 c46
              refine pw_iload_n eX4_sheet_48 rfl rfl ?_
              refine pw_bipush eX4_sheet_49 ⟨by decide, by decide⟩ (by decide) ?_
              refine pw_icmp_le eX4_sheet_51 (fun c47 => ?_) (fun c47 => ?_)
              · have h := h.1 c47
                refine pw_aload_n eX4_sheet_61 rfl rfl ?_
                refine gf_RX4_28 rfl eX4_sheet_62 sh34 ?_
                refine pw_iload_n eX4_sheet_65 rfl rfl ?_
                refine pw_iload_n eX4_sheet_66 rfl rfl ?_
                refine pw_if_ne eX4_sheet_67 (fun c48 => ?_) (fun c48 => ?_)
                · have h := h.2 c48
                  refine pw_iload_n eX4_sheet_74 rfl rfl ?_
                  obtain ⟨ob49, h⟩ := h
                  refine pw_iast eX4_sheet_75 sh41 ob49 ?_
                  refine pw_aload_n eX4_sheet_76 rfl rfl ?_
                  refine gf_RX4_31 rfl eX4_sheet_77 sh34 ?_
                  refine pw_iload_n eX4_sheet_80 rfl rfl ?_
                  refine pw_iload_n eX4_sheet_81 rfl rfl ?_
                  refine pw_if_ne eX4_sheet_82 (fun c50 => ?_) (fun c50 => ?_)
                  · have h := h.2 c50
                    refine pw_iload_n eX4_sheet_89 rfl rfl ?_
                    obtain ⟨ob51, h⟩ := h
                    refine pw_iast eX4_sheet_90 sh42 ob51 ?_
                    refine pw_iconst eX4_sheet_91 ⟨by decide, by decide⟩ ?_
                    refine pw_istore (ls2 := [some (Aq 34), some (Iq x1), some (Iq x2), some (Iq x3), some (Iq 0)]) eX4_sheet_92 (by decide) rfl ?_
                    exact h
                  · have h := h.1 (Classical.not_not.mp c50)
                    refine pw_iconst eX4_sheet_85 ⟨by decide, by decide⟩ ?_
                    refine pw_goto eX4_sheet_86 ?_
                    obtain ⟨ob52, h⟩ := h
                    refine pw_iast eX4_sheet_90 sh42 ob52 ?_
                    refine pw_iconst eX4_sheet_91 ⟨by decide, by decide⟩ ?_
                    refine pw_istore (ls2 := [some (Aq 34), some (Iq x1), some (Iq x2), some (Iq x3), some (Iq 0)]) eX4_sheet_92 (by decide) rfl ?_
                    exact h
                · have h := h.1 (Classical.not_not.mp c48)
                  refine pw_iconst eX4_sheet_70 ⟨by decide, by decide⟩ ?_
                  refine pw_goto eX4_sheet_71 ?_
                  obtain ⟨ob53, h⟩ := h
                  refine pw_iast eX4_sheet_75 sh41 ob53 ?_
                  refine pw_aload_n eX4_sheet_76 rfl rfl ?_
                  refine gf_RX4_31 rfl eX4_sheet_77 sh34 ?_
                  refine pw_iload_n eX4_sheet_80 rfl rfl ?_
                  refine pw_iload_n eX4_sheet_81 rfl rfl ?_
                  refine pw_if_ne eX4_sheet_82 (fun c54 => ?_) (fun c54 => ?_)
                  · have h := h.2 c54
                    refine pw_iload_n eX4_sheet_89 rfl rfl ?_
                    obtain ⟨ob55, h⟩ := h
                    refine pw_iast eX4_sheet_90 sh42 ob55 ?_
                    refine pw_iconst eX4_sheet_91 ⟨by decide, by decide⟩ ?_
                    refine pw_istore (ls2 := [some (Aq 34), some (Iq x1), some (Iq x2), some (Iq x3), some (Iq 0)]) eX4_sheet_92 (by decide) rfl ?_
                    exact h
                  · have h := h.1 (Classical.not_not.mp c54)
                    refine pw_iconst eX4_sheet_85 ⟨by decide, by decide⟩ ?_
                    refine pw_goto eX4_sheet_86 ?_
                    obtain ⟨ob56, h⟩ := h
                    refine pw_iast eX4_sheet_90 sh42 ob56 ?_
                    refine pw_iconst eX4_sheet_91 ⟨by decide, by decide⟩ ?_
                    refine pw_istore (ls2 := [some (Aq 34), some (Iq x1), some (Iq x2), some (Iq x3), some (Iq 0)]) eX4_sheet_92 (by decide) rfl ?_
                    exact h
              · have h := h.2 c47
                refine pw_aload_n eX4_sheet_54 rfl rfl ?_
                refine pw_ldc (n := (-1000001)) eX4_sheet_55 ⟨by decide, by decide⟩ kc_RX4_37 ?_
                obtain ⟨ob57, h⟩ := h
                refine pw_cV (z := mX4_finds) (av := [Iq (-1000001)]) (st := []) eX4_sheet_57 lk_RX4_39 rfl (by decide) (by decide) sh34 rfl rfl (Nat.le_of_ble_eq_true rfl) rfl (ct_X4_finds' (mem := mem) ob57) ?_
                show PW S mX4_sheet Q 60 [some (Aq 34), some (Iq x1), some (Iq x2), some (Iq x3), none] [Iq (-1000001)] (fnds mem (-1000001))
                exact pw_iret eX4_sheet_60 h
            · have h := h.2 c46
              refine pw_aload_n eX4_sheet_40 rfl rfl ?_
              refine pw_ldcw (n := (-1000007)) eX4_sheet_41 ⟨by decide, by decide⟩ kc_RX4_281 ?_
              obtain ⟨ob58, h⟩ := h
              refine pw_cV (z := mX4_finds) (av := [Iq (-1000007)]) (st := []) eX4_sheet_44 lk_RX4_39 rfl (by decide) (by decide) sh34 rfl rfl (Nat.le_of_ble_eq_true rfl) rfl (ct_X4_finds' (mem := mem) ob58) ?_
              show PW S mX4_sheet Q 47 [some (Aq 34), some (Iq x1), some (Iq x2), some (Iq x3), none] [Iq (-1000007)] (fnds mem (-1000007))
              exact pw_iret eX4_sheet_47 h
          · have h := h.2 c45
            refine pw_aload_n eX4_sheet_29 rfl rfl ?_
            refine pw_ldc (n := (-1000001)) eX4_sheet_30 ⟨by decide, by decide⟩ kc_RX4_37 ?_
            obtain ⟨ob59, h⟩ := h
            refine pw_cV (z := mX4_finds) (av := [Iq (-1000001)]) (st := []) eX4_sheet_32 lk_RX4_39 rfl (by decide) (by decide) sh34 rfl rfl (Nat.le_of_ble_eq_true rfl) rfl (ct_X4_finds' (mem := mem) ob59) ?_
            show PW S mX4_sheet Q 35 [some (Aq 34), some (Iq x1), some (Iq x2), some (Iq x3), none] [Iq (-1000001)] (fnds mem (-1000001))
            exact pw_iret eX4_sheet_35 h

set_option maxRecDepth 100000 in
theorem rg_X4_sheet_94 {S : Sx} {Q : Option PV → Zm → Prop} {mem : Zm}   {x1 x2 x3 x4 : Int} 
    (h : (((40 ≤ x4) → ((0 ≤ x1 ∧ x1 < 4) ∧ Q (some (Iq (mem 42 (x1).toNat))) mem)) ∧ (¬ (40 ≤ x4) → ((in32 (40 * x1)) ∧ (in32 ((40 * x1) + x4)) ∧ (0 ≤ (40 * x1) + x4 ∧ (40 * x1) + x4 < 160) ∧ (in32 (x4 + 1)) ∧ PW S mX4_sheet Q 94 [some (Aq 34), some (Iq x1), some (Iq x2), some (Iq x3), some (Iq (x4 + 1))] [] (mup mem 43 ((40 * x1) + x4).toNat 0))))) :
    PW S mX4_sheet Q 94 [some (Aq 34), some (Iq x1), some (Iq x2), some (Iq x3), some (Iq x4)] [] mem := by
  refine pw_iload eX4_sheet_94 rfl ?_
  refine pw_bipush eX4_sheet_96 ⟨by decide, by decide⟩ (by decide) ?_
  refine pw_icmp_ge eX4_sheet_98 (fun c1 => ?_) (fun c1 => ?_)
  · have h := h.1 c1
    refine pw_aload_n eX4_sheet_120 rfl rfl ?_
    refine gf_RX4_31 rfl eX4_sheet_121 sh34 ?_
    refine pw_iload_n eX4_sheet_124 rfl rfl ?_
    obtain ⟨ob2, h⟩ := h
    refine pw_iald eX4_sheet_125 sh42 ob2 ?_
    exact pw_iret eX4_sheet_126 h
  · have h := h.2 c1
    refine pw_aload_n eX4_sheet_101 rfl rfl ?_
    refine gf_RX4_34 rfl eX4_sheet_102 sh34 ?_
    refine pw_bipush eX4_sheet_105 ⟨by decide, by decide⟩ (by decide) ?_
    refine pw_iload_n eX4_sheet_107 rfl rfl ?_
    obtain ⟨ob3, h⟩ := h
    refine pw_imul eX4_sheet_108 ob3 ?_
    refine pw_iload eX4_sheet_109 rfl ?_
    obtain ⟨ob4, h⟩ := h
    refine pw_iadd eX4_sheet_111 ob4 ?_
    refine pw_iconst eX4_sheet_112 ⟨by decide, by decide⟩ ?_
    obtain ⟨ob5, h⟩ := h
    refine pw_iast eX4_sheet_113 sh43 ob5 ?_
    obtain ⟨ob6, h⟩ := h
    refine pw_iinc (ls2 := [some (Aq 34), some (Iq x1), some (Iq x2), some (Iq x3), some (Iq (x4 + 1))]) eX4_sheet_114 rfl ob6 rfl ?_
    refine pw_goto eX4_sheet_117 ?_
    exact h
set_option maxRecDepth 100000 in
theorem rg_X4_write_0 {S : Sx} {Q : Option PV → Zm → Prop} {mem : Zm}   {x1 x2 x3 : Int} 
    (h : (((0 ≤ x1 ∧ x1 < 4) → ((0 ≤ x1 ∧ x1 < 4) ∧ (((0 ≤ mem 41 (x1).toNat) → ((0 ≤ x1 ∧ x1 < 4) ∧ (in32 ((mem 42 (x1).toNat) - 1)) ∧ (((0 ≤ x2 ∧ x2 ≤ (mem 42 (x1).toNat) - 1) → ((in32 (40 * x1)) ∧ (in32 ((40 * x1) + x2)) ∧ (0 ≤ x1 ∧ x1 < 4) ∧ (((mem 41 (x1).toNat = 8) → ((0 ≤ (40 * x1) + x2 ∧ (40 * x1) + x2 < 160) ∧ Q (some (Iq 1)) (mup mem 43 ((40 * x1) + x2).toNat (toB x3)))) ∧ (¬ (mem 41 (x1).toNat = 8) → ((0 ≤ x1 ∧ x1 < 4) ∧ (((mem 41 (x1).toNat = 16) → ((0 ≤ (40 * x1) + x2 ∧ (40 * x1) + x2 < 160) ∧ Q (some (Iq 1)) (mup mem 43 ((40 * x1) + x2).toNat (toSh x3)))) ∧ (¬ (mem 41 (x1).toNat = 16) → ((0 ≤ (40 * x1) + x2 ∧ (40 * x1) + x2 < 160) ∧ Q (some (Iq 1)) (mup mem 43 ((40 * x1) + x2).toNat x3))))))))) ∧ (¬ (0 ≤ x2 ∧ x2 ≤ (mem 42 (x1).toNat) - 1) → ((fOK mem (-1000001)) ∧ Q (some (Iq (-1000001))) (fnds mem (-1000001))))))) ∧ (¬ (0 ≤ mem 41 (x1).toNat) → ((fOK mem (-1000006)) ∧ Q (some (Iq (-1000006))) (fnds mem (-1000006))))))) ∧ (¬ (0 ≤ x1 ∧ x1 < 4) → ((fOK mem (-1000001)) ∧ Q (some (Iq (-1000001))) (fnds mem (-1000001)))))) :
    PW S mX4_write Q 0 [some (Aq 34), some (Iq x1), some (Iq x2), some (Iq x3)] [] mem := by
  refine pw_iload_n eX4_write_0 rfl rfl ?_
  refine pw_cS (z := mX4_isSheet) (av := [Iq x1]) (st := []) eX4_write_1 lk_RX4_278 rfl (by decide) (by decide) (Nat.le_of_ble_eq_true rfl) rfl (ct_X4_isSheet (mem := mem)) ?_
  show PW S mX4_write Q 4 [some (Aq 34), some (Iq x1), some (Iq x2), some (Iq x3)] [Iq (bI (0 ≤ x1 ∧ x1 < 4))] mem
  refine pw_if_ne eX4_write_4 (fun c1 => ?_) (fun c1 => ?_)
  · have h := h.1 (bI1.mp c1)
    refine pw_aload_n eX4_write_14 rfl rfl ?_
    refine gf_RX4_28 rfl eX4_write_15 sh34 ?_
    refine pw_iload_n eX4_write_18 rfl rfl ?_
    obtain ⟨ob2, h⟩ := h
    refine pw_iald eX4_write_19 sh41 ob2 ?_
    refine pw_if_ge eX4_write_20 (fun c3 => ?_) (fun c3 => ?_)
    · have h := h.1 c3
      refine pw_iload_n eX4_write_31 rfl rfl ?_
      refine pw_i2l eX4_write_32 ?_
      refine pw_lconst (v := 0) eX4_write_33 ⟨by decide, by decide⟩ rfl ?_
      refine pw_aload_n eX4_write_34 rfl rfl ?_
      refine gf_RX4_31 rfl eX4_write_35 sh34 ?_
      refine pw_iload_n eX4_write_38 rfl rfl ?_
      obtain ⟨ob4, h⟩ := h
      refine pw_iald eX4_write_39 sh42 ob4 ?_
      refine pw_iconst eX4_write_40 ⟨by decide, by decide⟩ ?_
      obtain ⟨ob5, h⟩ := h
      refine pw_isub eX4_write_41 ob5 ?_
      refine pw_i2l eX4_write_42 ?_
      refine pw_cS (z := mX4_isIn) (av := [Jq x2, Jq 0, Jq ((mem 42 (x1).toNat) - 1)]) (st := []) eX4_write_43 lk_RX4_49 rfl (by decide) (by decide) (Nat.le_of_ble_eq_true rfl) rfl (ct_X4_isIn (mem := mem)) ?_
      show PW S mX4_write Q 46 [some (Aq 34), some (Iq x1), some (Iq x2), some (Iq x3)] [Iq (bI (0 ≤ x2 ∧ x2 ≤ (mem 42 (x1).toNat) - 1))] mem
      refine pw_if_ne eX4_write_46 (fun c6 => ?_) (fun c6 => ?_)
      · have h := h.1 (bI1.mp c6)
        refine pw_aload_n eX4_write_56 rfl rfl ?_
        refine gf_RX4_34 rfl eX4_write_57 sh34 ?_
        refine pw_bipush eX4_write_60 ⟨by decide, by decide⟩ (by decide) ?_
        refine pw_iload_n eX4_write_62 rfl rfl ?_
        obtain ⟨ob7, h⟩ := h
        refine pw_imul eX4_write_63 ob7 ?_
        refine pw_iload_n eX4_write_64 rfl rfl ?_
        obtain ⟨ob8, h⟩ := h
        refine pw_iadd eX4_write_65 ob8 ?_
        refine pw_aload_n eX4_write_66 rfl rfl ?_
        refine gf_RX4_28 rfl eX4_write_67 sh34 ?_
        refine pw_iload_n eX4_write_70 rfl rfl ?_
        obtain ⟨ob9, h⟩ := h
        refine pw_iald eX4_write_71 sh41 ob9 ?_
        refine pw_bipush eX4_write_72 ⟨by decide, by decide⟩ (by decide) ?_
        refine pw_icmp_ne eX4_write_74 (fun c10 => ?_) (fun c10 => ?_)
        · have h := h.2 c10
          refine pw_aload_n eX4_write_82 rfl rfl ?_
          refine gf_RX4_28 rfl eX4_write_83 sh34 ?_
          refine pw_iload_n eX4_write_86 rfl rfl ?_
          obtain ⟨ob11, h⟩ := h
          refine pw_iald eX4_write_87 sh41 ob11 ?_
          refine pw_bipush eX4_write_88 ⟨by decide, by decide⟩ (by decide) ?_
          refine pw_icmp_ne eX4_write_90 (fun c12 => ?_) (fun c12 => ?_)
          · have h := h.2 c12
            refine pw_iload_n eX4_write_98 rfl rfl ?_
            obtain ⟨ob13, h⟩ := h
            refine pw_iast eX4_write_99 sh43 ob13 ?_
            refine pw_iconst eX4_write_100 ⟨by decide, by decide⟩ ?_
            exact pw_iret eX4_write_101 h
          · have h := h.1 (Classical.not_not.mp c12)
            refine pw_iload_n eX4_write_93 rfl rfl ?_
            refine pw_i2s eX4_write_94 ?_
            refine pw_goto eX4_write_95 ?_
            obtain ⟨ob14, h⟩ := h
            refine pw_iast eX4_write_99 sh43 ob14 ?_
            refine pw_iconst eX4_write_100 ⟨by decide, by decide⟩ ?_
            exact pw_iret eX4_write_101 h
        · have h := h.1 (Classical.not_not.mp c10)
          refine pw_iload_n eX4_write_77 rfl rfl ?_
          refine pw_i2b eX4_write_78 ?_
          refine pw_goto eX4_write_79 ?_
          obtain ⟨ob15, h⟩ := h
          refine pw_iast eX4_write_99 sh43 ob15 ?_
          refine pw_iconst eX4_write_100 ⟨by decide, by decide⟩ ?_
          exact pw_iret eX4_write_101 h
      · have h := h.2 (bI0.mp (Classical.not_not.mp c6))
        refine pw_aload_n eX4_write_49 rfl rfl ?_
        refine pw_ldc (n := (-1000001)) eX4_write_50 ⟨by decide, by decide⟩ kc_RX4_37 ?_
        obtain ⟨ob16, h⟩ := h
        refine pw_cV (z := mX4_finds) (av := [Iq (-1000001)]) (st := []) eX4_write_52 lk_RX4_39 rfl (by decide) (by decide) sh34 rfl rfl (Nat.le_of_ble_eq_true rfl) rfl (ct_X4_finds' (mem := mem) ob16) ?_
        show PW S mX4_write Q 55 [some (Aq 34), some (Iq x1), some (Iq x2), some (Iq x3)] [Iq (-1000001)] (fnds mem (-1000001))
        exact pw_iret eX4_write_55 h
    · have h := h.2 c3
      refine pw_aload_n eX4_write_23 rfl rfl ?_
      refine pw_ldcw (n := (-1000006)) eX4_write_24 ⟨by decide, by decide⟩ kc_RX4_273 ?_
      obtain ⟨ob17, h⟩ := h
      refine pw_cV (z := mX4_finds) (av := [Iq (-1000006)]) (st := []) eX4_write_27 lk_RX4_39 rfl (by decide) (by decide) sh34 rfl rfl (Nat.le_of_ble_eq_true rfl) rfl (ct_X4_finds' (mem := mem) ob17) ?_
      show PW S mX4_write Q 30 [some (Aq 34), some (Iq x1), some (Iq x2), some (Iq x3)] [Iq (-1000006)] (fnds mem (-1000006))
      exact pw_iret eX4_write_30 h
  · have h := h.2 (bI0.mp (Classical.not_not.mp c1))
    refine pw_aload_n eX4_write_7 rfl rfl ?_
    refine pw_ldc (n := (-1000001)) eX4_write_8 ⟨by decide, by decide⟩ kc_RX4_37 ?_
    obtain ⟨ob18, h⟩ := h
    refine pw_cV (z := mX4_finds) (av := [Iq (-1000001)]) (st := []) eX4_write_10 lk_RX4_39 rfl (by decide) (by decide) sh34 rfl rfl (Nat.le_of_ble_eq_true rfl) rfl (ct_X4_finds' (mem := mem) ob18) ?_
    show PW S mX4_write Q 13 [some (Aq 34), some (Iq x1), some (Iq x2), some (Iq x3)] [Iq (-1000001)] (fnds mem (-1000001))
    exact pw_iret eX4_write_13 h
set_option maxRecDepth 100000 in
theorem rg_X4_copy_0 {S : Sx} {Q : Option PV → Zm → Prop} {mem : Zm}   {x1 x2 x3 x4 x5 : Int} 
    (h : (((0 ≤ x1 ∧ x1 < 4) → ((((0 ≤ x3 ∧ x3 < 4) → ((0 ≤ x1 ∧ x1 < 4) ∧ (((mem 41 (x1).toNat < 0) → ((fOK mem (-1000006)) ∧ Q (some (Iq (-1000006))) (fnds mem (-1000006)))) ∧ (¬ (mem 41 (x1).toNat < 0) → ((0 ≤ x3 ∧ x3 < 4) ∧ (((0 ≤ mem 41 (x3).toNat) → ((0 ≤ x1 ∧ x1 < 4) ∧ (0 ≤ x3 ∧ x3 < 4) ∧ (((mem 41 (x1).toNat = mem 41 (x3).toNat) → ((((x2 < 0) → ((fOK mem (-1000001)) ∧ Q (some (Iq (-1000001))) (fnds mem (-1000001)))) ∧ (¬ (x2 < 0) → ((((x4 < 0) → ((fOK mem (-1000001)) ∧ Q (some (Iq (-1000001))) (fnds mem (-1000001)))) ∧ (¬ (x4 < 0) → ((((x5 < 0) → ((fOK mem (-1000001)) ∧ Q (some (Iq (-1000001))) (fnds mem (-1000001)))) ∧ (¬ (x5 < 0) → ((0 ≤ x1 ∧ x1 < 4) ∧ (in32 ((mem 42 (x1).toNat) - x2)) ∧ ((((mem 42 (x1).toNat) - x2 < x5) → ((fOK mem (-1000001)) ∧ Q (some (Iq (-1000001))) (fnds mem (-1000001)))) ∧ (¬ ((mem 42 (x1).toNat) - x2 < x5) → ((0 ≤ x3 ∧ x3 < 4) ∧ (in32 ((mem 42 (x3).toNat) - x4)) ∧ (((x5 ≤ (mem 42 (x3).toNat) - x4) → ((in32 (40 * x1)) ∧ (in32 ((40 * x1) + x2)) ∧ (in32 (40 * x3)) ∧ (in32 ((40 * x3) + x4)) ∧ PW S mX4_copy Q 138 [some (Aq 34), some (Iq x1), some (Iq x2), some (Iq x3), some (Iq x4), some (Iq x5), some (Iq ((40 * x1) + x2)), some (Iq ((40 * x3) + x4)), some (Iq 0), none] [] mem)) ∧ (¬ (x5 ≤ (mem 42 (x3).toNat) - x4) → ((fOK mem (-1000001)) ∧ Q (some (Iq (-1000001))) (fnds mem (-1000001))))))))))))))))))) ∧ (¬ (mem 41 (x1).toNat = mem 41 (x3).toNat) → ((fOK mem (-1000003)) ∧ Q (some (Iq (-1000003))) (fnds mem (-1000003))))))) ∧ (¬ (0 ≤ mem 41 (x3).toNat) → ((fOK mem (-1000006)) ∧ Q (some (Iq (-1000006))) (fnds mem (-1000006)))))))))) ∧ (¬ (0 ≤ x3 ∧ x3 < 4) → ((fOK mem (-1000001)) ∧ Q (some (Iq (-1000001))) (fnds mem (-1000001))))))) ∧ (¬ (0 ≤ x1 ∧ x1 < 4) → ((fOK mem (-1000001)) ∧ Q (some (Iq (-1000001))) (fnds mem (-1000001)))))) :
    PW S mX4_copy Q 0 [some (Aq 34), some (Iq x1), some (Iq x2), some (Iq x3), some (Iq x4), some (Iq x5), none, none, none, none] [] mem := by
  refine pw_iload_n eX4_copy_0 rfl rfl ?_
  refine pw_cS (z := mX4_isSheet) (av := [Iq x1]) (st := []) eX4_copy_1 lk_RX4_278 rfl (by decide) (by decide) (Nat.le_of_ble_eq_true rfl) rfl (ct_X4_isSheet (mem := mem)) ?_
  show PW S mX4_copy Q 4 [some (Aq 34), some (Iq x1), some (Iq x2), some (Iq x3), some (Iq x4), some (Iq x5), none, none, none, none] [Iq (bI (0 ≤ x1 ∧ x1 < 4))] mem
  refine pw_if_eq eX4_copy_4 (fun c1 => ?_) (fun c1 => ?_)
  · have h := h.2 (bI0.mp c1)
    refine pw_aload_n eX4_copy_14 rfl rfl ?_
    refine pw_ldc (n := (-1000001)) eX4_copy_15 ⟨by decide, by decide⟩ kc_RX4_37 ?_
    obtain ⟨ob2, h⟩ := h
    refine pw_cV (z := mX4_finds) (av := [Iq (-1000001)]) (st := []) eX4_copy_17 lk_RX4_39 rfl (by decide) (by decide) sh34 rfl rfl (Nat.le_of_ble_eq_true rfl) rfl (ct_X4_finds' (mem := mem) ob2) ?_
    show PW S mX4_copy Q 20 [some (Aq 34), some (Iq x1), some (Iq x2), some (Iq x3), some (Iq x4), some (Iq x5), none, none, none, none] [Iq (-1000001)] (fnds mem (-1000001))
    exact pw_iret eX4_copy_20 h
  · have h := h.1 (bI1.mp c1)
    refine pw_iload_n eX4_copy_7 rfl rfl ?_
    refine pw_cS (z := mX4_isSheet) (av := [Iq x3]) (st := []) eX4_copy_8 lk_RX4_278 rfl (by decide) (by decide) (Nat.le_of_ble_eq_true rfl) rfl (ct_X4_isSheet (mem := mem)) ?_
    show PW S mX4_copy Q 11 [some (Aq 34), some (Iq x1), some (Iq x2), some (Iq x3), some (Iq x4), some (Iq x5), none, none, none, none] [Iq (bI (0 ≤ x3 ∧ x3 < 4))] mem
    refine pw_if_ne eX4_copy_11 (fun c3 => ?_) (fun c3 => ?_)
    · have h := h.1 (bI1.mp c3)
      refine pw_aload_n eX4_copy_21 rfl rfl ?_
      refine gf_RX4_28 rfl eX4_copy_22 sh34 ?_
      refine pw_iload_n eX4_copy_25 rfl rfl ?_
      obtain ⟨ob4, h⟩ := h
      refine pw_iald eX4_copy_26 sh41 ob4 ?_
      refine pw_if_lt eX4_copy_27 (fun c5 => ?_) (fun c5 => ?_)
      · have h := h.1 c5
        refine pw_aload_n eX4_copy_39 rfl rfl ?_
        refine pw_ldcw (n := (-1000006)) eX4_copy_40 ⟨by decide, by decide⟩ kc_RX4_273 ?_
        obtain ⟨ob6, h⟩ := h
        refine pw_cV (z := mX4_finds) (av := [Iq (-1000006)]) (st := []) eX4_copy_43 lk_RX4_39 rfl (by decide) (by decide) sh34 rfl rfl (Nat.le_of_ble_eq_true rfl) rfl (ct_X4_finds' (mem := mem) ob6) ?_
        show PW S mX4_copy Q 46 [some (Aq 34), some (Iq x1), some (Iq x2), some (Iq x3), some (Iq x4), some (Iq x5), none, none, none, none] [Iq (-1000006)] (fnds mem (-1000006))
        exact pw_iret eX4_copy_46 h
      · have h := h.2 c5
        refine pw_aload_n eX4_copy_30 rfl rfl ?_
        refine gf_RX4_28 rfl eX4_copy_31 sh34 ?_
        refine pw_iload_n eX4_copy_34 rfl rfl ?_
        obtain ⟨ob7, h⟩ := h
        refine pw_iald eX4_copy_35 sh41 ob7 ?_
        refine pw_if_ge eX4_copy_36 (fun c8 => ?_) (fun c8 => ?_)
        · have h := h.1 c8
          refine pw_aload_n eX4_copy_47 rfl rfl ?_
          refine gf_RX4_28 rfl eX4_copy_48 sh34 ?_
          refine pw_iload_n eX4_copy_51 rfl rfl ?_
          obtain ⟨ob9, h⟩ := h
          refine pw_iald eX4_copy_52 sh41 ob9 ?_
          refine pw_aload_n eX4_copy_53 rfl rfl ?_
          refine gf_RX4_28 rfl eX4_copy_54 sh34 ?_
          refine pw_iload_n eX4_copy_57 rfl rfl ?_
          obtain ⟨ob10, h⟩ := h
          refine pw_iald eX4_copy_58 sh41 ob10 ?_
          refine pw_icmp_eq eX4_copy_59 (fun c11 => ?_) (fun c11 => ?_)
          · have h := h.1 c11
            refine pw_iload_n eX4_copy_70 rfl rfl ?_
            refine pw_if_lt eX4_copy_71 (fun c12 => ?_) (fun c12 => ?_)
            · have h := h.1 c12
              refine pw_aload_n eX4_copy_111 rfl rfl ?_
              refine pw_ldc (n := (-1000001)) eX4_copy_112 ⟨by decide, by decide⟩ kc_RX4_37 ?_
              obtain ⟨ob13, h⟩ := h
              refine pw_cV (z := mX4_finds) (av := [Iq (-1000001)]) (st := []) eX4_copy_114 lk_RX4_39 rfl (by decide) (by decide) sh34 rfl rfl (Nat.le_of_ble_eq_true rfl) rfl (ct_X4_finds' (mem := mem) ob13) ?_
              show PW S mX4_copy Q 117 [some (Aq 34), some (Iq x1), some (Iq x2), some (Iq x3), some (Iq x4), some (Iq x5), none, none, none, none] [Iq (-1000001)] (fnds mem (-1000001))
              exact pw_iret eX4_copy_117 h
            · have h := h.2 c12
              refine pw_iload eX4_copy_74 rfl ?_
              refine pw_if_lt eX4_copy_76 (fun c14 => ?_) (fun c14 => ?_)
              · have h := h.1 c14
                refine pw_aload_n eX4_copy_111 rfl rfl ?_
                refine pw_ldc (n := (-1000001)) eX4_copy_112 ⟨by decide, by decide⟩ kc_RX4_37 ?_
                obtain ⟨ob15, h⟩ := h
                refine pw_cV (z := mX4_finds) (av := [Iq (-1000001)]) (st := []) eX4_copy_114 lk_RX4_39 rfl (by decide) (by decide) sh34 rfl rfl (Nat.le_of_ble_eq_true rfl) rfl (ct_X4_finds' (mem := mem) ob15) ?_
                show PW S mX4_copy Q 117 [some (Aq 34), some (Iq x1), some (Iq x2), some (Iq x3), some (Iq x4), some (Iq x5), none, none, none, none] [Iq (-1000001)] (fnds mem (-1000001))
                exact pw_iret eX4_copy_117 h
              · have h := h.2 c14
                refine pw_iload eX4_copy_79 rfl ?_
                refine pw_if_lt eX4_copy_81 (fun c16 => ?_) (fun c16 => ?_)
                · have h := h.1 c16
                  refine pw_aload_n eX4_copy_111 rfl rfl ?_
                  refine pw_ldc (n := (-1000001)) eX4_copy_112 ⟨by decide, by decide⟩ kc_RX4_37 ?_
                  obtain ⟨ob17, h⟩ := h
                  refine pw_cV (z := mX4_finds) (av := [Iq (-1000001)]) (st := []) eX4_copy_114 lk_RX4_39 rfl (by decide) (by decide) sh34 rfl rfl (Nat.le_of_ble_eq_true rfl) rfl (ct_X4_finds' (mem := mem) ob17) ?_
                  show PW S mX4_copy Q 117 [some (Aq 34), some (Iq x1), some (Iq x2), some (Iq x3), some (Iq x4), some (Iq x5), none, none, none, none] [Iq (-1000001)] (fnds mem (-1000001))
                  exact pw_iret eX4_copy_117 h
                · have h := h.2 c16
                  refine pw_iload eX4_copy_84 rfl ?_
                  refine pw_aload_n eX4_copy_86 rfl rfl ?_
                  refine gf_RX4_31 rfl eX4_copy_87 sh34 ?_
                  refine pw_iload_n eX4_copy_90 rfl rfl ?_
                  obtain ⟨ob18, h⟩ := h
                  refine pw_iald eX4_copy_91 sh42 ob18 ?_
                  refine pw_iload_n eX4_copy_92 rfl rfl ?_
                  obtain ⟨ob19, h⟩ := h
                  refine pw_isub eX4_copy_93 ob19 ?_
                  refine pw_icmp_gt eX4_copy_94 (fun c20 => ?_) (fun c20 => ?_)
                  · have h := h.1 c20
                    refine pw_aload_n eX4_copy_111 rfl rfl ?_
                    refine pw_ldc (n := (-1000001)) eX4_copy_112 ⟨by decide, by decide⟩ kc_RX4_37 ?_
                    obtain ⟨ob21, h⟩ := h
                    refine pw_cV (z := mX4_finds) (av := [Iq (-1000001)]) (st := []) eX4_copy_114 lk_RX4_39 rfl (by decide) (by decide) sh34 rfl rfl (Nat.le_of_ble_eq_true rfl) rfl (ct_X4_finds' (mem := mem) ob21) ?_
                    show PW S mX4_copy Q 117 [some (Aq 34), some (Iq x1), some (Iq x2), some (Iq x3), some (Iq x4), some (Iq x5), none, none, none, none] [Iq (-1000001)] (fnds mem (-1000001))
                    exact pw_iret eX4_copy_117 h
                  · have h := h.2 c20
                    refine pw_iload eX4_copy_97 rfl ?_
                    refine pw_aload_n eX4_copy_99 rfl rfl ?_
                    refine gf_RX4_31 rfl eX4_copy_100 sh34 ?_
                    refine pw_iload_n eX4_copy_103 rfl rfl ?_
                    obtain ⟨ob22, h⟩ := h
                    refine pw_iald eX4_copy_104 sh42 ob22 ?_
                    refine pw_iload eX4_copy_105 rfl ?_
                    obtain ⟨ob23, h⟩ := h
                    refine pw_isub eX4_copy_107 ob23 ?_
                    refine pw_icmp_le eX4_copy_108 (fun c24 => ?_) (fun c24 => ?_)
                    · have h := h.1 c24
                      refine pw_bipush eX4_copy_118 ⟨by decide, by decide⟩ (by decide) ?_
                      refine pw_iload_n eX4_copy_120 rfl rfl ?_
                      obtain ⟨ob25, h⟩ := h
                      refine pw_imul eX4_copy_121 ob25 ?_
                      refine pw_iload_n eX4_copy_122 rfl rfl ?_
                      obtain ⟨ob26, h⟩ := h
                      refine pw_iadd eX4_copy_123 ob26 ?_
                      refine pw_istore (ls2 := [some (Aq 34), some (Iq x1), some (Iq x2), some (Iq x3), some (Iq x4), some (Iq x5), some (Iq ((40 * x1) + x2)), none, none, none]) eX4_copy_124 (by decide) rfl ?_
                      refine pw_bipush eX4_copy_126 ⟨by decide, by decide⟩ (by decide) ?_
                      refine pw_iload_n eX4_copy_128 rfl rfl ?_
                      obtain ⟨ob27, h⟩ := h
                      refine pw_imul eX4_copy_129 ob27 ?_
                      refine pw_iload eX4_copy_130 rfl ?_
                      obtain ⟨ob28, h⟩ := h
                      refine pw_iadd eX4_copy_132 ob28 ?_
                      refine pw_istore (ls2 := [some (Aq 34), some (Iq x1), some (Iq x2), some (Iq x3), some (Iq x4), some (Iq x5), some (Iq ((40 * x1) + x2)), some (Iq ((40 * x3) + x4)), none, none]) eX4_copy_133 (by decide) rfl ?_
                      refine pw_iconst eX4_copy_135 ⟨by decide, by decide⟩ ?_
                      refine pw_istore (ls2 := [some (Aq 34), some (Iq x1), some (Iq x2), some (Iq x3), some (Iq x4), some (Iq x5), some (Iq ((40 * x1) + x2)), some (Iq ((40 * x3) + x4)), some (Iq 0), none]) eX4_copy_136 (by decide) rfl ?_
                      exact h
                    · have h := h.2 c24
                      refine pw_aload_n eX4_copy_111 rfl rfl ?_
                      refine pw_ldc (n := (-1000001)) eX4_copy_112 ⟨by decide, by decide⟩ kc_RX4_37 ?_
                      obtain ⟨ob29, h⟩ := h
                      refine pw_cV (z := mX4_finds) (av := [Iq (-1000001)]) (st := []) eX4_copy_114 lk_RX4_39 rfl (by decide) (by decide) sh34 rfl rfl (Nat.le_of_ble_eq_true rfl) rfl (ct_X4_finds' (mem := mem) ob29) ?_
                      show PW S mX4_copy Q 117 [some (Aq 34), some (Iq x1), some (Iq x2), some (Iq x3), some (Iq x4), some (Iq x5), none, none, none, none] [Iq (-1000001)] (fnds mem (-1000001))
                      exact pw_iret eX4_copy_117 h
          · have h := h.2 c11
            refine pw_aload_n eX4_copy_62 rfl rfl ?_
            refine pw_ldcw (n := (-1000003)) eX4_copy_63 ⟨by decide, by decide⟩ kc_RX4_277 ?_
            obtain ⟨ob30, h⟩ := h
            refine pw_cV (z := mX4_finds) (av := [Iq (-1000003)]) (st := []) eX4_copy_66 lk_RX4_39 rfl (by decide) (by decide) sh34 rfl rfl (Nat.le_of_ble_eq_true rfl) rfl (ct_X4_finds' (mem := mem) ob30) ?_
            show PW S mX4_copy Q 69 [some (Aq 34), some (Iq x1), some (Iq x2), some (Iq x3), some (Iq x4), some (Iq x5), none, none, none, none] [Iq (-1000003)] (fnds mem (-1000003))
            exact pw_iret eX4_copy_69 h
        · have h := h.2 c8
          refine pw_aload_n eX4_copy_39 rfl rfl ?_
          refine pw_ldcw (n := (-1000006)) eX4_copy_40 ⟨by decide, by decide⟩ kc_RX4_273 ?_
          obtain ⟨ob31, h⟩ := h
          refine pw_cV (z := mX4_finds) (av := [Iq (-1000006)]) (st := []) eX4_copy_43 lk_RX4_39 rfl (by decide) (by decide) sh34 rfl rfl (Nat.le_of_ble_eq_true rfl) rfl (ct_X4_finds' (mem := mem) ob31) ?_
          show PW S mX4_copy Q 46 [some (Aq 34), some (Iq x1), some (Iq x2), some (Iq x3), some (Iq x4), some (Iq x5), none, none, none, none] [Iq (-1000006)] (fnds mem (-1000006))
          exact pw_iret eX4_copy_46 h
    · have h := h.2 (bI0.mp (Classical.not_not.mp c3))
      refine pw_aload_n eX4_copy_14 rfl rfl ?_
      refine pw_ldc (n := (-1000001)) eX4_copy_15 ⟨by decide, by decide⟩ kc_RX4_37 ?_
      obtain ⟨ob32, h⟩ := h
      refine pw_cV (z := mX4_finds) (av := [Iq (-1000001)]) (st := []) eX4_copy_17 lk_RX4_39 rfl (by decide) (by decide) sh34 rfl rfl (Nat.le_of_ble_eq_true rfl) rfl (ct_X4_finds' (mem := mem) ob32) ?_
      show PW S mX4_copy Q 20 [some (Aq 34), some (Iq x1), some (Iq x2), some (Iq x3), some (Iq x4), some (Iq x5), none, none, none, none] [Iq (-1000001)] (fnds mem (-1000001))
      exact pw_iret eX4_copy_20 h

set_option maxRecDepth 100000 in
theorem rg_X4_copy_138 {S : Sx} {Q : Option PV → Zm → Prop} {mem : Zm}   {x1 x2 x3 x4 x5 x6 x7 x8 : Int} 
    (h : (((x5 ≤ x8) → (Q (some (Iq x5)) mem)) ∧ (¬ (x5 ≤ x8) → ((((x7 ≤ x6) → ((in32 (x7 + x8)) ∧ (in32 (x6 + x8)) ∧ (0 ≤ x6 + x8 ∧ x6 + x8 < 160) ∧ (0 ≤ x7 + x8 ∧ x7 + x8 < 160) ∧ (in32 (x8 + 1)) ∧ PW S mX4_copy Q 138 [some (Aq 34), some (Iq x1), some (Iq x2), some (Iq x3), some (Iq x4), some (Iq x5), some (Iq x6), some (Iq x7), some (Iq (x8 + 1)), none] [] (mup mem 43 (x7 + x8).toNat (mem 43 (x6 + x8).toNat)))) ∧ (¬ (x7 ≤ x6) → ((in32 (x5 - 1)) ∧ (in32 ((x5 - 1) - x8)) ∧ (in32 (x7 + ((x5 - 1) - x8))) ∧ (in32 (x6 + ((x5 - 1) - x8))) ∧ (0 ≤ x6 + ((x5 - 1) - x8) ∧ x6 + ((x5 - 1) - x8) < 160) ∧ (0 ≤ x7 + ((x5 - 1) - x8) ∧ x7 + ((x5 - 1) - x8) < 160) ∧ (in32 (x8 + 1)) ∧ PW S mX4_copy Q 138 [some (Aq 34), some (Iq x1), some (Iq x2), some (Iq x3), some (Iq x4), some (Iq x5), some (Iq x6), some (Iq x7), some (Iq (x8 + 1)), none] [] (mup mem 43 (x7 + ((x5 - 1) - x8)).toNat (mem 43 (x6 + ((x5 - 1) - x8)).toNat))))))))) :
    PW S mX4_copy Q 138 [some (Aq 34), some (Iq x1), some (Iq x2), some (Iq x3), some (Iq x4), some (Iq x5), some (Iq x6), some (Iq x7), some (Iq x8), none] [] mem := by
  refine pw_iload eX4_copy_138 rfl ?_
  refine pw_iload eX4_copy_140 rfl ?_
  refine pw_icmp_ge eX4_copy_142 (fun c1 => ?_) (fun c1 => ?_)
  · have h := h.1 c1
    refine pw_iload eX4_copy_192 rfl ?_
    exact pw_iret eX4_copy_194 h
  · have h := h.2 c1
    refine pw_iload eX4_copy_145 rfl ?_
    refine pw_iload eX4_copy_147 rfl ?_
    refine pw_icmp_ge eX4_copy_149 (fun c2 => ?_) (fun c2 => ?_)
    · have h := h.1 c2
      refine pw_iload eX4_copy_162 rfl ?_
      refine pw_istore (ls2 := [some (Aq 34), some (Iq x1), some (Iq x2), some (Iq x3), some (Iq x4), some (Iq x5), some (Iq x6), some (Iq x7), some (Iq x8), some (Iq x8)]) eX4_copy_164 (by decide) rfl ?_
      refine pw_aload_n eX4_copy_166 rfl rfl ?_
      refine gf_RX4_34 rfl eX4_copy_167 sh34 ?_
      refine pw_iload eX4_copy_170 rfl ?_
      refine pw_iload eX4_copy_172 rfl ?_
      obtain ⟨ob3, h⟩ := h
      refine pw_iadd eX4_copy_174 ob3 ?_
      refine pw_aload_n eX4_copy_175 rfl rfl ?_
      refine gf_RX4_34 rfl eX4_copy_176 sh34 ?_
      refine pw_iload eX4_copy_179 rfl ?_
      refine pw_iload eX4_copy_181 rfl ?_
      obtain ⟨ob4, h⟩ := h
      refine pw_iadd eX4_copy_183 ob4 ?_
      obtain ⟨ob5, h⟩ := h
      refine pw_iald eX4_copy_184 sh43 ob5 ?_
      obtain ⟨ob6, h⟩ := h
      refine pw_iast eX4_copy_185 sh43 ob6 ?_
      obtain ⟨ob7, h⟩ := h
      refine pw_iinc (ls2 := [some (Aq 34), some (Iq x1), some (Iq x2), some (Iq x3), some (Iq x4), some (Iq x5), some (Iq x6), some (Iq x7), some (Iq (x8 + 1)), some (Iq x8)]) eX4_copy_186 rfl ob7 rfl ?_
      refine pw_goto eX4_copy_189 ?_
      exact pw_drop (bs := [true, true, true, true, true, true, true, true, true, false]) h
    · have h := h.2 c2
      refine pw_iload eX4_copy_152 rfl ?_
      refine pw_iconst eX4_copy_154 ⟨by decide, by decide⟩ ?_
      obtain ⟨ob8, h⟩ := h
      refine pw_isub eX4_copy_155 ob8 ?_
      refine pw_iload eX4_copy_156 rfl ?_
      obtain ⟨ob9, h⟩ := h
      refine pw_isub eX4_copy_158 ob9 ?_
      refine pw_goto eX4_copy_159 ?_
      refine pw_istore (ls2 := [some (Aq 34), some (Iq x1), some (Iq x2), some (Iq x3), some (Iq x4), some (Iq x5), some (Iq x6), some (Iq x7), some (Iq x8), some (Iq ((x5 - 1) - x8))]) eX4_copy_164 (by decide) rfl ?_
      refine pw_aload_n eX4_copy_166 rfl rfl ?_
      refine gf_RX4_34 rfl eX4_copy_167 sh34 ?_
      refine pw_iload eX4_copy_170 rfl ?_
      refine pw_iload eX4_copy_172 rfl ?_
      obtain ⟨ob10, h⟩ := h
      refine pw_iadd eX4_copy_174 ob10 ?_
      refine pw_aload_n eX4_copy_175 rfl rfl ?_
      refine gf_RX4_34 rfl eX4_copy_176 sh34 ?_
      refine pw_iload eX4_copy_179 rfl ?_
      refine pw_iload eX4_copy_181 rfl ?_
      obtain ⟨ob11, h⟩ := h
      refine pw_iadd eX4_copy_183 ob11 ?_
      obtain ⟨ob12, h⟩ := h
      refine pw_iald eX4_copy_184 sh43 ob12 ?_
      obtain ⟨ob13, h⟩ := h
      refine pw_iast eX4_copy_185 sh43 ob13 ?_
      obtain ⟨ob14, h⟩ := h
      refine pw_iinc (ls2 := [some (Aq 34), some (Iq x1), some (Iq x2), some (Iq x3), some (Iq x4), some (Iq x5), some (Iq x6), some (Iq x7), some (Iq (x8 + 1)), some (Iq ((x5 - 1) - x8))]) eX4_copy_186 rfl ob14 rfl ?_
      refine pw_goto eX4_copy_189 ?_
      exact pw_drop (bs := [true, true, true, true, true, true, true, true, true, false]) h
set_option maxRecDepth 100000 in
theorem rg_X4_wants_0 {S : Sx} {Q : Option PV → Zm → Prop} {mem : Zm}   {x1 : Int} 
    (h : (((0 ≤ x1 ∧ x1 < 4) → ((0 ≤ x1 ∧ x1 < 4) ∧ (((0 ≤ mem 41 (x1).toNat) → (Q (some (Iq 0)) mem)) ∧ (¬ (0 ≤ mem 41 (x1).toNat) → (Q (some (Iq (-1000006))) mem))))) ∧ (¬ (0 ≤ x1 ∧ x1 < 4) → (Q (some (Iq (-1000001))) mem)))) :
    PW S mX4_wants Q 0 [some (Aq 34), some (Iq x1)] [] mem := by
  refine pw_iload_n eX4_wants_0 rfl rfl ?_
  refine pw_cS (z := mX4_isSheet) (av := [Iq x1]) (st := []) eX4_wants_1 lk_RX4_278 rfl (by decide) (by decide) (Nat.le_of_ble_eq_true rfl) rfl (ct_X4_isSheet (mem := mem)) ?_
  show PW S mX4_wants Q 4 [some (Aq 34), some (Iq x1)] [Iq (bI (0 ≤ x1 ∧ x1 < 4))] mem
  refine pw_if_ne eX4_wants_4 (fun c1 => ?_) (fun c1 => ?_)
  · have h := h.1 (bI1.mp c1)
    refine pw_aload_n eX4_wants_12 rfl rfl ?_
    refine gf_RX4_28 rfl eX4_wants_13 sh34 ?_
    refine pw_iload_n eX4_wants_16 rfl rfl ?_
    obtain ⟨ob2, h⟩ := h
    refine pw_iald eX4_wants_17 sh41 ob2 ?_
    refine pw_if_ge eX4_wants_18 (fun c3 => ?_) (fun c3 => ?_)
    · have h := h.1 c3
      refine pw_iconst eX4_wants_27 ⟨by decide, by decide⟩ ?_
      exact pw_iret eX4_wants_28 h
    · have h := h.2 c3
      refine pw_ldcw (n := (-1000006)) eX4_wants_21 ⟨by decide, by decide⟩ kc_RX4_273 ?_
      refine pw_goto eX4_wants_24 ?_
      exact pw_iret eX4_wants_28 h
  · have h := h.2 (bI0.mp (Classical.not_not.mp c1))
    refine pw_ldc (n := (-1000001)) eX4_wants_7 ⟨by decide, by decide⟩ kc_RX4_37 ?_
    refine pw_goto eX4_wants_9 ?_
    exact pw_iret eX4_wants_28 h
set_option maxRecDepth 100000 in
theorem rg_X4_image_0 {S : Sx} {Q : Option PV → Zm → Prop} {mem : Zm}   
    (h : Q (some (Iq 1)) (mup (cprow mem 35 36) 34 4 1)) :
    PW S mX4_image Q 0 [some (Aq 34)] [] mem := by
  refine pw_aload_n eX4_image_0 rfl rfl ?_
  refine gf_RX4_7 rfl eX4_image_1 sh34 ?_
  refine pw_aload_n eX4_image_4 rfl rfl ?_
  refine gf_RX4_13 rfl eX4_image_5 sh34 ?_
  refine pw_cS (z := mX4_copyRow) (av := [Aq 35, Aq 36]) (st := []) eX4_image_8 lk_RX4_150 rfl (by decide) (by decide) (Nat.le_of_ble_eq_true rfl) rfl (ct_X4_copyRow (mem := mem) sh35 sh36 (by decide)) ?_
  show PW S mX4_image Q 11 [some (Aq 34)] [] (cprow mem 35 36)
  refine pw_aload_n eX4_image_11 rfl rfl ?_
  refine pw_iconst eX4_image_12 ⟨by decide, by decide⟩ ?_
  refine pf_RX4_282 rfl eX4_image_13 sh34 (Or.inr rfl) ?_
  refine pw_iconst eX4_image_16 ⟨by decide, by decide⟩ ?_
  exact pw_iret eX4_image_17 h
set_option maxRecDepth 100000 in
theorem rg_X4_undo_0 {S : Sx} {Q : Option PV → Zm → Prop} {mem : Zm}   
    (h : (((mem 34 4 = 0) → ((fOK mem (-1000004)) ∧ Q (some (Iq (-1000004))) (fnds mem (-1000004)))) ∧ (¬ (mem 34 4 = 0) → (Q (some (Iq ((cprow mem 36 35) 35 1))) (cprow mem 36 35))))) :
    PW S mX4_undo Q 0 [some (Aq 34)] [] mem := by
  refine pw_aload_n eX4_undo_0 rfl rfl ?_
  refine gf_RX4_282 rfl eX4_undo_1 sh34 ?_
  refine pw_if_ne eX4_undo_4 (fun c1 => ?_) (fun c1 => ?_)
  · have h := h.2 c1
    refine pw_aload_n eX4_undo_14 rfl rfl ?_
    refine gf_RX4_13 rfl eX4_undo_15 sh34 ?_
    refine pw_aload_n eX4_undo_18 rfl rfl ?_
    refine gf_RX4_7 rfl eX4_undo_19 sh34 ?_
    refine pw_cS (z := mX4_copyRow) (av := [Aq 36, Aq 35]) (st := []) eX4_undo_22 lk_RX4_150 rfl (by decide) (by decide) (Nat.le_of_ble_eq_true rfl) rfl (ct_X4_copyRow (mem := mem) sh36 sh35 (by decide)) ?_
    show PW S mX4_undo Q 25 [some (Aq 34)] [] (cprow mem 36 35)
    refine pw_aload_n eX4_undo_25 rfl rfl ?_
    refine gf_RX4_7 rfl eX4_undo_26 sh34 ?_
    refine pw_iconst eX4_undo_29 ⟨by decide, by decide⟩ ?_
    refine pw_iald eX4_undo_30 sh35 (by decide) ?_
    exact pw_iret eX4_undo_31 h
  · have h := h.1 (Classical.not_not.mp c1)
    refine pw_aload_n eX4_undo_7 rfl rfl ?_
    refine pw_ldc (n := (-1000004)) eX4_undo_8 ⟨by decide, by decide⟩ kc_RX4_38 ?_
    obtain ⟨ob2, h⟩ := h
    refine pw_cV (z := mX4_finds) (av := [Iq (-1000004)]) (st := []) eX4_undo_10 lk_RX4_39 rfl (by decide) (by decide) sh34 rfl rfl (Nat.le_of_ble_eq_true rfl) rfl (ct_X4_finds' (mem := mem) ob2) ?_
    show PW S mX4_undo Q 13 [some (Aq 34)] [Iq (-1000004)] (fnds mem (-1000004))
    exact pw_iret eX4_undo_13 h
set_option maxRecDepth 100000 in
theorem rg_X4_status_0 {S : Sx} {Q : Option PV → Zm → Prop} {mem : Zm}   {x1 : Int} 
    (h : (((-1 ≤ x1 ∧ x1 ≤ 6) → ((in32 (x1 + 1)) ∧ (0 ≤ x1 + 1 ∧ x1 + 1 < 8) ∧ Q (some (Iq (mem 39 (x1 + 1).toNat))) mem)) ∧ (¬ (-1 ≤ x1 ∧ x1 ≤ 6) → ((fOK mem (-1000001)) ∧ Q (some (Iq (-1000001))) (fnds mem (-1000001)))))) :
    PW S mX4_status Q 0 [some (Aq 34), some (Iq x1)] [] mem := by
  refine pw_iload_n eX4_status_0 rfl rfl ?_
  refine pw_i2l eX4_status_1 ?_
  refine pw_ldc2 (n := (-1)) eX4_status_2 ⟨by decide, by decide⟩ kc_RX4_99 ?_
  refine pw_ldc2 (n := 6) eX4_status_5 ⟨by decide, by decide⟩ kc_RX4_62 ?_
  refine pw_cS (z := mX4_isIn) (av := [Jq x1, Jq (-1), Jq 6]) (st := []) eX4_status_8 lk_RX4_49 rfl (by decide) (by decide) (Nat.le_of_ble_eq_true rfl) rfl (ct_X4_isIn (mem := mem)) ?_
  show PW S mX4_status Q 11 [some (Aq 34), some (Iq x1)] [Iq (bI (-1 ≤ x1 ∧ x1 ≤ 6))] mem
  refine pw_if_eq eX4_status_11 (fun c1 => ?_) (fun c1 => ?_)
  · have h := h.2 (bI0.mp c1)
    refine pw_aload_n eX4_status_25 rfl rfl ?_
    refine pw_ldc (n := (-1000001)) eX4_status_26 ⟨by decide, by decide⟩ kc_RX4_37 ?_
    obtain ⟨ob2, h⟩ := h
    refine pw_cV (z := mX4_finds) (av := [Iq (-1000001)]) (st := []) eX4_status_28 lk_RX4_39 rfl (by decide) (by decide) sh34 rfl rfl (Nat.le_of_ble_eq_true rfl) rfl (ct_X4_finds' (mem := mem) ob2) ?_
    show PW S mX4_status Q 31 [some (Aq 34), some (Iq x1)] [Iq (-1000001)] (fnds mem (-1000001))
    exact pw_iret eX4_status_31 h
  · have h := h.1 (bI1.mp c1)
    refine pw_aload_n eX4_status_14 rfl rfl ?_
    refine gf_RX4_22 rfl eX4_status_15 sh34 ?_
    refine pw_iload_n eX4_status_18 rfl rfl ?_
    refine pw_iconst eX4_status_19 ⟨by decide, by decide⟩ ?_
    obtain ⟨ob3, h⟩ := h
    refine pw_iadd eX4_status_20 ob3 ?_
    obtain ⟨ob4, h⟩ := h
    refine pw_iald eX4_status_21 sh39 ob4 ?_
    refine pw_goto eX4_status_22 ?_
    exact pw_iret eX4_status_31 h
end RG

section RG
set_option maxRecDepth 100000 in
theorem rg_X0_sourceToday_0 {S : Sx} {Q : Option PV → Zm → Prop} {mem : Zm}  {r0 : Nat} {x1 : Int} (hr0 : isRoom r0)
    (h : (0 ≤ x1 ∧ x1 < 8) ∧ (((0 ≤ mem (r0 + 2) (6 * (x1).toNat + 2) ∧ mem (r0 + 2) (6 * (x1).toNat + 2) < mem r0 7) → ((0 ≤ mem (r0 + 2) (6 * (x1).toNat + 2) ∧ mem (r0 + 2) (6 * (x1).toNat + 2) < 8 ∧ 0 ≤ mem r0 8) ∧ (((lendP (mem (r0 + 2) (6 * (mem (r0 + 2) (6 * (x1).toNat + 2)).toNat)) (mem r0 8) (mem (r0 + 2) (6 * (mem (r0 + 2) (6 * (x1).toNat + 2)).toNat + 4))) → ((0 ≤ x1 ∧ x1 < 8) ∧ (0 ≤ x1 ∧ x1 < 8 ∧ 0 ≤ mem (r0 + 2) (6 * (x1).toNat) ∧ mem (r0 + 2) (6 * (x1).toNat) ≤ 6) ∧ (((mem (r0 + 2) (6 * (x1).toNat + 4) < payV (mem (r0 + 2) (6 * (x1).toNat))) → (Q (some (Iq (-1))) mem)) ∧ (¬ (mem (r0 + 2) (6 * (x1).toNat + 4) < payV (mem (r0 + 2) (6 * (x1).toNat))) → (Q (some (Iq (mem (r0 + 2) (6 * (x1).toNat + 2)))) mem))))) ∧ (¬ (lendP (mem (r0 + 2) (6 * (mem (r0 + 2) (6 * (x1).toNat + 2)).toNat)) (mem r0 8) (mem (r0 + 2) (6 * (mem (r0 + 2) (6 * (x1).toNat + 2)).toNat + 4))) → (Q (some (Iq (-1))) mem))))) ∧ (¬ (0 ≤ mem (r0 + 2) (6 * (x1).toNat + 2) ∧ mem (r0 + 2) (6 * (x1).toNat + 2) < mem r0 7) → (Q (some (Iq (-1))) mem)))) :
    PW S mX0_sourceToday Q 0 [some (Aq r0), some (Iq x1), none, none] [] mem := by
  refine pw_aload_n eX0_sourceToday_0 rfl rfl ?_
  refine pw_iload_n eX0_sourceToday_1 rfl rfl ?_
  refine pw_iconst eX0_sourceToday_2 ⟨by decide, by decide⟩ ?_
  obtain ⟨ob1, h⟩ := h
  refine pw_cV (z := mX0_fact) (av := [Iq x1, Iq 2]) (st := []) eX0_sourceToday_3 lk_RX0_59 rfl (by decide) (by decide) (shR hr0) rfl rfl (Nat.le_of_ble_eq_true rfl) rfl (ct_X0_fact (mem := mem) hr0 ⟨ob1.1, ob1.2, by decide, by decide⟩) ?_
  show PW S mX0_sourceToday Q 6 [some (Aq r0), some (Iq x1), none, none] [Iq (mem (r0 + 2) (6 * (x1).toNat + 2))] mem
  refine pw_istore_n (ls2 := [some (Aq r0), some (Iq x1), some (Iq (mem (r0 + 2) (6 * (x1).toNat + 2))), none]) eX0_sourceToday_6 rfl (by decide) rfl ?_
  refine pw_aload_n eX0_sourceToday_7 rfl rfl ?_
  refine pw_iload_n eX0_sourceToday_8 rfl rfl ?_
  refine pw_cV (z := mX0_has) (av := [Iq (mem (r0 + 2) (6 * (x1).toNat + 2))]) (st := []) eX0_sourceToday_9 lk_RX0_97 rfl (by decide) (by decide) (shR hr0) rfl rfl (Nat.le_of_ble_eq_true rfl) rfl (ct_X0_has (mem := mem) hr0) ?_
  show PW S mX0_sourceToday Q 12 [some (Aq r0), some (Iq x1), some (Iq (mem (r0 + 2) (6 * (x1).toNat + 2))), none] [Iq (bI (0 ≤ mem (r0 + 2) (6 * (x1).toNat + 2) ∧ mem (r0 + 2) (6 * (x1).toNat + 2) < mem r0 7))] mem
  refine pw_if_eq eX0_sourceToday_12 (fun c2 => ?_) (fun c2 => ?_)
  · have h := h.2 (bI0.mp c2)
    refine pw_iconst eX0_sourceToday_41 ⟨by decide, by decide⟩ ?_
    refine pw_istore_n (ls2 := [some (Aq r0), some (Iq x1), some (Iq (mem (r0 + 2) (6 * (x1).toNat + 2))), some (Iq 0)]) eX0_sourceToday_42 rfl (by decide) rfl ?_
    refine pw_iload_n eX0_sourceToday_43 rfl rfl ?_
    refine pw_if_eq eX0_sourceToday_44 (fun c3 => ?_) (fun c3 => ?_)
    · skip
      refine pw_iconst eX0_sourceToday_51 ⟨by decide, by decide⟩ ?_
      exact pw_iret eX0_sourceToday_52 h
    · exact absurd (by decide) c3
  · have h := h.1 (bI1.mp c2)
    refine pw_aload_n eX0_sourceToday_15 rfl rfl ?_
    refine pw_iload_n eX0_sourceToday_16 rfl rfl ?_
    obtain ⟨ob4, h⟩ := h
    refine pw_cV (z := mX0_isLending) (av := [Iq (mem (r0 + 2) (6 * (x1).toNat + 2))]) (st := []) eX0_sourceToday_17 lk_RX0_101 rfl (by decide) (by decide) (shR hr0) rfl rfl (Nat.le_of_ble_eq_true rfl) rfl (ct_X0_isLending (mem := mem) hr0 ob4) ?_
    show PW S mX0_sourceToday Q 20 [some (Aq r0), some (Iq x1), some (Iq (mem (r0 + 2) (6 * (x1).toNat + 2))), none] [Iq (bI (lendP (mem (r0 + 2) (6 * (mem (r0 + 2) (6 * (x1).toNat + 2)).toNat)) (mem r0 8) (mem (r0 + 2) (6 * (mem (r0 + 2) (6 * (x1).toNat + 2)).toNat + 4))))] mem
    refine pw_if_eq eX0_sourceToday_20 (fun c5 => ?_) (fun c5 => ?_)
    · have h := h.2 (bI0.mp c5)
      refine pw_iconst eX0_sourceToday_41 ⟨by decide, by decide⟩ ?_
      refine pw_istore_n (ls2 := [some (Aq r0), some (Iq x1), some (Iq (mem (r0 + 2) (6 * (x1).toNat + 2))), some (Iq 0)]) eX0_sourceToday_42 rfl (by decide) rfl ?_
      refine pw_iload_n eX0_sourceToday_43 rfl rfl ?_
      refine pw_if_eq eX0_sourceToday_44 (fun c6 => ?_) (fun c6 => ?_)
      · skip
        refine pw_iconst eX0_sourceToday_51 ⟨by decide, by decide⟩ ?_
        exact pw_iret eX0_sourceToday_52 h
      · exact absurd (by decide) c6
    · have h := h.1 (bI1.mp c5)
      refine pw_aload_n eX0_sourceToday_23 rfl rfl ?_
      refine pw_iload_n eX0_sourceToday_24 rfl rfl ?_
      refine pw_iconst eX0_sourceToday_25 ⟨by decide, by decide⟩ ?_
      obtain ⟨ob7, h⟩ := h
      refine pw_cV (z := mX0_fact) (av := [Iq x1, Iq 4]) (st := []) eX0_sourceToday_26 lk_RX0_59 rfl (by decide) (by decide) (shR hr0) rfl rfl (Nat.le_of_ble_eq_true rfl) rfl (ct_X0_fact (mem := mem) hr0 ⟨ob7.1, ob7.2, by decide, by decide⟩) ?_
      show PW S mX0_sourceToday Q 29 [some (Aq r0), some (Iq x1), some (Iq (mem (r0 + 2) (6 * (x1).toNat + 2))), none] [Iq (mem (r0 + 2) (6 * (x1).toNat + 4))] mem
      refine pw_aload_n eX0_sourceToday_29 rfl rfl ?_
      refine pw_iload_n eX0_sourceToday_30 rfl rfl ?_
      obtain ⟨ob8, h⟩ := h
      refine pw_cV (z := mX0_price) (av := [Iq x1]) (st := [Iq (mem (r0 + 2) (6 * (x1).toNat + 4))]) eX0_sourceToday_31 lk_RX0_104 rfl (by decide) (by decide) (shR hr0) rfl rfl (Nat.le_of_ble_eq_true rfl) rfl (ct_X0_price (mem := mem) hr0 ob8) ?_
      show PW S mX0_sourceToday Q 34 [some (Aq r0), some (Iq x1), some (Iq (mem (r0 + 2) (6 * (x1).toNat + 2))), none] [Iq (payV (mem (r0 + 2) (6 * (x1).toNat))), Iq (mem (r0 + 2) (6 * (x1).toNat + 4))] mem
      refine pw_icmp_lt eX0_sourceToday_34 (fun c9 => ?_) (fun c9 => ?_)
      · have h := h.1 c9
        refine pw_iconst eX0_sourceToday_41 ⟨by decide, by decide⟩ ?_
        refine pw_istore_n (ls2 := [some (Aq r0), some (Iq x1), some (Iq (mem (r0 + 2) (6 * (x1).toNat + 2))), some (Iq 0)]) eX0_sourceToday_42 rfl (by decide) rfl ?_
        refine pw_iload_n eX0_sourceToday_43 rfl rfl ?_
        refine pw_if_eq eX0_sourceToday_44 (fun c10 => ?_) (fun c10 => ?_)
        · skip
          refine pw_iconst eX0_sourceToday_51 ⟨by decide, by decide⟩ ?_
          exact pw_iret eX0_sourceToday_52 h
        · exact absurd (by decide) c10
      · have h := h.2 c9
        refine pw_iconst eX0_sourceToday_37 ⟨by decide, by decide⟩ ?_
        refine pw_goto eX0_sourceToday_38 ?_
        refine pw_istore_n (ls2 := [some (Aq r0), some (Iq x1), some (Iq (mem (r0 + 2) (6 * (x1).toNat + 2))), some (Iq 1)]) eX0_sourceToday_42 rfl (by decide) rfl ?_
        refine pw_iload_n eX0_sourceToday_43 rfl rfl ?_
        refine pw_if_eq eX0_sourceToday_44 (fun c11 => ?_) (fun c11 => ?_)
        · exact absurd c11 (by decide)
        · skip
          refine pw_iload_n eX0_sourceToday_47 rfl rfl ?_
          refine pw_goto eX0_sourceToday_48 ?_
          exact pw_iret eX0_sourceToday_52 h
set_option maxRecDepth 100000 in
theorem rg_X0_payFor_0 {S : Sx} {Q : Option PV → Zm → Prop} {mem : Zm}  {r0 : Nat} {x1 x2 : Int} (hr0 : isRoom r0)
    (h : (0 ≤ x1 ∧ x1 < 8 ∧ 0 ≤ mem (r0 + 2) (6 * (x1).toNat) ∧ mem (r0 + 2) (6 * (x1).toNat) ≤ 6) ∧ (0 ≤ x1 ∧ x1 < 8) ∧ (in32 ((mem (r0 + 2) (6 * (x1).toNat + 4)) - (payV (mem (r0 + 2) (6 * (x1).toNat))))) ∧ (0 ≤ x1 ∧ x1 < 8) ∧ (0 ≤ x2 ∧ x2 < 8) ∧ (in32 (((mup mem (r0 + 2) (6 * (x1).toNat + 4) ((mem (r0 + 2) (6 * (x1).toNat + 4)) - (payV (mem (r0 + 2) (6 * (x1).toNat))))) (r0 + 2) (6 * (x2).toNat + 4)) + (payV (mem (r0 + 2) (6 * (x1).toNat))))) ∧ (0 ≤ x2 ∧ x2 < 8) ∧ Q none (mup (mup mem (r0 + 2) (6 * (x1).toNat + 4) ((mem (r0 + 2) (6 * (x1).toNat + 4)) - (payV (mem (r0 + 2) (6 * (x1).toNat))))) (r0 + 2) (6 * (x2).toNat + 4) (min 999 (((mup mem (r0 + 2) (6 * (x1).toNat + 4) ((mem (r0 + 2) (6 * (x1).toNat + 4)) - (payV (mem (r0 + 2) (6 * (x1).toNat))))) (r0 + 2) (6 * (x2).toNat + 4)) + (payV (mem (r0 + 2) (6 * (x1).toNat))))))) :
    PW S mX0_payFor Q 0 [some (Aq r0), some (Iq x1), some (Iq x2), none] [] mem := by
  refine pw_aload_n eX0_payFor_0 rfl rfl ?_
  refine pw_iload_n eX0_payFor_1 rfl rfl ?_
  obtain ⟨ob1, h⟩ := h
  refine pw_cV (z := mX0_price) (av := [Iq x1]) (st := []) eX0_payFor_2 lk_RX0_104 rfl (by decide) (by decide) (shR hr0) rfl rfl (Nat.le_of_ble_eq_true rfl) rfl (ct_X0_price (mem := mem) hr0 ob1) ?_
  show PW S mX0_payFor Q 5 [some (Aq r0), some (Iq x1), some (Iq x2), none] [Iq (payV (mem (r0 + 2) (6 * (x1).toNat)))] mem
  refine pw_istore_n (ls2 := [some (Aq r0), some (Iq x1), some (Iq x2), some (Iq (payV (mem (r0 + 2) (6 * (x1).toNat))))]) eX0_payFor_5 rfl (by decide) rfl ?_
  refine pw_aload_n eX0_payFor_6 rfl rfl ?_
  refine pw_iload_n eX0_payFor_7 rfl rfl ?_
  refine pw_iconst eX0_payFor_8 ⟨by decide, by decide⟩ ?_
  refine pw_aload_n eX0_payFor_9 rfl rfl ?_
  refine pw_iload_n eX0_payFor_10 rfl rfl ?_
  refine pw_iconst eX0_payFor_11 ⟨by decide, by decide⟩ ?_
  obtain ⟨ob2, h⟩ := h
  refine pw_cV (z := mX0_fact) (av := [Iq x1, Iq 4]) (st := [Iq 4, Iq x1, Aq r0]) eX0_payFor_12 lk_RX0_59 rfl (by decide) (by decide) (shR hr0) rfl rfl (Nat.le_of_ble_eq_true rfl) rfl (ct_X0_fact (mem := mem) hr0 ⟨ob2.1, ob2.2, by decide, by decide⟩) ?_
  show PW S mX0_payFor Q 15 [some (Aq r0), some (Iq x1), some (Iq x2), some (Iq (payV (mem (r0 + 2) (6 * (x1).toNat))))] [Iq (mem (r0 + 2) (6 * (x1).toNat + 4)), Iq 4, Iq x1, Aq r0] mem
  refine pw_iload_n eX0_payFor_15 rfl rfl ?_
  obtain ⟨ob3, h⟩ := h
  refine pw_isub eX0_payFor_16 ob3 ?_
  obtain ⟨ob4, h⟩ := h
  refine pw_cV (z := mX0_setFact) (av := [Iq x1, Iq 4, Iq ((mem (r0 + 2) (6 * (x1).toNat + 4)) - (payV (mem (r0 + 2) (6 * (x1).toNat))))]) (st := []) eX0_payFor_17 lk_RX0_55 rfl (by decide) (by decide) (shR hr0) rfl rfl (Nat.le_of_ble_eq_true rfl) rfl (ct_X0_setFact (mem := mem) hr0 ⟨ob4.1, ob4.2, by decide, by decide⟩) ?_
  show PW S mX0_payFor Q 20 [some (Aq r0), some (Iq x1), some (Iq x2), some (Iq (payV (mem (r0 + 2) (6 * (x1).toNat))))] [] (mup mem (r0 + 2) (6 * (x1).toNat + 4) ((mem (r0 + 2) (6 * (x1).toNat + 4)) - (payV (mem (r0 + 2) (6 * (x1).toNat)))))
  refine pw_aload_n eX0_payFor_20 rfl rfl ?_
  refine pw_iload_n eX0_payFor_21 rfl rfl ?_
  refine pw_iconst eX0_payFor_22 ⟨by decide, by decide⟩ ?_
  refine pw_sipush eX0_payFor_23 ⟨by decide, by decide⟩ (by decide) ?_
  refine pw_aload_n eX0_payFor_26 rfl rfl ?_
  refine pw_iload_n eX0_payFor_27 rfl rfl ?_
  refine pw_iconst eX0_payFor_28 ⟨by decide, by decide⟩ ?_
  obtain ⟨ob5, h⟩ := h
  refine pw_cV (z := mX0_fact) (av := [Iq x2, Iq 4]) (st := [Iq 999, Iq 4, Iq x2, Aq r0]) eX0_payFor_29 lk_RX0_59 rfl (by decide) (by decide) (shR hr0) rfl rfl (Nat.le_of_ble_eq_true rfl) rfl (ct_X0_fact (mem := mup mem (r0 + 2) (6 * (x1).toNat + 4) ((mem (r0 + 2) (6 * (x1).toNat + 4)) - (payV (mem (r0 + 2) (6 * (x1).toNat))))) hr0 ⟨ob5.1, ob5.2, by decide, by decide⟩) ?_
  show PW S mX0_payFor Q 32 [some (Aq r0), some (Iq x1), some (Iq x2), some (Iq (payV (mem (r0 + 2) (6 * (x1).toNat))))] [Iq ((mup mem (r0 + 2) (6 * (x1).toNat + 4) ((mem (r0 + 2) (6 * (x1).toNat + 4)) - (payV (mem (r0 + 2) (6 * (x1).toNat))))) (r0 + 2) (6 * (x2).toNat + 4)), Iq 999, Iq 4, Iq x2, Aq r0] (mup mem (r0 + 2) (6 * (x1).toNat + 4) ((mem (r0 + 2) (6 * (x1).toNat + 4)) - (payV (mem (r0 + 2) (6 * (x1).toNat)))))
  refine pw_iload_n eX0_payFor_32 rfl rfl ?_
  obtain ⟨ob6, h⟩ := h
  refine pw_iadd eX0_payFor_33 ob6 ?_
  refine pw_min eX0_payFor_34 lk_RX0_107 (by decide) (Nat.le_of_ble_eq_true rfl) ?_
  obtain ⟨ob7, h⟩ := h
  refine pw_cV (z := mX0_setFact) (av := [Iq x2, Iq 4, Iq (min 999 (((mup mem (r0 + 2) (6 * (x1).toNat + 4) ((mem (r0 + 2) (6 * (x1).toNat + 4)) - (payV (mem (r0 + 2) (6 * (x1).toNat))))) (r0 + 2) (6 * (x2).toNat + 4)) + (payV (mem (r0 + 2) (6 * (x1).toNat)))))]) (st := []) eX0_payFor_37 lk_RX0_55 rfl (by decide) (by decide) (shR hr0) rfl rfl (Nat.le_of_ble_eq_true rfl) rfl (ct_X0_setFact (mem := mup mem (r0 + 2) (6 * (x1).toNat + 4) ((mem (r0 + 2) (6 * (x1).toNat + 4)) - (payV (mem (r0 + 2) (6 * (x1).toNat))))) hr0 ⟨ob7.1, ob7.2, by decide, by decide⟩) ?_
  show PW S mX0_payFor Q 40 [some (Aq r0), some (Iq x1), some (Iq x2), some (Iq (payV (mem (r0 + 2) (6 * (x1).toNat))))] [] (mup (mup mem (r0 + 2) (6 * (x1).toNat + 4) ((mem (r0 + 2) (6 * (x1).toNat + 4)) - (payV (mem (r0 + 2) (6 * (x1).toNat))))) (r0 + 2) (6 * (x2).toNat + 4) (min 999 (((mup mem (r0 + 2) (6 * (x1).toNat + 4) ((mem (r0 + 2) (6 * (x1).toNat + 4)) - (payV (mem (r0 + 2) (6 * (x1).toNat))))) (r0 + 2) (6 * (x2).toNat + 4)) + (payV (mem (r0 + 2) (6 * (x1).toNat))))))
  exact pw_vret eX0_payFor_40 h
set_option maxRecDepth 100000 in
theorem rg_X0_childrenAlike_0 {S : Sx} {Q : Option PV → Zm → Prop} {mem : Zm}  {r0 : Nat} (hr0 : isRoom r0)
    (h : PW S mX0_childrenAlike Q 4 [some (Aq r0), some (Iq 0), some (Iq 0), none, none] [] mem) :
    PW S mX0_childrenAlike Q 0 [some (Aq r0), none, none, none, none] [] mem := by
  refine pw_iconst eX0_childrenAlike_0 ⟨by decide, by decide⟩ ?_
  refine pw_istore_n (ls2 := [some (Aq r0), some (Iq 0), none, none, none]) eX0_childrenAlike_1 rfl (by decide) rfl ?_
  refine pw_iconst eX0_childrenAlike_2 ⟨by decide, by decide⟩ ?_
  refine pw_istore_n (ls2 := [some (Aq r0), some (Iq 0), some (Iq 0), none, none]) eX0_childrenAlike_3 rfl (by decide) rfl ?_
  exact h

set_option maxRecDepth 100000 in
theorem rg_X0_childrenAlike_4 {S : Sx} {Q : Option PV → Zm → Prop} {mem : Zm}  {r0 : Nat} {x1 x2 : Int} (hr0 : isRoom r0)
    (h : (((mem r0 7 ≤ x2) → (Q (some (Iq x1)) mem)) ∧ (¬ (mem r0 7 ≤ x2) → ((in32 (x2 + 1)) ∧ PW S mX0_childrenAlike Q 16 [some (Aq r0), some (Iq x1), some (Iq x2), some (Iq (x2 + 1)), none] [] mem)))) :
    PW S mX0_childrenAlike Q 4 [some (Aq r0), some (Iq x1), some (Iq x2), none, none] [] mem := by
  refine pw_iload_n eX0_childrenAlike_4 rfl rfl ?_
  refine pw_aload_n eX0_childrenAlike_5 rfl rfl ?_
  refine gf_RX0_34 rfl eX0_childrenAlike_6 (shR hr0) ?_
  refine pw_icmp_ge eX0_childrenAlike_9 (fun c1 => ?_) (fun c1 => ?_)
  · have h := h.1 c1
    refine pw_iload_n eX0_childrenAlike_91 rfl rfl ?_
    exact pw_iret eX0_childrenAlike_92 h
  · have h := h.2 c1
    refine pw_iload_n eX0_childrenAlike_12 rfl rfl ?_
    refine pw_iconst eX0_childrenAlike_13 ⟨by decide, by decide⟩ ?_
    obtain ⟨ob2, h⟩ := h
    refine pw_iadd eX0_childrenAlike_14 ob2 ?_
    refine pw_istore_n (ls2 := [some (Aq r0), some (Iq x1), some (Iq x2), some (Iq (x2 + 1)), none]) eX0_childrenAlike_15 rfl (by decide) rfl ?_
    exact h

set_option maxRecDepth 100000 in
theorem rg_X0_childrenAlike_16 {S : Sx} {Q : Option PV → Zm → Prop} {mem : Zm}  {r0 : Nat} {x1 x2 x3 : Int} (hr0 : isRoom r0)
    (h : (((mem r0 7 ≤ x3) → ((in32 (x2 + 1)) ∧ PW S mX0_childrenAlike Q 4 [some (Aq r0), some (Iq x1), some (Iq (x2 + 1)), none, none] [] mem)) ∧ (¬ (mem r0 7 ≤ x3) → ((0 ≤ x2 ∧ x2 < 8) ∧ (0 ≤ x3 ∧ x3 < 8) ∧ (0 ≤ bAnd (mem (r0 + 5) (x2).toNat) (mem (r0 + 5) (x3).toNat) ∧ bAnd (mem (r0 + 5) (x2).toNat) (mem (r0 + 5) (x3).toNat) < 256) ∧ (((pcn (bAnd (mem (r0 + 5) (x2).toNat) (mem (r0 + 5) (x3).toNat)) < mem r0 6) → ((in32 (x3 + 1)) ∧ PW S mX0_childrenAlike Q 16 [some (Aq r0), some (Iq x1), some (Iq x2), some (Iq (x3 + 1)), none] [] mem)) ∧ (¬ (pcn (bAnd (mem (r0 + 5) (x2).toNat) (mem (r0 + 5) (x3).toNat)) < mem r0 6) → ((∃ (v8 : Int) (m9 : Zm), Ct1 S mX0_sameAmong [Aq r0, Iq (bAnd (mem (r0 + 5) (x2).toNat) (mem (r0 + 5) (x3).toNat)), Iq x2, Iq x3] mem (some (Iq v8)) m9 ∧ ((0 ≤ v8 ∧ v8 < 256) ∧ (((pcn v8 < m9 r0 6) → ((in32 (x3 + 1)) ∧ PW S mX0_childrenAlike Q 16 [some (Aq r0), some (Iq x1), some (Iq x2), some (Iq (x3 + 1)), none] [] m9)) ∧ (¬ (pcn v8 < m9 r0 6) → ((in32 (x3 + 1)) ∧ PW S mX0_childrenAlike Q 16 [some (Aq r0), some (Iq (bOr x1 (bOr (bShl 1 x2) (bShl 1 x3)))), some (Iq x2), some (Iq (x3 + 1)), none] [] m9)))))))))))) :
    PW S mX0_childrenAlike Q 16 [some (Aq r0), some (Iq x1), some (Iq x2), some (Iq x3), none] [] mem := by
  refine pw_iload_n eX0_childrenAlike_16 rfl rfl ?_
  refine pw_aload_n eX0_childrenAlike_17 rfl rfl ?_
  refine gf_RX0_34 rfl eX0_childrenAlike_18 (shR hr0) ?_
  refine pw_icmp_ge eX0_childrenAlike_21 (fun c1 => ?_) (fun c1 => ?_)
  · have h := h.1 c1
    obtain ⟨ob2, h⟩ := h
    refine pw_iinc (ls2 := [some (Aq r0), some (Iq x1), some (Iq (x2 + 1)), some (Iq x3), none]) eX0_childrenAlike_85 rfl ob2 rfl ?_
    refine pw_goto eX0_childrenAlike_88 ?_
    exact pw_drop (bs := [true, true, true, false, false]) h
  · have h := h.2 c1
    refine pw_aload_n eX0_childrenAlike_24 rfl rfl ?_
    refine gf_RX0_24 rfl eX0_childrenAlike_25 (shR hr0) ?_
    refine pw_iload_n eX0_childrenAlike_28 rfl rfl ?_
    obtain ⟨ob3, h⟩ := h
    refine pw_iald eX0_childrenAlike_29 (shR5 hr0) ob3 ?_
    refine pw_aload_n eX0_childrenAlike_30 rfl rfl ?_
    refine gf_RX0_24 rfl eX0_childrenAlike_31 (shR hr0) ?_
    refine pw_iload_n eX0_childrenAlike_34 rfl rfl ?_
    obtain ⟨ob4, h⟩ := h
    refine pw_iald eX0_childrenAlike_35 (shR5 hr0) ob4 ?_
    refine pw_iand eX0_childrenAlike_36 ?_
    refine pw_istore (ls2 := [some (Aq r0), some (Iq x1), some (Iq x2), some (Iq x3), some (Iq (bAnd (mem (r0 + 5) (x2).toNat) (mem (r0 + 5) (x3).toNat)))]) eX0_childrenAlike_37 (by decide) rfl ?_
    refine pw_iload eX0_childrenAlike_39 rfl ?_
    obtain ⟨ob5, h⟩ := h
    refine pw_cS (z := mJ6_bitCount_0f7a4) (av := [Iq (bAnd (mem (r0 + 5) (x2).toNat) (mem (r0 + 5) (x3).toNat))]) (st := []) eX0_childrenAlike_41 lk_RX0_117 rfl (by decide) (by decide) (Nat.le_of_ble_eq_true rfl) rfl (ct_J6_bitCount_0f7a4 (mem := mem) ob5) ?_
    show PW S mX0_childrenAlike Q 44 [some (Aq r0), some (Iq x1), some (Iq x2), some (Iq x3), some (Iq (bAnd (mem (r0 + 5) (x2).toNat) (mem (r0 + 5) (x3).toNat)))] [Iq (pcn (bAnd (mem (r0 + 5) (x2).toNat) (mem (r0 + 5) (x3).toNat)))] mem
    refine pw_aload_n eX0_childrenAlike_44 rfl rfl ?_
    refine gf_RX0_30 rfl eX0_childrenAlike_45 (shR hr0) ?_
    refine pw_icmp_lt eX0_childrenAlike_48 (fun c6 => ?_) (fun c6 => ?_)
    · have h := h.1 c6
      obtain ⟨ob7, h⟩ := h
      refine pw_iinc (ls2 := [some (Aq r0), some (Iq x1), some (Iq x2), some (Iq (x3 + 1)), some (Iq (bAnd (mem (r0 + 5) (x2).toNat) (mem (r0 + 5) (x3).toNat)))]) eX0_childrenAlike_79 rfl ob7 rfl ?_
      refine pw_goto eX0_childrenAlike_82 ?_
      exact pw_drop (bs := [true, true, true, true, false]) h
    · have h := h.2 c6
      refine pw_aload_n eX0_childrenAlike_51 rfl rfl ?_
      refine pw_iload eX0_childrenAlike_52 rfl ?_
      refine pw_iload_n eX0_childrenAlike_54 rfl rfl ?_
      refine pw_iload_n eX0_childrenAlike_55 rfl rfl ?_
      obtain ⟨v8, m9, hc10, h⟩ := h
      refine pw_cV (z := mX0_sameAmong) (av := [Iq (bAnd (mem (r0 + 5) (x2).toNat) (mem (r0 + 5) (x3).toNat)), Iq x2, Iq x3]) (st := []) eX0_childrenAlike_56 lk_RX0_122 rfl (by decide) (by decide) (shR hr0) rfl rfl (Nat.le_of_ble_eq_true rfl) rfl hc10 ?_
      show PW S mX0_childrenAlike Q 59 [some (Aq r0), some (Iq x1), some (Iq x2), some (Iq x3), some (Iq (bAnd (mem (r0 + 5) (x2).toNat) (mem (r0 + 5) (x3).toNat)))] [Iq v8] m9
      obtain ⟨ob11, h⟩ := h
      refine pw_cS (z := mJ6_bitCount_0f7a4) (av := [Iq v8]) (st := []) eX0_childrenAlike_59 lk_RX0_117 rfl (by decide) (by decide) (Nat.le_of_ble_eq_true rfl) rfl (ct_J6_bitCount_0f7a4 (mem := m9) ob11) ?_
      show PW S mX0_childrenAlike Q 62 [some (Aq r0), some (Iq x1), some (Iq x2), some (Iq x3), some (Iq (bAnd (mem (r0 + 5) (x2).toNat) (mem (r0 + 5) (x3).toNat)))] [Iq (pcn v8)] m9
      refine pw_aload_n eX0_childrenAlike_62 rfl rfl ?_
      refine gf_RX0_30 rfl eX0_childrenAlike_63 (shR hr0) ?_
      refine pw_icmp_lt eX0_childrenAlike_66 (fun c12 => ?_) (fun c12 => ?_)
      · have h := h.1 c12
        obtain ⟨ob13, h⟩ := h
        refine pw_iinc (ls2 := [some (Aq r0), some (Iq x1), some (Iq x2), some (Iq (x3 + 1)), some (Iq (bAnd (mem (r0 + 5) (x2).toNat) (mem (r0 + 5) (x3).toNat)))]) eX0_childrenAlike_79 rfl ob13 rfl ?_
        refine pw_goto eX0_childrenAlike_82 ?_
        exact pw_drop (bs := [true, true, true, true, false]) h
      · have h := h.2 c12
        refine pw_iload_n eX0_childrenAlike_69 rfl rfl ?_
        refine pw_iconst eX0_childrenAlike_70 ⟨by decide, by decide⟩ ?_
        refine pw_iload_n eX0_childrenAlike_71 rfl rfl ?_
        refine pw_ishl eX0_childrenAlike_72 ?_
        refine pw_iconst eX0_childrenAlike_73 ⟨by decide, by decide⟩ ?_
        refine pw_iload_n eX0_childrenAlike_74 rfl rfl ?_
        refine pw_ishl eX0_childrenAlike_75 ?_
        refine pw_ior eX0_childrenAlike_76 ?_
        refine pw_ior eX0_childrenAlike_77 ?_
        refine pw_istore_n (ls2 := [some (Aq r0), some (Iq (bOr x1 (bOr (bShl 1 x2) (bShl 1 x3)))), some (Iq x2), some (Iq x3), some (Iq (bAnd (mem (r0 + 5) (x2).toNat) (mem (r0 + 5) (x3).toNat)))]) eX0_childrenAlike_78 rfl (by decide) rfl ?_
        obtain ⟨ob14, h⟩ := h
        refine pw_iinc (ls2 := [some (Aq r0), some (Iq (bOr x1 (bOr (bShl 1 x2) (bShl 1 x3)))), some (Iq x2), some (Iq (x3 + 1)), some (Iq (bAnd (mem (r0 + 5) (x2).toNat) (mem (r0 + 5) (x3).toNat)))]) eX0_childrenAlike_79 rfl ob14 rfl ?_
        refine pw_goto eX0_childrenAlike_82 ?_
        exact pw_drop (bs := [true, true, true, true, false]) h
set_option maxRecDepth 100000 in
theorem rg_X0_alikeSums_0 {S : Sx} {Q : Option PV → Zm → Prop} {mem : Zm}  {r0 : Nat} {x1 x2 : Int} (hr0 : isRoom r0)
    (h : (∃ (v1 : Int) (m2 : Zm), Ct1 S mX0_wrongSums [Aq r0, Iq x1] mem (some (Iq v1)) m2 ∧ ((∃ (v4 : Int) (m5 : Zm), Ct1 S mX0_wrongSums [Aq r0, Iq x2] m2 (some (Iq v4)) m5 ∧ ((∃ (v7 : Int) (m8 : Zm), Ct1 S mX0_sameAmong [Aq r0, Iq (bAnd v1 v4), Iq x1, Iq x2] m5 (some (Iq v7)) m8 ∧ (Q (some (Iq v7)) m8))))))) :
    PW S mX0_alikeSums Q 0 [some (Aq r0), some (Iq x1), some (Iq x2)] [] mem := by
  refine pw_aload_n eX0_alikeSums_0 rfl rfl ?_
  refine pw_aload_n eX0_alikeSums_1 rfl rfl ?_
  refine pw_iload_n eX0_alikeSums_2 rfl rfl ?_
  obtain ⟨v1, m2, hc3, h⟩ := h
  refine pw_cV (z := mX0_wrongSums) (av := [Iq x1]) (st := [Aq r0]) eX0_alikeSums_3 lk_RX0_125 rfl (by decide) (by decide) (shR hr0) rfl rfl (Nat.le_of_ble_eq_true rfl) rfl hc3 ?_
  show PW S mX0_alikeSums Q 6 [some (Aq r0), some (Iq x1), some (Iq x2)] [Iq v1, Aq r0] m2
  refine pw_aload_n eX0_alikeSums_6 rfl rfl ?_
  refine pw_iload_n eX0_alikeSums_7 rfl rfl ?_
  obtain ⟨v4, m5, hc6, h⟩ := h
  refine pw_cV (z := mX0_wrongSums) (av := [Iq x2]) (st := [Iq v1, Aq r0]) eX0_alikeSums_8 lk_RX0_125 rfl (by decide) (by decide) (shR hr0) rfl rfl (Nat.le_of_ble_eq_true rfl) rfl hc6 ?_
  show PW S mX0_alikeSums Q 11 [some (Aq r0), some (Iq x1), some (Iq x2)] [Iq v4, Iq v1, Aq r0] m5
  refine pw_iand eX0_alikeSums_11 ?_
  refine pw_iload_n eX0_alikeSums_12 rfl rfl ?_
  refine pw_iload_n eX0_alikeSums_13 rfl rfl ?_
  obtain ⟨v7, m8, hc9, h⟩ := h
  refine pw_cV (z := mX0_sameAmong) (av := [Iq (bAnd v1 v4), Iq x1, Iq x2]) (st := []) eX0_alikeSums_14 lk_RX0_122 rfl (by decide) (by decide) (shR hr0) rfl rfl (Nat.le_of_ble_eq_true rfl) rfl hc9 ?_
  show PW S mX0_alikeSums Q 17 [some (Aq r0), some (Iq x1), some (Iq x2)] [Iq v7] m8
  exact pw_iret eX0_alikeSums_17 h
set_option maxRecDepth 100000 in
theorem rg_X2_readRight_0 {S : Sx} {Q : Option PV → Zm → Prop} {mem : Zm}  {r1 : Nat} (hr1 : isRoom r1)
    (h : (∃ (m2 : Zm), Ct1 S mX2_nextToken [Aq 22] mem none m2 ∧ ((∃ (v4 : Int) (m5 : Zm), Ct1 S mX2_isNumber [Aq 22, Iq 0, Iq 7] m2 (some (Iq v4)) m5 ∧ ((((v4 = 0) → (Q (some (Iq 0)) m5)) ∧ (¬ (v4 = 0) → ((∃ (m9 : Zm), Ct1 S mX2_nextToken [Aq 22] m5 none m9 ∧ ((∃ (v11 : Int) (m12 : Zm), Ct1 S mX2_isNumber [Aq 22, Iq 0, Iq 99] m9 (some (Iq v11)) m12 ∧ ((((v11 = 0) → (Q (some (Iq 0)) m12)) ∧ (¬ (v11 = 0) → ((0 ≤ m5 22 6 ∧ m5 22 6 < 8) ∧ (∃ (m17 : Zm), Ct1 S mX2_nextToken [Aq 22] (mup m12 (r1 + 1) (m5 22 6).toNat (m12 22 6)) none m17 ∧ (Q (some (Iq 1)) m17))))))))))))))))) :
    PW S mX2_readRight Q 0 [some (Aq 22), some (Aq r1), none] [] mem := by
  refine pw_aload_n eX2_readRight_0 rfl rfl ?_
  obtain ⟨m2, hc3, h⟩ := h
  refine pw_cV (z := mX2_nextToken) (av := []) (st := []) eX2_readRight_1 lk_RX2_35 rfl (by decide) (by decide) sh22 rfl rfl (Nat.le_of_ble_eq_true rfl) rfl hc3 ?_
  show PW S mX2_readRight Q 4 [some (Aq 22), some (Aq r1), none] [] m2
  refine pw_aload_n eX2_readRight_4 rfl rfl ?_
  refine pw_iconst eX2_readRight_5 ⟨by decide, by decide⟩ ?_
  refine pw_bipush eX2_readRight_6 ⟨by decide, by decide⟩ (by decide) ?_
  obtain ⟨v4, m5, hc6, h⟩ := h
  refine pw_cV (z := mX2_isNumber) (av := [Iq 0, Iq 7]) (st := []) eX2_readRight_8 lk_RX2_60 rfl (by decide) (by decide) sh22 rfl rfl (Nat.le_of_ble_eq_true rfl) rfl hc6 ?_
  show PW S mX2_readRight Q 11 [some (Aq 22), some (Aq r1), none] [Iq v4] m5
  refine pw_if_ne eX2_readRight_11 (fun c7 => ?_) (fun c7 => ?_)
  · have h := h.2 c7
    refine pw_aload_n eX2_readRight_16 rfl rfl ?_
    refine gf_RX2_32 rfl eX2_readRight_17 sh22 ?_
    refine pw_istore_n (ls2 := [some (Aq 22), some (Aq r1), some (Iq (m5 22 6))]) eX2_readRight_20 rfl (by decide) rfl ?_
    refine pw_aload_n eX2_readRight_21 rfl rfl ?_
    obtain ⟨m9, hc10, h⟩ := h
    refine pw_cV (z := mX2_nextToken) (av := []) (st := []) eX2_readRight_22 lk_RX2_35 rfl (by decide) (by decide) sh22 rfl rfl (Nat.le_of_ble_eq_true rfl) rfl hc10 ?_
    show PW S mX2_readRight Q 25 [some (Aq 22), some (Aq r1), some (Iq (m5 22 6))] [] m9
    refine pw_aload_n eX2_readRight_25 rfl rfl ?_
    refine pw_iconst eX2_readRight_26 ⟨by decide, by decide⟩ ?_
    refine pw_bipush eX2_readRight_27 ⟨by decide, by decide⟩ (by decide) ?_
    obtain ⟨v11, m12, hc13, h⟩ := h
    refine pw_cV (z := mX2_isNumber) (av := [Iq 0, Iq 99]) (st := []) eX2_readRight_29 lk_RX2_60 rfl (by decide) (by decide) sh22 rfl rfl (Nat.le_of_ble_eq_true rfl) rfl hc13 ?_
    show PW S mX2_readRight Q 32 [some (Aq 22), some (Aq r1), some (Iq (m5 22 6))] [Iq v11] m12
    refine pw_if_ne eX2_readRight_32 (fun c14 => ?_) (fun c14 => ?_)
    · have h := h.2 c14
      refine pw_aload_n eX2_readRight_37 rfl rfl ?_
      refine gf_RX2_64 rfl eX2_readRight_38 (shR hr1) ?_
      refine pw_iload_n eX2_readRight_41 rfl rfl ?_
      refine pw_aload_n eX2_readRight_42 rfl rfl ?_
      refine gf_RX2_32 rfl eX2_readRight_43 sh22 ?_
      obtain ⟨ob15, h⟩ := h
      refine pw_iast eX2_readRight_46 (shR1 hr1) ob15 ?_
      refine pw_aload_n eX2_readRight_47 rfl rfl ?_
      obtain ⟨m17, hc18, h⟩ := h
      refine pw_cV (z := mX2_nextToken) (av := []) (st := []) eX2_readRight_48 lk_RX2_35 rfl (by decide) (by decide) sh22 rfl rfl (Nat.le_of_ble_eq_true rfl) rfl hc18 ?_
      show PW S mX2_readRight Q 51 [some (Aq 22), some (Aq r1), some (Iq (m5 22 6))] [] m17
      refine pw_iconst eX2_readRight_51 ⟨by decide, by decide⟩ ?_
      exact pw_iret eX2_readRight_52 h
    · have h := h.1 (Classical.not_not.mp c14)
      refine pw_iconst eX2_readRight_35 ⟨by decide, by decide⟩ ?_
      exact pw_iret eX2_readRight_36 h
  · have h := h.1 (Classical.not_not.mp c7)
    refine pw_iconst eX2_readRight_14 ⟨by decide, by decide⟩ ?_
    exact pw_iret eX2_readRight_15 h
set_option maxRecDepth 100000 in
theorem rg_X2_readLimit_0 {S : Sx} {Q : Option PV → Zm → Prop} {mem : Zm}  {r1 : Nat} (hr1 : isRoom r1)
    (h : (∃ (m2 : Zm), Ct1 S mX2_nextToken [Aq 22] mem none m2 ∧ ((∃ (v4 : Int) (m5 : Zm), Ct1 S mX2_isNumber [Aq 22, Iq 1, Iq 9] m2 (some (Iq v4)) m5 ∧ ((((v4 = 0) → (Q (some (Iq 0)) m5)) ∧ (¬ (v4 = 0) → ((∃ (m9 : Zm), Ct1 S mX2_nextToken [Aq 22] (mup m5 r1 6 (m5 22 6)) none m9 ∧ (Q (some (Iq 1)) m9)))))))))) :
    PW S mX2_readLimit Q 0 [some (Aq 22), some (Aq r1)] [] mem := by
  refine pw_aload_n eX2_readLimit_0 rfl rfl ?_
  obtain ⟨m2, hc3, h⟩ := h
  refine pw_cV (z := mX2_nextToken) (av := []) (st := []) eX2_readLimit_1 lk_RX2_35 rfl (by decide) (by decide) sh22 rfl rfl (Nat.le_of_ble_eq_true rfl) rfl hc3 ?_
  show PW S mX2_readLimit Q 4 [some (Aq 22), some (Aq r1)] [] m2
  refine pw_aload_n eX2_readLimit_4 rfl rfl ?_
  refine pw_iconst eX2_readLimit_5 ⟨by decide, by decide⟩ ?_
  refine pw_bipush eX2_readLimit_6 ⟨by decide, by decide⟩ (by decide) ?_
  obtain ⟨v4, m5, hc6, h⟩ := h
  refine pw_cV (z := mX2_isNumber) (av := [Iq 1, Iq 9]) (st := []) eX2_readLimit_8 lk_RX2_60 rfl (by decide) (by decide) sh22 rfl rfl (Nat.le_of_ble_eq_true rfl) rfl hc6 ?_
  show PW S mX2_readLimit Q 11 [some (Aq 22), some (Aq r1)] [Iq v4] m5
  refine pw_if_ne eX2_readLimit_11 (fun c7 => ?_) (fun c7 => ?_)
  · have h := h.2 c7
    refine pw_aload_n eX2_readLimit_16 rfl rfl ?_
    refine pw_aload_n eX2_readLimit_17 rfl rfl ?_
    refine gf_RX2_32 rfl eX2_readLimit_18 sh22 ?_
    refine pf_RX2_70 rfl eX2_readLimit_21 (shR hr1) ?_
    refine pw_aload_n eX2_readLimit_24 rfl rfl ?_
    obtain ⟨m9, hc10, h⟩ := h
    refine pw_cV (z := mX2_nextToken) (av := []) (st := []) eX2_readLimit_25 lk_RX2_35 rfl (by decide) (by decide) sh22 rfl rfl (Nat.le_of_ble_eq_true rfl) rfl hc10 ?_
    show PW S mX2_readLimit Q 28 [some (Aq 22), some (Aq r1)] [] m9
    refine pw_iconst eX2_readLimit_28 ⟨by decide, by decide⟩ ?_
    exact pw_iret eX2_readLimit_29 h
  · have h := h.1 (Classical.not_not.mp c7)
    refine pw_iconst eX2_readLimit_14 ⟨by decide, by decide⟩ ?_
    exact pw_iret eX2_readLimit_15 h
set_option maxRecDepth 100000 in
theorem rg_X2_readPerhaps_0 {S : Sx} {Q : Option PV → Zm → Prop} {mem : Zm}  {r1 : Nat} {x2 x3 x5 x6 : Int} (hr1 : isRoom r1)
    (h : (((cmpL (mem 22 5) x3 = 0) → ((∃ (m3 : Zm), Ct1 S mX2_nextToken [Aq 22] mem none m3 ∧ ((∃ (v5 : Int) (m6 : Zm), Ct1 S mX2_isNumber [Aq 22, Iq 0, Iq x6] m3 (some (Iq v5)) m6 ∧ ((((v5 = 0) → (Q (some (Iq 0)) m6)) ∧ (¬ (v5 = 0) → ((0 ≤ x2 ∧ x2 < 8 ∧ 0 ≤ x5 ∧ x5 < 6) ∧ (∃ (m11 : Zm), Ct1 S mX2_nextToken [Aq 22] (mup m6 (r1 + 2) (6 * (x2).toNat + (x5).toNat) (m6 22 6)) none m11 ∧ (Q (some (Iq 1)) m11))))))))))) ∧ (¬ (cmpL (mem 22 5) x3 = 0) → (Q (some (Iq 1)) mem)))) :
    PW S mX2_readPerhaps Q 0 [some (Aq 22), some (Aq r1), some (Iq x2), some (Jq x3), none, some (Iq x5), some (Iq x6)] [] mem := by
  refine pw_aload_n eX2_readPerhaps_0 rfl rfl ?_
  refine gf_RX2_28 rfl eX2_readPerhaps_1 ?_
  refine pw_lload_n eX2_readPerhaps_4 rfl rfl ?_
  refine pw_lcmp eX2_readPerhaps_5 ?_
  refine pw_if_eq eX2_readPerhaps_6 (fun c1 => ?_) (fun c1 => ?_)
  · have h := h.1 c1
    refine pw_aload_n eX2_readPerhaps_11 rfl rfl ?_
    obtain ⟨m3, hc4, h⟩ := h
    refine pw_cV (z := mX2_nextToken) (av := []) (st := []) eX2_readPerhaps_12 lk_RX2_35 rfl (by decide) (by decide) sh22 rfl rfl (Nat.le_of_ble_eq_true rfl) rfl hc4 ?_
    show PW S mX2_readPerhaps Q 15 [some (Aq 22), some (Aq r1), some (Iq x2), some (Jq x3), none, some (Iq x5), some (Iq x6)] [] m3
    refine pw_aload_n eX2_readPerhaps_15 rfl rfl ?_
    refine pw_iconst eX2_readPerhaps_16 ⟨by decide, by decide⟩ ?_
    refine pw_iload eX2_readPerhaps_17 rfl ?_
    obtain ⟨v5, m6, hc7, h⟩ := h
    refine pw_cV (z := mX2_isNumber) (av := [Iq 0, Iq x6]) (st := []) eX2_readPerhaps_19 lk_RX2_60 rfl (by decide) (by decide) sh22 rfl rfl (Nat.le_of_ble_eq_true rfl) rfl hc7 ?_
    show PW S mX2_readPerhaps Q 22 [some (Aq 22), some (Aq r1), some (Iq x2), some (Jq x3), none, some (Iq x5), some (Iq x6)] [Iq v5] m6
    refine pw_if_ne eX2_readPerhaps_22 (fun c8 => ?_) (fun c8 => ?_)
    · have h := h.2 c8
      refine pw_aload_n eX2_readPerhaps_27 rfl rfl ?_
      refine pw_iload_n eX2_readPerhaps_28 rfl rfl ?_
      refine pw_iload eX2_readPerhaps_29 rfl ?_
      refine pw_aload_n eX2_readPerhaps_31 rfl rfl ?_
      refine gf_RX2_32 rfl eX2_readPerhaps_32 sh22 ?_
      obtain ⟨ob9, h⟩ := h
      refine pw_cV (z := mX0_setFact) (av := [Iq x2, Iq x5, Iq (m6 22 6)]) (st := []) eX2_readPerhaps_35 lk_RX2_90 rfl (by decide) (by decide) (shR hr1) rfl rfl (Nat.le_of_ble_eq_true rfl) rfl (ct_X0_setFact (mem := m6) hr1 ob9) ?_
      show PW S mX2_readPerhaps Q 38 [some (Aq 22), some (Aq r1), some (Iq x2), some (Jq x3), none, some (Iq x5), some (Iq x6)] [] (mup m6 (r1 + 2) (6 * (x2).toNat + (x5).toNat) (m6 22 6))
      refine pw_aload_n eX2_readPerhaps_38 rfl rfl ?_
      obtain ⟨m11, hc12, h⟩ := h
      refine pw_cV (z := mX2_nextToken) (av := []) (st := []) eX2_readPerhaps_39 lk_RX2_35 rfl (by decide) (by decide) sh22 rfl rfl (Nat.le_of_ble_eq_true rfl) rfl hc12 ?_
      show PW S mX2_readPerhaps Q 42 [some (Aq 22), some (Aq r1), some (Iq x2), some (Jq x3), none, some (Iq x5), some (Iq x6)] [] m11
      refine pw_iconst eX2_readPerhaps_42 ⟨by decide, by decide⟩ ?_
      exact pw_iret eX2_readPerhaps_43 h
    · have h := h.1 (Classical.not_not.mp c8)
      refine pw_iconst eX2_readPerhaps_25 ⟨by decide, by decide⟩ ?_
      exact pw_iret eX2_readPerhaps_26 h
  · have h := h.2 c1
    refine pw_iconst eX2_readPerhaps_9 ⟨by decide, by decide⟩ ?_
    exact pw_iret eX2_readPerhaps_10 h
set_option maxRecDepth 100000 in
theorem rg_X3_right_0 {S : Sx} {Q : Option PV → Zm → Prop} {mem : Zm}   {x1 x2 : Int} 
    (h : (((0 ≤ x1 ∧ x1 ≤ 7) → ((((0 ≤ x2 ∧ x2 ≤ 99) → ((0 ≤ x1 ∧ x1 < 8) ∧ (0 ≤ x1 ∧ x1 < 8) ∧ Q (some (Iq (mem 2 (x1).toNat))) (mup mem 2 (x1).toNat x2))) ∧ (¬ (0 ≤ x2 ∧ x2 ≤ 99) → ((fOX mem (-1000001)) ∧ Q (some (Iq (-1000001))) (fndx mem (-1000001))))))) ∧ (¬ (0 ≤ x1 ∧ x1 ≤ 7) → ((fOX mem (-1000001)) ∧ Q (some (Iq (-1000001))) (fndx mem (-1000001)))))) :
    PW S mX3_right Q 0 [some (Aq 0), some (Iq x1), some (Iq x2), none] [] mem := by
  refine pw_iload_n eX3_right_0 rfl rfl ?_
  refine pw_iconst eX3_right_1 ⟨by decide, by decide⟩ ?_
  refine pw_bipush eX3_right_2 ⟨by decide, by decide⟩ (by decide) ?_
  refine pw_cS (z := mX3_within) (av := [Iq x1, Iq 0, Iq 7]) (st := []) eX3_right_4 lk_RX3_44 rfl (by decide) (by decide) (Nat.le_of_ble_eq_true rfl) rfl (ct_X3_within (mem := mem)) ?_
  show PW S mX3_right Q 7 [some (Aq 0), some (Iq x1), some (Iq x2), none] [Iq (bI (0 ≤ x1 ∧ x1 ≤ 7))] mem
  refine pw_if_eq eX3_right_7 (fun c1 => ?_) (fun c1 => ?_)
  · have h := h.2 (bI0.mp c1)
    refine pw_aload_n eX3_right_20 rfl rfl ?_
    refine pw_ldc (n := (-1000001)) eX3_right_21 ⟨by decide, by decide⟩ kc_RX3_48 ?_
    obtain ⟨ob2, h⟩ := h
    refine pw_cV (z := mX3_finding) (av := [Iq (-1000001)]) (st := []) eX3_right_23 lk_RX3_49 rfl (by decide) (by decide) sh0 rfl rfl (Nat.le_of_ble_eq_true rfl) rfl (ct_X3_finding (mem := mem) ob2) ?_
    show PW S mX3_right Q 26 [some (Aq 0), some (Iq x1), some (Iq x2), none] [Iq (-1000001)] (fndx mem (-1000001))
    exact pw_iret eX3_right_26 h
  · have h := h.1 (bI1.mp c1)
    refine pw_iload_n eX3_right_10 rfl rfl ?_
    refine pw_iconst eX3_right_11 ⟨by decide, by decide⟩ ?_
    refine pw_bipush eX3_right_12 ⟨by decide, by decide⟩ (by decide) ?_
    refine pw_cS (z := mX3_within) (av := [Iq x2, Iq 0, Iq 99]) (st := []) eX3_right_14 lk_RX3_44 rfl (by decide) (by decide) (Nat.le_of_ble_eq_true rfl) rfl (ct_X3_within (mem := mem)) ?_
    show PW S mX3_right Q 17 [some (Aq 0), some (Iq x1), some (Iq x2), none] [Iq (bI (0 ≤ x2 ∧ x2 ≤ 99))] mem
    refine pw_if_ne eX3_right_17 (fun c3 => ?_) (fun c3 => ?_)
    · have h := h.1 (bI1.mp c3)
      refine pw_aload_n eX3_right_27 rfl rfl ?_
      refine gf_RX3_10 rfl eX3_right_28 sh0 ?_
      refine gf_RX3_53 rfl eX3_right_31 (shR isR1) ?_
      refine pw_iload_n eX3_right_34 rfl rfl ?_
      obtain ⟨ob4, h⟩ := h
      refine pw_iald eX3_right_35 sh2 ob4 ?_
      refine pw_istore_n (ls2 := [some (Aq 0), some (Iq x1), some (Iq x2), some (Iq (mem 2 (x1).toNat))]) eX3_right_36 rfl (by decide) rfl ?_
      refine pw_aload_n eX3_right_37 rfl rfl ?_
      refine gf_RX3_10 rfl eX3_right_38 sh0 ?_
      refine gf_RX3_53 rfl eX3_right_41 (shR isR1) ?_
      refine pw_iload_n eX3_right_44 rfl rfl ?_
      refine pw_iload_n eX3_right_45 rfl rfl ?_
      obtain ⟨ob5, h⟩ := h
      refine pw_iast eX3_right_46 sh2 ob5 ?_
      refine pw_iload_n eX3_right_47 rfl rfl ?_
      exact pw_iret eX3_right_48 h
    · have h := h.2 (bI0.mp (Classical.not_not.mp c3))
      refine pw_aload_n eX3_right_20 rfl rfl ?_
      refine pw_ldc (n := (-1000001)) eX3_right_21 ⟨by decide, by decide⟩ kc_RX3_48 ?_
      obtain ⟨ob6, h⟩ := h
      refine pw_cV (z := mX3_finding) (av := [Iq (-1000001)]) (st := []) eX3_right_23 lk_RX3_49 rfl (by decide) (by decide) sh0 rfl rfl (Nat.le_of_ble_eq_true rfl) rfl (ct_X3_finding (mem := mem) ob6) ?_
      show PW S mX3_right Q 26 [some (Aq 0), some (Iq x1), some (Iq x2), none] [Iq (-1000001)] (fndx mem (-1000001))
      exact pw_iret eX3_right_26 h
set_option maxRecDepth 100000 in
theorem rg_X3_isRight_0 {S : Sx} {Q : Option PV → Zm → Prop} {mem : Zm}   {x1 : Int} 
    (h : (((0 ≤ x1 ∧ x1 ≤ 7) → ((0 ≤ x1 ∧ x1 < 8) ∧ Q (some (Iq (mem 2 (x1).toNat))) mem)) ∧ (¬ (0 ≤ x1 ∧ x1 ≤ 7) → ((fOX mem (-1000001)) ∧ Q (some (Iq (-1000001))) (fndx mem (-1000001)))))) :
    PW S mX3_isRight Q 0 [some (Aq 0), some (Iq x1)] [] mem := by
  refine pw_iload_n eX3_isRight_0 rfl rfl ?_
  refine pw_iconst eX3_isRight_1 ⟨by decide, by decide⟩ ?_
  refine pw_bipush eX3_isRight_2 ⟨by decide, by decide⟩ (by decide) ?_
  refine pw_cS (z := mX3_within) (av := [Iq x1, Iq 0, Iq 7]) (st := []) eX3_isRight_4 lk_RX3_44 rfl (by decide) (by decide) (Nat.le_of_ble_eq_true rfl) rfl (ct_X3_within (mem := mem)) ?_
  show PW S mX3_isRight Q 7 [some (Aq 0), some (Iq x1)] [Iq (bI (0 ≤ x1 ∧ x1 ≤ 7))] mem
  refine pw_if_ne eX3_isRight_7 (fun c1 => ?_) (fun c1 => ?_)
  · have h := h.1 (bI1.mp c1)
    refine pw_aload_n eX3_isRight_17 rfl rfl ?_
    refine gf_RX3_10 rfl eX3_isRight_18 sh0 ?_
    refine gf_RX3_53 rfl eX3_isRight_21 (shR isR1) ?_
    refine pw_iload_n eX3_isRight_24 rfl rfl ?_
    obtain ⟨ob2, h⟩ := h
    refine pw_iald eX3_isRight_25 sh2 ob2 ?_
    exact pw_iret eX3_isRight_26 h
  · have h := h.2 (bI0.mp (Classical.not_not.mp c1))
    refine pw_aload_n eX3_isRight_10 rfl rfl ?_
    refine pw_ldc (n := (-1000001)) eX3_isRight_11 ⟨by decide, by decide⟩ kc_RX3_48 ?_
    obtain ⟨ob3, h⟩ := h
    refine pw_cV (z := mX3_finding) (av := [Iq (-1000001)]) (st := []) eX3_isRight_13 lk_RX3_49 rfl (by decide) (by decide) sh0 rfl rfl (Nat.le_of_ble_eq_true rfl) rfl (ct_X3_finding (mem := mem) ob3) ?_
    show PW S mX3_isRight Q 16 [some (Aq 0), some (Iq x1)] [Iq (-1000001)] (fndx mem (-1000001))
    exact pw_iret eX3_isRight_16 h
set_option maxRecDepth 100000 in
theorem rg_X3_limit_0 {S : Sx} {Q : Option PV → Zm → Prop} {mem : Zm}   {x1 : Int} 
    (h : (((1 ≤ x1 ∧ x1 ≤ 9) → (Q (some (Iq (mem 1 6))) (mup mem 1 6 x1))) ∧ (¬ (1 ≤ x1 ∧ x1 ≤ 9) → ((fOX mem (-1000001)) ∧ Q (some (Iq (-1000001))) (fndx mem (-1000001)))))) :
    PW S mX3_limit Q 0 [some (Aq 0), some (Iq x1), none] [] mem := by
  refine pw_iload_n eX3_limit_0 rfl rfl ?_
  refine pw_iconst eX3_limit_1 ⟨by decide, by decide⟩ ?_
  refine pw_bipush eX3_limit_2 ⟨by decide, by decide⟩ (by decide) ?_
  refine pw_cS (z := mX3_within) (av := [Iq x1, Iq 1, Iq 9]) (st := []) eX3_limit_4 lk_RX3_44 rfl (by decide) (by decide) (Nat.le_of_ble_eq_true rfl) rfl (ct_X3_within (mem := mem)) ?_
  show PW S mX3_limit Q 7 [some (Aq 0), some (Iq x1), none] [Iq (bI (1 ≤ x1 ∧ x1 ≤ 9))] mem
  refine pw_if_ne eX3_limit_7 (fun c1 => ?_) (fun c1 => ?_)
  · have h := h.1 (bI1.mp c1)
    refine pw_aload_n eX3_limit_17 rfl rfl ?_
    refine gf_RX3_10 rfl eX3_limit_18 sh0 ?_
    refine gf_RX3_56 rfl eX3_limit_21 (shR isR1) ?_
    refine pw_istore_n (ls2 := [some (Aq 0), some (Iq x1), some (Iq (mem 1 6))]) eX3_limit_24 rfl (by decide) rfl ?_
    refine pw_aload_n eX3_limit_25 rfl rfl ?_
    refine gf_RX3_10 rfl eX3_limit_26 sh0 ?_
    refine pw_iload_n eX3_limit_29 rfl rfl ?_
    refine pf_RX3_56 rfl eX3_limit_30 (shR isR1) ?_
    refine pw_iload_n eX3_limit_33 rfl rfl ?_
    exact pw_iret eX3_limit_34 h
  · have h := h.2 (bI0.mp (Classical.not_not.mp c1))
    refine pw_aload_n eX3_limit_10 rfl rfl ?_
    refine pw_ldc (n := (-1000001)) eX3_limit_11 ⟨by decide, by decide⟩ kc_RX3_48 ?_
    obtain ⟨ob2, h⟩ := h
    refine pw_cV (z := mX3_finding) (av := [Iq (-1000001)]) (st := []) eX3_limit_13 lk_RX3_49 rfl (by decide) (by decide) sh0 rfl rfl (Nat.le_of_ble_eq_true rfl) rfl (ct_X3_finding (mem := mem) ob2) ?_
    show PW S mX3_limit Q 16 [some (Aq 0), some (Iq x1), none] [Iq (-1000001)] (fndx mem (-1000001))
    exact pw_iret eX3_limit_16 h
set_option maxRecDepth 100000 in
theorem rg_X3_child_0 {S : Sx} {Q : Option PV → Zm → Prop} {mem : Zm}   {x1 x2 : Int} 
    (h : (((0 ≤ x1 ∧ x1 ≤ 6) → ((((0 ≤ x2 ∧ x2 ≤ 255) → ((((mem 1 7 < 8) → ((∃ (v5 : Int) (m6 : Zm), Ct1 S mX0_addChild [Aq 1, Iq x1, Iq x2] mem (some (Iq v5)) m6 ∧ (Q (some (Iq v5)) m6)))) ∧ (¬ (mem 1 7 < 8) → ((fOX mem (-1000002)) ∧ Q (some (Iq (-1000002))) (fndx mem (-1000002))))))) ∧ (¬ (0 ≤ x2 ∧ x2 ≤ 255) → ((fOX mem (-1000001)) ∧ Q (some (Iq (-1000001))) (fndx mem (-1000001))))))) ∧ (¬ (0 ≤ x1 ∧ x1 ≤ 6) → ((fOX mem (-1000001)) ∧ Q (some (Iq (-1000001))) (fndx mem (-1000001)))))) :
    PW S mX3_child Q 0 [some (Aq 0), some (Iq x1), some (Iq x2)] [] mem := by
  refine pw_iload_n eX3_child_0 rfl rfl ?_
  refine pw_iconst eX3_child_1 ⟨by decide, by decide⟩ ?_
  refine pw_bipush eX3_child_2 ⟨by decide, by decide⟩ (by decide) ?_
  refine pw_cS (z := mX3_within) (av := [Iq x1, Iq 0, Iq 6]) (st := []) eX3_child_4 lk_RX3_44 rfl (by decide) (by decide) (Nat.le_of_ble_eq_true rfl) rfl (ct_X3_within (mem := mem)) ?_
  show PW S mX3_child Q 7 [some (Aq 0), some (Iq x1), some (Iq x2)] [Iq (bI (0 ≤ x1 ∧ x1 ≤ 6))] mem
  refine pw_if_eq eX3_child_7 (fun c1 => ?_) (fun c1 => ?_)
  · have h := h.2 (bI0.mp c1)
    refine pw_aload_n eX3_child_21 rfl rfl ?_
    refine pw_ldc (n := (-1000001)) eX3_child_22 ⟨by decide, by decide⟩ kc_RX3_48 ?_
    obtain ⟨ob2, h⟩ := h
    refine pw_cV (z := mX3_finding) (av := [Iq (-1000001)]) (st := []) eX3_child_24 lk_RX3_49 rfl (by decide) (by decide) sh0 rfl rfl (Nat.le_of_ble_eq_true rfl) rfl (ct_X3_finding (mem := mem) ob2) ?_
    show PW S mX3_child Q 27 [some (Aq 0), some (Iq x1), some (Iq x2)] [Iq (-1000001)] (fndx mem (-1000001))
    exact pw_iret eX3_child_27 h
  · have h := h.1 (bI1.mp c1)
    refine pw_iload_n eX3_child_10 rfl rfl ?_
    refine pw_iconst eX3_child_11 ⟨by decide, by decide⟩ ?_
    refine pw_sipush eX3_child_12 ⟨by decide, by decide⟩ (by decide) ?_
    refine pw_cS (z := mX3_within) (av := [Iq x2, Iq 0, Iq 255]) (st := []) eX3_child_15 lk_RX3_44 rfl (by decide) (by decide) (Nat.le_of_ble_eq_true rfl) rfl (ct_X3_within (mem := mem)) ?_
    show PW S mX3_child Q 18 [some (Aq 0), some (Iq x1), some (Iq x2)] [Iq (bI (0 ≤ x2 ∧ x2 ≤ 255))] mem
    refine pw_if_ne eX3_child_18 (fun c3 => ?_) (fun c3 => ?_)
    · have h := h.1 (bI1.mp c3)
      refine pw_aload_n eX3_child_28 rfl rfl ?_
      refine gf_RX3_10 rfl eX3_child_29 sh0 ?_
      refine gf_RX3_60 rfl eX3_child_32 (shR isR1) ?_
      refine pw_bipush eX3_child_35 ⟨by decide, by decide⟩ (by decide) ?_
      refine pw_icmp_lt eX3_child_37 (fun c4 => ?_) (fun c4 => ?_)
      · have h := h.1 c4
        refine pw_aload_n eX3_child_47 rfl rfl ?_
        refine gf_RX3_10 rfl eX3_child_48 sh0 ?_
        refine pw_iload_n eX3_child_51 rfl rfl ?_
        refine pw_iload_n eX3_child_52 rfl rfl ?_
        obtain ⟨v5, m6, hc7, h⟩ := h
        refine pw_cV (z := mX0_addChild) (av := [Iq x1, Iq x2]) (st := []) eX3_child_53 lk_RX3_64 rfl (by decide) (by decide) (shR isR1) rfl rfl (Nat.le_of_ble_eq_true rfl) rfl hc7 ?_
        show PW S mX3_child Q 56 [some (Aq 0), some (Iq x1), some (Iq x2)] [Iq v5] m6
        exact pw_iret eX3_child_56 h
      · have h := h.2 c4
        refine pw_aload_n eX3_child_40 rfl rfl ?_
        refine pw_ldc (n := (-1000002)) eX3_child_41 ⟨by decide, by decide⟩ kc_RX3_63 ?_
        obtain ⟨ob8, h⟩ := h
        refine pw_cV (z := mX3_finding) (av := [Iq (-1000002)]) (st := []) eX3_child_43 lk_RX3_49 rfl (by decide) (by decide) sh0 rfl rfl (Nat.le_of_ble_eq_true rfl) rfl (ct_X3_finding (mem := mem) ob8) ?_
        show PW S mX3_child Q 46 [some (Aq 0), some (Iq x1), some (Iq x2)] [Iq (-1000002)] (fndx mem (-1000002))
        exact pw_iret eX3_child_46 h
    · have h := h.2 (bI0.mp (Classical.not_not.mp c3))
      refine pw_aload_n eX3_child_21 rfl rfl ?_
      refine pw_ldc (n := (-1000001)) eX3_child_22 ⟨by decide, by decide⟩ kc_RX3_48 ?_
      obtain ⟨ob9, h⟩ := h
      refine pw_cV (z := mX3_finding) (av := [Iq (-1000001)]) (st := []) eX3_child_24 lk_RX3_49 rfl (by decide) (by decide) sh0 rfl rfl (Nat.le_of_ble_eq_true rfl) rfl (ct_X3_finding (mem := mem) ob9) ?_
      show PW S mX3_child Q 27 [some (Aq 0), some (Iq x1), some (Iq x2)] [Iq (-1000001)] (fndx mem (-1000001))
      exact pw_iret eX3_child_27 h
set_option maxRecDepth 100000 in
theorem rg_X3_of_0 {S : Sx} {Q : Option PV → Zm → Prop} {mem : Zm}   {x1 x2 : Int} 
    (h : (((0 ≤ x1 ∧ x1 < mem 1 7) → ((((0 ≤ x2 ∧ x2 ≤ 8) → ((((x2 = 6) → ((0 ≤ x1 ∧ x1 < 8 ∧ 0 ≤ mem (1 + 2) (6 * (x1).toNat) ∧ mem (1 + 2) (6 * (x1).toNat) ≤ 6) ∧ Q (some (Iq (payV (mem (1 + 2) (6 * (x1).toNat))))) mem)) ∧ ((x2 = 7) → ((0 ≤ x1 ∧ x1 < 8 ∧ 0 ≤ mem 1 8) ∧ (((lendP (mem (1 + 2) (6 * (x1).toNat)) (mem 1 8) (mem (1 + 2) (6 * (x1).toNat + 4))) → (Q (some (Iq 1)) mem)) ∧ (¬ (lendP (mem (1 + 2) (6 * (x1).toNat)) (mem 1 8) (mem (1 + 2) (6 * (x1).toNat + 4))) → (Q (some (Iq 0)) mem))))) ∧ ((x2 = 8) → ((∃ (v8 : Int) (m9 : Zm), Ct1 S mX0_answeredSums [Aq 1, Iq x1] mem (some (Iq v8)) m9 ∧ (Q (some (Iq v8)) m9)))) ∧ ((x2 < 6 ∨ 8 < x2) → ((0 ≤ x1 ∧ x1 < 8 ∧ 0 ≤ x2 ∧ x2 < 6) ∧ Q (some (Iq (mem (1 + 2) (6 * (x1).toNat + (x2).toNat)))) mem))))) ∧ (¬ (0 ≤ x2 ∧ x2 ≤ 8) → ((fOX mem (-1000001)) ∧ Q (some (Iq (-1000001))) (fndx mem (-1000001))))))) ∧ (¬ (0 ≤ x1 ∧ x1 < mem 1 7) → ((fOX mem (-1000001)) ∧ Q (some (Iq (-1000001))) (fndx mem (-1000001)))))) :
    PW S mX3_of Q 0 [some (Aq 0), some (Iq x1), some (Iq x2)] [] mem := by
  refine pw_aload_n eX3_of_0 rfl rfl ?_
  refine gf_RX3_10 rfl eX3_of_1 sh0 ?_
  refine pw_iload_n eX3_of_4 rfl rfl ?_
  refine pw_cV (z := mX0_has) (av := [Iq x1]) (st := []) eX3_of_5 lk_RX3_68 rfl (by decide) (by decide) (shR isR1) rfl rfl (Nat.le_of_ble_eq_true rfl) rfl (ct_X0_has (mem := mem) isR1) ?_
  show PW S mX3_of Q 8 [some (Aq 0), some (Iq x1), some (Iq x2)] [Iq (bI (0 ≤ x1 ∧ x1 < mem 1 7))] mem
  refine pw_if_eq eX3_of_8 (fun c1 => ?_) (fun c1 => ?_)
  · have h := h.2 (bI0.mp c1)
    refine pw_aload_n eX3_of_21 rfl rfl ?_
    refine pw_ldc (n := (-1000001)) eX3_of_22 ⟨by decide, by decide⟩ kc_RX3_48 ?_
    obtain ⟨ob2, h⟩ := h
    refine pw_cV (z := mX3_finding) (av := [Iq (-1000001)]) (st := []) eX3_of_24 lk_RX3_49 rfl (by decide) (by decide) sh0 rfl rfl (Nat.le_of_ble_eq_true rfl) rfl (ct_X3_finding (mem := mem) ob2) ?_
    show PW S mX3_of Q 27 [some (Aq 0), some (Iq x1), some (Iq x2)] [Iq (-1000001)] (fndx mem (-1000001))
    exact pw_iret eX3_of_27 h
  · have h := h.1 (bI1.mp c1)
    refine pw_iload_n eX3_of_11 rfl rfl ?_
    refine pw_iconst eX3_of_12 ⟨by decide, by decide⟩ ?_
    refine pw_bipush eX3_of_13 ⟨by decide, by decide⟩ (by decide) ?_
    refine pw_cS (z := mX3_within) (av := [Iq x2, Iq 0, Iq 8]) (st := []) eX3_of_15 lk_RX3_44 rfl (by decide) (by decide) (Nat.le_of_ble_eq_true rfl) rfl (ct_X3_within (mem := mem)) ?_
    show PW S mX3_of Q 18 [some (Aq 0), some (Iq x1), some (Iq x2)] [Iq (bI (0 ≤ x2 ∧ x2 ≤ 8))] mem
    refine pw_if_ne eX3_of_18 (fun c3 => ?_) (fun c3 => ?_)
    · have h := h.1 (bI1.mp c3)
      refine pw_iload_n eX3_of_28 rfl rfl ?_
      obtain ⟨hk0, hk1, hk2, hkd⟩ := h
      refine pw_tsw (ps := [(6, 56), (7, 65), (8, 82)]) (td := 91) eX3_of_29 rfl (by decide) (by decide) rfl ⟨fun c4 => ?_, fun c4 => ?_, fun c4 => ?_, trivial⟩ (fun c4 => ?_)
      · have h := hk0 c4
        refine pw_aload_n eX3_of_56 rfl rfl ?_
        refine gf_RX3_10 rfl eX3_of_57 sh0 ?_
        refine pw_iload_n eX3_of_60 rfl rfl ?_
        obtain ⟨ob5, h⟩ := h
        refine pw_cV (z := mX0_price) (av := [Iq x1]) (st := []) eX3_of_61 lk_RX3_72 rfl (by decide) (by decide) (shR isR1) rfl rfl (Nat.le_of_ble_eq_true rfl) rfl (ct_X0_price (mem := mem) isR1 ob5) ?_
        show PW S mX3_of Q 64 [some (Aq 0), some (Iq x1), some (Iq x2)] [Iq (payV (mem (1 + 2) (6 * (x1).toNat)))] mem
        exact pw_iret eX3_of_64 h
      · have h := hk1 c4
        refine pw_aload_n eX3_of_65 rfl rfl ?_
        refine gf_RX3_10 rfl eX3_of_66 sh0 ?_
        refine pw_iload_n eX3_of_69 rfl rfl ?_
        obtain ⟨ob6, h⟩ := h
        refine pw_cV (z := mX0_isLending) (av := [Iq x1]) (st := []) eX3_of_70 lk_RX3_75 rfl (by decide) (by decide) (shR isR1) rfl rfl (Nat.le_of_ble_eq_true rfl) rfl (ct_X0_isLending (mem := mem) isR1 ob6) ?_
        show PW S mX3_of Q 73 [some (Aq 0), some (Iq x1), some (Iq x2)] [Iq (bI (lendP (mem (1 + 2) (6 * (x1).toNat)) (mem 1 8) (mem (1 + 2) (6 * (x1).toNat + 4))))] mem
        refine pw_if_eq eX3_of_73 (fun c7 => ?_) (fun c7 => ?_)
        · have h := h.2 (bI0.mp c7)
          refine pw_iconst eX3_of_80 ⟨by decide, by decide⟩ ?_
          exact pw_iret eX3_of_81 h
        · have h := h.1 (bI1.mp c7)
          refine pw_iconst eX3_of_76 ⟨by decide, by decide⟩ ?_
          refine pw_goto eX3_of_77 ?_
          exact pw_iret eX3_of_81 h
      · have h := hk2 c4
        refine pw_aload_n eX3_of_82 rfl rfl ?_
        refine gf_RX3_10 rfl eX3_of_83 sh0 ?_
        refine pw_iload_n eX3_of_86 rfl rfl ?_
        obtain ⟨v8, m9, hc10, h⟩ := h
        refine pw_cV (z := mX0_answeredSums) (av := [Iq x1]) (st := []) eX3_of_87 lk_RX3_78 rfl (by decide) (by decide) (shR isR1) rfl rfl (Nat.le_of_ble_eq_true rfl) rfl hc10 ?_
        show PW S mX3_of Q 90 [some (Aq 0), some (Iq x1), some (Iq x2)] [Iq v8] m9
        exact pw_iret eX3_of_90 h
      · have h := hkd c4
        refine pw_aload_n eX3_of_91 rfl rfl ?_
        refine gf_RX3_10 rfl eX3_of_92 sh0 ?_
        refine pw_iload_n eX3_of_95 rfl rfl ?_
        refine pw_iload_n eX3_of_96 rfl rfl ?_
        obtain ⟨ob11, h⟩ := h
        refine pw_cV (z := mX0_fact) (av := [Iq x1, Iq x2]) (st := []) eX3_of_97 lk_RX3_81 rfl (by decide) (by decide) (shR isR1) rfl rfl (Nat.le_of_ble_eq_true rfl) rfl (ct_X0_fact (mem := mem) isR1 ob11) ?_
        show PW S mX3_of Q 100 [some (Aq 0), some (Iq x1), some (Iq x2)] [Iq (mem (1 + 2) (6 * (x1).toNat + (x2).toNat))] mem
        exact pw_iret eX3_of_100 h
    · have h := h.2 (bI0.mp (Classical.not_not.mp c3))
      refine pw_aload_n eX3_of_21 rfl rfl ?_
      refine pw_ldc (n := (-1000001)) eX3_of_22 ⟨by decide, by decide⟩ kc_RX3_48 ?_
      obtain ⟨ob12, h⟩ := h
      refine pw_cV (z := mX3_finding) (av := [Iq (-1000001)]) (st := []) eX3_of_24 lk_RX3_49 rfl (by decide) (by decide) sh0 rfl rfl (Nat.le_of_ble_eq_true rfl) rfl (ct_X3_finding (mem := mem) ob12) ?_
      show PW S mX3_of Q 27 [some (Aq 0), some (Iq x1), some (Iq x2)] [Iq (-1000001)] (fndx mem (-1000001))
      exact pw_iret eX3_of_27 h
set_option maxRecDepth 100000 in
theorem rg_X3_change_0 {S : Sx} {Q : Option PV → Zm → Prop} {mem : Zm}   {x1 x2 x3 : Int} 
    (h : (((0 ≤ x1 ∧ x1 < mem 1 7) → ((((0 ≤ x2 ∧ x2 ≤ 5) → ((0 ≤ x2 ∧ x2 ≤ 5) ∧ (((mayP (mem 1 7) x1 x2 x3) → ((0 ≤ x1 ∧ x1 < 8 ∧ 0 ≤ x2 ∧ x2 < 6) ∧ (0 ≤ x1 ∧ x1 < 8 ∧ 0 ≤ x2 ∧ x2 < 6) ∧ Q (some (Iq (mem (1 + 2) (6 * (x1).toNat + (x2).toNat)))) (mup mem (1 + 2) (6 * (x1).toNat + (x2).toNat) x3))) ∧ (¬ (mayP (mem 1 7) x1 x2 x3) → ((fOX mem (-1000001)) ∧ Q (some (Iq (-1000001))) (fndx mem (-1000001))))))) ∧ (¬ (0 ≤ x2 ∧ x2 ≤ 5) → ((fOX mem (-1000001)) ∧ Q (some (Iq (-1000001))) (fndx mem (-1000001))))))) ∧ (¬ (0 ≤ x1 ∧ x1 < mem 1 7) → ((fOX mem (-1000001)) ∧ Q (some (Iq (-1000001))) (fndx mem (-1000001)))))) :
    PW S mX3_change Q 0 [some (Aq 0), some (Iq x1), some (Iq x2), some (Iq x3), none] [] mem := by
  refine pw_aload_n eX3_change_0 rfl rfl ?_
  refine gf_RX3_10 rfl eX3_change_1 sh0 ?_
  refine pw_iload_n eX3_change_4 rfl rfl ?_
  refine pw_cV (z := mX0_has) (av := [Iq x1]) (st := []) eX3_change_5 lk_RX3_68 rfl (by decide) (by decide) (shR isR1) rfl rfl (Nat.le_of_ble_eq_true rfl) rfl (ct_X0_has (mem := mem) isR1) ?_
  show PW S mX3_change Q 8 [some (Aq 0), some (Iq x1), some (Iq x2), some (Iq x3), none] [Iq (bI (0 ≤ x1 ∧ x1 < mem 1 7))] mem
  refine pw_if_eq eX3_change_8 (fun c1 => ?_) (fun c1 => ?_)
  · have h := h.2 (bI0.mp c1)
    refine pw_aload_n eX3_change_30 rfl rfl ?_
    refine pw_ldc (n := (-1000001)) eX3_change_31 ⟨by decide, by decide⟩ kc_RX3_48 ?_
    obtain ⟨ob2, h⟩ := h
    refine pw_cV (z := mX3_finding) (av := [Iq (-1000001)]) (st := []) eX3_change_33 lk_RX3_49 rfl (by decide) (by decide) sh0 rfl rfl (Nat.le_of_ble_eq_true rfl) rfl (ct_X3_finding (mem := mem) ob2) ?_
    show PW S mX3_change Q 36 [some (Aq 0), some (Iq x1), some (Iq x2), some (Iq x3), none] [Iq (-1000001)] (fndx mem (-1000001))
    exact pw_iret eX3_change_36 h
  · have h := h.1 (bI1.mp c1)
    refine pw_iload_n eX3_change_11 rfl rfl ?_
    refine pw_iconst eX3_change_12 ⟨by decide, by decide⟩ ?_
    refine pw_iconst eX3_change_13 ⟨by decide, by decide⟩ ?_
    refine pw_cS (z := mX3_within) (av := [Iq x2, Iq 0, Iq 5]) (st := []) eX3_change_14 lk_RX3_44 rfl (by decide) (by decide) (Nat.le_of_ble_eq_true rfl) rfl (ct_X3_within (mem := mem)) ?_
    show PW S mX3_change Q 17 [some (Aq 0), some (Iq x1), some (Iq x2), some (Iq x3), none] [Iq (bI (0 ≤ x2 ∧ x2 ≤ 5))] mem
    refine pw_if_eq eX3_change_17 (fun c3 => ?_) (fun c3 => ?_)
    · have h := h.2 (bI0.mp c3)
      refine pw_aload_n eX3_change_30 rfl rfl ?_
      refine pw_ldc (n := (-1000001)) eX3_change_31 ⟨by decide, by decide⟩ kc_RX3_48 ?_
      obtain ⟨ob4, h⟩ := h
      refine pw_cV (z := mX3_finding) (av := [Iq (-1000001)]) (st := []) eX3_change_33 lk_RX3_49 rfl (by decide) (by decide) sh0 rfl rfl (Nat.le_of_ble_eq_true rfl) rfl (ct_X3_finding (mem := mem) ob4) ?_
      show PW S mX3_change Q 36 [some (Aq 0), some (Iq x1), some (Iq x2), some (Iq x3), none] [Iq (-1000001)] (fndx mem (-1000001))
      exact pw_iret eX3_change_36 h
    · have h := h.1 (bI1.mp c3)
      refine pw_aload_n eX3_change_20 rfl rfl ?_
      refine pw_iload_n eX3_change_21 rfl rfl ?_
      refine pw_iload_n eX3_change_22 rfl rfl ?_
      refine pw_iload_n eX3_change_23 rfl rfl ?_
      obtain ⟨ob5, h⟩ := h
      refine pw_cV (z := mX3_canBecome) (av := [Iq x1, Iq x2, Iq x3]) (st := []) eX3_change_24 lk_RX3_84 rfl (by decide) (by decide) sh0 rfl rfl (Nat.le_of_ble_eq_true rfl) rfl (ct_X3_canBecome (mem := mem) ob5) ?_
      show PW S mX3_change Q 27 [some (Aq 0), some (Iq x1), some (Iq x2), some (Iq x3), none] [Iq (bI (mayP (mem 1 7) x1 x2 x3))] mem
      refine pw_if_ne eX3_change_27 (fun c6 => ?_) (fun c6 => ?_)
      · have h := h.1 (bI1.mp c6)
        refine pw_aload_n eX3_change_37 rfl rfl ?_
        refine gf_RX3_10 rfl eX3_change_38 sh0 ?_
        refine pw_iload_n eX3_change_41 rfl rfl ?_
        refine pw_iload_n eX3_change_42 rfl rfl ?_
        obtain ⟨ob7, h⟩ := h
        refine pw_cV (z := mX0_fact) (av := [Iq x1, Iq x2]) (st := []) eX3_change_43 lk_RX3_81 rfl (by decide) (by decide) (shR isR1) rfl rfl (Nat.le_of_ble_eq_true rfl) rfl (ct_X0_fact (mem := mem) isR1 ob7) ?_
        show PW S mX3_change Q 46 [some (Aq 0), some (Iq x1), some (Iq x2), some (Iq x3), none] [Iq (mem (1 + 2) (6 * (x1).toNat + (x2).toNat))] mem
        refine pw_istore (ls2 := [some (Aq 0), some (Iq x1), some (Iq x2), some (Iq x3), some (Iq (mem (1 + 2) (6 * (x1).toNat + (x2).toNat)))]) eX3_change_46 (by decide) rfl ?_
        refine pw_aload_n eX3_change_48 rfl rfl ?_
        refine gf_RX3_10 rfl eX3_change_49 sh0 ?_
        refine pw_iload_n eX3_change_52 rfl rfl ?_
        refine pw_iload_n eX3_change_53 rfl rfl ?_
        refine pw_iload_n eX3_change_54 rfl rfl ?_
        obtain ⟨ob8, h⟩ := h
        refine pw_cV (z := mX0_setFact) (av := [Iq x1, Iq x2, Iq x3]) (st := []) eX3_change_55 lk_RX3_87 rfl (by decide) (by decide) (shR isR1) rfl rfl (Nat.le_of_ble_eq_true rfl) rfl (ct_X0_setFact (mem := mem) isR1 ob8) ?_
        show PW S mX3_change Q 58 [some (Aq 0), some (Iq x1), some (Iq x2), some (Iq x3), some (Iq (mem (1 + 2) (6 * (x1).toNat + (x2).toNat)))] [] (mup mem (1 + 2) (6 * (x1).toNat + (x2).toNat) x3)
        refine pw_iload eX3_change_58 rfl ?_
        exact pw_iret eX3_change_60 h
      · have h := h.2 (bI0.mp (Classical.not_not.mp c6))
        refine pw_aload_n eX3_change_30 rfl rfl ?_
        refine pw_ldc (n := (-1000001)) eX3_change_31 ⟨by decide, by decide⟩ kc_RX3_48 ?_
        obtain ⟨ob9, h⟩ := h
        refine pw_cV (z := mX3_finding) (av := [Iq (-1000001)]) (st := []) eX3_change_33 lk_RX3_49 rfl (by decide) (by decide) sh0 rfl rfl (Nat.le_of_ble_eq_true rfl) rfl (ct_X3_finding (mem := mem) ob9) ?_
        show PW S mX3_change Q 36 [some (Aq 0), some (Iq x1), some (Iq x2), some (Iq x3), none] [Iq (-1000001)] (fndx mem (-1000001))
        exact pw_iret eX3_change_36 h
set_option maxRecDepth 100000 in
theorem rg_X3_answer_0 {S : Sx} {Q : Option PV → Zm → Prop} {mem : Zm}   {x1 x2 : Int} 
    (h : (((0 ≤ x1 ∧ x1 < mem 1 7) → ((((0 ≤ x2 ∧ x2 ≤ 7) → ((0 ≤ x1 ∧ x1 < 8 ∧ 0 ≤ x2 ∧ x2 < 8) ∧ Q (some (Iq (mem (1 + 3) (8 * (x1).toNat + (x2).toNat)))) mem)) ∧ (¬ (0 ≤ x2 ∧ x2 ≤ 7) → ((fOX mem (-1000001)) ∧ Q (some (Iq (-1000001))) (fndx mem (-1000001))))))) ∧ (¬ (0 ≤ x1 ∧ x1 < mem 1 7) → ((fOX mem (-1000001)) ∧ Q (some (Iq (-1000001))) (fndx mem (-1000001)))))) :
    PW S mX3_answer Q 0 [some (Aq 0), some (Iq x1), some (Iq x2)] [] mem := by
  refine pw_aload_n eX3_answer_0 rfl rfl ?_
  refine gf_RX3_10 rfl eX3_answer_1 sh0 ?_
  refine pw_iload_n eX3_answer_4 rfl rfl ?_
  refine pw_cV (z := mX0_has) (av := [Iq x1]) (st := []) eX3_answer_5 lk_RX3_68 rfl (by decide) (by decide) (shR isR1) rfl rfl (Nat.le_of_ble_eq_true rfl) rfl (ct_X0_has (mem := mem) isR1) ?_
  show PW S mX3_answer Q 8 [some (Aq 0), some (Iq x1), some (Iq x2)] [Iq (bI (0 ≤ x1 ∧ x1 < mem 1 7))] mem
  refine pw_if_eq eX3_answer_8 (fun c1 => ?_) (fun c1 => ?_)
  · have h := h.2 (bI0.mp c1)
    refine pw_aload_n eX3_answer_21 rfl rfl ?_
    refine pw_ldc (n := (-1000001)) eX3_answer_22 ⟨by decide, by decide⟩ kc_RX3_48 ?_
    obtain ⟨ob2, h⟩ := h
    refine pw_cV (z := mX3_finding) (av := [Iq (-1000001)]) (st := []) eX3_answer_24 lk_RX3_49 rfl (by decide) (by decide) sh0 rfl rfl (Nat.le_of_ble_eq_true rfl) rfl (ct_X3_finding (mem := mem) ob2) ?_
    show PW S mX3_answer Q 27 [some (Aq 0), some (Iq x1), some (Iq x2)] [Iq (-1000001)] (fndx mem (-1000001))
    exact pw_iret eX3_answer_27 h
  · have h := h.1 (bI1.mp c1)
    refine pw_iload_n eX3_answer_11 rfl rfl ?_
    refine pw_iconst eX3_answer_12 ⟨by decide, by decide⟩ ?_
    refine pw_bipush eX3_answer_13 ⟨by decide, by decide⟩ (by decide) ?_
    refine pw_cS (z := mX3_within) (av := [Iq x2, Iq 0, Iq 7]) (st := []) eX3_answer_15 lk_RX3_44 rfl (by decide) (by decide) (Nat.le_of_ble_eq_true rfl) rfl (ct_X3_within (mem := mem)) ?_
    show PW S mX3_answer Q 18 [some (Aq 0), some (Iq x1), some (Iq x2)] [Iq (bI (0 ≤ x2 ∧ x2 ≤ 7))] mem
    refine pw_if_ne eX3_answer_18 (fun c3 => ?_) (fun c3 => ?_)
    · have h := h.1 (bI1.mp c3)
      refine pw_aload_n eX3_answer_28 rfl rfl ?_
      refine gf_RX3_10 rfl eX3_answer_29 sh0 ?_
      refine pw_iload_n eX3_answer_32 rfl rfl ?_
      refine pw_iload_n eX3_answer_33 rfl rfl ?_
      obtain ⟨ob4, h⟩ := h
      refine pw_cV (z := mX0_answerOf) (av := [Iq x1, Iq x2]) (st := []) eX3_answer_34 lk_RX3_91 rfl (by decide) (by decide) (shR isR1) rfl rfl (Nat.le_of_ble_eq_true rfl) rfl (ct_X0_answerOf (mem := mem) isR1 ob4) ?_
      show PW S mX3_answer Q 37 [some (Aq 0), some (Iq x1), some (Iq x2)] [Iq (mem (1 + 3) (8 * (x1).toNat + (x2).toNat))] mem
      exact pw_iret eX3_answer_37 h
    · have h := h.2 (bI0.mp (Classical.not_not.mp c3))
      refine pw_aload_n eX3_answer_21 rfl rfl ?_
      refine pw_ldc (n := (-1000001)) eX3_answer_22 ⟨by decide, by decide⟩ kc_RX3_48 ?_
      obtain ⟨ob5, h⟩ := h
      refine pw_cV (z := mX3_finding) (av := [Iq (-1000001)]) (st := []) eX3_answer_24 lk_RX3_49 rfl (by decide) (by decide) sh0 rfl rfl (Nat.le_of_ble_eq_true rfl) rfl (ct_X3_finding (mem := mem) ob5) ?_
      show PW S mX3_answer Q 27 [some (Aq 0), some (Iq x1), some (Iq x2)] [Iq (-1000001)] (fndx mem (-1000001))
      exact pw_iret eX3_answer_27 h
set_option maxRecDepth 100000 in
theorem rg_X3_slips_0 {S : Sx} {Q : Option PV → Zm → Prop} {mem : Zm}   {x1 x2 x3 : Int} 
    (h : (((0 ≤ x1 ∧ x1 < mem 1 7) → ((((0 ≤ x2 ∧ x2 ≤ 7) → ((((-1 ≤ x3 ∧ x3 ≤ 99) → ((0 ≤ x1 ∧ x1 < 8 ∧ 0 ≤ x2 ∧ -1 ≤ x3 ∧ x3 < 100 ∧ 0 ≤ mem 1 8 ∧ 0 ≤ mem (1 + 2) (6 * (x1).toNat) ∧ mem (1 + 2) (6 * (x1).toNat) ≤ 6) ∧ Q (some (Iq (slipV (mem (1 + 2) (6 * (x1).toNat)) (mem 1 8) x2 x3))) mem)) ∧ (¬ (-1 ≤ x3 ∧ x3 ≤ 99) → ((fOX mem (-1000001)) ∧ Q (some (Iq (-1000001))) (fndx mem (-1000001))))))) ∧ (¬ (0 ≤ x2 ∧ x2 ≤ 7) → ((fOX mem (-1000001)) ∧ Q (some (Iq (-1000001))) (fndx mem (-1000001))))))) ∧ (¬ (0 ≤ x1 ∧ x1 < mem 1 7) → ((fOX mem (-1000001)) ∧ Q (some (Iq (-1000001))) (fndx mem (-1000001)))))) :
    PW S mX3_slips Q 0 [some (Aq 0), some (Iq x1), some (Iq x2), some (Iq x3)] [] mem := by
  refine pw_aload_n eX3_slips_0 rfl rfl ?_
  refine gf_RX3_10 rfl eX3_slips_1 sh0 ?_
  refine pw_iload_n eX3_slips_4 rfl rfl ?_
  refine pw_cV (z := mX0_has) (av := [Iq x1]) (st := []) eX3_slips_5 lk_RX3_68 rfl (by decide) (by decide) (shR isR1) rfl rfl (Nat.le_of_ble_eq_true rfl) rfl (ct_X0_has (mem := mem) isR1) ?_
  show PW S mX3_slips Q 8 [some (Aq 0), some (Iq x1), some (Iq x2), some (Iq x3)] [Iq (bI (0 ≤ x1 ∧ x1 < mem 1 7))] mem
  refine pw_if_eq eX3_slips_8 (fun c1 => ?_) (fun c1 => ?_)
  · have h := h.2 (bI0.mp c1)
    refine pw_aload_n eX3_slips_31 rfl rfl ?_
    refine pw_ldc (n := (-1000001)) eX3_slips_32 ⟨by decide, by decide⟩ kc_RX3_48 ?_
    obtain ⟨ob2, h⟩ := h
    refine pw_cV (z := mX3_finding) (av := [Iq (-1000001)]) (st := []) eX3_slips_34 lk_RX3_49 rfl (by decide) (by decide) sh0 rfl rfl (Nat.le_of_ble_eq_true rfl) rfl (ct_X3_finding (mem := mem) ob2) ?_
    show PW S mX3_slips Q 37 [some (Aq 0), some (Iq x1), some (Iq x2), some (Iq x3)] [Iq (-1000001)] (fndx mem (-1000001))
    exact pw_iret eX3_slips_37 h
  · have h := h.1 (bI1.mp c1)
    refine pw_iload_n eX3_slips_11 rfl rfl ?_
    refine pw_iconst eX3_slips_12 ⟨by decide, by decide⟩ ?_
    refine pw_bipush eX3_slips_13 ⟨by decide, by decide⟩ (by decide) ?_
    refine pw_cS (z := mX3_within) (av := [Iq x2, Iq 0, Iq 7]) (st := []) eX3_slips_15 lk_RX3_44 rfl (by decide) (by decide) (Nat.le_of_ble_eq_true rfl) rfl (ct_X3_within (mem := mem)) ?_
    show PW S mX3_slips Q 18 [some (Aq 0), some (Iq x1), some (Iq x2), some (Iq x3)] [Iq (bI (0 ≤ x2 ∧ x2 ≤ 7))] mem
    refine pw_if_eq eX3_slips_18 (fun c3 => ?_) (fun c3 => ?_)
    · have h := h.2 (bI0.mp c3)
      refine pw_aload_n eX3_slips_31 rfl rfl ?_
      refine pw_ldc (n := (-1000001)) eX3_slips_32 ⟨by decide, by decide⟩ kc_RX3_48 ?_
      obtain ⟨ob4, h⟩ := h
      refine pw_cV (z := mX3_finding) (av := [Iq (-1000001)]) (st := []) eX3_slips_34 lk_RX3_49 rfl (by decide) (by decide) sh0 rfl rfl (Nat.le_of_ble_eq_true rfl) rfl (ct_X3_finding (mem := mem) ob4) ?_
      show PW S mX3_slips Q 37 [some (Aq 0), some (Iq x1), some (Iq x2), some (Iq x3)] [Iq (-1000001)] (fndx mem (-1000001))
      exact pw_iret eX3_slips_37 h
    · have h := h.1 (bI1.mp c3)
      refine pw_iload_n eX3_slips_21 rfl rfl ?_
      refine pw_iconst eX3_slips_22 ⟨by decide, by decide⟩ ?_
      refine pw_bipush eX3_slips_23 ⟨by decide, by decide⟩ (by decide) ?_
      refine pw_cS (z := mX3_within) (av := [Iq x3, Iq (-1), Iq 99]) (st := []) eX3_slips_25 lk_RX3_44 rfl (by decide) (by decide) (Nat.le_of_ble_eq_true rfl) rfl (ct_X3_within (mem := mem)) ?_
      show PW S mX3_slips Q 28 [some (Aq 0), some (Iq x1), some (Iq x2), some (Iq x3)] [Iq (bI (-1 ≤ x3 ∧ x3 ≤ 99))] mem
      refine pw_if_ne eX3_slips_28 (fun c5 => ?_) (fun c5 => ?_)
      · have h := h.1 (bI1.mp c5)
        refine pw_aload_n eX3_slips_38 rfl rfl ?_
        refine gf_RX3_10 rfl eX3_slips_39 sh0 ?_
        refine pw_iload_n eX3_slips_42 rfl rfl ?_
        refine pw_iload_n eX3_slips_43 rfl rfl ?_
        refine pw_iload_n eX3_slips_44 rfl rfl ?_
        obtain ⟨ob6, h⟩ := h
        refine pw_cV (z := mX0_slipOf) (av := [Iq x1, Iq x2, Iq x3]) (st := []) eX3_slips_45 lk_RX3_94 rfl (by decide) (by decide) (shR isR1) rfl rfl (Nat.le_of_ble_eq_true rfl) rfl (ct_X0_slipOf (mem := mem) isR1 ob6) ?_
        show PW S mX3_slips Q 48 [some (Aq 0), some (Iq x1), some (Iq x2), some (Iq x3)] [Iq (slipV (mem (1 + 2) (6 * (x1).toNat)) (mem 1 8) x2 x3)] mem
        exact pw_iret eX3_slips_48 h
      · have h := h.2 (bI0.mp (Classical.not_not.mp c5))
        refine pw_aload_n eX3_slips_31 rfl rfl ?_
        refine pw_ldc (n := (-1000001)) eX3_slips_32 ⟨by decide, by decide⟩ kc_RX3_48 ?_
        obtain ⟨ob7, h⟩ := h
        refine pw_cV (z := mX3_finding) (av := [Iq (-1000001)]) (st := []) eX3_slips_34 lk_RX3_49 rfl (by decide) (by decide) sh0 rfl rfl (Nat.le_of_ble_eq_true rfl) rfl (ct_X3_finding (mem := mem) ob7) ?_
        show PW S mX3_slips Q 37 [some (Aq 0), some (Iq x1), some (Iq x2), some (Iq x3)] [Iq (-1000001)] (fndx mem (-1000001))
        exact pw_iret eX3_slips_37 h
set_option maxRecDepth 100000 in
theorem rg_X3_now_0 {S : Sx} {Q : Option PV → Zm → Prop} {mem : Zm}   {x1 : Int} 
    (h : (((x1 = 0) → (Q (some (Iq (mem 1 8))) mem)) ∧ ((x1 = 1) → ((∃ (v2 : Int) (m3 : Zm), Ct1 S mX0_total [Aq 1, Iq 3] mem (some (Iq v2)) m3 ∧ (Q (some (Iq v2)) m3)))) ∧ ((x1 = 2) → ((∃ (v5 : Int) (m6 : Zm), Ct1 S mX0_total [Aq 1, Iq 5] mem (some (Iq v5)) m6 ∧ (Q (some (Iq v5)) m6)))) ∧ ((x1 = 3) → ((∃ (v8 : Int) (m9 : Zm), Ct1 S mX0_total [Aq 1, Iq 4] mem (some (Iq v8)) m9 ∧ (Q (some (Iq v8)) m9)))) ∧ ((x1 = 4) → ((∃ (v11 : Int) (m12 : Zm), Ct1 S mX0_copiedChildren [Aq 1] mem (some (Iq v11)) m12 ∧ (Q (some (Iq v11)) m12)))) ∧ ((x1 = 5) → ((∃ (v14 : Int) (m15 : Zm), Ct1 S mX0_bestChildren [Aq 1] mem (some (Iq v14)) m15 ∧ (Q (some (Iq v14)) m15)))) ∧ ((x1 = 6) → ((∃ (v17 : Int) (m18 : Zm), Ct1 S mX0_unknownSums [Aq 1] mem (some (Iq v17)) m18 ∧ (Q (some (Iq v17)) m18)))) ∧ ((x1 < 0 ∨ 6 < x1) → ((fOX mem (-1000001)) ∧ Q (some (Iq (-1000001))) (fndx mem (-1000001)))))) :
    PW S mX3_now Q 0 [some (Aq 0), some (Iq x1)] [] mem := by
  refine pw_iload_n eX3_now_0 rfl rfl ?_
  obtain ⟨hk0, hk1, hk2, hk3, hk4, hk5, hk6, hkd⟩ := h
  refine pw_tsw (ps := [(0, 44), (1, 52), (2, 61), (3, 70), (4, 79), (5, 87), (6, 95)]) (td := 103) eX3_now_1 rfl (by decide) (by decide) rfl ⟨fun c1 => ?_, fun c1 => ?_, fun c1 => ?_, fun c1 => ?_, fun c1 => ?_, fun c1 => ?_, fun c1 => ?_, trivial⟩ (fun c1 => ?_)
  · have h := hk0 c1
    refine pw_aload_n eX3_now_44 rfl rfl ?_
    refine gf_RX3_10 rfl eX3_now_45 sh0 ?_
    refine gf_RX3_101 rfl eX3_now_48 (shR isR1) ?_
    exact pw_iret eX3_now_51 h
  · have h := hk1 c1
    refine pw_aload_n eX3_now_52 rfl rfl ?_
    refine gf_RX3_10 rfl eX3_now_53 sh0 ?_
    refine pw_iconst eX3_now_56 ⟨by decide, by decide⟩ ?_
    obtain ⟨v2, m3, hc4, h⟩ := h
    refine pw_cV (z := mX0_total) (av := [Iq 3]) (st := []) eX3_now_57 lk_RX3_110 rfl (by decide) (by decide) (shR isR1) rfl rfl (Nat.le_of_ble_eq_true rfl) rfl hc4 ?_
    show PW S mX3_now Q 60 [some (Aq 0), some (Iq x1)] [Iq v2] m3
    exact pw_iret eX3_now_60 h
  · have h := hk2 c1
    refine pw_aload_n eX3_now_61 rfl rfl ?_
    refine gf_RX3_10 rfl eX3_now_62 sh0 ?_
    refine pw_iconst eX3_now_65 ⟨by decide, by decide⟩ ?_
    obtain ⟨v5, m6, hc7, h⟩ := h
    refine pw_cV (z := mX0_total) (av := [Iq 5]) (st := []) eX3_now_66 lk_RX3_110 rfl (by decide) (by decide) (shR isR1) rfl rfl (Nat.le_of_ble_eq_true rfl) rfl hc7 ?_
    show PW S mX3_now Q 69 [some (Aq 0), some (Iq x1)] [Iq v5] m6
    exact pw_iret eX3_now_69 h
  · have h := hk3 c1
    refine pw_aload_n eX3_now_70 rfl rfl ?_
    refine gf_RX3_10 rfl eX3_now_71 sh0 ?_
    refine pw_iconst eX3_now_74 ⟨by decide, by decide⟩ ?_
    obtain ⟨v8, m9, hc10, h⟩ := h
    refine pw_cV (z := mX0_total) (av := [Iq 4]) (st := []) eX3_now_75 lk_RX3_110 rfl (by decide) (by decide) (shR isR1) rfl rfl (Nat.le_of_ble_eq_true rfl) rfl hc10 ?_
    show PW S mX3_now Q 78 [some (Aq 0), some (Iq x1)] [Iq v8] m9
    exact pw_iret eX3_now_78 h
  · have h := hk4 c1
    refine pw_aload_n eX3_now_79 rfl rfl ?_
    refine gf_RX3_10 rfl eX3_now_80 sh0 ?_
    obtain ⟨v11, m12, hc13, h⟩ := h
    refine pw_cV (z := mX0_copiedChildren) (av := []) (st := []) eX3_now_83 lk_RX3_113 rfl (by decide) (by decide) (shR isR1) rfl rfl (Nat.le_of_ble_eq_true rfl) rfl hc13 ?_
    show PW S mX3_now Q 86 [some (Aq 0), some (Iq x1)] [Iq v11] m12
    exact pw_iret eX3_now_86 h
  · have h := hk5 c1
    refine pw_aload_n eX3_now_87 rfl rfl ?_
    refine gf_RX3_10 rfl eX3_now_88 sh0 ?_
    obtain ⟨v14, m15, hc16, h⟩ := h
    refine pw_cV (z := mX0_bestChildren) (av := []) (st := []) eX3_now_91 lk_RX3_117 rfl (by decide) (by decide) (shR isR1) rfl rfl (Nat.le_of_ble_eq_true rfl) rfl hc16 ?_
    show PW S mX3_now Q 94 [some (Aq 0), some (Iq x1)] [Iq v14] m15
    exact pw_iret eX3_now_94 h
  · have h := hk6 c1
    refine pw_aload_n eX3_now_95 rfl rfl ?_
    refine gf_RX3_10 rfl eX3_now_96 sh0 ?_
    obtain ⟨v17, m18, hc19, h⟩ := h
    refine pw_cV (z := mX0_unknownSums) (av := []) (st := []) eX3_now_99 lk_RX3_120 rfl (by decide) (by decide) (shR isR1) rfl rfl (Nat.le_of_ble_eq_true rfl) rfl hc19 ?_
    show PW S mX3_now Q 102 [some (Aq 0), some (Iq x1)] [Iq v17] m18
    exact pw_iret eX3_now_102 h
  · have h := hkd c1
    refine pw_aload_n eX3_now_103 rfl rfl ?_
    refine pw_ldc (n := (-1000001)) eX3_now_104 ⟨by decide, by decide⟩ kc_RX3_48 ?_
    obtain ⟨ob20, h⟩ := h
    refine pw_cV (z := mX3_finding) (av := [Iq (-1000001)]) (st := []) eX3_now_106 lk_RX3_49 rfl (by decide) (by decide) sh0 rfl rfl (Nat.le_of_ble_eq_true rfl) rfl (ct_X3_finding (mem := mem) ob20) ?_
    show PW S mX3_now Q 109 [some (Aq 0), some (Iq x1)] [Iq (-1000001)] (fndx mem (-1000001))
    exact pw_iret eX3_now_109 h
set_option maxRecDepth 100000 in
theorem rg_X3_chain_0 {S : Sx} {Q : Option PV → Zm → Prop} {mem : Zm}   {x1 : Int} 
    (h : (((0 ≤ x1 ∧ x1 < mem 1 7) → ((∃ (v2 : Int) (m3 : Zm), Ct1 S mX0_chainLength [Aq 1, Iq x1] mem (some (Iq v2)) m3 ∧ (Q (some (Iq v2)) m3)))) ∧ (¬ (0 ≤ x1 ∧ x1 < mem 1 7) → ((fOX mem (-1000001)) ∧ Q (some (Iq (-1000001))) (fndx mem (-1000001)))))) :
    PW S mX3_chain Q 0 [some (Aq 0), some (Iq x1)] [] mem := by
  refine pw_aload_n eX3_chain_0 rfl rfl ?_
  refine gf_RX3_10 rfl eX3_chain_1 sh0 ?_
  refine pw_iload_n eX3_chain_4 rfl rfl ?_
  refine pw_cV (z := mX0_has) (av := [Iq x1]) (st := []) eX3_chain_5 lk_RX3_68 rfl (by decide) (by decide) (shR isR1) rfl rfl (Nat.le_of_ble_eq_true rfl) rfl (ct_X0_has (mem := mem) isR1) ?_
  show PW S mX3_chain Q 8 [some (Aq 0), some (Iq x1)] [Iq (bI (0 ≤ x1 ∧ x1 < mem 1 7))] mem
  refine pw_if_ne eX3_chain_8 (fun c1 => ?_) (fun c1 => ?_)
  · have h := h.1 (bI1.mp c1)
    refine pw_aload_n eX3_chain_18 rfl rfl ?_
    refine gf_RX3_10 rfl eX3_chain_19 sh0 ?_
    refine pw_iload_n eX3_chain_22 rfl rfl ?_
    obtain ⟨v2, m3, hc4, h⟩ := h
    refine pw_cV (z := mX0_chainLength) (av := [Iq x1]) (st := []) eX3_chain_23 lk_RX3_123 rfl (by decide) (by decide) (shR isR1) rfl rfl (Nat.le_of_ble_eq_true rfl) rfl hc4 ?_
    show PW S mX3_chain Q 26 [some (Aq 0), some (Iq x1)] [Iq v2] m3
    exact pw_iret eX3_chain_26 h
  · have h := h.2 (bI0.mp (Classical.not_not.mp c1))
    refine pw_aload_n eX3_chain_11 rfl rfl ?_
    refine pw_ldc (n := (-1000001)) eX3_chain_12 ⟨by decide, by decide⟩ kc_RX3_48 ?_
    obtain ⟨ob5, h⟩ := h
    refine pw_cV (z := mX3_finding) (av := [Iq (-1000001)]) (st := []) eX3_chain_14 lk_RX3_49 rfl (by decide) (by decide) sh0 rfl rfl (Nat.le_of_ble_eq_true rfl) rfl (ct_X3_finding (mem := mem) ob5) ?_
    show PW S mX3_chain Q 17 [some (Aq 0), some (Iq x1)] [Iq (-1000001)] (fndx mem (-1000001))
    exact pw_iret eX3_chain_17 h
set_option maxRecDepth 100000 in
theorem rg_X3_odds_0 {S : Sx} {Q : Option PV → Zm → Prop} {mem : Zm}   {x1 x2 x3 : Int} 
    (h : (((0 ≤ x1 ∧ x1 < mem 1 7) → ((((0 ≤ x2 ∧ x2 ≤ 20) → ((((0 ≤ x3 ∧ x3 ≤ 1) → ((0 ≤ x1 ∧ x1 < 8) ∧ (0 ≤ mem (1 + 2) (6 * (x1).toNat + 1) ∧ mem (1 + 2) (6 * (x1).toNat + 1) < 256) ∧ PW S mX3_odds Q 56 [some (Aq 0), some (Iq x1), some (Iq x2), some (Iq x3), some (Iq (pcn (mem (1 + 2) (6 * (x1).toNat + 1)))), some (Iq 8)] [] mem)) ∧ (¬ (0 ≤ x3 ∧ x3 ≤ 1) → ((fOX mem (-1000001)) ∧ Q (some (Jq (-1000001))) (fndx mem (-1000001))))))) ∧ (¬ (0 ≤ x2 ∧ x2 ≤ 20) → ((fOX mem (-1000001)) ∧ Q (some (Jq (-1000001))) (fndx mem (-1000001))))))) ∧ (¬ (0 ≤ x1 ∧ x1 < mem 1 7) → ((fOX mem (-1000001)) ∧ Q (some (Jq (-1000001))) (fndx mem (-1000001)))))) :
    PW S mX3_odds Q 0 [some (Aq 0), some (Iq x1), some (Iq x2), some (Iq x3), none, none] [] mem := by
  refine pw_aload_n eX3_odds_0 rfl rfl ?_
  refine gf_RX3_10 rfl eX3_odds_1 sh0 ?_
  refine pw_iload_n eX3_odds_4 rfl rfl ?_
  refine pw_cV (z := mX0_has) (av := [Iq x1]) (st := []) eX3_odds_5 lk_RX3_68 rfl (by decide) (by decide) (shR isR1) rfl rfl (Nat.le_of_ble_eq_true rfl) rfl (ct_X0_has (mem := mem) isR1) ?_
  show PW S mX3_odds Q 8 [some (Aq 0), some (Iq x1), some (Iq x2), some (Iq x3), none, none] [Iq (bI (0 ≤ x1 ∧ x1 < mem 1 7))] mem
  refine pw_if_eq eX3_odds_8 (fun c1 => ?_) (fun c1 => ?_)
  · have h := h.2 (bI0.mp c1)
    refine pw_aload_n eX3_odds_30 rfl rfl ?_
    refine pw_ldc (n := (-1000001)) eX3_odds_31 ⟨by decide, by decide⟩ kc_RX3_48 ?_
    obtain ⟨ob2, h⟩ := h
    refine pw_cV (z := mX3_finding) (av := [Iq (-1000001)]) (st := []) eX3_odds_33 lk_RX3_49 rfl (by decide) (by decide) sh0 rfl rfl (Nat.le_of_ble_eq_true rfl) rfl (ct_X3_finding (mem := mem) ob2) ?_
    show PW S mX3_odds Q 36 [some (Aq 0), some (Iq x1), some (Iq x2), some (Iq x3), none, none] [Iq (-1000001)] (fndx mem (-1000001))
    refine pw_i2l eX3_odds_36 ?_
    exact pw_lret eX3_odds_37 h
  · have h := h.1 (bI1.mp c1)
    refine pw_iload_n eX3_odds_11 rfl rfl ?_
    refine pw_iconst eX3_odds_12 ⟨by decide, by decide⟩ ?_
    refine pw_bipush eX3_odds_13 ⟨by decide, by decide⟩ (by decide) ?_
    refine pw_cS (z := mX3_within) (av := [Iq x2, Iq 0, Iq 20]) (st := []) eX3_odds_15 lk_RX3_44 rfl (by decide) (by decide) (Nat.le_of_ble_eq_true rfl) rfl (ct_X3_within (mem := mem)) ?_
    show PW S mX3_odds Q 18 [some (Aq 0), some (Iq x1), some (Iq x2), some (Iq x3), none, none] [Iq (bI (0 ≤ x2 ∧ x2 ≤ 20))] mem
    refine pw_if_eq eX3_odds_18 (fun c3 => ?_) (fun c3 => ?_)
    · have h := h.2 (bI0.mp c3)
      refine pw_aload_n eX3_odds_30 rfl rfl ?_
      refine pw_ldc (n := (-1000001)) eX3_odds_31 ⟨by decide, by decide⟩ kc_RX3_48 ?_
      obtain ⟨ob4, h⟩ := h
      refine pw_cV (z := mX3_finding) (av := [Iq (-1000001)]) (st := []) eX3_odds_33 lk_RX3_49 rfl (by decide) (by decide) sh0 rfl rfl (Nat.le_of_ble_eq_true rfl) rfl (ct_X3_finding (mem := mem) ob4) ?_
      show PW S mX3_odds Q 36 [some (Aq 0), some (Iq x1), some (Iq x2), some (Iq x3), none, none] [Iq (-1000001)] (fndx mem (-1000001))
      refine pw_i2l eX3_odds_36 ?_
      exact pw_lret eX3_odds_37 h
    · have h := h.1 (bI1.mp c3)
      refine pw_iload_n eX3_odds_21 rfl rfl ?_
      refine pw_iconst eX3_odds_22 ⟨by decide, by decide⟩ ?_
      refine pw_iconst eX3_odds_23 ⟨by decide, by decide⟩ ?_
      refine pw_cS (z := mX3_within) (av := [Iq x3, Iq 0, Iq 1]) (st := []) eX3_odds_24 lk_RX3_44 rfl (by decide) (by decide) (Nat.le_of_ble_eq_true rfl) rfl (ct_X3_within (mem := mem)) ?_
      show PW S mX3_odds Q 27 [some (Aq 0), some (Iq x1), some (Iq x2), some (Iq x3), none, none] [Iq (bI (0 ≤ x3 ∧ x3 ≤ 1))] mem
      refine pw_if_ne eX3_odds_27 (fun c5 => ?_) (fun c5 => ?_)
      · have h := h.1 (bI1.mp c5)
        refine pw_aload_n eX3_odds_38 rfl rfl ?_
        refine gf_RX3_10 rfl eX3_odds_39 sh0 ?_
        refine pw_iload_n eX3_odds_42 rfl rfl ?_
        refine pw_iconst eX3_odds_43 ⟨by decide, by decide⟩ ?_
        obtain ⟨ob6, h⟩ := h
        refine pw_cV (z := mX0_fact) (av := [Iq x1, Iq 1]) (st := []) eX3_odds_44 lk_RX3_81 rfl (by decide) (by decide) (shR isR1) rfl rfl (Nat.le_of_ble_eq_true rfl) rfl (ct_X0_fact (mem := mem) isR1 ⟨ob6.1, ob6.2, by decide, by decide⟩) ?_
        show PW S mX3_odds Q 47 [some (Aq 0), some (Iq x1), some (Iq x2), some (Iq x3), none, none] [Iq (mem (1 + 2) (6 * (x1).toNat + 1))] mem
        obtain ⟨ob7, h⟩ := h
        refine pw_cS (z := mJ6_bitCount_0f7a4) (av := [Iq (mem (1 + 2) (6 * (x1).toNat + 1))]) (st := []) eX3_odds_47 lk_RX3_141 rfl (by decide) (by decide) (Nat.le_of_ble_eq_true rfl) rfl (ct_J6_bitCount_0f7a4 (mem := mem) ob7) ?_
        show PW S mX3_odds Q 50 [some (Aq 0), some (Iq x1), some (Iq x2), some (Iq x3), none, none] [Iq (pcn (mem (1 + 2) (6 * (x1).toNat + 1)))] mem
        refine pw_istore (ls2 := [some (Aq 0), some (Iq x1), some (Iq x2), some (Iq x3), some (Iq (pcn (mem (1 + 2) (6 * (x1).toNat + 1)))), none]) eX3_odds_50 (by decide) rfl ?_
        refine pw_bipush eX3_odds_52 ⟨by decide, by decide⟩ (by decide) ?_
        refine pw_istore (ls2 := [some (Aq 0), some (Iq x1), some (Iq x2), some (Iq x3), some (Iq (pcn (mem (1 + 2) (6 * (x1).toNat + 1)))), some (Iq 8)]) eX3_odds_54 (by decide) rfl ?_
        exact h
      · have h := h.2 (bI0.mp (Classical.not_not.mp c5))
        refine pw_aload_n eX3_odds_30 rfl rfl ?_
        refine pw_ldc (n := (-1000001)) eX3_odds_31 ⟨by decide, by decide⟩ kc_RX3_48 ?_
        obtain ⟨ob8, h⟩ := h
        refine pw_cV (z := mX3_finding) (av := [Iq (-1000001)]) (st := []) eX3_odds_33 lk_RX3_49 rfl (by decide) (by decide) sh0 rfl rfl (Nat.le_of_ble_eq_true rfl) rfl (ct_X3_finding (mem := mem) ob8) ?_
        show PW S mX3_odds Q 36 [some (Aq 0), some (Iq x1), some (Iq x2), some (Iq x3), none, none] [Iq (-1000001)] (fndx mem (-1000001))
        refine pw_i2l eX3_odds_36 ?_
        exact pw_lret eX3_odds_37 h

set_option maxRecDepth 100000 in
theorem rg_X3_odds_56 {S : Sx} {Q : Option PV → Zm → Prop} {mem : Zm}   {x1 x2 x3 x4 x5 : Int} 
    (h : (((x5 ≤ 1) → ((((x3 = 0) → ((∃ (v6 : Int) (m7 : Zm), Ct1 S mX3_power [Iq x4, Iq x2] mem (some (Jq v6)) m7 ∧ (Q (some (Jq v6)) m7)))) ∧ (¬ (x3 = 0) → ((∃ (v3 : Int) (m4 : Zm), Ct1 S mX3_power [Iq x5, Iq x2] mem (some (Jq v3)) m4 ∧ (Q (some (Jq v3)) m4))))))) ∧ (¬ (x5 ≤ 1) → ((0 ≤ x4) ∧ (((x4 % 2 = 0) → ((0 ≤ x4) ∧ (0 ≤ x5) ∧ PW S mX3_odds Q 56 [some (Aq 0), some (Iq x1), some (Iq x2), some (Iq x3), some (Iq (x4 / 2)), some (Iq (x5 / 2))] [] mem)) ∧ (¬ (x4 % 2 = 0) → ((((x3 = 0) → ((∃ (v15 : Int) (m16 : Zm), Ct1 S mX3_power [Iq x4, Iq x2] mem (some (Jq v15)) m16 ∧ (Q (some (Jq v15)) m16)))) ∧ (¬ (x3 = 0) → ((∃ (v12 : Int) (m13 : Zm), Ct1 S mX3_power [Iq x5, Iq x2] mem (some (Jq v12)) m13 ∧ (Q (some (Jq v12)) m13)))))))))))) :
    PW S mX3_odds Q 56 [some (Aq 0), some (Iq x1), some (Iq x2), some (Iq x3), some (Iq x4), some (Iq x5)] [] mem := by
  refine pw_iload eX3_odds_56 rfl ?_
  refine pw_iconst eX3_odds_58 ⟨by decide, by decide⟩ ?_
  refine pw_icmp_le eX3_odds_59 (fun c1 => ?_) (fun c1 => ?_)
  · have h := h.1 c1
    refine pw_iload_n eX3_odds_84 rfl rfl ?_
    refine pw_if_ne eX3_odds_85 (fun c2 => ?_) (fun c2 => ?_)
    · have h := h.2 c2
      refine pw_iload eX3_odds_93 rfl ?_
      refine pw_iload_n eX3_odds_95 rfl rfl ?_
      obtain ⟨v3, m4, hc5, h⟩ := h
      refine pw_cS (z := mX3_power) (av := [Iq x5, Iq x2]) (st := []) eX3_odds_96 lk_RX3_170 rfl (by decide) (by decide) (Nat.le_of_ble_eq_true rfl) rfl hc5 ?_
      show PW S mX3_odds Q 99 [some (Aq 0), some (Iq x1), some (Iq x2), some (Iq x3), some (Iq x4), some (Iq x5)] [Jq v3] m4
      exact pw_lret eX3_odds_99 h
    · have h := h.1 (Classical.not_not.mp c2)
      refine pw_iload eX3_odds_88 rfl ?_
      refine pw_goto eX3_odds_90 ?_
      refine pw_iload_n eX3_odds_95 rfl rfl ?_
      obtain ⟨v6, m7, hc8, h⟩ := h
      refine pw_cS (z := mX3_power) (av := [Iq x4, Iq x2]) (st := []) eX3_odds_96 lk_RX3_170 rfl (by decide) (by decide) (Nat.le_of_ble_eq_true rfl) rfl hc8 ?_
      show PW S mX3_odds Q 99 [some (Aq 0), some (Iq x1), some (Iq x2), some (Iq x3), some (Iq x4), some (Iq x5)] [Jq v6] m7
      exact pw_lret eX3_odds_99 h
  · have h := h.2 c1
    refine pw_iload eX3_odds_62 rfl ?_
    refine pw_iconst eX3_odds_64 ⟨by decide, by decide⟩ ?_
    obtain ⟨ob9, h⟩ := h
    refine pw_irem eX3_odds_65 ob9 (by decide) ?_
    refine pw_if_ne eX3_odds_66 (fun c10 => ?_) (fun c10 => ?_)
    · have h := h.2 c10
      refine pw_iload_n eX3_odds_84 rfl rfl ?_
      refine pw_if_ne eX3_odds_85 (fun c11 => ?_) (fun c11 => ?_)
      · have h := h.2 c11
        refine pw_iload eX3_odds_93 rfl ?_
        refine pw_iload_n eX3_odds_95 rfl rfl ?_
        obtain ⟨v12, m13, hc14, h⟩ := h
        refine pw_cS (z := mX3_power) (av := [Iq x5, Iq x2]) (st := []) eX3_odds_96 lk_RX3_170 rfl (by decide) (by decide) (Nat.le_of_ble_eq_true rfl) rfl hc14 ?_
        show PW S mX3_odds Q 99 [some (Aq 0), some (Iq x1), some (Iq x2), some (Iq x3), some (Iq x4), some (Iq x5)] [Jq v12] m13
        exact pw_lret eX3_odds_99 h
      · have h := h.1 (Classical.not_not.mp c11)
        refine pw_iload eX3_odds_88 rfl ?_
        refine pw_goto eX3_odds_90 ?_
        refine pw_iload_n eX3_odds_95 rfl rfl ?_
        obtain ⟨v15, m16, hc17, h⟩ := h
        refine pw_cS (z := mX3_power) (av := [Iq x4, Iq x2]) (st := []) eX3_odds_96 lk_RX3_170 rfl (by decide) (by decide) (Nat.le_of_ble_eq_true rfl) rfl hc17 ?_
        show PW S mX3_odds Q 99 [some (Aq 0), some (Iq x1), some (Iq x2), some (Iq x3), some (Iq x4), some (Iq x5)] [Jq v15] m16
        exact pw_lret eX3_odds_99 h
    · have h := h.1 (Classical.not_not.mp c10)
      refine pw_iload eX3_odds_69 rfl ?_
      refine pw_iconst eX3_odds_71 ⟨by decide, by decide⟩ ?_
      obtain ⟨ob18, h⟩ := h
      refine pw_idiv eX3_odds_72 ob18 (by decide) ?_
      refine pw_istore (ls2 := [some (Aq 0), some (Iq x1), some (Iq x2), some (Iq x3), some (Iq (x4 / 2)), some (Iq x5)]) eX3_odds_73 (by decide) rfl ?_
      refine pw_iload eX3_odds_75 rfl ?_
      refine pw_iconst eX3_odds_77 ⟨by decide, by decide⟩ ?_
      obtain ⟨ob19, h⟩ := h
      refine pw_idiv eX3_odds_78 ob19 (by decide) ?_
      refine pw_istore (ls2 := [some (Aq 0), some (Iq x1), some (Iq x2), some (Iq x3), some (Iq (x4 / 2)), some (Iq (x5 / 2))]) eX3_odds_79 (by decide) rfl ?_
      refine pw_goto eX3_odds_81 ?_
      exact h
set_option maxRecDepth 100000 in
theorem rg_X3_feed_0 {S : Sx} {Q : Option PV → Zm → Prop} {mem : Zm}   {x1 x2 : Int} 
    (h : (((1 ≤ x2 ∧ x2 ≤ 4) → ((in32 ((mem 22 1) + x2)) ∧ ((((mem 22 1) + x2 ≤ 120) → ((in32 (x2 - 1)) ∧ PW S mX3_feed Q 41 [some (Aq 0), some (Iq x1), some (Iq x2), some (Iq (x2 - 1))] [] mem)) ∧ (¬ ((mem 22 1) + x2 ≤ 120) → ((fOX mem (-1000002)) ∧ Q (some (Iq (-1000002))) (fndx mem (-1000002))))))) ∧ (¬ (1 ≤ x2 ∧ x2 ≤ 4) → ((fOX mem (-1000001)) ∧ Q (some (Iq (-1000001))) (fndx mem (-1000001)))))) :
    PW S mX3_feed Q 0 [some (Aq 0), some (Iq x1), some (Iq x2), none] [] mem := by
  refine pw_iload_n eX3_feed_0 rfl rfl ?_
  refine pw_iconst eX3_feed_1 ⟨by decide, by decide⟩ ?_
  refine pw_iconst eX3_feed_2 ⟨by decide, by decide⟩ ?_
  refine pw_cS (z := mX3_within) (av := [Iq x2, Iq 1, Iq 4]) (st := []) eX3_feed_3 lk_RX3_44 rfl (by decide) (by decide) (Nat.le_of_ble_eq_true rfl) rfl (ct_X3_within (mem := mem)) ?_
  show PW S mX3_feed Q 6 [some (Aq 0), some (Iq x1), some (Iq x2), none] [Iq (bI (1 ≤ x2 ∧ x2 ≤ 4))] mem
  refine pw_if_ne eX3_feed_6 (fun c1 => ?_) (fun c1 => ?_)
  · have h := h.1 (bI1.mp c1)
    refine pw_aload_n eX3_feed_16 rfl rfl ?_
    refine gf_RX3_29 rfl eX3_feed_17 sh0 ?_
    refine gf_RX3_177 rfl eX3_feed_20 sh22 ?_
    refine pw_iload_n eX3_feed_23 rfl rfl ?_
    obtain ⟨ob2, h⟩ := h
    refine pw_iadd eX3_feed_24 ob2 ?_
    refine pw_bipush eX3_feed_25 ⟨by decide, by decide⟩ (by decide) ?_
    refine pw_icmp_le eX3_feed_27 (fun c3 => ?_) (fun c3 => ?_)
    · have h := h.1 c3
      refine pw_iload_n eX3_feed_37 rfl rfl ?_
      refine pw_iconst eX3_feed_38 ⟨by decide, by decide⟩ ?_
      obtain ⟨ob4, h⟩ := h
      refine pw_isub eX3_feed_39 ob4 ?_
      refine pw_istore_n (ls2 := [some (Aq 0), some (Iq x1), some (Iq x2), some (Iq (x2 - 1))]) eX3_feed_40 rfl (by decide) rfl ?_
      exact h
    · have h := h.2 c3
      refine pw_aload_n eX3_feed_30 rfl rfl ?_
      refine pw_ldc (n := (-1000002)) eX3_feed_31 ⟨by decide, by decide⟩ kc_RX3_63 ?_
      obtain ⟨ob5, h⟩ := h
      refine pw_cV (z := mX3_finding) (av := [Iq (-1000002)]) (st := []) eX3_feed_33 lk_RX3_49 rfl (by decide) (by decide) sh0 rfl rfl (Nat.le_of_ble_eq_true rfl) rfl (ct_X3_finding (mem := mem) ob5) ?_
      show PW S mX3_feed Q 36 [some (Aq 0), some (Iq x1), some (Iq x2), none] [Iq (-1000002)] (fndx mem (-1000002))
      exact pw_iret eX3_feed_36 h
  · have h := h.2 (bI0.mp (Classical.not_not.mp c1))
    refine pw_aload_n eX3_feed_9 rfl rfl ?_
    refine pw_ldc (n := (-1000001)) eX3_feed_10 ⟨by decide, by decide⟩ kc_RX3_48 ?_
    obtain ⟨ob6, h⟩ := h
    refine pw_cV (z := mX3_finding) (av := [Iq (-1000001)]) (st := []) eX3_feed_12 lk_RX3_49 rfl (by decide) (by decide) sh0 rfl rfl (Nat.le_of_ble_eq_true rfl) rfl (ct_X3_finding (mem := mem) ob6) ?_
    show PW S mX3_feed Q 15 [some (Aq 0), some (Iq x1), some (Iq x2), none] [Iq (-1000001)] (fndx mem (-1000001))
    exact pw_iret eX3_feed_15 h

set_option maxRecDepth 100000 in
theorem rg_X3_feed_41 {S : Sx} {Q : Option PV → Zm → Prop} {mem : Zm}   {x1 x2 x3 : Int} 
    (h : (((x3 < 0) → (Q (some (Iq (mem 22 1))) mem)) ∧ (¬ (x3 < 0) → ((in32 (8 * x3)) ∧ (∃ (m4 : Zm), Ct1 S mX2_append [Aq 22, Iq (bShr x1 (8 * x3))] mem none m4 ∧ ((in32 (x3 + (-1))) ∧ PW S mX3_feed Q 41 [some (Aq 0), some (Iq x1), some (Iq x2), some (Iq (x3 + (-1)))] [] m4)))))) :
    PW S mX3_feed Q 41 [some (Aq 0), some (Iq x1), some (Iq x2), some (Iq x3)] [] mem := by
  refine pw_iload_n eX3_feed_41 rfl rfl ?_
  refine pw_if_lt eX3_feed_42 (fun c1 => ?_) (fun c1 => ?_)
  · have h := h.1 c1
    refine pw_aload_n eX3_feed_64 rfl rfl ?_
    refine gf_RX3_29 rfl eX3_feed_65 sh0 ?_
    refine gf_RX3_177 rfl eX3_feed_68 sh22 ?_
    exact pw_iret eX3_feed_71 h
  · have h := h.2 c1
    refine pw_aload_n eX3_feed_45 rfl rfl ?_
    refine gf_RX3_29 rfl eX3_feed_46 sh0 ?_
    refine pw_iload_n eX3_feed_49 rfl rfl ?_
    refine pw_bipush eX3_feed_50 ⟨by decide, by decide⟩ (by decide) ?_
    refine pw_iload_n eX3_feed_52 rfl rfl ?_
    obtain ⟨ob2, h⟩ := h
    refine pw_imul eX3_feed_53 ob2 ?_
    refine pw_ishr eX3_feed_54 ?_
    obtain ⟨m4, hc5, h⟩ := h
    refine pw_cV (z := mX2_append) (av := [Iq (bShr x1 (8 * x3))]) (st := []) eX3_feed_55 lk_RX3_180 rfl (by decide) (by decide) sh22 rfl rfl (Nat.le_of_ble_eq_true rfl) rfl hc5 ?_
    show PW S mX3_feed Q 58 [some (Aq 0), some (Iq x1), some (Iq x2), some (Iq x3)] [] m4
    obtain ⟨ob6, h⟩ := h
    refine pw_iinc (ls2 := [some (Aq 0), some (Iq x1), some (Iq x2), some (Iq (x3 + (-1)))]) eX3_feed_58 rfl ob6 rfl ?_
    refine pw_goto eX3_feed_61 ?_
    exact h
set_option maxRecDepth 100000 in
theorem rg_X3_hold_0 {S : Sx} {Q : Option PV → Zm → Prop} {mem : Zm}   {x1 x2 : Int} 
    (h : (((0 ≤ x1 ∧ x1 ≤ 9) → ((((x2 = -1) → ((0 ≤ x1 ∧ x1 < 10) ∧ Q (some (Iq 1)) (mup mem 5 (x1).toNat x2))) ∧ (¬ (x2 = -1) → ((((0 ≤ x2 ∧ x2 < mem 1 7) → ((0 ≤ x1 ∧ x1 < 10) ∧ Q (some (Iq 1)) (mup mem 5 (x1).toNat x2))) ∧ (¬ (0 ≤ x2 ∧ x2 < mem 1 7) → ((fOX mem (-1000001)) ∧ Q (some (Iq (-1000001))) (fndx mem (-1000001)))))))))) ∧ (¬ (0 ≤ x1 ∧ x1 ≤ 9) → ((fOX mem (-1000001)) ∧ Q (some (Iq (-1000001))) (fndx mem (-1000001)))))) :
    PW S mX3_hold Q 0 [some (Aq 0), some (Iq x1), some (Iq x2)] [] mem := by
  refine pw_iload_n eX3_hold_0 rfl rfl ?_
  refine pw_iconst eX3_hold_1 ⟨by decide, by decide⟩ ?_
  refine pw_bipush eX3_hold_2 ⟨by decide, by decide⟩ (by decide) ?_
  refine pw_cS (z := mX3_within) (av := [Iq x1, Iq 0, Iq 9]) (st := []) eX3_hold_4 lk_RX3_44 rfl (by decide) (by decide) (Nat.le_of_ble_eq_true rfl) rfl (ct_X3_within (mem := mem)) ?_
  show PW S mX3_hold Q 7 [some (Aq 0), some (Iq x1), some (Iq x2)] [Iq (bI (0 ≤ x1 ∧ x1 ≤ 9))] mem
  refine pw_if_eq eX3_hold_7 (fun c1 => ?_) (fun c1 => ?_)
  · have h := h.2 (bI0.mp c1)
    refine pw_aload_n eX3_hold_26 rfl rfl ?_
    refine pw_ldc (n := (-1000001)) eX3_hold_27 ⟨by decide, by decide⟩ kc_RX3_48 ?_
    obtain ⟨ob2, h⟩ := h
    refine pw_cV (z := mX3_finding) (av := [Iq (-1000001)]) (st := []) eX3_hold_29 lk_RX3_49 rfl (by decide) (by decide) sh0 rfl rfl (Nat.le_of_ble_eq_true rfl) rfl (ct_X3_finding (mem := mem) ob2) ?_
    show PW S mX3_hold Q 32 [some (Aq 0), some (Iq x1), some (Iq x2)] [Iq (-1000001)] (fndx mem (-1000001))
    exact pw_iret eX3_hold_32 h
  · have h := h.1 (bI1.mp c1)
    refine pw_iload_n eX3_hold_10 rfl rfl ?_
    refine pw_iconst eX3_hold_11 ⟨by decide, by decide⟩ ?_
    refine pw_icmp_eq eX3_hold_12 (fun c3 => ?_) (fun c3 => ?_)
    · have h := h.1 c3
      refine pw_aload_n eX3_hold_33 rfl rfl ?_
      refine gf_RX3_10 rfl eX3_hold_34 sh0 ?_
      refine gf_RX3_187 rfl eX3_hold_37 (shR isR1) ?_
      refine pw_iload_n eX3_hold_40 rfl rfl ?_
      refine pw_iload_n eX3_hold_41 rfl rfl ?_
      obtain ⟨ob4, h⟩ := h
      refine pw_iast eX3_hold_42 sh5 ob4 ?_
      refine pw_iconst eX3_hold_43 ⟨by decide, by decide⟩ ?_
      exact pw_iret eX3_hold_44 h
    · have h := h.2 c3
      refine pw_aload_n eX3_hold_15 rfl rfl ?_
      refine gf_RX3_10 rfl eX3_hold_16 sh0 ?_
      refine pw_iload_n eX3_hold_19 rfl rfl ?_
      refine pw_cV (z := mX0_has) (av := [Iq x2]) (st := []) eX3_hold_20 lk_RX3_68 rfl (by decide) (by decide) (shR isR1) rfl rfl (Nat.le_of_ble_eq_true rfl) rfl (ct_X0_has (mem := mem) isR1) ?_
      show PW S mX3_hold Q 23 [some (Aq 0), some (Iq x1), some (Iq x2)] [Iq (bI (0 ≤ x2 ∧ x2 < mem 1 7))] mem
      refine pw_if_ne eX3_hold_23 (fun c5 => ?_) (fun c5 => ?_)
      · have h := h.1 (bI1.mp c5)
        refine pw_aload_n eX3_hold_33 rfl rfl ?_
        refine gf_RX3_10 rfl eX3_hold_34 sh0 ?_
        refine gf_RX3_187 rfl eX3_hold_37 (shR isR1) ?_
        refine pw_iload_n eX3_hold_40 rfl rfl ?_
        refine pw_iload_n eX3_hold_41 rfl rfl ?_
        obtain ⟨ob6, h⟩ := h
        refine pw_iast eX3_hold_42 sh5 ob6 ?_
        refine pw_iconst eX3_hold_43 ⟨by decide, by decide⟩ ?_
        exact pw_iret eX3_hold_44 h
      · have h := h.2 (bI0.mp (Classical.not_not.mp c5))
        refine pw_aload_n eX3_hold_26 rfl rfl ?_
        refine pw_ldc (n := (-1000001)) eX3_hold_27 ⟨by decide, by decide⟩ kc_RX3_48 ?_
        obtain ⟨ob7, h⟩ := h
        refine pw_cV (z := mX3_finding) (av := [Iq (-1000001)]) (st := []) eX3_hold_29 lk_RX3_49 rfl (by decide) (by decide) sh0 rfl rfl (Nat.le_of_ble_eq_true rfl) rfl (ct_X3_finding (mem := mem) ob7) ?_
        show PW S mX3_hold Q 32 [some (Aq 0), some (Iq x1), some (Iq x2)] [Iq (-1000001)] (fndx mem (-1000001))
        exact pw_iret eX3_hold_32 h
set_option maxRecDepth 100000 in
theorem rg_X3_as_0 {S : Sx} {Q : Option PV → Zm → Prop} {mem : Zm}   {x1 x2 : Int} 
    (h : (((0 ≤ x1 ∧ x1 ≤ 9) → ((((0 ≤ x2 ∧ x2 ≤ 6) → ((0 ≤ x1 ∧ x1 < 10) ∧ (((0 ≤ mem 5 (x1).toNat ∧ mem 5 (x1).toNat < mem 1 7) → ((0 ≤ mem 5 (x1).toNat ∧ mem 5 (x1).toNat < 8) ∧ (0 ≤ mem (1 + 2) (6 * (mem 5 (x1).toNat).toNat) ∧ mem (1 + 2) (6 * (mem 5 (x1).toNat).toNat) < 7 ∧ 0 ≤ x2 ∧ x2 < 7) ∧ (((undI (mem (1 + 2) (6 * (mem 5 (x1).toNat).toNat)) x2 = 0) → ((fOX mem (-1000003)) ∧ Q (some (Iq (-1000003))) (fndx mem (-1000003)))) ∧ (¬ (undI (mem (1 + 2) (6 * (mem 5 (x1).toNat).toNat)) x2 = 0) → (Q (some (Iq (mem 5 (x1).toNat))) mem))))) ∧ (¬ (0 ≤ mem 5 (x1).toNat ∧ mem 5 (x1).toNat < mem 1 7) → ((fOX mem (-1000006)) ∧ Q (some (Iq (-1000006))) (fndx mem (-1000006))))))) ∧ (¬ (0 ≤ x2 ∧ x2 ≤ 6) → ((fOX mem (-1000001)) ∧ Q (some (Iq (-1000001))) (fndx mem (-1000001))))))) ∧ (¬ (0 ≤ x1 ∧ x1 ≤ 9) → ((fOX mem (-1000001)) ∧ Q (some (Iq (-1000001))) (fndx mem (-1000001)))))) :
    PW S mX3_as Q 0 [some (Aq 0), some (Iq x1), some (Iq x2), none] [] mem := by
  refine pw_iload_n eX3_as_0 rfl rfl ?_
  refine pw_iconst eX3_as_1 ⟨by decide, by decide⟩ ?_
  refine pw_bipush eX3_as_2 ⟨by decide, by decide⟩ (by decide) ?_
  refine pw_cS (z := mX3_within) (av := [Iq x1, Iq 0, Iq 9]) (st := []) eX3_as_4 lk_RX3_44 rfl (by decide) (by decide) (Nat.le_of_ble_eq_true rfl) rfl (ct_X3_within (mem := mem)) ?_
  show PW S mX3_as Q 7 [some (Aq 0), some (Iq x1), some (Iq x2), none] [Iq (bI (0 ≤ x1 ∧ x1 ≤ 9))] mem
  refine pw_if_eq eX3_as_7 (fun c1 => ?_) (fun c1 => ?_)
  · have h := h.2 (bI0.mp c1)
    refine pw_aload_n eX3_as_20 rfl rfl ?_
    refine pw_ldc (n := (-1000001)) eX3_as_21 ⟨by decide, by decide⟩ kc_RX3_48 ?_
    obtain ⟨ob2, h⟩ := h
    refine pw_cV (z := mX3_finding) (av := [Iq (-1000001)]) (st := []) eX3_as_23 lk_RX3_49 rfl (by decide) (by decide) sh0 rfl rfl (Nat.le_of_ble_eq_true rfl) rfl (ct_X3_finding (mem := mem) ob2) ?_
    show PW S mX3_as Q 26 [some (Aq 0), some (Iq x1), some (Iq x2), none] [Iq (-1000001)] (fndx mem (-1000001))
    exact pw_iret eX3_as_26 h
  · have h := h.1 (bI1.mp c1)
    refine pw_iload_n eX3_as_10 rfl rfl ?_
    refine pw_iconst eX3_as_11 ⟨by decide, by decide⟩ ?_
    refine pw_bipush eX3_as_12 ⟨by decide, by decide⟩ (by decide) ?_
    refine pw_cS (z := mX3_within) (av := [Iq x2, Iq 0, Iq 6]) (st := []) eX3_as_14 lk_RX3_44 rfl (by decide) (by decide) (Nat.le_of_ble_eq_true rfl) rfl (ct_X3_within (mem := mem)) ?_
    show PW S mX3_as Q 17 [some (Aq 0), some (Iq x1), some (Iq x2), none] [Iq (bI (0 ≤ x2 ∧ x2 ≤ 6))] mem
    refine pw_if_ne eX3_as_17 (fun c3 => ?_) (fun c3 => ?_)
    · have h := h.1 (bI1.mp c3)
      refine pw_aload_n eX3_as_27 rfl rfl ?_
      refine gf_RX3_10 rfl eX3_as_28 sh0 ?_
      refine gf_RX3_187 rfl eX3_as_31 (shR isR1) ?_
      refine pw_iload_n eX3_as_34 rfl rfl ?_
      obtain ⟨ob4, h⟩ := h
      refine pw_iald eX3_as_35 sh5 ob4 ?_
      refine pw_istore_n (ls2 := [some (Aq 0), some (Iq x1), some (Iq x2), some (Iq (mem 5 (x1).toNat))]) eX3_as_36 rfl (by decide) rfl ?_
      refine pw_aload_n eX3_as_37 rfl rfl ?_
      refine gf_RX3_10 rfl eX3_as_38 sh0 ?_
      refine pw_iload_n eX3_as_41 rfl rfl ?_
      refine pw_cV (z := mX0_has) (av := [Iq (mem 5 (x1).toNat)]) (st := []) eX3_as_42 lk_RX3_68 rfl (by decide) (by decide) (shR isR1) rfl rfl (Nat.le_of_ble_eq_true rfl) rfl (ct_X0_has (mem := mem) isR1) ?_
      show PW S mX3_as Q 45 [some (Aq 0), some (Iq x1), some (Iq x2), some (Iq (mem 5 (x1).toNat))] [Iq (bI (0 ≤ mem 5 (x1).toNat ∧ mem 5 (x1).toNat < mem 1 7))] mem
      refine pw_if_ne eX3_as_45 (fun c5 => ?_) (fun c5 => ?_)
      · have h := h.1 (bI1.mp c5)
        refine pw_aload_n eX3_as_55 rfl rfl ?_
        refine gf_RX3_10 rfl eX3_as_56 sh0 ?_
        refine pw_iload_n eX3_as_59 rfl rfl ?_
        refine pw_iconst eX3_as_60 ⟨by decide, by decide⟩ ?_
        obtain ⟨ob6, h⟩ := h
        refine pw_cV (z := mX0_fact) (av := [Iq (mem 5 (x1).toNat), Iq 0]) (st := []) eX3_as_61 lk_RX3_81 rfl (by decide) (by decide) (shR isR1) rfl rfl (Nat.le_of_ble_eq_true rfl) rfl (ct_X0_fact (mem := mem) isR1 ⟨ob6.1, ob6.2, by decide, by decide⟩) ?_
        show PW S mX3_as Q 64 [some (Aq 0), some (Iq x1), some (Iq x2), some (Iq (mem 5 (x1).toNat))] [Iq (mem (1 + 2) (6 * (mem 5 (x1).toNat).toNat))] mem
        refine pw_iload_n eX3_as_64 rfl rfl ?_
        obtain ⟨ob7, h⟩ := h
        refine pw_cS (z := mX3_isUnder) (av := [Iq (mem (1 + 2) (6 * (mem 5 (x1).toNat).toNat)), Iq x2]) (st := []) eX3_as_65 lk_RX3_191 rfl (by decide) (by decide) (Nat.le_of_ble_eq_true rfl) rfl (ct_X3_isUnder (mem := mem) ob7) ?_
        show PW S mX3_as Q 68 [some (Aq 0), some (Iq x1), some (Iq x2), some (Iq (mem 5 (x1).toNat))] [Iq (undI (mem (1 + 2) (6 * (mem 5 (x1).toNat).toNat)) x2)] mem
        refine pw_if_ne eX3_as_68 (fun c8 => ?_) (fun c8 => ?_)
        · have h := h.2 c8
          refine pw_iload_n eX3_as_78 rfl rfl ?_
          exact pw_iret eX3_as_79 h
        · have h := h.1 (Classical.not_not.mp c8)
          refine pw_aload_n eX3_as_71 rfl rfl ?_
          refine pw_ldc (n := (-1000003)) eX3_as_72 ⟨by decide, by decide⟩ kc_RX3_195 ?_
          obtain ⟨ob9, h⟩ := h
          refine pw_cV (z := mX3_finding) (av := [Iq (-1000003)]) (st := []) eX3_as_74 lk_RX3_49 rfl (by decide) (by decide) sh0 rfl rfl (Nat.le_of_ble_eq_true rfl) rfl (ct_X3_finding (mem := mem) ob9) ?_
          show PW S mX3_as Q 77 [some (Aq 0), some (Iq x1), some (Iq x2), some (Iq (mem 5 (x1).toNat))] [Iq (-1000003)] (fndx mem (-1000003))
          exact pw_iret eX3_as_77 h
      · have h := h.2 (bI0.mp (Classical.not_not.mp c5))
        refine pw_aload_n eX3_as_48 rfl rfl ?_
        refine pw_ldc (n := (-1000006)) eX3_as_49 ⟨by decide, by decide⟩ kc_RX3_190 ?_
        obtain ⟨ob10, h⟩ := h
        refine pw_cV (z := mX3_finding) (av := [Iq (-1000006)]) (st := []) eX3_as_51 lk_RX3_49 rfl (by decide) (by decide) sh0 rfl rfl (Nat.le_of_ble_eq_true rfl) rfl (ct_X3_finding (mem := mem) ob10) ?_
        show PW S mX3_as Q 54 [some (Aq 0), some (Iq x1), some (Iq x2), some (Iq (mem 5 (x1).toNat))] [Iq (-1000006)] (fndx mem (-1000006))
        exact pw_iret eX3_as_54 h
    · have h := h.2 (bI0.mp (Classical.not_not.mp c3))
      refine pw_aload_n eX3_as_20 rfl rfl ?_
      refine pw_ldc (n := (-1000001)) eX3_as_21 ⟨by decide, by decide⟩ kc_RX3_48 ?_
      obtain ⟨ob11, h⟩ := h
      refine pw_cV (z := mX3_finding) (av := [Iq (-1000001)]) (st := []) eX3_as_23 lk_RX3_49 rfl (by decide) (by decide) sh0 rfl rfl (Nat.le_of_ble_eq_true rfl) rfl (ct_X3_finding (mem := mem) ob11) ?_
      show PW S mX3_as Q 26 [some (Aq 0), some (Iq x1), some (Iq x2), none] [Iq (-1000001)] (fndx mem (-1000001))
      exact pw_iret eX3_as_26 h
set_option maxRecDepth 100000 in
theorem rg_X3_sheet_0 {S : Sx} {Q : Option PV → Zm → Prop} {mem : Zm}   {x1 x2 x3 : Int} 
    (h : (((x2 = 0) → ((((0 ≤ x1 ∧ x1 ≤ 3) → ((((0 ≤ x3) → ((((x3 ≤ 40) → ((0 ≤ x1 ∧ x1 < 4) ∧ (((x2 = 0) → ((∃ (m14 : Zm), Ct1 S mX1_renew [Aq (25 + 2 * (x1).toNat), Iq x2, Iq 0] mem none m14 ∧ ((0 ≤ x1 ∧ x1 < 4) ∧ Q (some (Iq (m14 (25 + 2 * (x1).toNat) 2))) m14)))) ∧ (¬ (x2 = 0) → ((∃ (m10 : Zm), Ct1 S mX1_renew [Aq (25 + 2 * (x1).toNat), Iq x2, Iq x3] mem none m10 ∧ ((0 ≤ x1 ∧ x1 < 4) ∧ Q (some (Iq (m10 (25 + 2 * (x1).toNat) 2))) m10))))))) ∧ (¬ (x3 ≤ 40) → ((fOX mem (-1000001)) ∧ Q (some (Iq (-1000001))) (fndx mem (-1000001))))))) ∧ (¬ (0 ≤ x3) → ((fOX mem (-1000007)) ∧ Q (some (Iq (-1000007))) (fndx mem (-1000007))))))) ∧ (¬ (0 ≤ x1 ∧ x1 ≤ 3) → ((fOX mem (-1000001)) ∧ Q (some (Iq (-1000001))) (fndx mem (-1000001))))))) ∧ (¬ (x2 = 0) → ((((x2 = 8) → ((((0 ≤ x1 ∧ x1 ≤ 3) → ((((0 ≤ x3) → ((((x3 ≤ 40) → ((0 ≤ x1 ∧ x1 < 4) ∧ (((x2 = 0) → ((∃ (m32 : Zm), Ct1 S mX1_renew [Aq (25 + 2 * (x1).toNat), Iq x2, Iq 0] mem none m32 ∧ ((0 ≤ x1 ∧ x1 < 4) ∧ Q (some (Iq (m32 (25 + 2 * (x1).toNat) 2))) m32)))) ∧ (¬ (x2 = 0) → ((∃ (m28 : Zm), Ct1 S mX1_renew [Aq (25 + 2 * (x1).toNat), Iq x2, Iq x3] mem none m28 ∧ ((0 ≤ x1 ∧ x1 < 4) ∧ Q (some (Iq (m28 (25 + 2 * (x1).toNat) 2))) m28))))))) ∧ (¬ (x3 ≤ 40) → ((fOX mem (-1000001)) ∧ Q (some (Iq (-1000001))) (fndx mem (-1000001))))))) ∧ (¬ (0 ≤ x3) → ((fOX mem (-1000007)) ∧ Q (some (Iq (-1000007))) (fndx mem (-1000007))))))) ∧ (¬ (0 ≤ x1 ∧ x1 ≤ 3) → ((fOX mem (-1000001)) ∧ Q (some (Iq (-1000001))) (fndx mem (-1000001))))))) ∧ (¬ (x2 = 8) → ((((x2 = 16) → ((((0 ≤ x1 ∧ x1 ≤ 3) → ((((0 ≤ x3) → ((((x3 ≤ 40) → ((0 ≤ x1 ∧ x1 < 4) ∧ (((x2 = 0) → ((∃ (m50 : Zm), Ct1 S mX1_renew [Aq (25 + 2 * (x1).toNat), Iq x2, Iq 0] mem none m50 ∧ ((0 ≤ x1 ∧ x1 < 4) ∧ Q (some (Iq (m50 (25 + 2 * (x1).toNat) 2))) m50)))) ∧ (¬ (x2 = 0) → ((∃ (m46 : Zm), Ct1 S mX1_renew [Aq (25 + 2 * (x1).toNat), Iq x2, Iq x3] mem none m46 ∧ ((0 ≤ x1 ∧ x1 < 4) ∧ Q (some (Iq (m46 (25 + 2 * (x1).toNat) 2))) m46))))))) ∧ (¬ (x3 ≤ 40) → ((fOX mem (-1000001)) ∧ Q (some (Iq (-1000001))) (fndx mem (-1000001))))))) ∧ (¬ (0 ≤ x3) → ((fOX mem (-1000007)) ∧ Q (some (Iq (-1000007))) (fndx mem (-1000007))))))) ∧ (¬ (0 ≤ x1 ∧ x1 ≤ 3) → ((fOX mem (-1000001)) ∧ Q (some (Iq (-1000001))) (fndx mem (-1000001))))))) ∧ (¬ (x2 = 16) → ((((x2 = 32) → ((((0 ≤ x1 ∧ x1 ≤ 3) → ((((0 ≤ x3) → ((((x3 ≤ 40) → ((0 ≤ x1 ∧ x1 < 4) ∧ (((x2 = 0) → ((∃ (m72 : Zm), Ct1 S mX1_renew [Aq (25 + 2 * (x1).toNat), Iq x2, Iq 0] mem none m72 ∧ ((0 ≤ x1 ∧ x1 < 4) ∧ Q (some (Iq (m72 (25 + 2 * (x1).toNat) 2))) m72)))) ∧ (¬ (x2 = 0) → ((∃ (m68 : Zm), Ct1 S mX1_renew [Aq (25 + 2 * (x1).toNat), Iq x2, Iq x3] mem none m68 ∧ ((0 ≤ x1 ∧ x1 < 4) ∧ Q (some (Iq (m68 (25 + 2 * (x1).toNat) 2))) m68))))))) ∧ (¬ (x3 ≤ 40) → ((fOX mem (-1000001)) ∧ Q (some (Iq (-1000001))) (fndx mem (-1000001))))))) ∧ (¬ (0 ≤ x3) → ((fOX mem (-1000007)) ∧ Q (some (Iq (-1000007))) (fndx mem (-1000007))))))) ∧ (¬ (0 ≤ x1 ∧ x1 ≤ 3) → ((fOX mem (-1000001)) ∧ Q (some (Iq (-1000001))) (fndx mem (-1000001))))))) ∧ (¬ (x2 = 32) → ((((0 ≤ x1 ∧ x1 ≤ 3) → ((fOX mem (-1000001)) ∧ Q (some (Iq (-1000001))) (fndx mem (-1000001)))) ∧ (¬ (0 ≤ x1 ∧ x1 ≤ 3) → ((fOX mem (-1000001)) ∧ Q (some (Iq (-1000001))) (fndx mem (-1000001)))))))))))))))))) :
    PW S mX3_sheet Q 0 [some (Aq 0), some (Iq x1), some (Iq x2), some (Iq x3), none] [] mem := by
  refine pw_iload_n eX3_sheet_0 rfl rfl ?_
  refine pw_if_eq eX3_sheet_1 (fun c1 => ?_) (fun c1 => ?_)
  · have h := h.1 c1
    refine pw_iconst eX3_sheet_22 ⟨by decide, by decide⟩ ?_
    refine pw_goto eX3_sheet_23 ?_
    refine pw_istore (ls2 := [some (Aq 0), some (Iq x1), some (Iq x2), some (Iq x3), some (Iq 1)]) eX3_sheet_27 (by decide) rfl ?_
    refine pw_iload_n eX3_sheet_29 rfl rfl ?_
    refine pw_iconst eX3_sheet_30 ⟨by decide, by decide⟩ ?_
    refine pw_iconst eX3_sheet_31 ⟨by decide, by decide⟩ ?_
    refine pw_cS (z := mX3_within) (av := [Iq x1, Iq 0, Iq 3]) (st := []) eX3_sheet_32 lk_RX3_44 rfl (by decide) (by decide) (Nat.le_of_ble_eq_true rfl) rfl (ct_X3_within (mem := mem)) ?_
    show PW S mX3_sheet Q 35 [some (Aq 0), some (Iq x1), some (Iq x2), some (Iq x3), some (Iq 1)] [Iq (bI (0 ≤ x1 ∧ x1 ≤ 3))] mem
    refine pw_if_eq eX3_sheet_35 (fun c2 => ?_) (fun c2 => ?_)
    · have h := h.2 (bI0.mp c2)
      refine pw_aload_n eX3_sheet_43 rfl rfl ?_
      refine pw_ldc (n := (-1000001)) eX3_sheet_44 ⟨by decide, by decide⟩ kc_RX3_48 ?_
      obtain ⟨ob3, h⟩ := h
      refine pw_cV (z := mX3_finding) (av := [Iq (-1000001)]) (st := []) eX3_sheet_46 lk_RX3_49 rfl (by decide) (by decide) sh0 rfl rfl (Nat.le_of_ble_eq_true rfl) rfl (ct_X3_finding (mem := mem) ob3) ?_
      show PW S mX3_sheet Q 49 [some (Aq 0), some (Iq x1), some (Iq x2), some (Iq x3), some (Iq 1)] [Iq (-1000001)] (fndx mem (-1000001))
      exact pw_iret eX3_sheet_49 h
    · have h := h.1 (bI1.mp c2)
      refine pw_iload eX3_sheet_38 rfl ?_
      refine pw_if_ne eX3_sheet_40 (fun c4 => ?_) (fun c4 => ?_)
      · skip
        refine pw_iload_n eX3_sheet_50 rfl rfl ?_
        refine pw_if_ge eX3_sheet_51 (fun c5 => ?_) (fun c5 => ?_)
        · have h := h.1 c5
          refine pw_iload_n eX3_sheet_61 rfl rfl ?_
          refine pw_bipush eX3_sheet_62 ⟨by decide, by decide⟩ (by decide) ?_
          refine pw_icmp_le eX3_sheet_64 (fun c6 => ?_) (fun c6 => ?_)
          · have h := h.1 c6
            refine pw_aload_n eX3_sheet_74 rfl rfl ?_
            refine gf_RX3_35 rfl eX3_sheet_75 sh0 ?_
            refine pw_iload_n eX3_sheet_78 rfl rfl ?_
            obtain ⟨ob7, h⟩ := h
            refine pw_aald eX3_sheet_79 sh24 ob7 ?_
            refine pw_iload_n eX3_sheet_80 rfl rfl ?_
            refine pw_iload_n eX3_sheet_81 rfl rfl ?_
            refine pw_if_ne eX3_sheet_82 (fun c8 => ?_) (fun c8 => ?_)
            · have h := h.2 c8
              refine pw_iload_n eX3_sheet_89 rfl rfl ?_
              obtain ⟨m10, hc11, h⟩ := h
              refine pw_cV (z := mX1_renew) (av := [Iq x2, Iq x3]) (st := []) eX3_sheet_90 lk_RX3_197 rfl (by decide) (by decide) (shS (isSh ob7)) rfl rfl (Nat.le_of_ble_eq_true rfl) rfl hc11 ?_
              show PW S mX3_sheet Q 93 [some (Aq 0), some (Iq x1), some (Iq x2), some (Iq x3), some (Iq 1)] [] m10
              refine pw_aload_n eX3_sheet_93 rfl rfl ?_
              refine gf_RX3_35 rfl eX3_sheet_94 sh0 ?_
              refine pw_iload_n eX3_sheet_97 rfl rfl ?_
              obtain ⟨ob12, h⟩ := h
              refine pw_aald eX3_sheet_98 sh24 ob12 ?_
              refine gf_RX3_201 rfl eX3_sheet_99 (shS (isSh ob12)) ?_
              exact pw_iret eX3_sheet_102 h
            · have h := h.1 (Classical.not_not.mp c8)
              refine pw_iconst eX3_sheet_85 ⟨by decide, by decide⟩ ?_
              refine pw_goto eX3_sheet_86 ?_
              obtain ⟨m14, hc15, h⟩ := h
              refine pw_cV (z := mX1_renew) (av := [Iq x2, Iq 0]) (st := []) eX3_sheet_90 lk_RX3_197 rfl (by decide) (by decide) (shS (isSh ob7)) rfl rfl (Nat.le_of_ble_eq_true rfl) rfl hc15 ?_
              show PW S mX3_sheet Q 93 [some (Aq 0), some (Iq x1), some (Iq x2), some (Iq x3), some (Iq 1)] [] m14
              refine pw_aload_n eX3_sheet_93 rfl rfl ?_
              refine gf_RX3_35 rfl eX3_sheet_94 sh0 ?_
              refine pw_iload_n eX3_sheet_97 rfl rfl ?_
              obtain ⟨ob16, h⟩ := h
              refine pw_aald eX3_sheet_98 sh24 ob16 ?_
              refine gf_RX3_201 rfl eX3_sheet_99 (shS (isSh ob16)) ?_
              exact pw_iret eX3_sheet_102 h
          · have h := h.2 c6
            refine pw_aload_n eX3_sheet_67 rfl rfl ?_
            refine pw_ldc (n := (-1000001)) eX3_sheet_68 ⟨by decide, by decide⟩ kc_RX3_48 ?_
            obtain ⟨ob17, h⟩ := h
            refine pw_cV (z := mX3_finding) (av := [Iq (-1000001)]) (st := []) eX3_sheet_70 lk_RX3_49 rfl (by decide) (by decide) sh0 rfl rfl (Nat.le_of_ble_eq_true rfl) rfl (ct_X3_finding (mem := mem) ob17) ?_
            show PW S mX3_sheet Q 73 [some (Aq 0), some (Iq x1), some (Iq x2), some (Iq x3), some (Iq 1)] [Iq (-1000001)] (fndx mem (-1000001))
            exact pw_iret eX3_sheet_73 h
        · have h := h.2 c5
          refine pw_aload_n eX3_sheet_54 rfl rfl ?_
          refine pw_ldc (n := (-1000007)) eX3_sheet_55 ⟨by decide, by decide⟩ kc_RX3_196 ?_
          obtain ⟨ob18, h⟩ := h
          refine pw_cV (z := mX3_finding) (av := [Iq (-1000007)]) (st := []) eX3_sheet_57 lk_RX3_49 rfl (by decide) (by decide) sh0 rfl rfl (Nat.le_of_ble_eq_true rfl) rfl (ct_X3_finding (mem := mem) ob18) ?_
          show PW S mX3_sheet Q 60 [some (Aq 0), some (Iq x1), some (Iq x2), some (Iq x3), some (Iq 1)] [Iq (-1000007)] (fndx mem (-1000007))
          exact pw_iret eX3_sheet_60 h
      · exact absurd (by decide) c4
  · have h := h.2 c1
    refine pw_iload_n eX3_sheet_4 rfl rfl ?_
    refine pw_bipush eX3_sheet_5 ⟨by decide, by decide⟩ (by decide) ?_
    refine pw_icmp_eq eX3_sheet_7 (fun c19 => ?_) (fun c19 => ?_)
    · have h := h.1 c19
      refine pw_iconst eX3_sheet_22 ⟨by decide, by decide⟩ ?_
      refine pw_goto eX3_sheet_23 ?_
      refine pw_istore (ls2 := [some (Aq 0), some (Iq x1), some (Iq x2), some (Iq x3), some (Iq 1)]) eX3_sheet_27 (by decide) rfl ?_
      refine pw_iload_n eX3_sheet_29 rfl rfl ?_
      refine pw_iconst eX3_sheet_30 ⟨by decide, by decide⟩ ?_
      refine pw_iconst eX3_sheet_31 ⟨by decide, by decide⟩ ?_
      refine pw_cS (z := mX3_within) (av := [Iq x1, Iq 0, Iq 3]) (st := []) eX3_sheet_32 lk_RX3_44 rfl (by decide) (by decide) (Nat.le_of_ble_eq_true rfl) rfl (ct_X3_within (mem := mem)) ?_
      show PW S mX3_sheet Q 35 [some (Aq 0), some (Iq x1), some (Iq x2), some (Iq x3), some (Iq 1)] [Iq (bI (0 ≤ x1 ∧ x1 ≤ 3))] mem
      refine pw_if_eq eX3_sheet_35 (fun c20 => ?_) (fun c20 => ?_)
      · have h := h.2 (bI0.mp c20)
        refine pw_aload_n eX3_sheet_43 rfl rfl ?_
        refine pw_ldc (n := (-1000001)) eX3_sheet_44 ⟨by decide, by decide⟩ kc_RX3_48 ?_
        obtain ⟨ob21, h⟩ := h
        refine pw_cV (z := mX3_finding) (av := [Iq (-1000001)]) (st := []) eX3_sheet_46 lk_RX3_49 rfl (by decide) (by decide) sh0 rfl rfl (Nat.le_of_ble_eq_true rfl) rfl (ct_X3_finding (mem := mem) ob21) ?_
        show PW S mX3_sheet Q 49 [some (Aq 0), some (Iq x1), some (Iq x2), some (Iq x3), some (Iq 1)] [Iq (-1000001)] (fndx mem (-1000001))
        exact pw_iret eX3_sheet_49 h
      · have h := h.1 (bI1.mp c20)
        refine pw_iload eX3_sheet_38 rfl ?_
        refine pw_if_ne eX3_sheet_40 (fun c22 => ?_) (fun c22 => ?_)
        · skip
          refine pw_iload_n eX3_sheet_50 rfl rfl ?_
          refine pw_if_ge eX3_sheet_51 (fun c23 => ?_) (fun c23 => ?_)
          · have h := h.1 c23
            refine pw_iload_n eX3_sheet_61 rfl rfl ?_
            refine pw_bipush eX3_sheet_62 ⟨by decide, by decide⟩ (by decide) ?_
            refine pw_icmp_le eX3_sheet_64 (fun c24 => ?_) (fun c24 => ?_)
            · have h := h.1 c24
              refine pw_aload_n eX3_sheet_74 rfl rfl ?_
              refine gf_RX3_35 rfl eX3_sheet_75 sh0 ?_
              refine pw_iload_n eX3_sheet_78 rfl rfl ?_
              obtain ⟨ob25, h⟩ := h
              refine pw_aald eX3_sheet_79 sh24 ob25 ?_
              refine pw_iload_n eX3_sheet_80 rfl rfl ?_
              refine pw_iload_n eX3_sheet_81 rfl rfl ?_
              refine pw_if_ne eX3_sheet_82 (fun c26 => ?_) (fun c26 => ?_)
              · have h := h.2 c26
                refine pw_iload_n eX3_sheet_89 rfl rfl ?_
                obtain ⟨m28, hc29, h⟩ := h
                refine pw_cV (z := mX1_renew) (av := [Iq x2, Iq x3]) (st := []) eX3_sheet_90 lk_RX3_197 rfl (by decide) (by decide) (shS (isSh ob25)) rfl rfl (Nat.le_of_ble_eq_true rfl) rfl hc29 ?_
                show PW S mX3_sheet Q 93 [some (Aq 0), some (Iq x1), some (Iq x2), some (Iq x3), some (Iq 1)] [] m28
                refine pw_aload_n eX3_sheet_93 rfl rfl ?_
                refine gf_RX3_35 rfl eX3_sheet_94 sh0 ?_
                refine pw_iload_n eX3_sheet_97 rfl rfl ?_
                obtain ⟨ob30, h⟩ := h
                refine pw_aald eX3_sheet_98 sh24 ob30 ?_
                refine gf_RX3_201 rfl eX3_sheet_99 (shS (isSh ob30)) ?_
                exact pw_iret eX3_sheet_102 h
              · have h := h.1 (Classical.not_not.mp c26)
                refine pw_iconst eX3_sheet_85 ⟨by decide, by decide⟩ ?_
                refine pw_goto eX3_sheet_86 ?_
                obtain ⟨m32, hc33, h⟩ := h
                refine pw_cV (z := mX1_renew) (av := [Iq x2, Iq 0]) (st := []) eX3_sheet_90 lk_RX3_197 rfl (by decide) (by decide) (shS (isSh ob25)) rfl rfl (Nat.le_of_ble_eq_true rfl) rfl hc33 ?_
                show PW S mX3_sheet Q 93 [some (Aq 0), some (Iq x1), some (Iq x2), some (Iq x3), some (Iq 1)] [] m32
                refine pw_aload_n eX3_sheet_93 rfl rfl ?_
                refine gf_RX3_35 rfl eX3_sheet_94 sh0 ?_
                refine pw_iload_n eX3_sheet_97 rfl rfl ?_
                obtain ⟨ob34, h⟩ := h
                refine pw_aald eX3_sheet_98 sh24 ob34 ?_
                refine gf_RX3_201 rfl eX3_sheet_99 (shS (isSh ob34)) ?_
                exact pw_iret eX3_sheet_102 h
            · have h := h.2 c24
              refine pw_aload_n eX3_sheet_67 rfl rfl ?_
              refine pw_ldc (n := (-1000001)) eX3_sheet_68 ⟨by decide, by decide⟩ kc_RX3_48 ?_
              obtain ⟨ob35, h⟩ := h
              refine pw_cV (z := mX3_finding) (av := [Iq (-1000001)]) (st := []) eX3_sheet_70 lk_RX3_49 rfl (by decide) (by decide) sh0 rfl rfl (Nat.le_of_ble_eq_true rfl) rfl (ct_X3_finding (mem := mem) ob35) ?_
              show PW S mX3_sheet Q 73 [some (Aq 0), some (Iq x1), some (Iq x2), some (Iq x3), some (Iq 1)] [Iq (-1000001)] (fndx mem (-1000001))
              exact pw_iret eX3_sheet_73 h
          · have h := h.2 c23
            refine pw_aload_n eX3_sheet_54 rfl rfl ?_
            refine pw_ldc (n := (-1000007)) eX3_sheet_55 ⟨by decide, by decide⟩ kc_RX3_196 ?_
            obtain ⟨ob36, h⟩ := h
            refine pw_cV (z := mX3_finding) (av := [Iq (-1000007)]) (st := []) eX3_sheet_57 lk_RX3_49 rfl (by decide) (by decide) sh0 rfl rfl (Nat.le_of_ble_eq_true rfl) rfl (ct_X3_finding (mem := mem) ob36) ?_
            show PW S mX3_sheet Q 60 [some (Aq 0), some (Iq x1), some (Iq x2), some (Iq x3), some (Iq 1)] [Iq (-1000007)] (fndx mem (-1000007))
            exact pw_iret eX3_sheet_60 h
        · exact absurd (by decide) c22
    · have h := h.2 c19
      refine pw_iload_n eX3_sheet_10 rfl rfl ?_
      refine pw_bipush eX3_sheet_11 ⟨by decide, by decide⟩ (by decide) ?_
      refine pw_icmp_eq eX3_sheet_13 (fun c37 => ?_) (fun c37 => ?_)
      · have h := h.1 c37
        refine pw_iconst eX3_sheet_22 ⟨by decide, by decide⟩ ?_
        refine pw_goto eX3_sheet_23 ?_
        refine pw_istore (ls2 := [some (Aq 0), some (Iq x1), some (Iq x2), some (Iq x3), some (Iq 1)]) eX3_sheet_27 (by decide) rfl ?_
        refine pw_iload_n eX3_sheet_29 rfl rfl ?_
        refine pw_iconst eX3_sheet_30 ⟨by decide, by decide⟩ ?_
        refine pw_iconst eX3_sheet_31 ⟨by decide, by decide⟩ ?_
        refine pw_cS (z := mX3_within) (av := [Iq x1, Iq 0, Iq 3]) (st := []) eX3_sheet_32 lk_RX3_44 rfl (by decide) (by decide) (Nat.le_of_ble_eq_true rfl) rfl (ct_X3_within (mem := mem)) ?_
        show PW S mX3_sheet Q 35 [some (Aq 0), some (Iq x1), some (Iq x2), some (Iq x3), some (Iq 1)] [Iq (bI (0 ≤ x1 ∧ x1 ≤ 3))] mem
        refine pw_if_eq eX3_sheet_35 (fun c38 => ?_) (fun c38 => ?_)
        · have h := h.2 (bI0.mp c38)
          refine pw_aload_n eX3_sheet_43 rfl rfl ?_
          refine pw_ldc (n := (-1000001)) eX3_sheet_44 ⟨by decide, by decide⟩ kc_RX3_48 ?_
          obtain ⟨ob39, h⟩ := h
          refine pw_cV (z := mX3_finding) (av := [Iq (-1000001)]) (st := []) eX3_sheet_46 lk_RX3_49 rfl (by decide) (by decide) sh0 rfl rfl (Nat.le_of_ble_eq_true rfl) rfl (ct_X3_finding (mem := mem) ob39) ?_
          show PW S mX3_sheet Q 49 [some (Aq 0), some (Iq x1), some (Iq x2), some (Iq x3), some (Iq 1)] [Iq (-1000001)] (fndx mem (-1000001))
          exact pw_iret eX3_sheet_49 h
        · have h := h.1 (bI1.mp c38)
          refine pw_iload eX3_sheet_38 rfl ?_
          refine pw_if_ne eX3_sheet_40 (fun c40 => ?_) (fun c40 => ?_)
          · skip
            refine pw_iload_n eX3_sheet_50 rfl rfl ?_
            refine pw_if_ge eX3_sheet_51 (fun c41 => ?_) (fun c41 => ?_)
            · have h := h.1 c41
              refine pw_iload_n eX3_sheet_61 rfl rfl ?_
              refine pw_bipush eX3_sheet_62 ⟨by decide, by decide⟩ (by decide) ?_
              refine pw_icmp_le eX3_sheet_64 (fun c42 => ?_) (fun c42 => ?_)
              · have h := h.1 c42
                refine pw_aload_n eX3_sheet_74 rfl rfl ?_
                refine gf_RX3_35 rfl eX3_sheet_75 sh0 ?_
                refine pw_iload_n eX3_sheet_78 rfl rfl ?_
                obtain ⟨ob43, h⟩ := h
                refine pw_aald eX3_sheet_79 sh24 ob43 ?_
                refine pw_iload_n eX3_sheet_80 rfl rfl ?_
                refine pw_iload_n eX3_sheet_81 rfl rfl ?_
                refine pw_if_ne eX3_sheet_82 (fun c44 => ?_) (fun c44 => ?_)
                · have h := h.2 c44
                  refine pw_iload_n eX3_sheet_89 rfl rfl ?_
                  obtain ⟨m46, hc47, h⟩ := h
                  refine pw_cV (z := mX1_renew) (av := [Iq x2, Iq x3]) (st := []) eX3_sheet_90 lk_RX3_197 rfl (by decide) (by decide) (shS (isSh ob43)) rfl rfl (Nat.le_of_ble_eq_true rfl) rfl hc47 ?_
                  show PW S mX3_sheet Q 93 [some (Aq 0), some (Iq x1), some (Iq x2), some (Iq x3), some (Iq 1)] [] m46
                  refine pw_aload_n eX3_sheet_93 rfl rfl ?_
                  refine gf_RX3_35 rfl eX3_sheet_94 sh0 ?_
                  refine pw_iload_n eX3_sheet_97 rfl rfl ?_
                  obtain ⟨ob48, h⟩ := h
                  refine pw_aald eX3_sheet_98 sh24 ob48 ?_
                  refine gf_RX3_201 rfl eX3_sheet_99 (shS (isSh ob48)) ?_
                  exact pw_iret eX3_sheet_102 h
                · have h := h.1 (Classical.not_not.mp c44)
                  refine pw_iconst eX3_sheet_85 ⟨by decide, by decide⟩ ?_
                  refine pw_goto eX3_sheet_86 ?_
                  obtain ⟨m50, hc51, h⟩ := h
                  refine pw_cV (z := mX1_renew) (av := [Iq x2, Iq 0]) (st := []) eX3_sheet_90 lk_RX3_197 rfl (by decide) (by decide) (shS (isSh ob43)) rfl rfl (Nat.le_of_ble_eq_true rfl) rfl hc51 ?_
                  show PW S mX3_sheet Q 93 [some (Aq 0), some (Iq x1), some (Iq x2), some (Iq x3), some (Iq 1)] [] m50
                  refine pw_aload_n eX3_sheet_93 rfl rfl ?_
                  refine gf_RX3_35 rfl eX3_sheet_94 sh0 ?_
                  refine pw_iload_n eX3_sheet_97 rfl rfl ?_
                  obtain ⟨ob52, h⟩ := h
                  refine pw_aald eX3_sheet_98 sh24 ob52 ?_
                  refine gf_RX3_201 rfl eX3_sheet_99 (shS (isSh ob52)) ?_
                  exact pw_iret eX3_sheet_102 h
              · have h := h.2 c42
                refine pw_aload_n eX3_sheet_67 rfl rfl ?_
                refine pw_ldc (n := (-1000001)) eX3_sheet_68 ⟨by decide, by decide⟩ kc_RX3_48 ?_
                obtain ⟨ob53, h⟩ := h
                refine pw_cV (z := mX3_finding) (av := [Iq (-1000001)]) (st := []) eX3_sheet_70 lk_RX3_49 rfl (by decide) (by decide) sh0 rfl rfl (Nat.le_of_ble_eq_true rfl) rfl (ct_X3_finding (mem := mem) ob53) ?_
                show PW S mX3_sheet Q 73 [some (Aq 0), some (Iq x1), some (Iq x2), some (Iq x3), some (Iq 1)] [Iq (-1000001)] (fndx mem (-1000001))
                exact pw_iret eX3_sheet_73 h
            · have h := h.2 c41
              refine pw_aload_n eX3_sheet_54 rfl rfl ?_
              refine pw_ldc (n := (-1000007)) eX3_sheet_55 ⟨by decide, by decide⟩ kc_RX3_196 ?_
              obtain ⟨ob54, h⟩ := h
              refine pw_cV (z := mX3_finding) (av := [Iq (-1000007)]) (st := []) eX3_sheet_57 lk_RX3_49 rfl (by decide) (by decide) sh0 rfl rfl (Nat.le_of_ble_eq_true rfl) rfl (ct_X3_finding (mem := mem) ob54) ?_
              show PW S mX3_sheet Q 60 [some (Aq 0), some (Iq x1), some (Iq x2), some (Iq x3), some (Iq 1)] [Iq (-1000007)] (fndx mem (-1000007))
              exact pw_iret eX3_sheet_60 h
          · exact absurd (by decide) c40
      · have h := h.2 c37
        refine pw_iload_n eX3_sheet_16 rfl rfl ?_
        refine pw_bipush eX3_sheet_17 ⟨by decide, by decide⟩ (by decide) ?_
        refine pw_icmp_ne eX3_sheet_19 (fun c55 => ?_) (fun c55 => ?_)
        · have h := h.2 c55
          refine pw_iconst eX3_sheet_26 ⟨by decide, by decide⟩ ?_
          refine pw_istore (ls2 := [some (Aq 0), some (Iq x1), some (Iq x2), some (Iq x3), some (Iq 0)]) eX3_sheet_27 (by decide) rfl ?_
          refine pw_iload_n eX3_sheet_29 rfl rfl ?_
          refine pw_iconst eX3_sheet_30 ⟨by decide, by decide⟩ ?_
          refine pw_iconst eX3_sheet_31 ⟨by decide, by decide⟩ ?_
          refine pw_cS (z := mX3_within) (av := [Iq x1, Iq 0, Iq 3]) (st := []) eX3_sheet_32 lk_RX3_44 rfl (by decide) (by decide) (Nat.le_of_ble_eq_true rfl) rfl (ct_X3_within (mem := mem)) ?_
          show PW S mX3_sheet Q 35 [some (Aq 0), some (Iq x1), some (Iq x2), some (Iq x3), some (Iq 0)] [Iq (bI (0 ≤ x1 ∧ x1 ≤ 3))] mem
          refine pw_if_eq eX3_sheet_35 (fun c56 => ?_) (fun c56 => ?_)
          · have h := h.2 (bI0.mp c56)
            refine pw_aload_n eX3_sheet_43 rfl rfl ?_
            refine pw_ldc (n := (-1000001)) eX3_sheet_44 ⟨by decide, by decide⟩ kc_RX3_48 ?_
            obtain ⟨ob57, h⟩ := h
            refine pw_cV (z := mX3_finding) (av := [Iq (-1000001)]) (st := []) eX3_sheet_46 lk_RX3_49 rfl (by decide) (by decide) sh0 rfl rfl (Nat.le_of_ble_eq_true rfl) rfl (ct_X3_finding (mem := mem) ob57) ?_
            show PW S mX3_sheet Q 49 [some (Aq 0), some (Iq x1), some (Iq x2), some (Iq x3), some (Iq 0)] [Iq (-1000001)] (fndx mem (-1000001))
            exact pw_iret eX3_sheet_49 h
          · have h := h.1 (bI1.mp c56)
            refine pw_iload eX3_sheet_38 rfl ?_
            refine pw_if_ne eX3_sheet_40 (fun c58 => ?_) (fun c58 => ?_)
            · exact absurd c58 (by decide)
            · skip
              refine pw_aload_n eX3_sheet_43 rfl rfl ?_
              refine pw_ldc (n := (-1000001)) eX3_sheet_44 ⟨by decide, by decide⟩ kc_RX3_48 ?_
              obtain ⟨ob59, h⟩ := h
              refine pw_cV (z := mX3_finding) (av := [Iq (-1000001)]) (st := []) eX3_sheet_46 lk_RX3_49 rfl (by decide) (by decide) sh0 rfl rfl (Nat.le_of_ble_eq_true rfl) rfl (ct_X3_finding (mem := mem) ob59) ?_
              show PW S mX3_sheet Q 49 [some (Aq 0), some (Iq x1), some (Iq x2), some (Iq x3), some (Iq 0)] [Iq (-1000001)] (fndx mem (-1000001))
              exact pw_iret eX3_sheet_49 h
        · have h := h.1 (Classical.not_not.mp c55)
          refine pw_iconst eX3_sheet_22 ⟨by decide, by decide⟩ ?_
          refine pw_goto eX3_sheet_23 ?_
          refine pw_istore (ls2 := [some (Aq 0), some (Iq x1), some (Iq x2), some (Iq x3), some (Iq 1)]) eX3_sheet_27 (by decide) rfl ?_
          refine pw_iload_n eX3_sheet_29 rfl rfl ?_
          refine pw_iconst eX3_sheet_30 ⟨by decide, by decide⟩ ?_
          refine pw_iconst eX3_sheet_31 ⟨by decide, by decide⟩ ?_
          refine pw_cS (z := mX3_within) (av := [Iq x1, Iq 0, Iq 3]) (st := []) eX3_sheet_32 lk_RX3_44 rfl (by decide) (by decide) (Nat.le_of_ble_eq_true rfl) rfl (ct_X3_within (mem := mem)) ?_
          show PW S mX3_sheet Q 35 [some (Aq 0), some (Iq x1), some (Iq x2), some (Iq x3), some (Iq 1)] [Iq (bI (0 ≤ x1 ∧ x1 ≤ 3))] mem
          refine pw_if_eq eX3_sheet_35 (fun c60 => ?_) (fun c60 => ?_)
          · have h := h.2 (bI0.mp c60)
            refine pw_aload_n eX3_sheet_43 rfl rfl ?_
            refine pw_ldc (n := (-1000001)) eX3_sheet_44 ⟨by decide, by decide⟩ kc_RX3_48 ?_
            obtain ⟨ob61, h⟩ := h
            refine pw_cV (z := mX3_finding) (av := [Iq (-1000001)]) (st := []) eX3_sheet_46 lk_RX3_49 rfl (by decide) (by decide) sh0 rfl rfl (Nat.le_of_ble_eq_true rfl) rfl (ct_X3_finding (mem := mem) ob61) ?_
            show PW S mX3_sheet Q 49 [some (Aq 0), some (Iq x1), some (Iq x2), some (Iq x3), some (Iq 1)] [Iq (-1000001)] (fndx mem (-1000001))
            exact pw_iret eX3_sheet_49 h
          · have h := h.1 (bI1.mp c60)
            refine pw_iload eX3_sheet_38 rfl ?_
            refine pw_if_ne eX3_sheet_40 (fun c62 => ?_) (fun c62 => ?_)
            · skip
              refine pw_iload_n eX3_sheet_50 rfl rfl ?_
              refine pw_if_ge eX3_sheet_51 (fun c63 => ?_) (fun c63 => ?_)
              · have h := h.1 c63
                refine pw_iload_n eX3_sheet_61 rfl rfl ?_
                refine pw_bipush eX3_sheet_62 ⟨by decide, by decide⟩ (by decide) ?_
                refine pw_icmp_le eX3_sheet_64 (fun c64 => ?_) (fun c64 => ?_)
                · have h := h.1 c64
                  refine pw_aload_n eX3_sheet_74 rfl rfl ?_
                  refine gf_RX3_35 rfl eX3_sheet_75 sh0 ?_
                  refine pw_iload_n eX3_sheet_78 rfl rfl ?_
                  obtain ⟨ob65, h⟩ := h
                  refine pw_aald eX3_sheet_79 sh24 ob65 ?_
                  refine pw_iload_n eX3_sheet_80 rfl rfl ?_
                  refine pw_iload_n eX3_sheet_81 rfl rfl ?_
                  refine pw_if_ne eX3_sheet_82 (fun c66 => ?_) (fun c66 => ?_)
                  · have h := h.2 c66
                    refine pw_iload_n eX3_sheet_89 rfl rfl ?_
                    obtain ⟨m68, hc69, h⟩ := h
                    refine pw_cV (z := mX1_renew) (av := [Iq x2, Iq x3]) (st := []) eX3_sheet_90 lk_RX3_197 rfl (by decide) (by decide) (shS (isSh ob65)) rfl rfl (Nat.le_of_ble_eq_true rfl) rfl hc69 ?_
                    show PW S mX3_sheet Q 93 [some (Aq 0), some (Iq x1), some (Iq x2), some (Iq x3), some (Iq 1)] [] m68
                    refine pw_aload_n eX3_sheet_93 rfl rfl ?_
                    refine gf_RX3_35 rfl eX3_sheet_94 sh0 ?_
                    refine pw_iload_n eX3_sheet_97 rfl rfl ?_
                    obtain ⟨ob70, h⟩ := h
                    refine pw_aald eX3_sheet_98 sh24 ob70 ?_
                    refine gf_RX3_201 rfl eX3_sheet_99 (shS (isSh ob70)) ?_
                    exact pw_iret eX3_sheet_102 h
                  · have h := h.1 (Classical.not_not.mp c66)
                    refine pw_iconst eX3_sheet_85 ⟨by decide, by decide⟩ ?_
                    refine pw_goto eX3_sheet_86 ?_
                    obtain ⟨m72, hc73, h⟩ := h
                    refine pw_cV (z := mX1_renew) (av := [Iq x2, Iq 0]) (st := []) eX3_sheet_90 lk_RX3_197 rfl (by decide) (by decide) (shS (isSh ob65)) rfl rfl (Nat.le_of_ble_eq_true rfl) rfl hc73 ?_
                    show PW S mX3_sheet Q 93 [some (Aq 0), some (Iq x1), some (Iq x2), some (Iq x3), some (Iq 1)] [] m72
                    refine pw_aload_n eX3_sheet_93 rfl rfl ?_
                    refine gf_RX3_35 rfl eX3_sheet_94 sh0 ?_
                    refine pw_iload_n eX3_sheet_97 rfl rfl ?_
                    obtain ⟨ob74, h⟩ := h
                    refine pw_aald eX3_sheet_98 sh24 ob74 ?_
                    refine gf_RX3_201 rfl eX3_sheet_99 (shS (isSh ob74)) ?_
                    exact pw_iret eX3_sheet_102 h
                · have h := h.2 c64
                  refine pw_aload_n eX3_sheet_67 rfl rfl ?_
                  refine pw_ldc (n := (-1000001)) eX3_sheet_68 ⟨by decide, by decide⟩ kc_RX3_48 ?_
                  obtain ⟨ob75, h⟩ := h
                  refine pw_cV (z := mX3_finding) (av := [Iq (-1000001)]) (st := []) eX3_sheet_70 lk_RX3_49 rfl (by decide) (by decide) sh0 rfl rfl (Nat.le_of_ble_eq_true rfl) rfl (ct_X3_finding (mem := mem) ob75) ?_
                  show PW S mX3_sheet Q 73 [some (Aq 0), some (Iq x1), some (Iq x2), some (Iq x3), some (Iq 1)] [Iq (-1000001)] (fndx mem (-1000001))
                  exact pw_iret eX3_sheet_73 h
              · have h := h.2 c63
                refine pw_aload_n eX3_sheet_54 rfl rfl ?_
                refine pw_ldc (n := (-1000007)) eX3_sheet_55 ⟨by decide, by decide⟩ kc_RX3_196 ?_
                obtain ⟨ob76, h⟩ := h
                refine pw_cV (z := mX3_finding) (av := [Iq (-1000007)]) (st := []) eX3_sheet_57 lk_RX3_49 rfl (by decide) (by decide) sh0 rfl rfl (Nat.le_of_ble_eq_true rfl) rfl (ct_X3_finding (mem := mem) ob76) ?_
                show PW S mX3_sheet Q 60 [some (Aq 0), some (Iq x1), some (Iq x2), some (Iq x3), some (Iq 1)] [Iq (-1000007)] (fndx mem (-1000007))
                exact pw_iret eX3_sheet_60 h
            · exact absurd (by decide) c62
set_option maxRecDepth 100000 in
theorem rg_X3_write_0 {S : Sx} {Q : Option PV → Zm → Prop} {mem : Zm}   {x1 x2 x3 : Int} 
    (h : (((shcV mem x1 = 0) → ((0 ≤ x1 ∧ x1 < 4) ∧ (in32 ((mem (25 + 2 * (x1).toNat) 2) - 1)) ∧ (((0 ≤ x2 ∧ x2 ≤ (mem (25 + 2 * (x1).toNat) 2) - 1) → ((0 ≤ x1 ∧ x1 < 4) ∧ (0 ≤ x2 ∧ x2 < 40) ∧ Q (some (Iq 1)) (mup mem (25 + 2 * (x1).toNat + 1) (x2).toNat (putv (mem (25 + 2 * (x1).toNat) 1) x3)))) ∧ (¬ (0 ≤ x2 ∧ x2 ≤ (mem (25 + 2 * (x1).toNat) 2) - 1) → ((fOX mem (-1000001)) ∧ Q (some (Iq (-1000001))) (fndx mem (-1000001))))))) ∧ (¬ (shcV mem x1 = 0) → ((fOX mem (shcV mem x1)) ∧ Q (some (Iq (shcV mem x1))) (fndx mem (shcV mem x1)))))) :
    PW S mX3_write Q 0 [some (Aq 0), some (Iq x1), some (Iq x2), some (Iq x3), none] [] mem := by
  refine pw_aload_n eX3_write_0 rfl rfl ?_
  refine pw_iload_n eX3_write_1 rfl rfl ?_
  refine pw_cV (z := mX3_sheetCheck) (av := [Iq x1]) (st := []) eX3_write_2 lk_RX3_202 rfl (by decide) (by decide) sh0 rfl rfl (Nat.le_of_ble_eq_true rfl) rfl (ct_X3_sheetCheck (mem := mem)) ?_
  show PW S mX3_write Q 5 [some (Aq 0), some (Iq x1), some (Iq x2), some (Iq x3), none] [Iq (shcV mem x1)] mem
  refine pw_istore (ls2 := [some (Aq 0), some (Iq x1), some (Iq x2), some (Iq x3), some (Iq (shcV mem x1))]) eX3_write_5 (by decide) rfl ?_
  refine pw_iload eX3_write_7 rfl ?_
  refine pw_if_eq eX3_write_9 (fun c1 => ?_) (fun c1 => ?_)
  · have h := h.1 c1
    refine pw_iload_n eX3_write_19 rfl rfl ?_
    refine pw_iconst eX3_write_20 ⟨by decide, by decide⟩ ?_
    refine pw_aload_n eX3_write_21 rfl rfl ?_
    refine gf_RX3_35 rfl eX3_write_22 sh0 ?_
    refine pw_iload_n eX3_write_25 rfl rfl ?_
    obtain ⟨ob2, h⟩ := h
    refine pw_aald eX3_write_26 sh24 ob2 ?_
    refine gf_RX3_201 rfl eX3_write_27 (shS (isSh ob2)) ?_
    refine pw_iconst eX3_write_30 ⟨by decide, by decide⟩ ?_
    obtain ⟨ob3, h⟩ := h
    refine pw_isub eX3_write_31 ob3 ?_
    refine pw_cS (z := mX3_within) (av := [Iq x2, Iq 0, Iq ((mem (25 + 2 * (x1).toNat) 2) - 1)]) (st := []) eX3_write_32 lk_RX3_44 rfl (by decide) (by decide) (Nat.le_of_ble_eq_true rfl) rfl (ct_X3_within (mem := mem)) ?_
    show PW S mX3_write Q 35 [some (Aq 0), some (Iq x1), some (Iq x2), some (Iq x3), some (Iq (shcV mem x1))] [Iq (bI (0 ≤ x2 ∧ x2 ≤ (mem (25 + 2 * (x1).toNat) 2) - 1))] mem
    refine pw_if_ne eX3_write_35 (fun c4 => ?_) (fun c4 => ?_)
    · have h := h.1 (bI1.mp c4)
      refine pw_aload_n eX3_write_45 rfl rfl ?_
      refine gf_RX3_35 rfl eX3_write_46 sh0 ?_
      refine pw_iload_n eX3_write_49 rfl rfl ?_
      obtain ⟨ob5, h⟩ := h
      refine pw_aald eX3_write_50 sh24 ob5 ?_
      refine pw_iload_n eX3_write_51 rfl rfl ?_
      refine pw_iload_n eX3_write_52 rfl rfl ?_
      obtain ⟨ob6, h⟩ := h
      refine pw_cV (z := mX1_put) (av := [Iq x2, Iq x3]) (st := []) eX3_write_53 lk_RX3_205 rfl (by decide) (by decide) (shS (isSh ob5)) rfl rfl (Nat.le_of_ble_eq_true rfl) rfl (ct_X1_put (mem := mem) (isSh ob5) ob6) ?_
      show PW S mX3_write Q 56 [some (Aq 0), some (Iq x1), some (Iq x2), some (Iq x3), some (Iq (shcV mem x1))] [] (mup mem (25 + 2 * (x1).toNat + 1) (x2).toNat (putv (mem (25 + 2 * (x1).toNat) 1) x3))
      refine pw_iconst eX3_write_56 ⟨by decide, by decide⟩ ?_
      exact pw_iret eX3_write_57 h
    · have h := h.2 (bI0.mp (Classical.not_not.mp c4))
      refine pw_aload_n eX3_write_38 rfl rfl ?_
      refine pw_ldc (n := (-1000001)) eX3_write_39 ⟨by decide, by decide⟩ kc_RX3_48 ?_
      obtain ⟨ob7, h⟩ := h
      refine pw_cV (z := mX3_finding) (av := [Iq (-1000001)]) (st := []) eX3_write_41 lk_RX3_49 rfl (by decide) (by decide) sh0 rfl rfl (Nat.le_of_ble_eq_true rfl) rfl (ct_X3_finding (mem := mem) ob7) ?_
      show PW S mX3_write Q 44 [some (Aq 0), some (Iq x1), some (Iq x2), some (Iq x3), some (Iq (shcV mem x1))] [Iq (-1000001)] (fndx mem (-1000001))
      exact pw_iret eX3_write_44 h
  · have h := h.2 c1
    refine pw_aload_n eX3_write_12 rfl rfl ?_
    refine pw_iload eX3_write_13 rfl ?_
    obtain ⟨ob8, h⟩ := h
    refine pw_cV (z := mX3_finding) (av := [Iq (shcV mem x1)]) (st := []) eX3_write_15 lk_RX3_49 rfl (by decide) (by decide) sh0 rfl rfl (Nat.le_of_ble_eq_true rfl) rfl (ct_X3_finding (mem := mem) ob8) ?_
    show PW S mX3_write Q 18 [some (Aq 0), some (Iq x1), some (Iq x2), some (Iq x3), some (Iq (shcV mem x1))] [Iq (shcV mem x1)] (fndx mem (shcV mem x1))
    exact pw_iret eX3_write_18 h
set_option maxRecDepth 100000 in
theorem rg_X3_copy_0 {S : Sx} {Q : Option PV → Zm → Prop} {mem : Zm}   {x1 x2 x3 x4 x5 : Int} 
    (h : (((0 ≤ x1 ∧ x1 ≤ 3) → ((((0 ≤ x3 ∧ x3 ≤ 3) → ((0 ≤ x1 ∧ x1 < 4) ∧ (0 ≤ x3 ∧ x3 < 4) ∧ (((mem (25 + 2 * (x1).toNat) 1 = 0) → ((fOX mem (-1000006)) ∧ Q (some (Iq (-1000006))) (fndx mem (-1000006)))) ∧ (¬ (mem (25 + 2 * (x1).toNat) 1 = 0) → ((((mem (25 + 2 * (x3).toNat) 1 = 0) → ((fOX mem (-1000006)) ∧ Q (some (Iq (-1000006))) (fndx mem (-1000006)))) ∧ (¬ (mem (25 + 2 * (x3).toNat) 1 = 0) → ((((mem (25 + 2 * (x1).toNat) 1 = mem (25 + 2 * (x3).toNat) 1) → ((0 ≤ mem (25 + 2 * (x1).toNat) 2 ∧ mem (25 + 2 * (x1).toNat) 2 ≤ 40) ∧ (((0 ≤ x2 ∧ 0 ≤ x5 ∧ x2 ≤ mem (25 + 2 * (x1).toNat) 2 - x5) → ((0 ≤ mem (25 + 2 * (x3).toNat) 2 ∧ mem (25 + 2 * (x3).toNat) 2 ≤ 40) ∧ (((0 ≤ x4 ∧ 0 ≤ x5 ∧ x4 ≤ mem (25 + 2 * (x3).toNat) 2 - x5) → ((0 ≤ x2 ∧ 0 ≤ x4 ∧ 0 ≤ x5 ∧ x2 + x5 ≤ 40 ∧ x4 + x5 ≤ 40) ∧ Q (some (Iq x5)) (mcp mem ((25 + 2 * (x1).toNat) + 1) ((25 + 2 * (x3).toNat) + 1) (x2).toNat (x4).toNat (x5).toNat))) ∧ (¬ (0 ≤ x4 ∧ 0 ≤ x5 ∧ x4 ≤ mem (25 + 2 * (x3).toNat) 2 - x5) → ((fOX mem (-1000001)) ∧ Q (some (Iq (-1000001))) (fndx mem (-1000001))))))) ∧ (¬ (0 ≤ x2 ∧ 0 ≤ x5 ∧ x2 ≤ mem (25 + 2 * (x1).toNat) 2 - x5) → ((fOX mem (-1000001)) ∧ Q (some (Iq (-1000001))) (fndx mem (-1000001))))))) ∧ (¬ (mem (25 + 2 * (x1).toNat) 1 = mem (25 + 2 * (x3).toNat) 1) → ((fOX mem (-1000003)) ∧ Q (some (Iq (-1000003))) (fndx mem (-1000003))))))))))))) ∧ (¬ (0 ≤ x3 ∧ x3 ≤ 3) → ((fOX mem (-1000001)) ∧ Q (some (Iq (-1000001))) (fndx mem (-1000001))))))) ∧ (¬ (0 ≤ x1 ∧ x1 ≤ 3) → ((fOX mem (-1000001)) ∧ Q (some (Iq (-1000001))) (fndx mem (-1000001)))))) :
    PW S mX3_copy Q 0 [some (Aq 0), some (Iq x1), some (Iq x2), some (Iq x3), some (Iq x4), some (Iq x5), none, none] [] mem := by
  refine pw_iload_n eX3_copy_0 rfl rfl ?_
  refine pw_iconst eX3_copy_1 ⟨by decide, by decide⟩ ?_
  refine pw_iconst eX3_copy_2 ⟨by decide, by decide⟩ ?_
  refine pw_cS (z := mX3_within) (av := [Iq x1, Iq 0, Iq 3]) (st := []) eX3_copy_3 lk_RX3_44 rfl (by decide) (by decide) (Nat.le_of_ble_eq_true rfl) rfl (ct_X3_within (mem := mem)) ?_
  show PW S mX3_copy Q 6 [some (Aq 0), some (Iq x1), some (Iq x2), some (Iq x3), some (Iq x4), some (Iq x5), none, none] [Iq (bI (0 ≤ x1 ∧ x1 ≤ 3))] mem
  refine pw_if_eq eX3_copy_6 (fun c1 => ?_) (fun c1 => ?_)
  · have h := h.2 (bI0.mp c1)
    refine pw_aload_n eX3_copy_18 rfl rfl ?_
    refine pw_ldc (n := (-1000001)) eX3_copy_19 ⟨by decide, by decide⟩ kc_RX3_48 ?_
    obtain ⟨ob2, h⟩ := h
    refine pw_cV (z := mX3_finding) (av := [Iq (-1000001)]) (st := []) eX3_copy_21 lk_RX3_49 rfl (by decide) (by decide) sh0 rfl rfl (Nat.le_of_ble_eq_true rfl) rfl (ct_X3_finding (mem := mem) ob2) ?_
    show PW S mX3_copy Q 24 [some (Aq 0), some (Iq x1), some (Iq x2), some (Iq x3), some (Iq x4), some (Iq x5), none, none] [Iq (-1000001)] (fndx mem (-1000001))
    exact pw_iret eX3_copy_24 h
  · have h := h.1 (bI1.mp c1)
    refine pw_iload_n eX3_copy_9 rfl rfl ?_
    refine pw_iconst eX3_copy_10 ⟨by decide, by decide⟩ ?_
    refine pw_iconst eX3_copy_11 ⟨by decide, by decide⟩ ?_
    refine pw_cS (z := mX3_within) (av := [Iq x3, Iq 0, Iq 3]) (st := []) eX3_copy_12 lk_RX3_44 rfl (by decide) (by decide) (Nat.le_of_ble_eq_true rfl) rfl (ct_X3_within (mem := mem)) ?_
    show PW S mX3_copy Q 15 [some (Aq 0), some (Iq x1), some (Iq x2), some (Iq x3), some (Iq x4), some (Iq x5), none, none] [Iq (bI (0 ≤ x3 ∧ x3 ≤ 3))] mem
    refine pw_if_ne eX3_copy_15 (fun c3 => ?_) (fun c3 => ?_)
    · have h := h.1 (bI1.mp c3)
      refine pw_aload_n eX3_copy_25 rfl rfl ?_
      refine gf_RX3_35 rfl eX3_copy_26 sh0 ?_
      refine pw_iload_n eX3_copy_29 rfl rfl ?_
      obtain ⟨ob4, h⟩ := h
      refine pw_aald eX3_copy_30 sh24 ob4 ?_
      refine pw_astore (ls2 := [some (Aq 0), some (Iq x1), some (Iq x2), some (Iq x3), some (Iq x4), some (Iq x5), some (Aq (25 + 2 * (x1).toNat)), none]) eX3_copy_31 (by decide) rfl ?_
      refine pw_aload_n eX3_copy_33 rfl rfl ?_
      refine gf_RX3_35 rfl eX3_copy_34 sh0 ?_
      refine pw_iload_n eX3_copy_37 rfl rfl ?_
      obtain ⟨ob5, h⟩ := h
      refine pw_aald eX3_copy_38 sh24 ob5 ?_
      refine pw_astore (ls2 := [some (Aq 0), some (Iq x1), some (Iq x2), some (Iq x3), some (Iq x4), some (Iq x5), some (Aq (25 + 2 * (x1).toNat)), some (Aq (25 + 2 * (x3).toNat))]) eX3_copy_39 (by decide) rfl ?_
      refine pw_aload eX3_copy_41 rfl ?_
      refine pw_cV (z := mX1_isMissing) (av := []) (st := []) eX3_copy_43 lk_RX3_208 rfl (by decide) (by decide) (shS (isSh ob4)) rfl rfl (Nat.le_of_ble_eq_true rfl) rfl (ct_X1_isMissing (mem := mem) (isSh ob4)) ?_
      show PW S mX3_copy Q 46 [some (Aq 0), some (Iq x1), some (Iq x2), some (Iq x3), some (Iq x4), some (Iq x5), some (Aq (25 + 2 * (x1).toNat)), some (Aq (25 + 2 * (x3).toNat))] [Iq (bI (mem (25 + 2 * (x1).toNat) 1 = 0))] mem
      refine pw_if_ne eX3_copy_46 (fun c6 => ?_) (fun c6 => ?_)
      · have h := h.1 (bI1.mp c6)
        refine pw_aload_n eX3_copy_57 rfl rfl ?_
        refine pw_ldc (n := (-1000006)) eX3_copy_58 ⟨by decide, by decide⟩ kc_RX3_190 ?_
        obtain ⟨ob7, h⟩ := h
        refine pw_cV (z := mX3_finding) (av := [Iq (-1000006)]) (st := []) eX3_copy_60 lk_RX3_49 rfl (by decide) (by decide) sh0 rfl rfl (Nat.le_of_ble_eq_true rfl) rfl (ct_X3_finding (mem := mem) ob7) ?_
        show PW S mX3_copy Q 63 [some (Aq 0), some (Iq x1), some (Iq x2), some (Iq x3), some (Iq x4), some (Iq x5), some (Aq (25 + 2 * (x1).toNat)), some (Aq (25 + 2 * (x3).toNat))] [Iq (-1000006)] (fndx mem (-1000006))
        exact pw_iret eX3_copy_63 h
      · have h := h.2 (bI0.mp (Classical.not_not.mp c6))
        refine pw_aload eX3_copy_49 rfl ?_
        refine pw_cV (z := mX1_isMissing) (av := []) (st := []) eX3_copy_51 lk_RX3_208 rfl (by decide) (by decide) (shS (isSh ob5)) rfl rfl (Nat.le_of_ble_eq_true rfl) rfl (ct_X1_isMissing (mem := mem) (isSh ob5)) ?_
        show PW S mX3_copy Q 54 [some (Aq 0), some (Iq x1), some (Iq x2), some (Iq x3), some (Iq x4), some (Iq x5), some (Aq (25 + 2 * (x1).toNat)), some (Aq (25 + 2 * (x3).toNat))] [Iq (bI (mem (25 + 2 * (x3).toNat) 1 = 0))] mem
        refine pw_if_eq eX3_copy_54 (fun c8 => ?_) (fun c8 => ?_)
        · have h := h.2 (bI0.mp c8)
          refine pw_aload eX3_copy_64 rfl ?_
          refine gf_RX3_212 rfl eX3_copy_66 (shS (isSh ob4)) ?_
          refine pw_aload eX3_copy_69 rfl ?_
          refine gf_RX3_212 rfl eX3_copy_71 (shS (isSh ob5)) ?_
          refine pw_icmp_eq eX3_copy_74 (fun c9 => ?_) (fun c9 => ?_)
          · have h := h.1 c9
            refine pw_aload eX3_copy_84 rfl ?_
            refine pw_iload_n eX3_copy_86 rfl rfl ?_
            refine pw_iload eX3_copy_87 rfl ?_
            obtain ⟨ob10, h⟩ := h
            refine pw_cV (z := mX1_hasPart) (av := [Iq x2, Iq x5]) (st := []) eX3_copy_89 lk_RX3_215 rfl (by decide) (by decide) (shS (isSh ob4)) rfl rfl (Nat.le_of_ble_eq_true rfl) rfl (ct_X1_hasPart (mem := mem) (isSh ob4) ob10) ?_
            show PW S mX3_copy Q 92 [some (Aq 0), some (Iq x1), some (Iq x2), some (Iq x3), some (Iq x4), some (Iq x5), some (Aq (25 + 2 * (x1).toNat)), some (Aq (25 + 2 * (x3).toNat))] [Iq (bI (0 ≤ x2 ∧ 0 ≤ x5 ∧ x2 ≤ mem (25 + 2 * (x1).toNat) 2 - x5))] mem
            refine pw_if_eq eX3_copy_92 (fun c11 => ?_) (fun c11 => ?_)
            · have h := h.2 (bI0.mp c11)
              refine pw_aload_n eX3_copy_107 rfl rfl ?_
              refine pw_ldc (n := (-1000001)) eX3_copy_108 ⟨by decide, by decide⟩ kc_RX3_48 ?_
              obtain ⟨ob12, h⟩ := h
              refine pw_cV (z := mX3_finding) (av := [Iq (-1000001)]) (st := []) eX3_copy_110 lk_RX3_49 rfl (by decide) (by decide) sh0 rfl rfl (Nat.le_of_ble_eq_true rfl) rfl (ct_X3_finding (mem := mem) ob12) ?_
              show PW S mX3_copy Q 113 [some (Aq 0), some (Iq x1), some (Iq x2), some (Iq x3), some (Iq x4), some (Iq x5), some (Aq (25 + 2 * (x1).toNat)), some (Aq (25 + 2 * (x3).toNat))] [Iq (-1000001)] (fndx mem (-1000001))
              exact pw_iret eX3_copy_113 h
            · have h := h.1 (bI1.mp c11)
              refine pw_aload eX3_copy_95 rfl ?_
              refine pw_iload eX3_copy_97 rfl ?_
              refine pw_iload eX3_copy_99 rfl ?_
              obtain ⟨ob13, h⟩ := h
              refine pw_cV (z := mX1_hasPart) (av := [Iq x4, Iq x5]) (st := []) eX3_copy_101 lk_RX3_215 rfl (by decide) (by decide) (shS (isSh ob5)) rfl rfl (Nat.le_of_ble_eq_true rfl) rfl (ct_X1_hasPart (mem := mem) (isSh ob5) ob13) ?_
              show PW S mX3_copy Q 104 [some (Aq 0), some (Iq x1), some (Iq x2), some (Iq x3), some (Iq x4), some (Iq x5), some (Aq (25 + 2 * (x1).toNat)), some (Aq (25 + 2 * (x3).toNat))] [Iq (bI (0 ≤ x4 ∧ 0 ≤ x5 ∧ x4 ≤ mem (25 + 2 * (x3).toNat) 2 - x5))] mem
              refine pw_if_ne eX3_copy_104 (fun c14 => ?_) (fun c14 => ?_)
              · have h := h.1 (bI1.mp c14)
                refine pw_aload eX3_copy_114 rfl ?_
                refine gf_RX3_218 rfl eX3_copy_116 (shS (isSh ob4)) ?_
                refine pw_iload_n eX3_copy_119 rfl rfl ?_
                refine pw_aload eX3_copy_120 rfl ?_
                refine gf_RX3_218 rfl eX3_copy_122 (shS (isSh ob5)) ?_
                refine pw_iload eX3_copy_125 rfl ?_
                refine pw_iload eX3_copy_127 rfl ?_
                obtain ⟨ob15, h⟩ := h
                refine pw_acopy eX3_copy_129 lc_RX3_221 lc_nat lc_stt lc_ini (by decide) (by decide) rfl (shS1 (isSh ob4)) (shS1 (isSh ob5)) ob15 ?_
                refine pw_iload eX3_copy_132 rfl ?_
                exact pw_iret eX3_copy_134 h
              · have h := h.2 (bI0.mp (Classical.not_not.mp c14))
                refine pw_aload_n eX3_copy_107 rfl rfl ?_
                refine pw_ldc (n := (-1000001)) eX3_copy_108 ⟨by decide, by decide⟩ kc_RX3_48 ?_
                obtain ⟨ob16, h⟩ := h
                refine pw_cV (z := mX3_finding) (av := [Iq (-1000001)]) (st := []) eX3_copy_110 lk_RX3_49 rfl (by decide) (by decide) sh0 rfl rfl (Nat.le_of_ble_eq_true rfl) rfl (ct_X3_finding (mem := mem) ob16) ?_
                show PW S mX3_copy Q 113 [some (Aq 0), some (Iq x1), some (Iq x2), some (Iq x3), some (Iq x4), some (Iq x5), some (Aq (25 + 2 * (x1).toNat)), some (Aq (25 + 2 * (x3).toNat))] [Iq (-1000001)] (fndx mem (-1000001))
                exact pw_iret eX3_copy_113 h
          · have h := h.2 c9
            refine pw_aload_n eX3_copy_77 rfl rfl ?_
            refine pw_ldc (n := (-1000003)) eX3_copy_78 ⟨by decide, by decide⟩ kc_RX3_195 ?_
            obtain ⟨ob17, h⟩ := h
            refine pw_cV (z := mX3_finding) (av := [Iq (-1000003)]) (st := []) eX3_copy_80 lk_RX3_49 rfl (by decide) (by decide) sh0 rfl rfl (Nat.le_of_ble_eq_true rfl) rfl (ct_X3_finding (mem := mem) ob17) ?_
            show PW S mX3_copy Q 83 [some (Aq 0), some (Iq x1), some (Iq x2), some (Iq x3), some (Iq x4), some (Iq x5), some (Aq (25 + 2 * (x1).toNat)), some (Aq (25 + 2 * (x3).toNat))] [Iq (-1000003)] (fndx mem (-1000003))
            exact pw_iret eX3_copy_83 h
        · have h := h.1 (bI1.mp c8)
          refine pw_aload_n eX3_copy_57 rfl rfl ?_
          refine pw_ldc (n := (-1000006)) eX3_copy_58 ⟨by decide, by decide⟩ kc_RX3_190 ?_
          obtain ⟨ob18, h⟩ := h
          refine pw_cV (z := mX3_finding) (av := [Iq (-1000006)]) (st := []) eX3_copy_60 lk_RX3_49 rfl (by decide) (by decide) sh0 rfl rfl (Nat.le_of_ble_eq_true rfl) rfl (ct_X3_finding (mem := mem) ob18) ?_
          show PW S mX3_copy Q 63 [some (Aq 0), some (Iq x1), some (Iq x2), some (Iq x3), some (Iq x4), some (Iq x5), some (Aq (25 + 2 * (x1).toNat)), some (Aq (25 + 2 * (x3).toNat))] [Iq (-1000006)] (fndx mem (-1000006))
          exact pw_iret eX3_copy_63 h
    · have h := h.2 (bI0.mp (Classical.not_not.mp c3))
      refine pw_aload_n eX3_copy_18 rfl rfl ?_
      refine pw_ldc (n := (-1000001)) eX3_copy_19 ⟨by decide, by decide⟩ kc_RX3_48 ?_
      obtain ⟨ob19, h⟩ := h
      refine pw_cV (z := mX3_finding) (av := [Iq (-1000001)]) (st := []) eX3_copy_21 lk_RX3_49 rfl (by decide) (by decide) sh0 rfl rfl (Nat.le_of_ble_eq_true rfl) rfl (ct_X3_finding (mem := mem) ob19) ?_
      show PW S mX3_copy Q 24 [some (Aq 0), some (Iq x1), some (Iq x2), some (Iq x3), some (Iq x4), some (Iq x5), none, none] [Iq (-1000001)] (fndx mem (-1000001))
      exact pw_iret eX3_copy_24 h
set_option maxRecDepth 100000 in
theorem rg_X3_load_0 {S : Sx} {Q : Option PV → Zm → Prop} {mem : Zm}   {x1 : Int} 
    (h : (((shcV mem x1 = 0) → (PW S mX3_load Q 18 [some (Aq 0), some (Iq x1), some (Iq (shcV mem x1)), some (Iq 0)] [] mem)) ∧ (¬ (shcV mem x1 = 0) → ((fOX mem (shcV mem x1)) ∧ Q (some (Iq (shcV mem x1))) (fndx mem (shcV mem x1)))))) :
    PW S mX3_load Q 0 [some (Aq 0), some (Iq x1), none, none] [] mem := by
  refine pw_aload_n eX3_load_0 rfl rfl ?_
  refine pw_iload_n eX3_load_1 rfl rfl ?_
  refine pw_cV (z := mX3_sheetCheck) (av := [Iq x1]) (st := []) eX3_load_2 lk_RX3_202 rfl (by decide) (by decide) sh0 rfl rfl (Nat.le_of_ble_eq_true rfl) rfl (ct_X3_sheetCheck (mem := mem)) ?_
  show PW S mX3_load Q 5 [some (Aq 0), some (Iq x1), none, none] [Iq (shcV mem x1)] mem
  refine pw_istore_n (ls2 := [some (Aq 0), some (Iq x1), some (Iq (shcV mem x1)), none]) eX3_load_5 rfl (by decide) rfl ?_
  refine pw_iload_n eX3_load_6 rfl rfl ?_
  refine pw_if_eq eX3_load_7 (fun c1 => ?_) (fun c1 => ?_)
  · have h := h.1 c1
    refine pw_iconst eX3_load_16 ⟨by decide, by decide⟩ ?_
    refine pw_istore_n (ls2 := [some (Aq 0), some (Iq x1), some (Iq (shcV mem x1)), some (Iq 0)]) eX3_load_17 rfl (by decide) rfl ?_
    exact h
  · have h := h.2 c1
    refine pw_aload_n eX3_load_10 rfl rfl ?_
    refine pw_iload_n eX3_load_11 rfl rfl ?_
    obtain ⟨ob2, h⟩ := h
    refine pw_cV (z := mX3_finding) (av := [Iq (shcV mem x1)]) (st := []) eX3_load_12 lk_RX3_49 rfl (by decide) (by decide) sh0 rfl rfl (Nat.le_of_ble_eq_true rfl) rfl (ct_X3_finding (mem := mem) ob2) ?_
    show PW S mX3_load Q 15 [some (Aq 0), some (Iq x1), some (Iq (shcV mem x1)), none] [Iq (shcV mem x1)] (fndx mem (shcV mem x1))
    exact pw_iret eX3_load_15 h

set_option maxRecDepth 100000 in
theorem rg_X3_load_18 {S : Sx} {Q : Option PV → Zm → Prop} {mem : Zm}   {x1 x2 x3 : Int} 
    (h : (((8 ≤ x3) → (Q (some (Iq x3)) mem)) ∧ (¬ (8 ≤ x3) → ((0 ≤ x1 ∧ x1 < 4) ∧ (((mem (25 + 2 * (x1).toNat) 2 ≤ x3) → (Q (some (Iq x3)) mem)) ∧ (¬ (mem (25 + 2 * (x1).toNat) 2 ≤ x3) → ((0 ≤ x1 ∧ x1 < 4) ∧ (0 ≤ x3 ∧ x3 < 40) ∧ (((0 ≤ mem ((25 + 2 * (x1).toNat) + 1) (x3).toNat ∧ mem ((25 + 2 * (x1).toNat) + 1) (x3).toNat ≤ 99) → ((0 ≤ x1 ∧ x1 < 4) ∧ (0 ≤ x3 ∧ x3 < 40) ∧ (0 ≤ x3 ∧ x3 < 8) ∧ (in32 (x3 + 1)) ∧ PW S mX3_load Q 18 [some (Aq 0), some (Iq x1), some (Iq x2), some (Iq (x3 + 1))] [] (mup mem 2 (x3).toNat (mem ((25 + 2 * (x1).toNat) + 1) (x3).toNat)))) ∧ (¬ (0 ≤ mem ((25 + 2 * (x1).toNat) + 1) (x3).toNat ∧ mem ((25 + 2 * (x1).toNat) + 1) (x3).toNat ≤ 99) → (Q (some (Iq x3)) mem)))))))))) :
    PW S mX3_load Q 18 [some (Aq 0), some (Iq x1), some (Iq x2), some (Iq x3)] [] mem := by
  refine pw_iload_n eX3_load_18 rfl rfl ?_
  refine pw_bipush eX3_load_19 ⟨by decide, by decide⟩ (by decide) ?_
  refine pw_icmp_ge eX3_load_21 (fun c1 => ?_) (fun c1 => ?_)
  · have h := h.1 c1
    refine pw_iload_n eX3_load_83 rfl rfl ?_
    exact pw_iret eX3_load_84 h
  · have h := h.2 c1
    refine pw_iload_n eX3_load_24 rfl rfl ?_
    refine pw_aload_n eX3_load_25 rfl rfl ?_
    refine gf_RX3_35 rfl eX3_load_26 sh0 ?_
    refine pw_iload_n eX3_load_29 rfl rfl ?_
    obtain ⟨ob2, h⟩ := h
    refine pw_aald eX3_load_30 sh24 ob2 ?_
    refine gf_RX3_201 rfl eX3_load_31 (shS (isSh ob2)) ?_
    refine pw_icmp_ge eX3_load_34 (fun c3 => ?_) (fun c3 => ?_)
    · have h := h.1 c3
      refine pw_iload_n eX3_load_83 rfl rfl ?_
      exact pw_iret eX3_load_84 h
    · have h := h.2 c3
      refine pw_aload_n eX3_load_37 rfl rfl ?_
      refine gf_RX3_35 rfl eX3_load_38 sh0 ?_
      refine pw_iload_n eX3_load_41 rfl rfl ?_
      obtain ⟨ob4, h⟩ := h
      refine pw_aald eX3_load_42 sh24 ob4 ?_
      refine gf_RX3_218 rfl eX3_load_43 (shS (isSh ob4)) ?_
      refine pw_iload_n eX3_load_46 rfl rfl ?_
      obtain ⟨ob5, h⟩ := h
      refine pw_iald eX3_load_47 (shS1 (isSh ob4)) ob5 ?_
      refine pw_iconst eX3_load_48 ⟨by decide, by decide⟩ ?_
      refine pw_bipush eX3_load_49 ⟨by decide, by decide⟩ (by decide) ?_
      refine pw_cS (z := mX3_within) (av := [Iq (mem ((25 + 2 * (x1).toNat) + 1) (x3).toNat), Iq 0, Iq 99]) (st := []) eX3_load_51 lk_RX3_44 rfl (by decide) (by decide) (Nat.le_of_ble_eq_true rfl) rfl (ct_X3_within (mem := mem)) ?_
      show PW S mX3_load Q 54 [some (Aq 0), some (Iq x1), some (Iq x2), some (Iq x3)] [Iq (bI (0 ≤ mem ((25 + 2 * (x1).toNat) + 1) (x3).toNat ∧ mem ((25 + 2 * (x1).toNat) + 1) (x3).toNat ≤ 99))] mem
      refine pw_if_eq eX3_load_54 (fun c6 => ?_) (fun c6 => ?_)
      · have h := h.2 (bI0.mp c6)
        refine pw_iload_n eX3_load_83 rfl rfl ?_
        exact pw_iret eX3_load_84 h
      · have h := h.1 (bI1.mp c6)
        refine pw_aload_n eX3_load_57 rfl rfl ?_
        refine gf_RX3_10 rfl eX3_load_58 sh0 ?_
        refine gf_RX3_53 rfl eX3_load_61 (shR isR1) ?_
        refine pw_iload_n eX3_load_64 rfl rfl ?_
        refine pw_aload_n eX3_load_65 rfl rfl ?_
        refine gf_RX3_35 rfl eX3_load_66 sh0 ?_
        refine pw_iload_n eX3_load_69 rfl rfl ?_
        obtain ⟨ob7, h⟩ := h
        refine pw_aald eX3_load_70 sh24 ob7 ?_
        refine gf_RX3_218 rfl eX3_load_71 (shS (isSh ob7)) ?_
        refine pw_iload_n eX3_load_74 rfl rfl ?_
        obtain ⟨ob8, h⟩ := h
        refine pw_iald eX3_load_75 (shS1 (isSh ob7)) ob8 ?_
        obtain ⟨ob9, h⟩ := h
        refine pw_iast eX3_load_76 sh2 ob9 ?_
        obtain ⟨ob10, h⟩ := h
        refine pw_iinc (ls2 := [some (Aq 0), some (Iq x1), some (Iq x2), some (Iq (x3 + 1))]) eX3_load_77 rfl ob10 rfl ?_
        refine pw_goto eX3_load_80 ?_
        exact h
set_option maxRecDepth 100000 in
theorem rg_X3_judge_0 {S : Sx} {Q : Option PV → Zm → Prop} {mem : Zm}   {x1 : Int} 
    (h : (((shcV mem x1 = 0) → (PW S mX3_judge Q 18 [some (Aq 0), some (Iq x1), some (Iq (shcV mem x1)), some (Iq 0)] [] mem)) ∧ (¬ (shcV mem x1 = 0) → ((fOX mem (shcV mem x1)) ∧ Q (some (Iq (shcV mem x1))) (fndx mem (shcV mem x1)))))) :
    PW S mX3_judge Q 0 [some (Aq 0), some (Iq x1), none, none] [] mem := by
  refine pw_aload_n eX3_judge_0 rfl rfl ?_
  refine pw_iload_n eX3_judge_1 rfl rfl ?_
  refine pw_cV (z := mX3_sheetCheck) (av := [Iq x1]) (st := []) eX3_judge_2 lk_RX3_202 rfl (by decide) (by decide) sh0 rfl rfl (Nat.le_of_ble_eq_true rfl) rfl (ct_X3_sheetCheck (mem := mem)) ?_
  show PW S mX3_judge Q 5 [some (Aq 0), some (Iq x1), none, none] [Iq (shcV mem x1)] mem
  refine pw_istore_n (ls2 := [some (Aq 0), some (Iq x1), some (Iq (shcV mem x1)), none]) eX3_judge_5 rfl (by decide) rfl ?_
  refine pw_iload_n eX3_judge_6 rfl rfl ?_
  refine pw_if_eq eX3_judge_7 (fun c1 => ?_) (fun c1 => ?_)
  · have h := h.1 c1
    refine pw_iconst eX3_judge_16 ⟨by decide, by decide⟩ ?_
    refine pw_istore_n (ls2 := [some (Aq 0), some (Iq x1), some (Iq (shcV mem x1)), some (Iq 0)]) eX3_judge_17 rfl (by decide) rfl ?_
    exact h
  · have h := h.2 c1
    refine pw_aload_n eX3_judge_10 rfl rfl ?_
    refine pw_iload_n eX3_judge_11 rfl rfl ?_
    obtain ⟨ob2, h⟩ := h
    refine pw_cV (z := mX3_finding) (av := [Iq (shcV mem x1)]) (st := []) eX3_judge_12 lk_RX3_49 rfl (by decide) (by decide) sh0 rfl rfl (Nat.le_of_ble_eq_true rfl) rfl (ct_X3_finding (mem := mem) ob2) ?_
    show PW S mX3_judge Q 15 [some (Aq 0), some (Iq x1), some (Iq (shcV mem x1)), none] [Iq (shcV mem x1)] (fndx mem (shcV mem x1))
    exact pw_iret eX3_judge_15 h

set_option maxRecDepth 100000 in
theorem rg_X3_judge_18 {S : Sx} {Q : Option PV → Zm → Prop} {mem : Zm}   {x1 x2 x3 : Int} 
    (h : (0 ≤ x1 ∧ x1 < 4) ∧ (((mem (25 + 2 * (x1).toNat) 2 ≤ x3) → (Q (some (Iq 0)) mem)) ∧ (¬ (mem (25 + 2 * (x1).toNat) 2 ≤ x3) → ((((0 ≤ x3 ∧ x3 < mem 1 7) → ((0 ≤ x3 ∧ x3 < 8) ∧ (0 ≤ x1 ∧ x1 < 4) ∧ (0 ≤ x3 ∧ x3 < 40) ∧ (((mem (1 + 2) (6 * (x3).toNat + 3) = mem ((25 + 2 * (x1).toNat) + 1) (x3).toNat) → ((in32 (x3 + 1)) ∧ PW S mX3_judge Q 18 [some (Aq 0), some (Iq x1), some (Iq x2), some (Iq (x3 + 1))] [] mem)) ∧ (¬ (mem (1 + 2) (6 * (x3).toNat + 3) = mem ((25 + 2 * (x1).toNat) + 1) (x3).toNat) → ((in32 (1 + x3)) ∧ Q (some (Iq (1 + x3))) mem))))) ∧ (¬ (0 ≤ x3 ∧ x3 < mem 1 7) → ((in32 (1 + x3)) ∧ Q (some (Iq (1 + x3))) mem))))))) :
    PW S mX3_judge Q 18 [some (Aq 0), some (Iq x1), some (Iq x2), some (Iq x3)] [] mem := by
  refine pw_iload_n eX3_judge_18 rfl rfl ?_
  refine pw_aload_n eX3_judge_19 rfl rfl ?_
  refine gf_RX3_35 rfl eX3_judge_20 sh0 ?_
  refine pw_iload_n eX3_judge_23 rfl rfl ?_
  obtain ⟨ob1, h⟩ := h
  refine pw_aald eX3_judge_24 sh24 ob1 ?_
  refine gf_RX3_201 rfl eX3_judge_25 (shS (isSh ob1)) ?_
  refine pw_icmp_ge eX3_judge_28 (fun c2 => ?_) (fun c2 => ?_)
  · have h := h.1 c2
    refine pw_iconst eX3_judge_75 ⟨by decide, by decide⟩ ?_
    exact pw_iret eX3_judge_76 h
  · have h := h.2 c2
    refine pw_aload_n eX3_judge_31 rfl rfl ?_
    refine gf_RX3_10 rfl eX3_judge_32 sh0 ?_
    refine pw_iload_n eX3_judge_35 rfl rfl ?_
    refine pw_cV (z := mX0_has) (av := [Iq x3]) (st := []) eX3_judge_36 lk_RX3_68 rfl (by decide) (by decide) (shR isR1) rfl rfl (Nat.le_of_ble_eq_true rfl) rfl (ct_X0_has (mem := mem) isR1) ?_
    show PW S mX3_judge Q 39 [some (Aq 0), some (Iq x1), some (Iq x2), some (Iq x3)] [Iq (bI (0 ≤ x3 ∧ x3 < mem 1 7))] mem
    refine pw_if_eq eX3_judge_39 (fun c3 => ?_) (fun c3 => ?_)
    · have h := h.2 (bI0.mp c3)
      refine pw_iconst eX3_judge_65 ⟨by decide, by decide⟩ ?_
      refine pw_iload_n eX3_judge_66 rfl rfl ?_
      obtain ⟨ob4, h⟩ := h
      refine pw_iadd eX3_judge_67 ob4 ?_
      exact pw_iret eX3_judge_68 h
    · have h := h.1 (bI1.mp c3)
      refine pw_aload_n eX3_judge_42 rfl rfl ?_
      refine gf_RX3_10 rfl eX3_judge_43 sh0 ?_
      refine pw_iload_n eX3_judge_46 rfl rfl ?_
      refine pw_iconst eX3_judge_47 ⟨by decide, by decide⟩ ?_
      obtain ⟨ob5, h⟩ := h
      refine pw_cV (z := mX0_fact) (av := [Iq x3, Iq 3]) (st := []) eX3_judge_48 lk_RX3_81 rfl (by decide) (by decide) (shR isR1) rfl rfl (Nat.le_of_ble_eq_true rfl) rfl (ct_X0_fact (mem := mem) isR1 ⟨ob5.1, ob5.2, by decide, by decide⟩) ?_
      show PW S mX3_judge Q 51 [some (Aq 0), some (Iq x1), some (Iq x2), some (Iq x3)] [Iq (mem (1 + 2) (6 * (x3).toNat + 3))] mem
      refine pw_aload_n eX3_judge_51 rfl rfl ?_
      refine gf_RX3_35 rfl eX3_judge_52 sh0 ?_
      refine pw_iload_n eX3_judge_55 rfl rfl ?_
      obtain ⟨ob6, h⟩ := h
      refine pw_aald eX3_judge_56 sh24 ob6 ?_
      refine gf_RX3_218 rfl eX3_judge_57 (shS (isSh ob6)) ?_
      refine pw_iload_n eX3_judge_60 rfl rfl ?_
      obtain ⟨ob7, h⟩ := h
      refine pw_iald eX3_judge_61 (shS1 (isSh ob6)) ob7 ?_
      refine pw_icmp_eq eX3_judge_62 (fun c8 => ?_) (fun c8 => ?_)
      · have h := h.1 c8
        obtain ⟨ob9, h⟩ := h
        refine pw_iinc (ls2 := [some (Aq 0), some (Iq x1), some (Iq x2), some (Iq (x3 + 1))]) eX3_judge_69 rfl ob9 rfl ?_
        refine pw_goto eX3_judge_72 ?_
        exact h
      · have h := h.2 c8
        refine pw_iconst eX3_judge_65 ⟨by decide, by decide⟩ ?_
        refine pw_iload_n eX3_judge_66 rfl rfl ?_
        obtain ⟨ob10, h⟩ := h
        refine pw_iadd eX3_judge_67 ob10 ?_
        exact pw_iret eX3_judge_68 h
set_option maxRecDepth 100000 in
theorem rg_X3_undo_0 {S : Sx} {Q : Option PV → Zm → Prop} {mem : Zm}   
    (h : (((mem 0 3 = 0) → ((fOX mem (-1000004)) ∧ Q (some (Iq (-1000004))) (fndx mem (-1000004)))) ∧ (¬ (mem 0 3 = 0) → ((∃ (m3 : Zm), Ct1 S mX0_become [Aq 1, Aq 15] mem none m3 ∧ (Q (some (Iq (m3 1 8))) m3)))))) :
    PW S mX3_undo Q 0 [some (Aq 0)] [] mem := by
  refine pw_aload_n eX3_undo_0 rfl rfl ?_
  refine gf_RX3_22 rfl eX3_undo_1 sh0 ?_
  refine pw_if_ne eX3_undo_4 (fun c1 => ?_) (fun c1 => ?_)
  · have h := h.2 c1
    refine pw_aload_n eX3_undo_14 rfl rfl ?_
    refine gf_RX3_10 rfl eX3_undo_15 sh0 ?_
    refine pw_aload_n eX3_undo_18 rfl rfl ?_
    refine gf_RX3_19 rfl eX3_undo_19 sh0 ?_
    obtain ⟨m3, hc4, h⟩ := h
    refine pw_cV (z := mX0_become) (av := [Aq 15]) (st := []) eX3_undo_22 lk_RX3_126 rfl (by decide) (by decide) (shR isR1) rfl rfl (Nat.le_of_ble_eq_true rfl) rfl hc4 ?_
    show PW S mX3_undo Q 25 [some (Aq 0)] [] m3
    refine pw_aload_n eX3_undo_25 rfl rfl ?_
    refine gf_RX3_10 rfl eX3_undo_26 sh0 ?_
    refine gf_RX3_101 rfl eX3_undo_29 (shR isR1) ?_
    exact pw_iret eX3_undo_32 h
  · have h := h.1 (Classical.not_not.mp c1)
    refine pw_aload_n eX3_undo_7 rfl rfl ?_
    refine pw_ldc (n := (-1000004)) eX3_undo_8 ⟨by decide, by decide⟩ kc_RX3_133 ?_
    obtain ⟨ob5, h⟩ := h
    refine pw_cV (z := mX3_finding) (av := [Iq (-1000004)]) (st := []) eX3_undo_10 lk_RX3_49 rfl (by decide) (by decide) sh0 rfl rfl (Nat.le_of_ble_eq_true rfl) rfl (ct_X3_finding (mem := mem) ob5) ?_
    show PW S mX3_undo Q 13 [some (Aq 0)] [Iq (-1000004)] (fndx mem (-1000004))
    exact pw_iret eX3_undo_13 h
set_option maxRecDepth 100000 in
theorem rg_X3_count_0 {S : Sx} {Q : Option PV → Zm → Prop} {mem : Zm}   {x1 : Int} 
    (h : (((x1 = 0) → (Q (some (Iq (mem 1 8))) mem)) ∧ ((x1 = 1) → (Q (some (Iq (mem 1 7))) mem)) ∧ ((x1 = 2) → ((∃ (v2 : Int) (m3 : Zm), Ct1 S mX0_total [Aq 1, Iq 3] mem (some (Iq v2)) m3 ∧ (Q (some (Iq v2)) m3)))) ∧ ((x1 = 3) → ((∃ (v5 : Int) (m6 : Zm), Ct1 S mX0_total [Aq 1, Iq 5] mem (some (Iq v5)) m6 ∧ (Q (some (Iq v5)) m6)))) ∧ ((x1 = 4) → ((∃ (v8 : Int) (m9 : Zm), Ct1 S mX0_total [Aq 1, Iq 4] mem (some (Iq v8)) m9 ∧ (Q (some (Iq v8)) m9)))) ∧ ((x1 = 5) → (Q (some (Iq (mem 22 1))) mem)) ∧ ((x1 = 6) → (Q (some (Iq (mem 1 9))) mem)) ∧ ((x1 = 7) → ((∃ (v11 : Int) (m12 : Zm), Ct1 S mX0_takenSpots [Aq 1] mem (some (Iq v11)) m12 ∧ (Q (some (Iq v11)) m12)))) ∧ ((x1 < 0 ∨ 7 < x1) → ((fOX mem (-1000001)) ∧ Q (some (Iq (-1000001))) (fndx mem (-1000001)))))) :
    PW S mX3_count Q 0 [some (Aq 0), some (Iq x1)] [] mem := by
  refine pw_iload_n eX3_count_0 rfl rfl ?_
  obtain ⟨hk0, hk1, hk2, hk3, hk4, hk5, hk6, hk7, hkd⟩ := h
  refine pw_tsw (ps := [(0, 48), (1, 56), (2, 64), (3, 73), (4, 82), (5, 91), (6, 99), (7, 107)]) (td := 115) eX3_count_1 rfl (by decide) (by decide) rfl ⟨fun c1 => ?_, fun c1 => ?_, fun c1 => ?_, fun c1 => ?_, fun c1 => ?_, fun c1 => ?_, fun c1 => ?_, fun c1 => ?_, trivial⟩ (fun c1 => ?_)
  · have h := hk0 c1
    refine pw_aload_n eX3_count_48 rfl rfl ?_
    refine gf_RX3_10 rfl eX3_count_49 sh0 ?_
    refine gf_RX3_101 rfl eX3_count_52 (shR isR1) ?_
    exact pw_iret eX3_count_55 h
  · have h := hk1 c1
    refine pw_aload_n eX3_count_56 rfl rfl ?_
    refine gf_RX3_10 rfl eX3_count_57 sh0 ?_
    refine gf_RX3_60 rfl eX3_count_60 (shR isR1) ?_
    exact pw_iret eX3_count_63 h
  · have h := hk2 c1
    refine pw_aload_n eX3_count_64 rfl rfl ?_
    refine gf_RX3_10 rfl eX3_count_65 sh0 ?_
    refine pw_iconst eX3_count_68 ⟨by decide, by decide⟩ ?_
    obtain ⟨v2, m3, hc4, h⟩ := h
    refine pw_cV (z := mX0_total) (av := [Iq 3]) (st := []) eX3_count_69 lk_RX3_110 rfl (by decide) (by decide) (shR isR1) rfl rfl (Nat.le_of_ble_eq_true rfl) rfl hc4 ?_
    show PW S mX3_count Q 72 [some (Aq 0), some (Iq x1)] [Iq v2] m3
    exact pw_iret eX3_count_72 h
  · have h := hk3 c1
    refine pw_aload_n eX3_count_73 rfl rfl ?_
    refine gf_RX3_10 rfl eX3_count_74 sh0 ?_
    refine pw_iconst eX3_count_77 ⟨by decide, by decide⟩ ?_
    obtain ⟨v5, m6, hc7, h⟩ := h
    refine pw_cV (z := mX0_total) (av := [Iq 5]) (st := []) eX3_count_78 lk_RX3_110 rfl (by decide) (by decide) (shR isR1) rfl rfl (Nat.le_of_ble_eq_true rfl) rfl hc7 ?_
    show PW S mX3_count Q 81 [some (Aq 0), some (Iq x1)] [Iq v5] m6
    exact pw_iret eX3_count_81 h
  · have h := hk4 c1
    refine pw_aload_n eX3_count_82 rfl rfl ?_
    refine gf_RX3_10 rfl eX3_count_83 sh0 ?_
    refine pw_iconst eX3_count_86 ⟨by decide, by decide⟩ ?_
    obtain ⟨v8, m9, hc10, h⟩ := h
    refine pw_cV (z := mX0_total) (av := [Iq 4]) (st := []) eX3_count_87 lk_RX3_110 rfl (by decide) (by decide) (shR isR1) rfl rfl (Nat.le_of_ble_eq_true rfl) rfl hc10 ?_
    show PW S mX3_count Q 90 [some (Aq 0), some (Iq x1)] [Iq v8] m9
    exact pw_iret eX3_count_90 h
  · have h := hk5 c1
    refine pw_aload_n eX3_count_91 rfl rfl ?_
    refine gf_RX3_29 rfl eX3_count_92 sh0 ?_
    refine gf_RX3_177 rfl eX3_count_95 sh22 ?_
    exact pw_iret eX3_count_98 h
  · have h := hk6 c1
    refine pw_aload_n eX3_count_99 rfl rfl ?_
    refine gf_RX3_10 rfl eX3_count_100 sh0 ?_
    refine gf_RX3_174 rfl eX3_count_103 (shR isR1) ?_
    exact pw_iret eX3_count_106 h
  · have h := hk7 c1
    refine pw_aload_n eX3_count_107 rfl rfl ?_
    refine gf_RX3_10 rfl eX3_count_108 sh0 ?_
    obtain ⟨v11, m12, hc13, h⟩ := h
    refine pw_cV (z := mX0_takenSpots) (av := []) (st := []) eX3_count_111 lk_RX3_227 rfl (by decide) (by decide) (shR isR1) rfl rfl (Nat.le_of_ble_eq_true rfl) rfl hc13 ?_
    show PW S mX3_count Q 114 [some (Aq 0), some (Iq x1)] [Iq v11] m12
    exact pw_iret eX3_count_114 h
  · have h := hkd c1
    refine pw_aload_n eX3_count_115 rfl rfl ?_
    refine pw_ldc (n := (-1000001)) eX3_count_116 ⟨by decide, by decide⟩ kc_RX3_48 ?_
    obtain ⟨ob14, h⟩ := h
    refine pw_cV (z := mX3_finding) (av := [Iq (-1000001)]) (st := []) eX3_count_118 lk_RX3_49 rfl (by decide) (by decide) sh0 rfl rfl (Nat.le_of_ble_eq_true rfl) rfl (ct_X3_finding (mem := mem) ob14) ?_
    show PW S mX3_count Q 121 [some (Aq 0), some (Iq x1)] [Iq (-1000001)] (fndx mem (-1000001))
    exact pw_iret eX3_count_121 h
set_option maxRecDepth 100000 in
theorem rg_X3_status_0 {S : Sx} {Q : Option PV → Zm → Prop} {mem : Zm}   {x1 : Int} 
    (h : (((-1 ≤ x1 ∧ x1 ≤ 6) → ((((x1 < 0) → (PW S mX3_status Q 32 [some (Aq 0), some (Iq x1), some (Iq 0), some (Iq 0)] [] mem)) ∧ (¬ (x1 < 0) → ((0 ≤ x1 ∧ x1 < 7) ∧ Q (some (Iq (mem 33 (x1).toNat))) mem))))) ∧ (¬ (-1 ≤ x1 ∧ x1 ≤ 6) → ((fOX mem (-1000001)) ∧ Q (some (Iq (-1000001))) (fndx mem (-1000001)))))) :
    PW S mX3_status Q 0 [some (Aq 0), some (Iq x1), none, none] [] mem := by
  refine pw_iload_n eX3_status_0 rfl rfl ?_
  refine pw_iconst eX3_status_1 ⟨by decide, by decide⟩ ?_
  refine pw_bipush eX3_status_2 ⟨by decide, by decide⟩ (by decide) ?_
  refine pw_cS (z := mX3_within) (av := [Iq x1, Iq (-1), Iq 6]) (st := []) eX3_status_4 lk_RX3_44 rfl (by decide) (by decide) (Nat.le_of_ble_eq_true rfl) rfl (ct_X3_within (mem := mem)) ?_
  show PW S mX3_status Q 7 [some (Aq 0), some (Iq x1), none, none] [Iq (bI (-1 ≤ x1 ∧ x1 ≤ 6))] mem
  refine pw_if_ne eX3_status_7 (fun c1 => ?_) (fun c1 => ?_)
  · have h := h.1 (bI1.mp c1)
    refine pw_iload_n eX3_status_17 rfl rfl ?_
    refine pw_if_lt eX3_status_18 (fun c2 => ?_) (fun c2 => ?_)
    · have h := h.1 c2
      refine pw_iconst eX3_status_28 ⟨by decide, by decide⟩ ?_
      refine pw_istore_n (ls2 := [some (Aq 0), some (Iq x1), some (Iq 0), none]) eX3_status_29 rfl (by decide) rfl ?_
      refine pw_iconst eX3_status_30 ⟨by decide, by decide⟩ ?_
      refine pw_istore_n (ls2 := [some (Aq 0), some (Iq x1), some (Iq 0), some (Iq 0)]) eX3_status_31 rfl (by decide) rfl ?_
      exact h
    · have h := h.2 c2
      refine pw_aload_n eX3_status_21 rfl rfl ?_
      refine gf_RX3_40 rfl eX3_status_22 sh0 ?_
      refine pw_iload_n eX3_status_25 rfl rfl ?_
      obtain ⟨ob3, h⟩ := h
      refine pw_iald eX3_status_26 sh33 ob3 ?_
      exact pw_iret eX3_status_27 h
  · have h := h.2 (bI0.mp (Classical.not_not.mp c1))
    refine pw_aload_n eX3_status_10 rfl rfl ?_
    refine pw_ldc (n := (-1000001)) eX3_status_11 ⟨by decide, by decide⟩ kc_RX3_48 ?_
    obtain ⟨ob4, h⟩ := h
    refine pw_cV (z := mX3_finding) (av := [Iq (-1000001)]) (st := []) eX3_status_13 lk_RX3_49 rfl (by decide) (by decide) sh0 rfl rfl (Nat.le_of_ble_eq_true rfl) rfl (ct_X3_finding (mem := mem) ob4) ?_
    show PW S mX3_status Q 16 [some (Aq 0), some (Iq x1), none, none] [Iq (-1000001)] (fndx mem (-1000001))
    exact pw_iret eX3_status_16 h

set_option maxRecDepth 100000 in
theorem rg_X3_status_32 {S : Sx} {Q : Option PV → Zm → Prop} {mem : Zm}   {x1 x2 x3 : Int} 
    (h : (((7 ≤ x3) → (Q (some (Iq x2)) mem)) ∧ (¬ (7 ≤ x3) → ((0 ≤ x3 ∧ x3 < 7) ∧ (in32 (x2 + (mem 33 (x3).toNat))) ∧ (in32 (x3 + 1)) ∧ PW S mX3_status Q 32 [some (Aq 0), some (Iq x1), some (Iq (x2 + (mem 33 (x3).toNat))), some (Iq (x3 + 1))] [] mem)))) :
    PW S mX3_status Q 32 [some (Aq 0), some (Iq x1), some (Iq x2), some (Iq x3)] [] mem := by
  refine pw_iload_n eX3_status_32 rfl rfl ?_
  refine pw_bipush eX3_status_33 ⟨by decide, by decide⟩ (by decide) ?_
  refine pw_icmp_ge eX3_status_35 (fun c1 => ?_) (fun c1 => ?_)
  · have h := h.1 c1
    refine pw_iload_n eX3_status_53 rfl rfl ?_
    exact pw_iret eX3_status_54 h
  · have h := h.2 c1
    refine pw_iload_n eX3_status_38 rfl rfl ?_
    refine pw_aload_n eX3_status_39 rfl rfl ?_
    refine gf_RX3_40 rfl eX3_status_40 sh0 ?_
    refine pw_iload_n eX3_status_43 rfl rfl ?_
    obtain ⟨ob2, h⟩ := h
    refine pw_iald eX3_status_44 sh33 ob2 ?_
    obtain ⟨ob3, h⟩ := h
    refine pw_iadd eX3_status_45 ob3 ?_
    refine pw_istore_n (ls2 := [some (Aq 0), some (Iq x1), some (Iq (x2 + (mem 33 (x3).toNat))), some (Iq x3)]) eX3_status_46 rfl (by decide) rfl ?_
    obtain ⟨ob4, h⟩ := h
    refine pw_iinc (ls2 := [some (Aq 0), some (Iq x1), some (Iq (x2 + (mem 33 (x3).toNat))), some (Iq (x3 + 1))]) eX3_status_47 rfl ob4 rfl ?_
    refine pw_goto eX3_status_50 ?_
    exact h
set_option maxRecDepth 100000 in
theorem rg_X3_sheetAndChildCheck_0 {S : Sx} {Q : Option PV → Zm → Prop} {mem : Zm}   {x1 x2 : Int} 
    (h : (((shcV mem x1 = 0) → ((((0 ≤ x2 ∧ x2 < mem 1 7) → (Q (some (Iq 0)) mem)) ∧ (¬ (0 ≤ x2 ∧ x2 < mem 1 7) → (Q (some (Iq (-1000001))) mem))))) ∧ (¬ (shcV mem x1 = 0) → (Q (some (Iq (shcV mem x1))) mem)))) :
    PW S mX3_sheetAndChildCheck Q 0 [some (Aq 0), some (Iq x1), some (Iq x2), none] [] mem := by
  refine pw_aload_n eX3_sheetAndChildCheck_0 rfl rfl ?_
  refine pw_iload_n eX3_sheetAndChildCheck_1 rfl rfl ?_
  refine pw_cV (z := mX3_sheetCheck) (av := [Iq x1]) (st := []) eX3_sheetAndChildCheck_2 lk_RX3_202 rfl (by decide) (by decide) sh0 rfl rfl (Nat.le_of_ble_eq_true rfl) rfl (ct_X3_sheetCheck (mem := mem)) ?_
  show PW S mX3_sheetAndChildCheck Q 5 [some (Aq 0), some (Iq x1), some (Iq x2), none] [Iq (shcV mem x1)] mem
  refine pw_istore_n (ls2 := [some (Aq 0), some (Iq x1), some (Iq x2), some (Iq (shcV mem x1))]) eX3_sheetAndChildCheck_5 rfl (by decide) rfl ?_
  refine pw_iload_n eX3_sheetAndChildCheck_6 rfl rfl ?_
  refine pw_if_eq eX3_sheetAndChildCheck_7 (fun c1 => ?_) (fun c1 => ?_)
  · have h := h.1 c1
    refine pw_aload_n eX3_sheetAndChildCheck_12 rfl rfl ?_
    refine gf_RX3_10 rfl eX3_sheetAndChildCheck_13 sh0 ?_
    refine pw_iload_n eX3_sheetAndChildCheck_16 rfl rfl ?_
    refine pw_cV (z := mX0_has) (av := [Iq x2]) (st := []) eX3_sheetAndChildCheck_17 lk_RX3_68 rfl (by decide) (by decide) (shR isR1) rfl rfl (Nat.le_of_ble_eq_true rfl) rfl (ct_X0_has (mem := mem) isR1) ?_
    show PW S mX3_sheetAndChildCheck Q 20 [some (Aq 0), some (Iq x1), some (Iq x2), some (Iq (shcV mem x1))] [Iq (bI (0 ≤ x2 ∧ x2 < mem 1 7))] mem
    refine pw_if_eq eX3_sheetAndChildCheck_20 (fun c2 => ?_) (fun c2 => ?_)
    · have h := h.2 (bI0.mp c2)
      refine pw_ldc (n := (-1000001)) eX3_sheetAndChildCheck_27 ⟨by decide, by decide⟩ kc_RX3_48 ?_
      exact pw_iret eX3_sheetAndChildCheck_29 h
    · have h := h.1 (bI1.mp c2)
      refine pw_iconst eX3_sheetAndChildCheck_23 ⟨by decide, by decide⟩ ?_
      refine pw_goto eX3_sheetAndChildCheck_24 ?_
      exact pw_iret eX3_sheetAndChildCheck_29 h
  · have h := h.2 c1
    refine pw_iload_n eX3_sheetAndChildCheck_10 rfl rfl ?_
    exact pw_iret eX3_sheetAndChildCheck_11 h
set_option maxRecDepth 100000 in
theorem rg_X4_child_0 {S : Sx} {Q : Option PV → Zm → Prop} {mem : Zm}   {x1 x2 : Int} 
    (h : (((0 ≤ x1 ∧ x1 ≤ 6) → ((((0 ≤ x2 ∧ x2 ≤ 255) → ((((mem 35 0 = 8) → ((fOK mem (-1000002)) ∧ Q (some (Iq (-1000002))) (fnds mem (-1000002)))) ∧ (¬ (mem 35 0 = 8) → ((OKA (mem 35) ∧ mem 35 0 < 8) ∧ (in32 (((setR mem 35 (addA (mem 35) x1 x2)) 35 0) - 1)) ∧ Q (some (Iq (((setR mem 35 (addA (mem 35) x1 x2)) 35 0) - 1))) (setR mem 35 (addA (mem 35) x1 x2))))))) ∧ (¬ (0 ≤ x2 ∧ x2 ≤ 255) → ((fOK mem (-1000001)) ∧ Q (some (Iq (-1000001))) (fnds mem (-1000001))))))) ∧ (¬ (0 ≤ x1 ∧ x1 ≤ 6) → ((fOK mem (-1000001)) ∧ Q (some (Iq (-1000001))) (fnds mem (-1000001)))))) :
    PW S mX4_child Q 0 [some (Aq 34), some (Iq x1), some (Iq x2)] [] mem := by
  refine pw_iload_n eX4_child_0 rfl rfl ?_
  refine pw_i2l eX4_child_1 ?_
  refine pw_lconst (v := 0) eX4_child_2 ⟨by decide, by decide⟩ rfl ?_
  refine pw_ldc2 (n := 6) eX4_child_3 ⟨by decide, by decide⟩ kc_RX4_62 ?_
  refine pw_cS (z := mX4_isIn) (av := [Jq x1, Jq 0, Jq 6]) (st := []) eX4_child_6 lk_RX4_49 rfl (by decide) (by decide) (Nat.le_of_ble_eq_true rfl) rfl (ct_X4_isIn (mem := mem)) ?_
  show PW S mX4_child Q 9 [some (Aq 34), some (Iq x1), some (Iq x2)] [Iq (bI (0 ≤ x1 ∧ x1 ≤ 6))] mem
  refine pw_if_eq eX4_child_9 (fun c1 => ?_) (fun c1 => ?_)
  · have h := h.2 (bI0.mp c1)
    refine pw_aload_n eX4_child_24 rfl rfl ?_
    refine pw_ldc (n := (-1000001)) eX4_child_25 ⟨by decide, by decide⟩ kc_RX4_37 ?_
    obtain ⟨ob2, h⟩ := h
    refine pw_cV (z := mX4_finds) (av := [Iq (-1000001)]) (st := []) eX4_child_27 lk_RX4_39 rfl (by decide) (by decide) sh34 rfl rfl (Nat.le_of_ble_eq_true rfl) rfl (ct_X4_finds' (mem := mem) ob2) ?_
    show PW S mX4_child Q 30 [some (Aq 34), some (Iq x1), some (Iq x2)] [Iq (-1000001)] (fnds mem (-1000001))
    exact pw_iret eX4_child_30 h
  · have h := h.1 (bI1.mp c1)
    refine pw_iload_n eX4_child_12 rfl rfl ?_
    refine pw_i2l eX4_child_13 ?_
    refine pw_lconst (v := 0) eX4_child_14 ⟨by decide, by decide⟩ rfl ?_
    refine pw_ldc2 (n := 255) eX4_child_15 ⟨by decide, by decide⟩ kc_RX4_64 ?_
    refine pw_cS (z := mX4_isIn) (av := [Jq x2, Jq 0, Jq 255]) (st := []) eX4_child_18 lk_RX4_49 rfl (by decide) (by decide) (Nat.le_of_ble_eq_true rfl) rfl (ct_X4_isIn (mem := mem)) ?_
    show PW S mX4_child Q 21 [some (Aq 34), some (Iq x1), some (Iq x2)] [Iq (bI (0 ≤ x2 ∧ x2 ≤ 255))] mem
    refine pw_if_ne eX4_child_21 (fun c3 => ?_) (fun c3 => ?_)
    · have h := h.1 (bI1.mp c3)
      refine pw_aload_n eX4_child_31 rfl rfl ?_
      refine gf_RX4_7 rfl eX4_child_32 sh34 ?_
      refine pw_iconst eX4_child_35 ⟨by decide, by decide⟩ ?_
      refine pw_iald eX4_child_36 sh35 (by decide) ?_
      refine pw_bipush eX4_child_37 ⟨by decide, by decide⟩ (by decide) ?_
      refine pw_icmp_ne eX4_child_39 (fun c4 => ?_) (fun c4 => ?_)
      · have h := h.2 c4
        refine pw_aload_n eX4_child_49 rfl rfl ?_
        refine pw_iload_n eX4_child_50 rfl rfl ?_
        refine pw_iload_n eX4_child_51 rfl rfl ?_
        obtain ⟨ob5, h⟩ := h
        refine pw_cV (z := mX4_comes) (av := [Iq x1, Iq x2]) (st := []) eX4_child_52 lk_RX4_67 rfl (by decide) (by decide) sh34 rfl rfl (Nat.le_of_ble_eq_true rfl) rfl (ct_X4_comes (mem := mem) ob5) ?_
        show PW S mX4_child Q 55 [some (Aq 34), some (Iq x1), some (Iq x2)] [] (setR mem 35 (addA (mem 35) x1 x2))
        refine pw_aload_n eX4_child_55 rfl rfl ?_
        refine gf_RX4_7 rfl eX4_child_56 sh34 ?_
        refine pw_iconst eX4_child_59 ⟨by decide, by decide⟩ ?_
        refine pw_iald eX4_child_60 sh35 (by decide) ?_
        refine pw_iconst eX4_child_61 ⟨by decide, by decide⟩ ?_
        obtain ⟨ob6, h⟩ := h
        refine pw_isub eX4_child_62 ob6 ?_
        exact pw_iret eX4_child_63 h
      · have h := h.1 (Classical.not_not.mp c4)
        refine pw_aload_n eX4_child_42 rfl rfl ?_
        refine pw_ldc (n := (-1000002)) eX4_child_43 ⟨by decide, by decide⟩ kc_RX4_66 ?_
        obtain ⟨ob7, h⟩ := h
        refine pw_cV (z := mX4_finds) (av := [Iq (-1000002)]) (st := []) eX4_child_45 lk_RX4_39 rfl (by decide) (by decide) sh34 rfl rfl (Nat.le_of_ble_eq_true rfl) rfl (ct_X4_finds' (mem := mem) ob7) ?_
        show PW S mX4_child Q 48 [some (Aq 34), some (Iq x1), some (Iq x2)] [Iq (-1000002)] (fnds mem (-1000002))
        exact pw_iret eX4_child_48 h
    · have h := h.2 (bI0.mp (Classical.not_not.mp c3))
      refine pw_aload_n eX4_child_24 rfl rfl ?_
      refine pw_ldc (n := (-1000001)) eX4_child_25 ⟨by decide, by decide⟩ kc_RX4_37 ?_
      obtain ⟨ob8, h⟩ := h
      refine pw_cV (z := mX4_finds) (av := [Iq (-1000001)]) (st := []) eX4_child_27 lk_RX4_39 rfl (by decide) (by decide) sh34 rfl rfl (Nat.le_of_ble_eq_true rfl) rfl (ct_X4_finds' (mem := mem) ob8) ?_
      show PW S mX4_child Q 30 [some (Aq 34), some (Iq x1), some (Iq x2)] [Iq (-1000001)] (fnds mem (-1000001))
      exact pw_iret eX4_child_30 h
set_option maxRecDepth 100000 in
theorem rg_X4_of_0 {S : Sx} {Q : Option PV → Zm → Prop} {mem : Zm}   {x1 x2 : Int} 
    (h : (((0 ≤ x1 ∧ x1 < mem 35 0) → ((((0 ≤ x2 ∧ x2 ≤ 8) → ((((x2 = 6) → ((0 ≤ x1 ∧ x1 < 8) ∧ Q (some (Iq (payV (mem 35 (12 + 14 * (x1).toNat))))) mem)) ∧ ((x2 = 7) → ((0 ≤ x1 ∧ x1 < 8 ∧ 0 ≤ mem 35 1) ∧ (((lendP (mem 35 (12 + 14 * (x1).toNat)) (mem 35 1) (mem 35 (12 + 14 * (x1).toNat + 4))) → (Q (some (Iq 1)) mem)) ∧ (¬ (lendP (mem 35 (12 + 14 * (x1).toNat)) (mem 35 1) (mem 35 (12 + 14 * (x1).toNat + 4))) → (Q (some (Iq 0)) mem))))) ∧ ((x2 = 8) → ((0 ≤ x1 ∧ x1 < 8) ∧ Q (some (Iq (sS (adB (mem 35) ((x1).toNat)) 8))) mem)) ∧ ((x2 < 6 ∨ 8 < x2) → ((0 ≤ x1 ∧ x1 < 8 ∧ 0 ≤ x2 ∧ x2 < 14) ∧ Q (some (Iq (mem 35 (12 + 14 * (x1).toNat + (x2).toNat)))) mem))))) ∧ (¬ (0 ≤ x2 ∧ x2 ≤ 8) → ((fOK mem (-1000001)) ∧ Q (some (Iq (-1000001))) (fnds mem (-1000001))))))) ∧ (¬ (0 ≤ x1 ∧ x1 < mem 35 0) → ((fOK mem (-1000001)) ∧ Q (some (Iq (-1000001))) (fnds mem (-1000001)))))) :
    PW S mX4_of Q 0 [some (Aq 34), some (Iq x1), some (Iq x2)] [] mem := by
  refine pw_aload_n eX4_of_0 rfl rfl ?_
  refine pw_iload_n eX4_of_1 rfl rfl ?_
  refine pw_cV (z := mX4_isChild) (av := [Iq x1]) (st := []) eX4_of_2 lk_RX4_77 rfl (by decide) (by decide) sh34 rfl rfl (Nat.le_of_ble_eq_true rfl) rfl (ct_X4_isChild (mem := mem)) ?_
  show PW S mX4_of Q 5 [some (Aq 34), some (Iq x1), some (Iq x2)] [Iq (bI (0 ≤ x1 ∧ x1 < mem 35 0))] mem
  refine pw_if_eq eX4_of_5 (fun c1 => ?_) (fun c1 => ?_)
  · have h := h.2 (bI0.mp c1)
    refine pw_aload_n eX4_of_20 rfl rfl ?_
    refine pw_ldc (n := (-1000001)) eX4_of_21 ⟨by decide, by decide⟩ kc_RX4_37 ?_
    obtain ⟨ob2, h⟩ := h
    refine pw_cV (z := mX4_finds) (av := [Iq (-1000001)]) (st := []) eX4_of_23 lk_RX4_39 rfl (by decide) (by decide) sh34 rfl rfl (Nat.le_of_ble_eq_true rfl) rfl (ct_X4_finds' (mem := mem) ob2) ?_
    show PW S mX4_of Q 26 [some (Aq 34), some (Iq x1), some (Iq x2)] [Iq (-1000001)] (fnds mem (-1000001))
    exact pw_iret eX4_of_26 h
  · have h := h.1 (bI1.mp c1)
    refine pw_iload_n eX4_of_8 rfl rfl ?_
    refine pw_i2l eX4_of_9 ?_
    refine pw_lconst (v := 0) eX4_of_10 ⟨by decide, by decide⟩ rfl ?_
    refine pw_ldc2 (n := 8) eX4_of_11 ⟨by decide, by decide⟩ kc_RX4_80 ?_
    refine pw_cS (z := mX4_isIn) (av := [Jq x2, Jq 0, Jq 8]) (st := []) eX4_of_14 lk_RX4_49 rfl (by decide) (by decide) (Nat.le_of_ble_eq_true rfl) rfl (ct_X4_isIn (mem := mem)) ?_
    show PW S mX4_of Q 17 [some (Aq 34), some (Iq x1), some (Iq x2)] [Iq (bI (0 ≤ x2 ∧ x2 ≤ 8))] mem
    refine pw_if_ne eX4_of_17 (fun c3 => ?_) (fun c3 => ?_)
    · have h := h.1 (bI1.mp c3)
      refine pw_iload_n eX4_of_27 rfl rfl ?_
      obtain ⟨hk0, hk1, hk2, hkd⟩ := h
      refine pw_tsw (ps := [(6, 56), (7, 66), (8, 80)]) (td := 86) eX4_of_28 rfl (by decide) (by decide) rfl ⟨fun c4 => ?_, fun c4 => ?_, fun c4 => ?_, trivial⟩ (fun c4 => ?_)
      · have h := hk0 c4
        refine pw_aload_n eX4_of_56 rfl rfl ?_
        refine pw_iload_n eX4_of_57 rfl rfl ?_
        refine pw_iconst eX4_of_58 ⟨by decide, by decide⟩ ?_
        obtain ⟨ob5, h⟩ := h
        refine pw_cV (z := mX4_its) (av := [Iq x1, Iq 0]) (st := []) eX4_of_59 lk_RX4_71 rfl (by decide) (by decide) sh34 rfl rfl (Nat.le_of_ble_eq_true rfl) rfl (ct_X4_its (mem := mem) ⟨ob5.1, ob5.2, by decide, by decide⟩) ?_
        show PW S mX4_of Q 62 [some (Aq 34), some (Iq x1), some (Iq x2)] [Iq (mem 35 (12 + 14 * (x1).toNat))] mem
        refine pw_cS (z := mX4_pays) (av := [Iq (mem 35 (12 + 14 * (x1).toNat))]) (st := []) eX4_of_62 lk_RX4_82 rfl (by decide) (by decide) (Nat.le_of_ble_eq_true rfl) rfl (ct_X4_pays' (mem := mem)) ?_
        show PW S mX4_of Q 65 [some (Aq 34), some (Iq x1), some (Iq x2)] [Iq (payV (mem 35 (12 + 14 * (x1).toNat)))] mem
        exact pw_iret eX4_of_65 h
      · have h := hk1 c4
        refine pw_aload_n eX4_of_66 rfl rfl ?_
        refine pw_iload_n eX4_of_67 rfl rfl ?_
        obtain ⟨ob6, h⟩ := h
        refine pw_cV (z := mX4_lends) (av := [Iq x1]) (st := []) eX4_of_68 lk_RX4_85 rfl (by decide) (by decide) sh34 rfl rfl (Nat.le_of_ble_eq_true rfl) rfl (ct_X4_lends (mem := mem) ob6) ?_
        show PW S mX4_of Q 71 [some (Aq 34), some (Iq x1), some (Iq x2)] [Iq (bI (lendP (mem 35 (12 + 14 * (x1).toNat)) (mem 35 1) (mem 35 (12 + 14 * (x1).toNat + 4))))] mem
        refine pw_if_eq eX4_of_71 (fun c7 => ?_) (fun c7 => ?_)
        · have h := h.2 (bI0.mp c7)
          refine pw_iconst eX4_of_78 ⟨by decide, by decide⟩ ?_
          exact pw_iret eX4_of_79 h
        · have h := h.1 (bI1.mp c7)
          refine pw_iconst eX4_of_74 ⟨by decide, by decide⟩ ?_
          refine pw_goto eX4_of_75 ?_
          exact pw_iret eX4_of_79 h
      · have h := hk2 c4
        refine pw_aload_n eX4_of_80 rfl rfl ?_
        refine pw_iload_n eX4_of_81 rfl rfl ?_
        obtain ⟨ob8, h⟩ := h
        refine pw_cV (z := mX4_answered) (av := [Iq x1]) (st := []) eX4_of_82 lk_RX4_88 rfl (by decide) (by decide) sh34 rfl rfl (Nat.le_of_ble_eq_true rfl) rfl (ct_X4_answered (mem := mem) ob8) ?_
        show PW S mX4_of Q 85 [some (Aq 34), some (Iq x1), some (Iq x2)] [Iq (sS (adB (mem 35) ((x1).toNat)) 8)] mem
        exact pw_iret eX4_of_85 h
      · have h := hkd c4
        refine pw_aload_n eX4_of_86 rfl rfl ?_
        refine pw_iload_n eX4_of_87 rfl rfl ?_
        refine pw_iload_n eX4_of_88 rfl rfl ?_
        obtain ⟨ob9, h⟩ := h
        refine pw_cV (z := mX4_its) (av := [Iq x1, Iq x2]) (st := []) eX4_of_89 lk_RX4_71 rfl (by decide) (by decide) sh34 rfl rfl (Nat.le_of_ble_eq_true rfl) rfl (ct_X4_its (mem := mem) ob9) ?_
        show PW S mX4_of Q 92 [some (Aq 34), some (Iq x1), some (Iq x2)] [Iq (mem 35 (12 + 14 * (x1).toNat + (x2).toNat))] mem
        exact pw_iret eX4_of_92 h
    · have h := h.2 (bI0.mp (Classical.not_not.mp c3))
      refine pw_aload_n eX4_of_20 rfl rfl ?_
      refine pw_ldc (n := (-1000001)) eX4_of_21 ⟨by decide, by decide⟩ kc_RX4_37 ?_
      obtain ⟨ob10, h⟩ := h
      refine pw_cV (z := mX4_finds) (av := [Iq (-1000001)]) (st := []) eX4_of_23 lk_RX4_39 rfl (by decide) (by decide) sh34 rfl rfl (Nat.le_of_ble_eq_true rfl) rfl (ct_X4_finds' (mem := mem) ob10) ?_
      show PW S mX4_of Q 26 [some (Aq 34), some (Iq x1), some (Iq x2)] [Iq (-1000001)] (fnds mem (-1000001))
      exact pw_iret eX4_of_26 h
set_option maxRecDepth 100000 in
theorem rg_X4_change_0 {S : Sx} {Q : Option PV → Zm → Prop} {mem : Zm}   {x1 x2 x3 : Int} 
    (h : (((0 ≤ x1 ∧ x1 < mem 35 0) → ((((mayP (mem 35 0) x1 x2 x3) → ((0 ≤ x1 ∧ x1 < 8 ∧ 0 ≤ x2 ∧ x2 < 14) ∧ (0 ≤ 12 + 14 * x1 + x2 ∧ 12 + 14 * x1 + x2 < 134) ∧ Q (some (Iq (mem 35 (12 + 14 * x1 + x2).toNat))) (mup mem 35 (12 + 14 * x1 + x2).toNat x3))) ∧ (¬ (mayP (mem 35 0) x1 x2 x3) → ((fOK mem (-1000001)) ∧ Q (some (Iq (-1000001))) (fnds mem (-1000001))))))) ∧ (¬ (0 ≤ x1 ∧ x1 < mem 35 0) → ((fOK mem (-1000001)) ∧ Q (some (Iq (-1000001))) (fnds mem (-1000001)))))) :
    PW S mX4_change Q 0 [some (Aq 34), some (Iq x1), some (Iq x2), some (Iq x3)] [] mem := by
  refine pw_aload_n eX4_change_0 rfl rfl ?_
  refine pw_iload_n eX4_change_1 rfl rfl ?_
  refine pw_cV (z := mX4_isChild) (av := [Iq x1]) (st := []) eX4_change_2 lk_RX4_77 rfl (by decide) (by decide) sh34 rfl rfl (Nat.le_of_ble_eq_true rfl) rfl (ct_X4_isChild (mem := mem)) ?_
  show PW S mX4_change Q 5 [some (Aq 34), some (Iq x1), some (Iq x2), some (Iq x3)] [Iq (bI (0 ≤ x1 ∧ x1 < mem 35 0))] mem
  refine pw_if_eq eX4_change_5 (fun c1 => ?_) (fun c1 => ?_)
  · have h := h.2 (bI0.mp c1)
    refine pw_aload_n eX4_change_31 rfl rfl ?_
    refine pw_ldc (n := (-1000001)) eX4_change_32 ⟨by decide, by decide⟩ kc_RX4_37 ?_
    obtain ⟨ob2, h⟩ := h
    refine pw_cV (z := mX4_finds) (av := [Iq (-1000001)]) (st := []) eX4_change_34 lk_RX4_39 rfl (by decide) (by decide) sh34 rfl rfl (Nat.le_of_ble_eq_true rfl) rfl (ct_X4_finds' (mem := mem) ob2) ?_
    show PW S mX4_change Q 37 [some (Aq 34), some (Iq x1), some (Iq x2), some (Iq x3)] [Iq (-1000001)] (fnds mem (-1000001))
    exact pw_iret eX4_change_37 h
  · have h := h.1 (bI1.mp c1)
    refine pw_aload_n eX4_change_8 rfl rfl ?_
    refine pw_iload_n eX4_change_9 rfl rfl ?_
    refine pw_iload_n eX4_change_10 rfl rfl ?_
    refine pw_iload_n eX4_change_11 rfl rfl ?_
    refine pw_cV (z := mX4_may) (av := [Iq x1, Iq x2, Iq x3]) (st := []) eX4_change_12 lk_RX4_95 rfl (by decide) (by decide) sh34 rfl rfl (Nat.le_of_ble_eq_true rfl) rfl (ct_X4_may (mem := mem)) ?_
    show PW S mX4_change Q 15 [some (Aq 34), some (Iq x1), some (Iq x2), some (Iq x3)] [Iq (bI (mayP (mem 35 0) x1 x2 x3))] mem
    refine pw_if_eq eX4_change_15 (fun c3 => ?_) (fun c3 => ?_)
    · have h := h.2 (bI0.mp c3)
      refine pw_aload_n eX4_change_31 rfl rfl ?_
      refine pw_ldc (n := (-1000001)) eX4_change_32 ⟨by decide, by decide⟩ kc_RX4_37 ?_
      obtain ⟨ob4, h⟩ := h
      refine pw_cV (z := mX4_finds) (av := [Iq (-1000001)]) (st := []) eX4_change_34 lk_RX4_39 rfl (by decide) (by decide) sh34 rfl rfl (Nat.le_of_ble_eq_true rfl) rfl (ct_X4_finds' (mem := mem) ob4) ?_
      show PW S mX4_change Q 37 [some (Aq 34), some (Iq x1), some (Iq x2), some (Iq x3)] [Iq (-1000001)] (fnds mem (-1000001))
      exact pw_iret eX4_change_37 h
    · have h := h.1 (bI1.mp c3)
      refine pw_aload_n eX4_change_18 rfl rfl ?_
      refine pw_iload_n eX4_change_19 rfl rfl ?_
      refine pw_iload_n eX4_change_20 rfl rfl ?_
      obtain ⟨ob5, h⟩ := h
      refine pw_cS (z := mX4_at) (av := [Iq x1, Iq x2]) (st := [Aq 34]) eX4_change_21 lk_RX4_59 rfl (by decide) (by decide) (Nat.le_of_ble_eq_true rfl) rfl (ct_X4_at (mem := mem) ob5) ?_
      show PW S mX4_change Q 24 [some (Aq 34), some (Iq x1), some (Iq x2), some (Iq x3)] [Iq (12 + 14 * x1 + x2), Aq 34] mem
      refine pw_iload_n eX4_change_24 rfl rfl ?_
      obtain ⟨ob6, h⟩ := h
      refine pw_cV (z := mX4_becomes) (av := [Iq (12 + 14 * x1 + x2), Iq x3]) (st := []) eX4_change_25 lk_RX4_53 rfl (by decide) (by decide) sh34 rfl rfl (Nat.le_of_ble_eq_true rfl) rfl (ct_X4_becomes (mem := mem) ob6) ?_
      show PW S mX4_change Q 28 [some (Aq 34), some (Iq x1), some (Iq x2), some (Iq x3)] [Iq (mem 35 (12 + 14 * x1 + x2).toNat)] (mup mem 35 (12 + 14 * x1 + x2).toNat x3)
      refine pw_goto eX4_change_28 ?_
      exact pw_iret eX4_change_37 h
set_option maxRecDepth 100000 in
theorem rg_X4_slips_0 {S : Sx} {Q : Option PV → Zm → Prop} {mem : Zm}   {x1 x2 x3 : Int} 
    (h : (((0 ≤ x1 ∧ x1 < mem 35 0) → ((((0 ≤ x2 ∧ x2 < 8) → ((((-1 ≤ x3 ∧ x3 ≤ 99) → ((0 ≤ x1 ∧ x1 < 8) ∧ (0 ≤ x2 ∧ -1 ≤ x3 ∧ x3 < 100 ∧ 0 ≤ mem 35 1) ∧ Q (some (Iq (slipV (mem 35 (12 + 14 * (x1).toNat)) (mem 35 1) x2 x3))) mem)) ∧ (¬ (-1 ≤ x3 ∧ x3 ≤ 99) → ((fOK mem (-1000001)) ∧ Q (some (Iq (-1000001))) (fnds mem (-1000001))))))) ∧ (¬ (0 ≤ x2 ∧ x2 < 8) → ((fOK mem (-1000001)) ∧ Q (some (Iq (-1000001))) (fnds mem (-1000001))))))) ∧ (¬ (0 ≤ x1 ∧ x1 < mem 35 0) → ((fOK mem (-1000001)) ∧ Q (some (Iq (-1000001))) (fnds mem (-1000001)))))) :
    PW S mX4_slips Q 0 [some (Aq 34), some (Iq x1), some (Iq x2), some (Iq x3)] [] mem := by
  refine pw_aload_n eX4_slips_0 rfl rfl ?_
  refine pw_iload_n eX4_slips_1 rfl rfl ?_
  refine pw_cV (z := mX4_isChild) (av := [Iq x1]) (st := []) eX4_slips_2 lk_RX4_77 rfl (by decide) (by decide) sh34 rfl rfl (Nat.le_of_ble_eq_true rfl) rfl (ct_X4_isChild (mem := mem)) ?_
  show PW S mX4_slips Q 5 [some (Aq 34), some (Iq x1), some (Iq x2), some (Iq x3)] [Iq (bI (0 ≤ x1 ∧ x1 < mem 35 0))] mem
  refine pw_if_eq eX4_slips_5 (fun c1 => ?_) (fun c1 => ?_)
  · have h := h.2 (bI0.mp c1)
    refine pw_aload_n eX4_slips_44 rfl rfl ?_
    refine pw_ldc (n := (-1000001)) eX4_slips_45 ⟨by decide, by decide⟩ kc_RX4_37 ?_
    obtain ⟨ob2, h⟩ := h
    refine pw_cV (z := mX4_finds) (av := [Iq (-1000001)]) (st := []) eX4_slips_47 lk_RX4_39 rfl (by decide) (by decide) sh34 rfl rfl (Nat.le_of_ble_eq_true rfl) rfl (ct_X4_finds' (mem := mem) ob2) ?_
    show PW S mX4_slips Q 50 [some (Aq 34), some (Iq x1), some (Iq x2), some (Iq x3)] [Iq (-1000001)] (fnds mem (-1000001))
    exact pw_iret eX4_slips_50 h
  · have h := h.1 (bI1.mp c1)
    refine pw_iload_n eX4_slips_8 rfl rfl ?_
    refine pw_cS (z := mX4_isSum) (av := [Iq x2]) (st := []) eX4_slips_9 lk_RX4_43 rfl (by decide) (by decide) (Nat.le_of_ble_eq_true rfl) rfl (ct_X4_isSum (mem := mem)) ?_
    show PW S mX4_slips Q 12 [some (Aq 34), some (Iq x1), some (Iq x2), some (Iq x3)] [Iq (bI (0 ≤ x2 ∧ x2 < 8))] mem
    refine pw_if_eq eX4_slips_12 (fun c3 => ?_) (fun c3 => ?_)
    · have h := h.2 (bI0.mp c3)
      refine pw_aload_n eX4_slips_44 rfl rfl ?_
      refine pw_ldc (n := (-1000001)) eX4_slips_45 ⟨by decide, by decide⟩ kc_RX4_37 ?_
      obtain ⟨ob4, h⟩ := h
      refine pw_cV (z := mX4_finds) (av := [Iq (-1000001)]) (st := []) eX4_slips_47 lk_RX4_39 rfl (by decide) (by decide) sh34 rfl rfl (Nat.le_of_ble_eq_true rfl) rfl (ct_X4_finds' (mem := mem) ob4) ?_
      show PW S mX4_slips Q 50 [some (Aq 34), some (Iq x1), some (Iq x2), some (Iq x3)] [Iq (-1000001)] (fnds mem (-1000001))
      exact pw_iret eX4_slips_50 h
    · have h := h.1 (bI1.mp c3)
      refine pw_iload_n eX4_slips_15 rfl rfl ?_
      refine pw_i2l eX4_slips_16 ?_
      refine pw_ldc2 (n := (-1)) eX4_slips_17 ⟨by decide, by decide⟩ kc_RX4_99 ?_
      refine pw_ldc2 (n := 99) eX4_slips_20 ⟨by decide, by decide⟩ kc_RX4_47 ?_
      refine pw_cS (z := mX4_isIn) (av := [Jq x3, Jq (-1), Jq 99]) (st := []) eX4_slips_23 lk_RX4_49 rfl (by decide) (by decide) (Nat.le_of_ble_eq_true rfl) rfl (ct_X4_isIn (mem := mem)) ?_
      show PW S mX4_slips Q 26 [some (Aq 34), some (Iq x1), some (Iq x2), some (Iq x3)] [Iq (bI (-1 ≤ x3 ∧ x3 ≤ 99))] mem
      refine pw_if_eq eX4_slips_26 (fun c5 => ?_) (fun c5 => ?_)
      · have h := h.2 (bI0.mp c5)
        refine pw_aload_n eX4_slips_44 rfl rfl ?_
        refine pw_ldc (n := (-1000001)) eX4_slips_45 ⟨by decide, by decide⟩ kc_RX4_37 ?_
        obtain ⟨ob6, h⟩ := h
        refine pw_cV (z := mX4_finds) (av := [Iq (-1000001)]) (st := []) eX4_slips_47 lk_RX4_39 rfl (by decide) (by decide) sh34 rfl rfl (Nat.le_of_ble_eq_true rfl) rfl (ct_X4_finds' (mem := mem) ob6) ?_
        show PW S mX4_slips Q 50 [some (Aq 34), some (Iq x1), some (Iq x2), some (Iq x3)] [Iq (-1000001)] (fnds mem (-1000001))
        exact pw_iret eX4_slips_50 h
      · have h := h.1 (bI1.mp c5)
        refine pw_aload_n eX4_slips_29 rfl rfl ?_
        refine pw_aload_n eX4_slips_30 rfl rfl ?_
        refine pw_iload_n eX4_slips_31 rfl rfl ?_
        refine pw_iconst eX4_slips_32 ⟨by decide, by decide⟩ ?_
        obtain ⟨ob7, h⟩ := h
        refine pw_cV (z := mX4_its) (av := [Iq x1, Iq 0]) (st := [Aq 34]) eX4_slips_33 lk_RX4_71 rfl (by decide) (by decide) sh34 rfl rfl (Nat.le_of_ble_eq_true rfl) rfl (ct_X4_its (mem := mem) ⟨ob7.1, ob7.2, by decide, by decide⟩) ?_
        show PW S mX4_slips Q 36 [some (Aq 34), some (Iq x1), some (Iq x2), some (Iq x3)] [Iq (mem 35 (12 + 14 * (x1).toNat)), Aq 34] mem
        refine pw_iload_n eX4_slips_36 rfl rfl ?_
        refine pw_iload_n eX4_slips_37 rfl rfl ?_
        obtain ⟨ob8, h⟩ := h
        refine pw_cV (z := mX4_slipsOf) (av := [Iq (mem 35 (12 + 14 * (x1).toNat)), Iq x2, Iq x3]) (st := []) eX4_slips_38 lk_RX4_101 rfl (by decide) (by decide) sh34 rfl rfl (Nat.le_of_ble_eq_true rfl) rfl (ct_X4_slipsOf (mem := mem) ob8) ?_
        show PW S mX4_slips Q 41 [some (Aq 34), some (Iq x1), some (Iq x2), some (Iq x3)] [Iq (slipV (mem 35 (12 + 14 * (x1).toNat)) (mem 35 1) x2 x3)] mem
        refine pw_goto eX4_slips_41 ?_
        exact pw_iret eX4_slips_50 h
set_option maxRecDepth 100000 in
theorem rg_X4_alike_0 {S : Sx} {Q : Option PV → Zm → Prop} {mem : Zm}   {x1 x2 : Int} 
    (h : (((0 ≤ x1 ∧ x1 < mem 35 0) → ((((0 ≤ x2 ∧ x2 < mem 35 0) → ((((x1 = x2) → ((fOK mem (-1000001)) ∧ Q (some (Iq (-1000001))) (fnds mem (-1000001)))) ∧ (¬ (x1 = x2) → ((0 ≤ x1 ∧ x1 < 8 ∧ 0 ≤ x2 ∧ x2 < 8) ∧ Q (some (Iq (alk (mem 35) ((x1).toNat) ((x2).toNat)))) mem))))) ∧ (¬ (0 ≤ x2 ∧ x2 < mem 35 0) → ((fOK mem (-1000001)) ∧ Q (some (Iq (-1000001))) (fnds mem (-1000001))))))) ∧ (¬ (0 ≤ x1 ∧ x1 < mem 35 0) → ((fOK mem (-1000001)) ∧ Q (some (Iq (-1000001))) (fnds mem (-1000001)))))) :
    PW S mX4_alike Q 0 [some (Aq 34), some (Iq x1), some (Iq x2)] [] mem := by
  refine pw_aload_n eX4_alike_0 rfl rfl ?_
  refine pw_iload_n eX4_alike_1 rfl rfl ?_
  refine pw_cV (z := mX4_isChild) (av := [Iq x1]) (st := []) eX4_alike_2 lk_RX4_77 rfl (by decide) (by decide) sh34 rfl rfl (Nat.le_of_ble_eq_true rfl) rfl (ct_X4_isChild (mem := mem)) ?_
  show PW S mX4_alike Q 5 [some (Aq 34), some (Iq x1), some (Iq x2)] [Iq (bI (0 ≤ x1 ∧ x1 < mem 35 0))] mem
  refine pw_if_eq eX4_alike_5 (fun c1 => ?_) (fun c1 => ?_)
  · have h := h.2 (bI0.mp c1)
    refine pw_aload_n eX4_alike_30 rfl rfl ?_
    refine pw_ldc (n := (-1000001)) eX4_alike_31 ⟨by decide, by decide⟩ kc_RX4_37 ?_
    obtain ⟨ob2, h⟩ := h
    refine pw_cV (z := mX4_finds) (av := [Iq (-1000001)]) (st := []) eX4_alike_33 lk_RX4_39 rfl (by decide) (by decide) sh34 rfl rfl (Nat.le_of_ble_eq_true rfl) rfl (ct_X4_finds' (mem := mem) ob2) ?_
    show PW S mX4_alike Q 36 [some (Aq 34), some (Iq x1), some (Iq x2)] [Iq (-1000001)] (fnds mem (-1000001))
    exact pw_iret eX4_alike_36 h
  · have h := h.1 (bI1.mp c1)
    refine pw_aload_n eX4_alike_8 rfl rfl ?_
    refine pw_iload_n eX4_alike_9 rfl rfl ?_
    refine pw_cV (z := mX4_isChild) (av := [Iq x2]) (st := []) eX4_alike_10 lk_RX4_77 rfl (by decide) (by decide) sh34 rfl rfl (Nat.le_of_ble_eq_true rfl) rfl (ct_X4_isChild (mem := mem)) ?_
    show PW S mX4_alike Q 13 [some (Aq 34), some (Iq x1), some (Iq x2)] [Iq (bI (0 ≤ x2 ∧ x2 < mem 35 0))] mem
    refine pw_if_eq eX4_alike_13 (fun c3 => ?_) (fun c3 => ?_)
    · have h := h.2 (bI0.mp c3)
      refine pw_aload_n eX4_alike_30 rfl rfl ?_
      refine pw_ldc (n := (-1000001)) eX4_alike_31 ⟨by decide, by decide⟩ kc_RX4_37 ?_
      obtain ⟨ob4, h⟩ := h
      refine pw_cV (z := mX4_finds) (av := [Iq (-1000001)]) (st := []) eX4_alike_33 lk_RX4_39 rfl (by decide) (by decide) sh34 rfl rfl (Nat.le_of_ble_eq_true rfl) rfl (ct_X4_finds' (mem := mem) ob4) ?_
      show PW S mX4_alike Q 36 [some (Aq 34), some (Iq x1), some (Iq x2)] [Iq (-1000001)] (fnds mem (-1000001))
      exact pw_iret eX4_alike_36 h
    · have h := h.1 (bI1.mp c3)
      refine pw_iload_n eX4_alike_16 rfl rfl ?_
      refine pw_iload_n eX4_alike_17 rfl rfl ?_
      refine pw_icmp_eq eX4_alike_18 (fun c5 => ?_) (fun c5 => ?_)
      · have h := h.1 c5
        refine pw_aload_n eX4_alike_30 rfl rfl ?_
        refine pw_ldc (n := (-1000001)) eX4_alike_31 ⟨by decide, by decide⟩ kc_RX4_37 ?_
        obtain ⟨ob6, h⟩ := h
        refine pw_cV (z := mX4_finds) (av := [Iq (-1000001)]) (st := []) eX4_alike_33 lk_RX4_39 rfl (by decide) (by decide) sh34 rfl rfl (Nat.le_of_ble_eq_true rfl) rfl (ct_X4_finds' (mem := mem) ob6) ?_
        show PW S mX4_alike Q 36 [some (Aq 34), some (Iq x1), some (Iq x2)] [Iq (-1000001)] (fnds mem (-1000001))
        exact pw_iret eX4_alike_36 h
      · have h := h.2 c5
        refine pw_aload_n eX4_alike_21 rfl rfl ?_
        refine pw_iload_n eX4_alike_22 rfl rfl ?_
        refine pw_iload_n eX4_alike_23 rfl rfl ?_
        obtain ⟨ob7, h⟩ := h
        refine pw_cV (z := mX4_alikeOf) (av := [Iq x1, Iq x2]) (st := []) eX4_alike_24 lk_RX4_105 rfl (by decide) (by decide) sh34 rfl rfl (Nat.le_of_ble_eq_true rfl) rfl (ct_X4_alikeOf (mem := mem) ob7) ?_
        show PW S mX4_alike Q 27 [some (Aq 34), some (Iq x1), some (Iq x2)] [Iq (alk (mem 35) ((x1).toNat) ((x2).toNat))] mem
        refine pw_goto eX4_alike_27 ?_
        exact pw_iret eX4_alike_36 h
set_option maxRecDepth 100000 in
theorem rg_X4_writesAll_0 {S : Sx} {Q : Option PV → Zm → Prop} {mem : Zm}   {x1 : Int} 
    (h : (0 ≤ x1 ∧ x1 < 8) ∧ (0 ≤ x1 ∧ x1 < 8) ∧ (((mem 35 (12 + 14 * (x1).toNat + 2) < 0) → (PW S mX4_writesAll Q 49 [some (Aq 34), some (Iq x1), some (Iq (mem 35 (12 + 14 * (x1).toNat))), some (Iq (mem 35 (12 + 14 * (x1).toNat + 2))), some (Iq 0), some (Iq 0), none] [] mem)) ∧ (¬ (mem 35 (12 + 14 * (x1).toNat + 2) < 0) → ((0 ≤ mem 35 (12 + 14 * (x1).toNat + 2) ∧ mem 35 (12 + 14 * (x1).toNat + 2) < 8 ∧ 0 ≤ mem 35 1) ∧ (((lendP (mem 35 (12 + 14 * (mem 35 (12 + 14 * (x1).toNat + 2)).toNat)) (mem 35 1) (mem 35 (12 + 14 * (mem 35 (12 + 14 * (x1).toNat + 2)).toNat + 4))) → ((0 ≤ x1 ∧ x1 < 8) ∧ (((mem 35 (12 + 14 * (x1).toNat + 4) < payV (mem 35 (12 + 14 * (x1).toNat))) → (PW S mX4_writesAll Q 49 [some (Aq 34), some (Iq x1), some (Iq (mem 35 (12 + 14 * (x1).toNat))), some (Iq (mem 35 (12 + 14 * (x1).toNat + 2))), some (Iq 0), some (Iq 0), none] [] mem)) ∧ (¬ (mem 35 (12 + 14 * (x1).toNat + 4) < payV (mem 35 (12 + 14 * (x1).toNat))) → (PW S mX4_writesAll Q 49 [some (Aq 34), some (Iq x1), some (Iq (mem 35 (12 + 14 * (x1).toNat))), some (Iq (mem 35 (12 + 14 * (x1).toNat + 2))), some (Iq 1), some (Iq 0), none] [] mem))))) ∧ (¬ (lendP (mem 35 (12 + 14 * (mem 35 (12 + 14 * (x1).toNat + 2)).toNat)) (mem 35 1) (mem 35 (12 + 14 * (mem 35 (12 + 14 * (x1).toNat + 2)).toNat + 4))) → (PW S mX4_writesAll Q 49 [some (Aq 34), some (Iq x1), some (Iq (mem 35 (12 + 14 * (x1).toNat))), some (Iq (mem 35 (12 + 14 * (x1).toNat + 2))), some (Iq 0), some (Iq 0), none] [] mem))))))) :
    PW S mX4_writesAll Q 0 [some (Aq 34), some (Iq x1), none, none, none, none, none] [] mem := by
  refine pw_aload_n eX4_writesAll_0 rfl rfl ?_
  refine pw_iload_n eX4_writesAll_1 rfl rfl ?_
  refine pw_iconst eX4_writesAll_2 ⟨by decide, by decide⟩ ?_
  obtain ⟨ob1, h⟩ := h
  refine pw_cV (z := mX4_its) (av := [Iq x1, Iq 0]) (st := []) eX4_writesAll_3 lk_RX4_71 rfl (by decide) (by decide) sh34 rfl rfl (Nat.le_of_ble_eq_true rfl) rfl (ct_X4_its (mem := mem) ⟨ob1.1, ob1.2, by decide, by decide⟩) ?_
  show PW S mX4_writesAll Q 6 [some (Aq 34), some (Iq x1), none, none, none, none, none] [Iq (mem 35 (12 + 14 * (x1).toNat))] mem
  refine pw_istore_n (ls2 := [some (Aq 34), some (Iq x1), some (Iq (mem 35 (12 + 14 * (x1).toNat))), none, none, none, none]) eX4_writesAll_6 rfl (by decide) rfl ?_
  refine pw_aload_n eX4_writesAll_7 rfl rfl ?_
  refine pw_iload_n eX4_writesAll_8 rfl rfl ?_
  refine pw_iconst eX4_writesAll_9 ⟨by decide, by decide⟩ ?_
  obtain ⟨ob2, h⟩ := h
  refine pw_cV (z := mX4_its) (av := [Iq x1, Iq 2]) (st := []) eX4_writesAll_10 lk_RX4_71 rfl (by decide) (by decide) sh34 rfl rfl (Nat.le_of_ble_eq_true rfl) rfl (ct_X4_its (mem := mem) ⟨ob2.1, ob2.2, by decide, by decide⟩) ?_
  show PW S mX4_writesAll Q 13 [some (Aq 34), some (Iq x1), some (Iq (mem 35 (12 + 14 * (x1).toNat))), none, none, none, none] [Iq (mem 35 (12 + 14 * (x1).toNat + 2))] mem
  refine pw_istore_n (ls2 := [some (Aq 34), some (Iq x1), some (Iq (mem 35 (12 + 14 * (x1).toNat))), some (Iq (mem 35 (12 + 14 * (x1).toNat + 2))), none, none, none]) eX4_writesAll_13 rfl (by decide) rfl ?_
  refine pw_iload_n eX4_writesAll_14 rfl rfl ?_
  refine pw_if_lt eX4_writesAll_15 (fun c3 => ?_) (fun c3 => ?_)
  · have h := h.1 c3
    refine pw_iconst eX4_writesAll_43 ⟨by decide, by decide⟩ ?_
    refine pw_istore (ls2 := [some (Aq 34), some (Iq x1), some (Iq (mem 35 (12 + 14 * (x1).toNat))), some (Iq (mem 35 (12 + 14 * (x1).toNat + 2))), some (Iq 0), none, none]) eX4_writesAll_44 (by decide) rfl ?_
    refine pw_iconst eX4_writesAll_46 ⟨by decide, by decide⟩ ?_
    refine pw_istore (ls2 := [some (Aq 34), some (Iq x1), some (Iq (mem 35 (12 + 14 * (x1).toNat))), some (Iq (mem 35 (12 + 14 * (x1).toNat + 2))), some (Iq 0), some (Iq 0), none]) eX4_writesAll_47 (by decide) rfl ?_
    exact h
  · have h := h.2 c3
    refine pw_aload_n eX4_writesAll_18 rfl rfl ?_
    refine pw_iload_n eX4_writesAll_19 rfl rfl ?_
    obtain ⟨ob4, h⟩ := h
    refine pw_cV (z := mX4_lends) (av := [Iq (mem 35 (12 + 14 * (x1).toNat + 2))]) (st := []) eX4_writesAll_20 lk_RX4_85 rfl (by decide) (by decide) sh34 rfl rfl (Nat.le_of_ble_eq_true rfl) rfl (ct_X4_lends (mem := mem) ob4) ?_
    show PW S mX4_writesAll Q 23 [some (Aq 34), some (Iq x1), some (Iq (mem 35 (12 + 14 * (x1).toNat))), some (Iq (mem 35 (12 + 14 * (x1).toNat + 2))), none, none, none] [Iq (bI (lendP (mem 35 (12 + 14 * (mem 35 (12 + 14 * (x1).toNat + 2)).toNat)) (mem 35 1) (mem 35 (12 + 14 * (mem 35 (12 + 14 * (x1).toNat + 2)).toNat + 4))))] mem
    refine pw_if_eq eX4_writesAll_23 (fun c5 => ?_) (fun c5 => ?_)
    · have h := h.2 (bI0.mp c5)
      refine pw_iconst eX4_writesAll_43 ⟨by decide, by decide⟩ ?_
      refine pw_istore (ls2 := [some (Aq 34), some (Iq x1), some (Iq (mem 35 (12 + 14 * (x1).toNat))), some (Iq (mem 35 (12 + 14 * (x1).toNat + 2))), some (Iq 0), none, none]) eX4_writesAll_44 (by decide) rfl ?_
      refine pw_iconst eX4_writesAll_46 ⟨by decide, by decide⟩ ?_
      refine pw_istore (ls2 := [some (Aq 34), some (Iq x1), some (Iq (mem 35 (12 + 14 * (x1).toNat))), some (Iq (mem 35 (12 + 14 * (x1).toNat + 2))), some (Iq 0), some (Iq 0), none]) eX4_writesAll_47 (by decide) rfl ?_
      exact h
    · have h := h.1 (bI1.mp c5)
      refine pw_aload_n eX4_writesAll_26 rfl rfl ?_
      refine pw_iload_n eX4_writesAll_27 rfl rfl ?_
      refine pw_iconst eX4_writesAll_28 ⟨by decide, by decide⟩ ?_
      obtain ⟨ob6, h⟩ := h
      refine pw_cV (z := mX4_its) (av := [Iq x1, Iq 4]) (st := []) eX4_writesAll_29 lk_RX4_71 rfl (by decide) (by decide) sh34 rfl rfl (Nat.le_of_ble_eq_true rfl) rfl (ct_X4_its (mem := mem) ⟨ob6.1, ob6.2, by decide, by decide⟩) ?_
      show PW S mX4_writesAll Q 32 [some (Aq 34), some (Iq x1), some (Iq (mem 35 (12 + 14 * (x1).toNat))), some (Iq (mem 35 (12 + 14 * (x1).toNat + 2))), none, none, none] [Iq (mem 35 (12 + 14 * (x1).toNat + 4))] mem
      refine pw_iload_n eX4_writesAll_32 rfl rfl ?_
      refine pw_cS (z := mX4_pays) (av := [Iq (mem 35 (12 + 14 * (x1).toNat))]) (st := [Iq (mem 35 (12 + 14 * (x1).toNat + 4))]) eX4_writesAll_33 lk_RX4_82 rfl (by decide) (by decide) (Nat.le_of_ble_eq_true rfl) rfl (ct_X4_pays' (mem := mem)) ?_
      show PW S mX4_writesAll Q 36 [some (Aq 34), some (Iq x1), some (Iq (mem 35 (12 + 14 * (x1).toNat))), some (Iq (mem 35 (12 + 14 * (x1).toNat + 2))), none, none, none] [Iq (payV (mem 35 (12 + 14 * (x1).toNat))), Iq (mem 35 (12 + 14 * (x1).toNat + 4))] mem
      refine pw_icmp_lt eX4_writesAll_36 (fun c7 => ?_) (fun c7 => ?_)
      · have h := h.1 c7
        refine pw_iconst eX4_writesAll_43 ⟨by decide, by decide⟩ ?_
        refine pw_istore (ls2 := [some (Aq 34), some (Iq x1), some (Iq (mem 35 (12 + 14 * (x1).toNat))), some (Iq (mem 35 (12 + 14 * (x1).toNat + 2))), some (Iq 0), none, none]) eX4_writesAll_44 (by decide) rfl ?_
        refine pw_iconst eX4_writesAll_46 ⟨by decide, by decide⟩ ?_
        refine pw_istore (ls2 := [some (Aq 34), some (Iq x1), some (Iq (mem 35 (12 + 14 * (x1).toNat))), some (Iq (mem 35 (12 + 14 * (x1).toNat + 2))), some (Iq 0), some (Iq 0), none]) eX4_writesAll_47 (by decide) rfl ?_
        exact h
      · have h := h.2 c7
        refine pw_iconst eX4_writesAll_39 ⟨by decide, by decide⟩ ?_
        refine pw_goto eX4_writesAll_40 ?_
        refine pw_istore (ls2 := [some (Aq 34), some (Iq x1), some (Iq (mem 35 (12 + 14 * (x1).toNat))), some (Iq (mem 35 (12 + 14 * (x1).toNat + 2))), some (Iq 1), none, none]) eX4_writesAll_44 (by decide) rfl ?_
        refine pw_iconst eX4_writesAll_46 ⟨by decide, by decide⟩ ?_
        refine pw_istore (ls2 := [some (Aq 34), some (Iq x1), some (Iq (mem 35 (12 + 14 * (x1).toNat))), some (Iq (mem 35 (12 + 14 * (x1).toNat + 2))), some (Iq 1), some (Iq 0), none]) eX4_writesAll_47 (by decide) rfl ?_
        exact h

set_option maxRecDepth 100000 in
theorem rg_X4_writesAll_49 {S : Sx} {Q : Option PV → Zm → Prop} {mem : Zm}   {x1 x2 x3 x4 x5 : Int} 
    (h : (((8 ≤ x5) → ((((x4 = 0) → (Q none mem)) ∧ (¬ (x4 = 0) → ((0 ≤ x1 ∧ x1 < 8) ∧ (0 ≤ 12 + 14 * x1 + 4 ∧ 12 + 14 * x1 + 4 < 134) ∧ (in32 ((mem 35 (12 + 14 * x1 + 4).toNat) - (payV x2))) ∧ (0 ≤ 12 + 14 * x1 + 4 ∧ 12 + 14 * x1 + 4 < 134) ∧ (0 ≤ x3 ∧ x3 < 8) ∧ (0 ≤ x3 ∧ x3 < 8) ∧ (in32 (((mup mem 35 (12 + 14 * x1 + 4).toNat ((mem 35 (12 + 14 * x1 + 4).toNat) - (payV x2))) 35 (12 + 14 * (x3).toNat + 4)) + (payV x2))) ∧ (0 ≤ 12 + 14 * x3 + 4 ∧ 12 + 14 * x3 + 4 < 134) ∧ Q none (mup (mup mem 35 (12 + 14 * x1 + 4).toNat ((mem 35 (12 + 14 * x1 + 4).toNat) - (payV x2))) 35 (12 + 14 * x3 + 4).toNat (min 999 (((mup mem 35 (12 + 14 * x1 + 4).toNat ((mem 35 (12 + 14 * x1 + 4).toNat) - (payV x2))) 35 (12 + 14 * (x3).toNat + 4)) + (payV x2))))))))) ∧ (¬ (8 ≤ x5) → ((0 ≤ x1 ∧ x1 < 8) ∧ (((bAnd (bShr (mem 35 (12 + 14 * (x1).toNat + 1)) x5) 1 = 1) → ((in32 (6 + x5)) ∧ (0 ≤ x1 ∧ x1 < 8 ∧ 0 ≤ 6 + x5 ∧ 6 + x5 < 14) ∧ (in32 (4 + x5)) ∧ (0 ≤ 4 + x5 ∧ 4 + x5 < 134) ∧ (0 ≤ 12 + 14 * x1 + (6 + x5) ∧ 12 + 14 * x1 + (6 + x5) < 134) ∧ (in32 (x5 + 1)) ∧ PW S mX4_writesAll Q 49 [some (Aq 34), some (Iq x1), some (Iq x2), some (Iq x3), some (Iq x4), some (Iq (x5 + 1)), none] [] (mup mem 35 (12 + 14 * x1 + (6 + x5)).toNat (mem 35 (4 + x5).toNat)))) ∧ (¬ (bAnd (bShr (mem 35 (12 + 14 * (x1).toNat + 1)) x5) 1 = 1) → ((in32 (6 + x5)) ∧ (0 ≤ x1 ∧ x1 < 8 ∧ 0 ≤ 6 + x5 ∧ 6 + x5 < 14) ∧ (((x4 = 0) → ((0 ≤ 12 + 14 * x1 + (6 + x5) ∧ 12 + 14 * x1 + (6 + x5) < 134) ∧ (in32 (x5 + 1)) ∧ PW S mX4_writesAll Q 49 [some (Aq 34), some (Iq x1), some (Iq x2), some (Iq x3), some (Iq x4), some (Iq (x5 + 1)), none] [] (mup mem 35 (12 + 14 * x1 + (6 + x5)).toNat (-1)))) ∧ (¬ (x4 = 0) → ((in32 (6 + x5)) ∧ (0 ≤ x3 ∧ x3 < 8 ∧ 0 ≤ 6 + x5 ∧ 6 + x5 < 14) ∧ (0 ≤ x5 ∧ -1 ≤ mem 35 (12 + 14 * (x3).toNat + (6 + x5).toNat) ∧ mem 35 (12 + 14 * (x3).toNat + (6 + x5).toNat) < 100 ∧ 0 ≤ mem 35 1) ∧ (0 ≤ 12 + 14 * x1 + (6 + x5) ∧ 12 + 14 * x1 + (6 + x5) < 134) ∧ (in32 (x5 + 1)) ∧ PW S mX4_writesAll Q 49 [some (Aq 34), some (Iq x1), some (Iq x2), some (Iq x3), some (Iq x4), some (Iq (x5 + 1)), none] [] (mup mem 35 (12 + 14 * x1 + (6 + x5)).toNat (slipV x2 (mem 35 1) x5 (mem 35 (12 + 14 * (x3).toNat + (6 + x5).toNat)))))))))))))) :
    PW S mX4_writesAll Q 49 [some (Aq 34), some (Iq x1), some (Iq x2), some (Iq x3), some (Iq x4), some (Iq x5), none] [] mem := by
  refine pw_iload eX4_writesAll_49 rfl ?_
  refine pw_bipush eX4_writesAll_51 ⟨by decide, by decide⟩ (by decide) ?_
  refine pw_icmp_ge eX4_writesAll_53 (fun c1 => ?_) (fun c1 => ?_)
  · have h := h.1 c1
    refine pw_iload eX4_writesAll_141 rfl ?_
    refine pw_if_eq eX4_writesAll_143 (fun c2 => ?_) (fun c2 => ?_)
    · have h := h.1 c2
      exact pw_vret eX4_writesAll_190 h
    · have h := h.2 c2
      refine pw_aload_n eX4_writesAll_146 rfl rfl ?_
      refine gf_RX4_7 rfl eX4_writesAll_147 sh34 ?_
      refine pw_iload_n eX4_writesAll_150 rfl rfl ?_
      refine pw_iconst eX4_writesAll_151 ⟨by decide, by decide⟩ ?_
      obtain ⟨ob3, h⟩ := h
      refine pw_cS (z := mX4_at) (av := [Iq x1, Iq 4]) (st := [Aq 35]) eX4_writesAll_152 lk_RX4_59 rfl (by decide) (by decide) (Nat.le_of_ble_eq_true rfl) rfl (ct_X4_at (mem := mem) ⟨ob3.1, ob3.2, by decide, by decide⟩) ?_
      show PW S mX4_writesAll Q 155 [some (Aq 34), some (Iq x1), some (Iq x2), some (Iq x3), some (Iq x4), some (Iq x5), none] [Iq (12 + 14 * x1 + 4), Aq 35] mem
      refine pw_dup2 eX4_writesAll_155 rfl rfl ?_
      obtain ⟨ob4, h⟩ := h
      refine pw_iald eX4_writesAll_156 sh35 ob4 ?_
      refine pw_iload_n eX4_writesAll_157 rfl rfl ?_
      refine pw_cS (z := mX4_pays) (av := [Iq x2]) (st := [Iq (mem 35 (12 + 14 * x1 + 4).toNat), Iq (12 + 14 * x1 + 4), Aq 35]) eX4_writesAll_158 lk_RX4_82 rfl (by decide) (by decide) (Nat.le_of_ble_eq_true rfl) rfl (ct_X4_pays' (mem := mem)) ?_
      show PW S mX4_writesAll Q 161 [some (Aq 34), some (Iq x1), some (Iq x2), some (Iq x3), some (Iq x4), some (Iq x5), none] [Iq (payV x2), Iq (mem 35 (12 + 14 * x1 + 4).toNat), Iq (12 + 14 * x1 + 4), Aq 35] mem
      obtain ⟨ob5, h⟩ := h
      refine pw_isub eX4_writesAll_161 ob5 ?_
      obtain ⟨ob6, h⟩ := h
      refine pw_iast eX4_writesAll_162 sh35 ob6 ?_
      refine pw_aload_n eX4_writesAll_163 rfl rfl ?_
      refine gf_RX4_7 rfl eX4_writesAll_164 sh34 ?_
      refine pw_iload_n eX4_writesAll_167 rfl rfl ?_
      refine pw_iconst eX4_writesAll_168 ⟨by decide, by decide⟩ ?_
      obtain ⟨ob7, h⟩ := h
      refine pw_cS (z := mX4_at) (av := [Iq x3, Iq 4]) (st := [Aq 35]) eX4_writesAll_169 lk_RX4_59 rfl (by decide) (by decide) (Nat.le_of_ble_eq_true rfl) rfl (ct_X4_at (mem := mup mem 35 (12 + 14 * x1 + 4).toNat ((mem 35 (12 + 14 * x1 + 4).toNat) - (payV x2))) ⟨ob7.1, ob7.2, by decide, by decide⟩) ?_
      show PW S mX4_writesAll Q 172 [some (Aq 34), some (Iq x1), some (Iq x2), some (Iq x3), some (Iq x4), some (Iq x5), none] [Iq (12 + 14 * x3 + 4), Aq 35] (mup mem 35 (12 + 14 * x1 + 4).toNat ((mem 35 (12 + 14 * x1 + 4).toNat) - (payV x2)))
      refine pw_sipush eX4_writesAll_172 ⟨by decide, by decide⟩ (by decide) ?_
      refine pw_aload_n eX4_writesAll_175 rfl rfl ?_
      refine pw_iload_n eX4_writesAll_176 rfl rfl ?_
      refine pw_iconst eX4_writesAll_177 ⟨by decide, by decide⟩ ?_
      obtain ⟨ob8, h⟩ := h
      refine pw_cV (z := mX4_its) (av := [Iq x3, Iq 4]) (st := [Iq 999, Iq (12 + 14 * x3 + 4), Aq 35]) eX4_writesAll_178 lk_RX4_71 rfl (by decide) (by decide) sh34 rfl rfl (Nat.le_of_ble_eq_true rfl) rfl (ct_X4_its (mem := mup mem 35 (12 + 14 * x1 + 4).toNat ((mem 35 (12 + 14 * x1 + 4).toNat) - (payV x2))) ⟨ob8.1, ob8.2, by decide, by decide⟩) ?_
      show PW S mX4_writesAll Q 181 [some (Aq 34), some (Iq x1), some (Iq x2), some (Iq x3), some (Iq x4), some (Iq x5), none] [Iq ((mup mem 35 (12 + 14 * x1 + 4).toNat ((mem 35 (12 + 14 * x1 + 4).toNat) - (payV x2))) 35 (12 + 14 * (x3).toNat + 4)), Iq 999, Iq (12 + 14 * x3 + 4), Aq 35] (mup mem 35 (12 + 14 * x1 + 4).toNat ((mem 35 (12 + 14 * x1 + 4).toNat) - (payV x2)))
      refine pw_iload_n eX4_writesAll_181 rfl rfl ?_
      refine pw_cS (z := mX4_pays) (av := [Iq x2]) (st := [Iq ((mup mem 35 (12 + 14 * x1 + 4).toNat ((mem 35 (12 + 14 * x1 + 4).toNat) - (payV x2))) 35 (12 + 14 * (x3).toNat + 4)), Iq 999, Iq (12 + 14 * x3 + 4), Aq 35]) eX4_writesAll_182 lk_RX4_82 rfl (by decide) (by decide) (Nat.le_of_ble_eq_true rfl) rfl (ct_X4_pays' (mem := mup mem 35 (12 + 14 * x1 + 4).toNat ((mem 35 (12 + 14 * x1 + 4).toNat) - (payV x2)))) ?_
      show PW S mX4_writesAll Q 185 [some (Aq 34), some (Iq x1), some (Iq x2), some (Iq x3), some (Iq x4), some (Iq x5), none] [Iq (payV x2), Iq ((mup mem 35 (12 + 14 * x1 + 4).toNat ((mem 35 (12 + 14 * x1 + 4).toNat) - (payV x2))) 35 (12 + 14 * (x3).toNat + 4)), Iq 999, Iq (12 + 14 * x3 + 4), Aq 35] (mup mem 35 (12 + 14 * x1 + 4).toNat ((mem 35 (12 + 14 * x1 + 4).toNat) - (payV x2)))
      obtain ⟨ob9, h⟩ := h
      refine pw_iadd eX4_writesAll_185 ob9 ?_
      refine pw_cS (z := mX4_least) (av := [Iq 999, Iq (((mup mem 35 (12 + 14 * x1 + 4).toNat ((mem 35 (12 + 14 * x1 + 4).toNat) - (payV x2))) 35 (12 + 14 * (x3).toNat + 4)) + (payV x2))]) (st := [Iq (12 + 14 * x3 + 4), Aq 35]) eX4_writesAll_186 lk_RX4_108 rfl (by decide) (by decide) (Nat.le_of_ble_eq_true rfl) rfl (ct_X4_least (mem := mup mem 35 (12 + 14 * x1 + 4).toNat ((mem 35 (12 + 14 * x1 + 4).toNat) - (payV x2)))) ?_
      show PW S mX4_writesAll Q 189 [some (Aq 34), some (Iq x1), some (Iq x2), some (Iq x3), some (Iq x4), some (Iq x5), none] [Iq (min 999 (((mup mem 35 (12 + 14 * x1 + 4).toNat ((mem 35 (12 + 14 * x1 + 4).toNat) - (payV x2))) 35 (12 + 14 * (x3).toNat + 4)) + (payV x2))), Iq (12 + 14 * x3 + 4), Aq 35] (mup mem 35 (12 + 14 * x1 + 4).toNat ((mem 35 (12 + 14 * x1 + 4).toNat) - (payV x2)))
      obtain ⟨ob10, h⟩ := h
      refine pw_iast eX4_writesAll_189 sh35 ob10 ?_
      exact pw_vret eX4_writesAll_190 h
  · have h := h.2 c1
    refine pw_aload_n eX4_writesAll_56 rfl rfl ?_
    refine pw_iload_n eX4_writesAll_57 rfl rfl ?_
    refine pw_iconst eX4_writesAll_58 ⟨by decide, by decide⟩ ?_
    obtain ⟨ob11, h⟩ := h
    refine pw_cV (z := mX4_its) (av := [Iq x1, Iq 1]) (st := []) eX4_writesAll_59 lk_RX4_71 rfl (by decide) (by decide) sh34 rfl rfl (Nat.le_of_ble_eq_true rfl) rfl (ct_X4_its (mem := mem) ⟨ob11.1, ob11.2, by decide, by decide⟩) ?_
    show PW S mX4_writesAll Q 62 [some (Aq 34), some (Iq x1), some (Iq x2), some (Iq x3), some (Iq x4), some (Iq x5), none] [Iq (mem 35 (12 + 14 * (x1).toNat + 1))] mem
    refine pw_iload eX4_writesAll_62 rfl ?_
    refine pw_ishr eX4_writesAll_64 ?_
    refine pw_iconst eX4_writesAll_65 ⟨by decide, by decide⟩ ?_
    refine pw_iand eX4_writesAll_66 ?_
    refine pw_iconst eX4_writesAll_67 ⟨by decide, by decide⟩ ?_
    refine pw_icmp_ne eX4_writesAll_68 (fun c12 => ?_) (fun c12 => ?_)
    · have h := h.2 c12
      refine pw_iconst eX4_writesAll_75 ⟨by decide, by decide⟩ ?_
      refine pw_istore (ls2 := [some (Aq 34), some (Iq x1), some (Iq x2), some (Iq x3), some (Iq x4), some (Iq x5), some (Iq 0)]) eX4_writesAll_76 (by decide) rfl ?_
      refine pw_aload_n eX4_writesAll_78 rfl rfl ?_
      refine gf_RX4_7 rfl eX4_writesAll_79 sh34 ?_
      refine pw_iload_n eX4_writesAll_82 rfl rfl ?_
      refine pw_bipush eX4_writesAll_83 ⟨by decide, by decide⟩ (by decide) ?_
      refine pw_iload eX4_writesAll_85 rfl ?_
      obtain ⟨ob13, h⟩ := h
      refine pw_iadd eX4_writesAll_87 ob13 ?_
      obtain ⟨ob14, h⟩ := h
      refine pw_cS (z := mX4_at) (av := [Iq x1, Iq (6 + x5)]) (st := [Aq 35]) eX4_writesAll_88 lk_RX4_59 rfl (by decide) (by decide) (Nat.le_of_ble_eq_true rfl) rfl (ct_X4_at (mem := mem) ob14) ?_
      show PW S mX4_writesAll Q 91 [some (Aq 34), some (Iq x1), some (Iq x2), some (Iq x3), some (Iq x4), some (Iq x5), some (Iq 0)] [Iq (12 + 14 * x1 + (6 + x5)), Aq 35] mem
      refine pw_iload eX4_writesAll_91 rfl ?_
      refine pw_if_eq eX4_writesAll_93 (fun c15 => ?_) (fun c15 => ?_)
      · skip
        refine pw_iload eX4_writesAll_108 rfl ?_
        refine pw_if_eq eX4_writesAll_110 (fun c16 => ?_) (fun c16 => ?_)
        · have h := h.1 c16
          refine pw_iconst eX4_writesAll_133 ⟨by decide, by decide⟩ ?_
          obtain ⟨ob17, h⟩ := h
          refine pw_iast eX4_writesAll_134 sh35 ob17 ?_
          obtain ⟨ob18, h⟩ := h
          refine pw_iinc (ls2 := [some (Aq 34), some (Iq x1), some (Iq x2), some (Iq x3), some (Iq x4), some (Iq (x5 + 1)), some (Iq 0)]) eX4_writesAll_135 rfl ob18 rfl ?_
          refine pw_goto eX4_writesAll_138 ?_
          exact pw_drop (bs := [true, true, true, true, true, true, false]) h
        · have h := h.2 c16
          refine pw_aload_n eX4_writesAll_113 rfl rfl ?_
          refine pw_iload_n eX4_writesAll_114 rfl rfl ?_
          refine pw_iload eX4_writesAll_115 rfl ?_
          refine pw_aload_n eX4_writesAll_117 rfl rfl ?_
          refine pw_iload_n eX4_writesAll_118 rfl rfl ?_
          refine pw_bipush eX4_writesAll_119 ⟨by decide, by decide⟩ (by decide) ?_
          refine pw_iload eX4_writesAll_121 rfl ?_
          obtain ⟨ob19, h⟩ := h
          refine pw_iadd eX4_writesAll_123 ob19 ?_
          obtain ⟨ob20, h⟩ := h
          refine pw_cV (z := mX4_its) (av := [Iq x3, Iq (6 + x5)]) (st := [Iq x5, Iq x2, Aq 34, Iq (12 + 14 * x1 + (6 + x5)), Aq 35]) eX4_writesAll_124 lk_RX4_71 rfl (by decide) (by decide) sh34 rfl rfl (Nat.le_of_ble_eq_true rfl) rfl (ct_X4_its (mem := mem) ob20) ?_
          show PW S mX4_writesAll Q 127 [some (Aq 34), some (Iq x1), some (Iq x2), some (Iq x3), some (Iq x4), some (Iq x5), some (Iq 0)] [Iq (mem 35 (12 + 14 * (x3).toNat + (6 + x5).toNat)), Iq x5, Iq x2, Aq 34, Iq (12 + 14 * x1 + (6 + x5)), Aq 35] mem
          obtain ⟨ob21, h⟩ := h
          refine pw_cV (z := mX4_slipsOf) (av := [Iq x2, Iq x5, Iq (mem 35 (12 + 14 * (x3).toNat + (6 + x5).toNat))]) (st := [Iq (12 + 14 * x1 + (6 + x5)), Aq 35]) eX4_writesAll_127 lk_RX4_101 rfl (by decide) (by decide) sh34 rfl rfl (Nat.le_of_ble_eq_true rfl) rfl (ct_X4_slipsOf (mem := mem) ob21) ?_
          show PW S mX4_writesAll Q 130 [some (Aq 34), some (Iq x1), some (Iq x2), some (Iq x3), some (Iq x4), some (Iq x5), some (Iq 0)] [Iq (slipV x2 (mem 35 1) x5 (mem 35 (12 + 14 * (x3).toNat + (6 + x5).toNat))), Iq (12 + 14 * x1 + (6 + x5)), Aq 35] mem
          refine pw_goto eX4_writesAll_130 ?_
          obtain ⟨ob22, h⟩ := h
          refine pw_iast eX4_writesAll_134 sh35 ob22 ?_
          obtain ⟨ob23, h⟩ := h
          refine pw_iinc (ls2 := [some (Aq 34), some (Iq x1), some (Iq x2), some (Iq x3), some (Iq x4), some (Iq (x5 + 1)), some (Iq 0)]) eX4_writesAll_135 rfl ob23 rfl ?_
          refine pw_goto eX4_writesAll_138 ?_
          exact pw_drop (bs := [true, true, true, true, true, true, false]) h
      · exact absurd (by decide) c15
    · have h := h.1 (Classical.not_not.mp c12)
      refine pw_iconst eX4_writesAll_71 ⟨by decide, by decide⟩ ?_
      refine pw_goto eX4_writesAll_72 ?_
      refine pw_istore (ls2 := [some (Aq 34), some (Iq x1), some (Iq x2), some (Iq x3), some (Iq x4), some (Iq x5), some (Iq 1)]) eX4_writesAll_76 (by decide) rfl ?_
      refine pw_aload_n eX4_writesAll_78 rfl rfl ?_
      refine gf_RX4_7 rfl eX4_writesAll_79 sh34 ?_
      refine pw_iload_n eX4_writesAll_82 rfl rfl ?_
      refine pw_bipush eX4_writesAll_83 ⟨by decide, by decide⟩ (by decide) ?_
      refine pw_iload eX4_writesAll_85 rfl ?_
      obtain ⟨ob24, h⟩ := h
      refine pw_iadd eX4_writesAll_87 ob24 ?_
      obtain ⟨ob25, h⟩ := h
      refine pw_cS (z := mX4_at) (av := [Iq x1, Iq (6 + x5)]) (st := [Aq 35]) eX4_writesAll_88 lk_RX4_59 rfl (by decide) (by decide) (Nat.le_of_ble_eq_true rfl) rfl (ct_X4_at (mem := mem) ob25) ?_
      show PW S mX4_writesAll Q 91 [some (Aq 34), some (Iq x1), some (Iq x2), some (Iq x3), some (Iq x4), some (Iq x5), some (Iq 1)] [Iq (12 + 14 * x1 + (6 + x5)), Aq 35] mem
      refine pw_iload eX4_writesAll_91 rfl ?_
      refine pw_if_eq eX4_writesAll_93 (fun c26 => ?_) (fun c26 => ?_)
      · exact absurd c26 (by decide)
      · skip
        refine pw_aload_n eX4_writesAll_96 rfl rfl ?_
        refine gf_RX4_7 rfl eX4_writesAll_97 sh34 ?_
        refine pw_iconst eX4_writesAll_100 ⟨by decide, by decide⟩ ?_
        refine pw_iload eX4_writesAll_101 rfl ?_
        obtain ⟨ob27, h⟩ := h
        refine pw_iadd eX4_writesAll_103 ob27 ?_
        obtain ⟨ob28, h⟩ := h
        refine pw_iald eX4_writesAll_104 sh35 ob28 ?_
        refine pw_goto eX4_writesAll_105 ?_
        obtain ⟨ob29, h⟩ := h
        refine pw_iast eX4_writesAll_134 sh35 ob29 ?_
        obtain ⟨ob30, h⟩ := h
        refine pw_iinc (ls2 := [some (Aq 34), some (Iq x1), some (Iq x2), some (Iq x3), some (Iq x4), some (Iq (x5 + 1)), some (Iq 1)]) eX4_writesAll_135 rfl ob30 rfl ?_
        refine pw_goto eX4_writesAll_138 ?_
        exact pw_drop (bs := [true, true, true, true, true, true, false]) h
set_option maxRecDepth 100000 in
theorem rg_X4_isFound_0 {S : Sx} {Q : Option PV → Zm → Prop} {mem : Zm}   {x1 : Int} 
    (h : PW S mX4_isFound Q 4 [some (Aq 34), some (Iq x1), some (Iq 0), some (Iq 0)] [] mem) :
    PW S mX4_isFound Q 0 [some (Aq 34), some (Iq x1), none, none] [] mem := by
  refine pw_iconst eX4_isFound_0 ⟨by decide, by decide⟩ ?_
  refine pw_istore_n (ls2 := [some (Aq 34), some (Iq x1), some (Iq 0), none]) eX4_isFound_1 rfl (by decide) rfl ?_
  refine pw_iconst eX4_isFound_2 ⟨by decide, by decide⟩ ?_
  refine pw_istore_n (ls2 := [some (Aq 34), some (Iq x1), some (Iq 0), some (Iq 0)]) eX4_isFound_3 rfl (by decide) rfl ?_
  exact h

set_option maxRecDepth 100000 in
theorem rg_X4_isFound_4 {S : Sx} {Q : Option PV → Zm → Prop} {mem : Zm}   {x1 x2 x3 : Int} 
    (h : (((mem 35 0 ≤ x3) → (Q (some (Iq x2)) mem)) ∧ (¬ (mem 35 0 ≤ x3) → ((((x3 = x1) → ((in32 (x3 + 1)) ∧ PW S mX4_isFound Q 4 [some (Aq 34), some (Iq x1), some (Iq (bOr x2 0)), some (Iq (x3 + 1))] [] mem)) ∧ (¬ (x3 = x1) → ((0 ≤ x1 ∧ x1 < 8 ∧ 0 ≤ x3 ∧ x3 < 8) ∧ (0 ≤ alk (mem 35) ((x1).toNat) ((x3).toNat) ∧ alk (mem 35) ((x1).toNat) ((x3).toNat) < 256) ∧ (((pcn (alk (mem 35) ((x1).toNat) ((x3).toNat)) < mem 35 3) → ((in32 (x3 + 1)) ∧ PW S mX4_isFound Q 4 [some (Aq 34), some (Iq x1), some (Iq (bOr x2 0)), some (Iq (x3 + 1))] [] mem)) ∧ (¬ (pcn (alk (mem 35) ((x1).toNat) ((x3).toNat)) < mem 35 3) → ((in32 (x3 + 1)) ∧ PW S mX4_isFound Q 4 [some (Aq 34), some (Iq x1), some (Iq (bOr x2 1)), some (Iq (x3 + 1))] [] mem)))))))))) :
    PW S mX4_isFound Q 4 [some (Aq 34), some (Iq x1), some (Iq x2), some (Iq x3)] [] mem := by
  refine pw_iload_n eX4_isFound_4 rfl rfl ?_
  refine pw_aload_n eX4_isFound_5 rfl rfl ?_
  refine gf_RX4_7 rfl eX4_isFound_6 sh34 ?_
  refine pw_iconst eX4_isFound_9 ⟨by decide, by decide⟩ ?_
  refine pw_iald eX4_isFound_10 sh35 (by decide) ?_
  refine pw_icmp_ge eX4_isFound_11 (fun c1 => ?_) (fun c1 => ?_)
  · have h := h.1 c1
    refine pw_iload_n eX4_isFound_51 rfl rfl ?_
    exact pw_iret eX4_isFound_52 h
  · have h := h.2 c1
    refine pw_iload_n eX4_isFound_14 rfl rfl ?_
    refine pw_iload_n eX4_isFound_15 rfl rfl ?_
    refine pw_iload_n eX4_isFound_16 rfl rfl ?_
    refine pw_icmp_eq eX4_isFound_17 (fun c2 => ?_) (fun c2 => ?_)
    · have h := h.1 c2
      refine pw_iconst eX4_isFound_42 ⟨by decide, by decide⟩ ?_
      refine pw_ior eX4_isFound_43 ?_
      refine pw_istore_n (ls2 := [some (Aq 34), some (Iq x1), some (Iq (bOr x2 0)), some (Iq x3)]) eX4_isFound_44 rfl (by decide) rfl ?_
      obtain ⟨ob3, h⟩ := h
      refine pw_iinc (ls2 := [some (Aq 34), some (Iq x1), some (Iq (bOr x2 0)), some (Iq (x3 + 1))]) eX4_isFound_45 rfl ob3 rfl ?_
      refine pw_goto eX4_isFound_48 ?_
      exact h
    · have h := h.2 c2
      refine pw_aload_n eX4_isFound_20 rfl rfl ?_
      refine pw_iload_n eX4_isFound_21 rfl rfl ?_
      refine pw_iload_n eX4_isFound_22 rfl rfl ?_
      obtain ⟨ob4, h⟩ := h
      refine pw_cV (z := mX4_alikeOf) (av := [Iq x1, Iq x3]) (st := [Iq x2]) eX4_isFound_23 lk_RX4_105 rfl (by decide) (by decide) sh34 rfl rfl (Nat.le_of_ble_eq_true rfl) rfl (ct_X4_alikeOf (mem := mem) ob4) ?_
      show PW S mX4_isFound Q 26 [some (Aq 34), some (Iq x1), some (Iq x2), some (Iq x3)] [Iq (alk (mem 35) ((x1).toNat) ((x3).toNat)), Iq x2] mem
      obtain ⟨ob5, h⟩ := h
      refine pw_cS (z := mX4_many) (av := [Iq (alk (mem 35) ((x1).toNat) ((x3).toNat))]) (st := [Iq x2]) eX4_isFound_26 lk_RX4_111 rfl (by decide) (by decide) (Nat.le_of_ble_eq_true rfl) rfl (ct_X4_many (mem := mem) ob5) ?_
      show PW S mX4_isFound Q 29 [some (Aq 34), some (Iq x1), some (Iq x2), some (Iq x3)] [Iq (pcn (alk (mem 35) ((x1).toNat) ((x3).toNat))), Iq x2] mem
      refine pw_aload_n eX4_isFound_29 rfl rfl ?_
      refine gf_RX4_7 rfl eX4_isFound_30 sh34 ?_
      refine pw_iconst eX4_isFound_33 ⟨by decide, by decide⟩ ?_
      refine pw_iald eX4_isFound_34 sh35 (by decide) ?_
      refine pw_icmp_lt eX4_isFound_35 (fun c6 => ?_) (fun c6 => ?_)
      · have h := h.1 c6
        refine pw_iconst eX4_isFound_42 ⟨by decide, by decide⟩ ?_
        refine pw_ior eX4_isFound_43 ?_
        refine pw_istore_n (ls2 := [some (Aq 34), some (Iq x1), some (Iq (bOr x2 0)), some (Iq x3)]) eX4_isFound_44 rfl (by decide) rfl ?_
        obtain ⟨ob7, h⟩ := h
        refine pw_iinc (ls2 := [some (Aq 34), some (Iq x1), some (Iq (bOr x2 0)), some (Iq (x3 + 1))]) eX4_isFound_45 rfl ob7 rfl ?_
        refine pw_goto eX4_isFound_48 ?_
        exact h
      · have h := h.2 c6
        refine pw_iconst eX4_isFound_38 ⟨by decide, by decide⟩ ?_
        refine pw_goto eX4_isFound_39 ?_
        refine pw_ior eX4_isFound_43 ?_
        refine pw_istore_n (ls2 := [some (Aq 34), some (Iq x1), some (Iq (bOr x2 1)), some (Iq x3)]) eX4_isFound_44 rfl (by decide) rfl ?_
        obtain ⟨ob8, h⟩ := h
        refine pw_iinc (ls2 := [some (Aq 34), some (Iq x1), some (Iq (bOr x2 1)), some (Iq (x3 + 1))]) eX4_isFound_45 rfl ob8 rfl ?_
        refine pw_goto eX4_isFound_48 ?_
        exact h
set_option maxRecDepth 100000 in
theorem rg_X4_now_0 {S : Sx} {Q : Option PV → Zm → Prop} {mem : Zm}   {x1 : Int} 
    (h : (((x1 = 0) → (Q (some (Iq (mem 35 1))) mem)) ∧ ((x1 = 1) → ((OKA (mem 35)) ∧ Q (some (Iq (sumA (mem 35) 3 (nA (mem 35))))) mem)) ∧ ((x1 = 2) → ((OKA (mem 35)) ∧ Q (some (Iq (sumA (mem 35) 5 (nA (mem 35))))) mem)) ∧ ((x1 = 3) → ((OKA (mem 35)) ∧ Q (some (Iq (sumA (mem 35) 4 (nA (mem 35))))) mem)) ∧ ((x1 = 4) → ((OKA (mem 35)) ∧ Q (some (Iq (lndA (mem 35) (nA (mem 35))))) mem)) ∧ ((x1 = 5) → ((OKA (mem 35)) ∧ Q (some (Iq ((bstA (mem 35) (nA (mem 35))).1))) mem)) ∧ ((x1 = 6) → ((OKA (mem 35)) ∧ Q (some (Iq (unkA (mem 35) (nA (mem 35))))) mem)) ∧ ((x1 < 0 ∨ 6 < x1) → ((fOK mem (-1000001)) ∧ Q (some (Iq (-1000001))) (fnds mem (-1000001)))))) :
    PW S mX4_now Q 0 [some (Aq 34), some (Iq x1)] [] mem := by
  refine pw_iload_n eX4_now_0 rfl rfl ?_
  obtain ⟨hk0, hk1, hk2, hk3, hk4, hk5, hk6, hkd⟩ := h
  refine pw_tsw (ps := [(0, 44), (1, 51), (2, 57), (3, 63), (4, 69), (5, 74), (6, 79)]) (td := 84) eX4_now_1 rfl (by decide) (by decide) rfl ⟨fun c1 => ?_, fun c1 => ?_, fun c1 => ?_, fun c1 => ?_, fun c1 => ?_, fun c1 => ?_, fun c1 => ?_, trivial⟩ (fun c1 => ?_)
  · have h := hk0 c1
    refine pw_aload_n eX4_now_44 rfl rfl ?_
    refine gf_RX4_7 rfl eX4_now_45 sh34 ?_
    refine pw_iconst eX4_now_48 ⟨by decide, by decide⟩ ?_
    refine pw_iald eX4_now_49 sh35 (by decide) ?_
    exact pw_iret eX4_now_50 h
  · have h := hk1 c1
    refine pw_aload_n eX4_now_51 rfl rfl ?_
    refine pw_iconst eX4_now_52 ⟨by decide, by decide⟩ ?_
    obtain ⟨ob2, h⟩ := h
    refine pw_cV (z := mX4_sumOf) (av := [Iq 3]) (st := []) eX4_now_53 lk_RX4_134 rfl (by decide) (by decide) sh34 rfl rfl (Nat.le_of_ble_eq_true rfl) rfl (ct_X4_sumOf (mem := mem) ⟨ob2, by decide, by decide⟩) ?_
    show PW S mX4_now Q 56 [some (Aq 34), some (Iq x1)] [Iq (sumA (mem 35) 3 (nA (mem 35)))] mem
    exact pw_iret eX4_now_56 h
  · have h := hk2 c1
    refine pw_aload_n eX4_now_57 rfl rfl ?_
    refine pw_iconst eX4_now_58 ⟨by decide, by decide⟩ ?_
    obtain ⟨ob3, h⟩ := h
    refine pw_cV (z := mX4_sumOf) (av := [Iq 5]) (st := []) eX4_now_59 lk_RX4_134 rfl (by decide) (by decide) sh34 rfl rfl (Nat.le_of_ble_eq_true rfl) rfl (ct_X4_sumOf (mem := mem) ⟨ob3, by decide, by decide⟩) ?_
    show PW S mX4_now Q 62 [some (Aq 34), some (Iq x1)] [Iq (sumA (mem 35) 5 (nA (mem 35)))] mem
    exact pw_iret eX4_now_62 h
  · have h := hk3 c1
    refine pw_aload_n eX4_now_63 rfl rfl ?_
    refine pw_iconst eX4_now_64 ⟨by decide, by decide⟩ ?_
    obtain ⟨ob4, h⟩ := h
    refine pw_cV (z := mX4_sumOf) (av := [Iq 4]) (st := []) eX4_now_65 lk_RX4_134 rfl (by decide) (by decide) sh34 rfl rfl (Nat.le_of_ble_eq_true rfl) rfl (ct_X4_sumOf (mem := mem) ⟨ob4, by decide, by decide⟩) ?_
    show PW S mX4_now Q 68 [some (Aq 34), some (Iq x1)] [Iq (sumA (mem 35) 4 (nA (mem 35)))] mem
    exact pw_iret eX4_now_68 h
  · have h := hk4 c1
    refine pw_aload_n eX4_now_69 rfl rfl ?_
    obtain ⟨ob5, h⟩ := h
    refine pw_cV (z := mX4_lenders) (av := []) (st := []) eX4_now_70 lk_RX4_140 rfl (by decide) (by decide) sh34 rfl rfl (Nat.le_of_ble_eq_true rfl) rfl (ct_X4_lenders (mem := mem) ob5) ?_
    show PW S mX4_now Q 73 [some (Aq 34), some (Iq x1)] [Iq (lndA (mem 35) (nA (mem 35)))] mem
    exact pw_iret eX4_now_73 h
  · have h := hk5 c1
    refine pw_aload_n eX4_now_74 rfl rfl ?_
    obtain ⟨ob6, h⟩ := h
    refine pw_cV (z := mX4_bests) (av := []) (st := []) eX4_now_75 lk_RX4_144 rfl (by decide) (by decide) sh34 rfl rfl (Nat.le_of_ble_eq_true rfl) rfl (ct_X4_bests (mem := mem) ob6) ?_
    show PW S mX4_now Q 78 [some (Aq 34), some (Iq x1)] [Iq ((bstA (mem 35) (nA (mem 35))).1)] mem
    exact pw_iret eX4_now_78 h
  · have h := hk6 c1
    refine pw_aload_n eX4_now_79 rfl rfl ?_
    obtain ⟨ob7, h⟩ := h
    refine pw_cV (z := mX4_unknown) (av := []) (st := []) eX4_now_80 lk_RX4_147 rfl (by decide) (by decide) sh34 rfl rfl (Nat.le_of_ble_eq_true rfl) rfl (ct_X4_unknown (mem := mem) ob7) ?_
    show PW S mX4_now Q 83 [some (Aq 34), some (Iq x1)] [Iq (unkA (mem 35) (nA (mem 35)))] mem
    exact pw_iret eX4_now_83 h
  · have h := hkd c1
    refine pw_aload_n eX4_now_84 rfl rfl ?_
    refine pw_ldc (n := (-1000001)) eX4_now_85 ⟨by decide, by decide⟩ kc_RX4_37 ?_
    obtain ⟨ob8, h⟩ := h
    refine pw_cV (z := mX4_finds) (av := [Iq (-1000001)]) (st := []) eX4_now_87 lk_RX4_39 rfl (by decide) (by decide) sh34 rfl rfl (Nat.le_of_ble_eq_true rfl) rfl (ct_X4_finds' (mem := mem) ob8) ?_
    show PW S mX4_now Q 90 [some (Aq 34), some (Iq x1)] [Iq (-1000001)] (fnds mem (-1000001))
    exact pw_iret eX4_now_90 h
set_option maxRecDepth 100000 in
theorem rg_X4_wantsFor_0 {S : Sx} {Q : Option PV → Zm → Prop} {mem : Zm}   {x1 x2 : Int} 
    (h : (((wntV mem x1 = 0) → ((((0 ≤ x2 ∧ x2 < mem 35 0) → (Q (some (Iq 0)) mem)) ∧ (¬ (0 ≤ x2 ∧ x2 < mem 35 0) → (Q (some (Iq (-1000001))) mem))))) ∧ (¬ (wntV mem x1 = 0) → (Q (some (Iq (wntV mem x1))) mem)))) :
    PW S mX4_wantsFor Q 0 [some (Aq 34), some (Iq x1), some (Iq x2)] [] mem := by
  refine pw_aload_n eX4_wantsFor_0 rfl rfl ?_
  refine pw_iload_n eX4_wantsFor_1 rfl rfl ?_
  refine pw_cV (z := mX4_wants) (av := [Iq x1]) (st := []) eX4_wantsFor_2 lk_RX4_175 rfl (by decide) (by decide) sh34 rfl rfl (Nat.le_of_ble_eq_true rfl) rfl (ct_X4_wants (mem := mem)) ?_
  show PW S mX4_wantsFor Q 5 [some (Aq 34), some (Iq x1), some (Iq x2)] [Iq (wntV mem x1)] mem
  refine pw_if_eq eX4_wantsFor_5 (fun c1 => ?_) (fun c1 => ?_)
  · have h := h.1 c1
    refine pw_aload_n eX4_wantsFor_16 rfl rfl ?_
    refine pw_iload_n eX4_wantsFor_17 rfl rfl ?_
    refine pw_cV (z := mX4_isChild) (av := [Iq x2]) (st := []) eX4_wantsFor_18 lk_RX4_77 rfl (by decide) (by decide) sh34 rfl rfl (Nat.le_of_ble_eq_true rfl) rfl (ct_X4_isChild (mem := mem)) ?_
    show PW S mX4_wantsFor Q 21 [some (Aq 34), some (Iq x1), some (Iq x2)] [Iq (bI (0 ≤ x2 ∧ x2 < mem 35 0))] mem
    refine pw_if_eq eX4_wantsFor_21 (fun c2 => ?_) (fun c2 => ?_)
    · have h := h.2 (bI0.mp c2)
      refine pw_ldc (n := (-1000001)) eX4_wantsFor_28 ⟨by decide, by decide⟩ kc_RX4_37 ?_
      exact pw_iret eX4_wantsFor_30 h
    · have h := h.1 (bI1.mp c2)
      refine pw_iconst eX4_wantsFor_24 ⟨by decide, by decide⟩ ?_
      refine pw_goto eX4_wantsFor_25 ?_
      exact pw_iret eX4_wantsFor_30 h
  · have h := h.2 c1
    refine pw_aload_n eX4_wantsFor_8 rfl rfl ?_
    refine pw_iload_n eX4_wantsFor_9 rfl rfl ?_
    refine pw_cV (z := mX4_wants) (av := [Iq x1]) (st := []) eX4_wantsFor_10 lk_RX4_175 rfl (by decide) (by decide) sh34 rfl rfl (Nat.le_of_ble_eq_true rfl) rfl (ct_X4_wants (mem := mem)) ?_
    show PW S mX4_wantsFor Q 13 [some (Aq 34), some (Iq x1), some (Iq x2)] [Iq (wntV mem x1)] mem
    refine pw_goto eX4_wantsFor_13 ?_
    exact pw_iret eX4_wantsFor_30 h
set_option maxRecDepth 100000 in
theorem rg_X4_isFour_0 {S : Sx} {Q : Option PV → Zm → Prop} {mem : Zm}   {x1 x2 x3 x4 : Int} 
    (h : (in32 (mem 34 15 - mem 34 14)) ∧ (((mem 34 13 = 1 ∧ mem 34 15 - mem 34 14 = 4) → ((∃ (v3 : Int) (m4 : Zm), Ct1 S mX4_has3 [Aq 34, Iq 0, Iq x1, Iq x2, Iq x3] mem (some (Iq v3)) m4 ∧ ((((v3 = 0) → (Q (some (Iq 0)) m4)) ∧ (¬ (v3 = 0) → ((∃ (v7 : Int) (m8 : Zm), Ct1 S mX4_has3 [Aq 34, Iq 1, Iq x2, Iq x3, Iq x4] m4 (some (Iq v7)) m8 ∧ ((((v7 = 0) → (Q (some (Iq 0)) m8)) ∧ (¬ (v7 = 0) → (Q (some (Iq 1)) m8)))))))))))) ∧ (¬ (mem 34 13 = 1 ∧ mem 34 15 - mem 34 14 = 4) → (Q (some (Iq 0)) mem)))) :
    PW S mX4_isFour Q 0 [some (Aq 34), some (Iq x1), some (Iq x2), some (Iq x3), some (Iq x4)] [] mem := by
  refine pw_aload_n eX4_isFour_0 rfl rfl ?_
  refine pw_iconst eX4_isFour_1 ⟨by decide, by decide⟩ ?_
  obtain ⟨ob1, h⟩ := h
  refine pw_cV (z := mX4_isWord) (av := [Iq 4]) (st := []) eX4_isFour_2 lk_RX4_229 rfl (by decide) (by decide) sh34 rfl rfl (Nat.le_of_ble_eq_true rfl) rfl (ct_X4_isWord (mem := mem) ob1) ?_
  show PW S mX4_isFour Q 5 [some (Aq 34), some (Iq x1), some (Iq x2), some (Iq x3), some (Iq x4)] [Iq (bI (mem 34 13 = 1 ∧ mem 34 15 - mem 34 14 = 4))] mem
  refine pw_if_eq eX4_isFour_5 (fun c2 => ?_) (fun c2 => ?_)
  · have h := h.2 (bI0.mp c2)
    refine pw_iconst eX4_isFour_35 ⟨by decide, by decide⟩ ?_
    exact pw_iret eX4_isFour_36 h
  · have h := h.1 (bI1.mp c2)
    refine pw_aload_n eX4_isFour_8 rfl rfl ?_
    refine pw_iconst eX4_isFour_9 ⟨by decide, by decide⟩ ?_
    refine pw_iload_n eX4_isFour_10 rfl rfl ?_
    refine pw_iload_n eX4_isFour_11 rfl rfl ?_
    refine pw_iload_n eX4_isFour_12 rfl rfl ?_
    obtain ⟨v3, m4, hc5, h⟩ := h
    refine pw_cV (z := mX4_has3) (av := [Iq 0, Iq x1, Iq x2, Iq x3]) (st := []) eX4_isFour_13 lk_RX4_232 rfl (by decide) (by decide) sh34 rfl rfl (Nat.le_of_ble_eq_true rfl) rfl hc5 ?_
    show PW S mX4_isFour Q 16 [some (Aq 34), some (Iq x1), some (Iq x2), some (Iq x3), some (Iq x4)] [Iq v3] m4
    refine pw_if_eq eX4_isFour_16 (fun c6 => ?_) (fun c6 => ?_)
    · have h := h.1 c6
      refine pw_iconst eX4_isFour_35 ⟨by decide, by decide⟩ ?_
      exact pw_iret eX4_isFour_36 h
    · have h := h.2 c6
      refine pw_aload_n eX4_isFour_19 rfl rfl ?_
      refine pw_iconst eX4_isFour_20 ⟨by decide, by decide⟩ ?_
      refine pw_iload_n eX4_isFour_21 rfl rfl ?_
      refine pw_iload_n eX4_isFour_22 rfl rfl ?_
      refine pw_iload eX4_isFour_23 rfl ?_
      obtain ⟨v7, m8, hc9, h⟩ := h
      refine pw_cV (z := mX4_has3) (av := [Iq 1, Iq x2, Iq x3, Iq x4]) (st := []) eX4_isFour_25 lk_RX4_232 rfl (by decide) (by decide) sh34 rfl rfl (Nat.le_of_ble_eq_true rfl) rfl hc9 ?_
      show PW S mX4_isFour Q 28 [some (Aq 34), some (Iq x1), some (Iq x2), some (Iq x3), some (Iq x4)] [Iq v7] m8
      refine pw_if_eq eX4_isFour_28 (fun c10 => ?_) (fun c10 => ?_)
      · have h := h.1 c10
        refine pw_iconst eX4_isFour_35 ⟨by decide, by decide⟩ ?_
        exact pw_iret eX4_isFour_36 h
      · have h := h.2 c10
        refine pw_iconst eX4_isFour_31 ⟨by decide, by decide⟩ ?_
        refine pw_goto eX4_isFour_32 ?_
        exact pw_iret eX4_isFour_36 h
set_option maxRecDepth 100000 in
theorem rg_X4_isFive_0 {S : Sx} {Q : Option PV → Zm → Prop} {mem : Zm}   {x1 x2 x3 x4 x5 : Int} 
    (h : (in32 (mem 34 15 - mem 34 14)) ∧ (((mem 34 13 = 1 ∧ mem 34 15 - mem 34 14 = 5) → ((∃ (v3 : Int) (m4 : Zm), Ct1 S mX4_has3 [Aq 34, Iq 0, Iq x1, Iq x2, Iq x3] mem (some (Iq v3)) m4 ∧ ((((v3 = 0) → (Q (some (Iq 0)) m4)) ∧ (¬ (v3 = 0) → ((∃ (v7 : Int) (m8 : Zm), Ct1 S mX4_has3 [Aq 34, Iq 2, Iq x3, Iq x4, Iq x5] m4 (some (Iq v7)) m8 ∧ ((((v7 = 0) → (Q (some (Iq 0)) m8)) ∧ (¬ (v7 = 0) → (Q (some (Iq 1)) m8)))))))))))) ∧ (¬ (mem 34 13 = 1 ∧ mem 34 15 - mem 34 14 = 5) → (Q (some (Iq 0)) mem)))) :
    PW S mX4_isFive Q 0 [some (Aq 34), some (Iq x1), some (Iq x2), some (Iq x3), some (Iq x4), some (Iq x5)] [] mem := by
  refine pw_aload_n eX4_isFive_0 rfl rfl ?_
  refine pw_iconst eX4_isFive_1 ⟨by decide, by decide⟩ ?_
  obtain ⟨ob1, h⟩ := h
  refine pw_cV (z := mX4_isWord) (av := [Iq 5]) (st := []) eX4_isFive_2 lk_RX4_229 rfl (by decide) (by decide) sh34 rfl rfl (Nat.le_of_ble_eq_true rfl) rfl (ct_X4_isWord (mem := mem) ob1) ?_
  show PW S mX4_isFive Q 5 [some (Aq 34), some (Iq x1), some (Iq x2), some (Iq x3), some (Iq x4), some (Iq x5)] [Iq (bI (mem 34 13 = 1 ∧ mem 34 15 - mem 34 14 = 5))] mem
  refine pw_if_eq eX4_isFive_5 (fun c2 => ?_) (fun c2 => ?_)
  · have h := h.2 (bI0.mp c2)
    refine pw_iconst eX4_isFive_36 ⟨by decide, by decide⟩ ?_
    exact pw_iret eX4_isFive_37 h
  · have h := h.1 (bI1.mp c2)
    refine pw_aload_n eX4_isFive_8 rfl rfl ?_
    refine pw_iconst eX4_isFive_9 ⟨by decide, by decide⟩ ?_
    refine pw_iload_n eX4_isFive_10 rfl rfl ?_
    refine pw_iload_n eX4_isFive_11 rfl rfl ?_
    refine pw_iload_n eX4_isFive_12 rfl rfl ?_
    obtain ⟨v3, m4, hc5, h⟩ := h
    refine pw_cV (z := mX4_has3) (av := [Iq 0, Iq x1, Iq x2, Iq x3]) (st := []) eX4_isFive_13 lk_RX4_232 rfl (by decide) (by decide) sh34 rfl rfl (Nat.le_of_ble_eq_true rfl) rfl hc5 ?_
    show PW S mX4_isFive Q 16 [some (Aq 34), some (Iq x1), some (Iq x2), some (Iq x3), some (Iq x4), some (Iq x5)] [Iq v3] m4
    refine pw_if_eq eX4_isFive_16 (fun c6 => ?_) (fun c6 => ?_)
    · have h := h.1 c6
      refine pw_iconst eX4_isFive_36 ⟨by decide, by decide⟩ ?_
      exact pw_iret eX4_isFive_37 h
    · have h := h.2 c6
      refine pw_aload_n eX4_isFive_19 rfl rfl ?_
      refine pw_iconst eX4_isFive_20 ⟨by decide, by decide⟩ ?_
      refine pw_iload_n eX4_isFive_21 rfl rfl ?_
      refine pw_iload eX4_isFive_22 rfl ?_
      refine pw_iload eX4_isFive_24 rfl ?_
      obtain ⟨v7, m8, hc9, h⟩ := h
      refine pw_cV (z := mX4_has3) (av := [Iq 2, Iq x3, Iq x4, Iq x5]) (st := []) eX4_isFive_26 lk_RX4_232 rfl (by decide) (by decide) sh34 rfl rfl (Nat.le_of_ble_eq_true rfl) rfl hc9 ?_
      show PW S mX4_isFive Q 29 [some (Aq 34), some (Iq x1), some (Iq x2), some (Iq x3), some (Iq x4), some (Iq x5)] [Iq v7] m8
      refine pw_if_eq eX4_isFive_29 (fun c10 => ?_) (fun c10 => ?_)
      · have h := h.1 c10
        refine pw_iconst eX4_isFive_36 ⟨by decide, by decide⟩ ?_
        exact pw_iret eX4_isFive_37 h
      · have h := h.2 c10
        refine pw_iconst eX4_isFive_32 ⟨by decide, by decide⟩ ?_
        refine pw_goto eX4_isFive_33 ?_
        exact pw_iret eX4_isFive_37 h
set_option maxRecDepth 100000 in
theorem rg_X4_isSix_0 {S : Sx} {Q : Option PV → Zm → Prop} {mem : Zm}   {x1 x2 x3 x4 x5 x6 : Int} 
    (h : (in32 (mem 34 15 - mem 34 14)) ∧ (((mem 34 13 = 1 ∧ mem 34 15 - mem 34 14 = 6) → ((∃ (v3 : Int) (m4 : Zm), Ct1 S mX4_has3 [Aq 34, Iq 0, Iq x1, Iq x2, Iq x3] mem (some (Iq v3)) m4 ∧ ((((v3 = 0) → (Q (some (Iq 0)) m4)) ∧ (¬ (v3 = 0) → ((∃ (v7 : Int) (m8 : Zm), Ct1 S mX4_has3 [Aq 34, Iq 3, Iq x4, Iq x5, Iq x6] m4 (some (Iq v7)) m8 ∧ ((((v7 = 0) → (Q (some (Iq 0)) m8)) ∧ (¬ (v7 = 0) → (Q (some (Iq 1)) m8)))))))))))) ∧ (¬ (mem 34 13 = 1 ∧ mem 34 15 - mem 34 14 = 6) → (Q (some (Iq 0)) mem)))) :
    PW S mX4_isSix Q 0 [some (Aq 34), some (Iq x1), some (Iq x2), some (Iq x3), some (Iq x4), some (Iq x5), some (Iq x6)] [] mem := by
  refine pw_aload_n eX4_isSix_0 rfl rfl ?_
  refine pw_bipush eX4_isSix_1 ⟨by decide, by decide⟩ (by decide) ?_
  obtain ⟨ob1, h⟩ := h
  refine pw_cV (z := mX4_isWord) (av := [Iq 6]) (st := []) eX4_isSix_3 lk_RX4_229 rfl (by decide) (by decide) sh34 rfl rfl (Nat.le_of_ble_eq_true rfl) rfl (ct_X4_isWord (mem := mem) ob1) ?_
  show PW S mX4_isSix Q 6 [some (Aq 34), some (Iq x1), some (Iq x2), some (Iq x3), some (Iq x4), some (Iq x5), some (Iq x6)] [Iq (bI (mem 34 13 = 1 ∧ mem 34 15 - mem 34 14 = 6))] mem
  refine pw_if_eq eX4_isSix_6 (fun c2 => ?_) (fun c2 => ?_)
  · have h := h.2 (bI0.mp c2)
    refine pw_iconst eX4_isSix_38 ⟨by decide, by decide⟩ ?_
    exact pw_iret eX4_isSix_39 h
  · have h := h.1 (bI1.mp c2)
    refine pw_aload_n eX4_isSix_9 rfl rfl ?_
    refine pw_iconst eX4_isSix_10 ⟨by decide, by decide⟩ ?_
    refine pw_iload_n eX4_isSix_11 rfl rfl ?_
    refine pw_iload_n eX4_isSix_12 rfl rfl ?_
    refine pw_iload_n eX4_isSix_13 rfl rfl ?_
    obtain ⟨v3, m4, hc5, h⟩ := h
    refine pw_cV (z := mX4_has3) (av := [Iq 0, Iq x1, Iq x2, Iq x3]) (st := []) eX4_isSix_14 lk_RX4_232 rfl (by decide) (by decide) sh34 rfl rfl (Nat.le_of_ble_eq_true rfl) rfl hc5 ?_
    show PW S mX4_isSix Q 17 [some (Aq 34), some (Iq x1), some (Iq x2), some (Iq x3), some (Iq x4), some (Iq x5), some (Iq x6)] [Iq v3] m4
    refine pw_if_eq eX4_isSix_17 (fun c6 => ?_) (fun c6 => ?_)
    · have h := h.1 c6
      refine pw_iconst eX4_isSix_38 ⟨by decide, by decide⟩ ?_
      exact pw_iret eX4_isSix_39 h
    · have h := h.2 c6
      refine pw_aload_n eX4_isSix_20 rfl rfl ?_
      refine pw_iconst eX4_isSix_21 ⟨by decide, by decide⟩ ?_
      refine pw_iload eX4_isSix_22 rfl ?_
      refine pw_iload eX4_isSix_24 rfl ?_
      refine pw_iload eX4_isSix_26 rfl ?_
      obtain ⟨v7, m8, hc9, h⟩ := h
      refine pw_cV (z := mX4_has3) (av := [Iq 3, Iq x4, Iq x5, Iq x6]) (st := []) eX4_isSix_28 lk_RX4_232 rfl (by decide) (by decide) sh34 rfl rfl (Nat.le_of_ble_eq_true rfl) rfl hc9 ?_
      show PW S mX4_isSix Q 31 [some (Aq 34), some (Iq x1), some (Iq x2), some (Iq x3), some (Iq x4), some (Iq x5), some (Iq x6)] [Iq v7] m8
      refine pw_if_eq eX4_isSix_31 (fun c10 => ?_) (fun c10 => ?_)
      · have h := h.1 c10
        refine pw_iconst eX4_isSix_38 ⟨by decide, by decide⟩ ?_
        exact pw_iret eX4_isSix_39 h
      · have h := h.2 c10
        refine pw_iconst eX4_isSix_34 ⟨by decide, by decide⟩ ?_
        refine pw_goto eX4_isSix_35 ?_
        exact pw_iret eX4_isSix_39 h
set_option maxRecDepth 100000 in
theorem rg_X4_perhaps_0 {S : Sx} {Q : Option PV → Zm → Prop} {mem : Zm}   {x1 x2 x3 x4 : Int} 
    (h : (((x1 = 0) → (Q (some (Iq 1)) mem)) ∧ (¬ (x1 = 0) → ((∃ (m3 : Zm), Ct1 S mX4_nextToken [Aq 34] mem none m3 ∧ ((∃ (v5 : Int) (m6 : Zm), Ct1 S mX4_isNumber [Aq 34, Iq x3, Iq x4] m3 (some (Iq v5)) m6 ∧ ((((v5 = 0) → (Q (some (Iq 0)) m6)) ∧ (¬ (v5 = 0) → ((0 ≤ x2 ∧ x2 < 134) ∧ (∃ (m11 : Zm), Ct1 S mX4_nextToken [Aq 34] (mup m6 35 (x2).toNat (m6 34 16)) none m11 ∧ (Q (some (Iq 1)) m11))))))))))))) :
    PW S mX4_perhaps Q 0 [some (Aq 34), some (Iq x1), some (Iq x2), some (Iq x3), some (Iq x4)] [] mem := by
  refine pw_iload_n eX4_perhaps_0 rfl rfl ?_
  refine pw_if_ne eX4_perhaps_1 (fun c1 => ?_) (fun c1 => ?_)
  · have h := h.2 c1
    refine pw_aload_n eX4_perhaps_6 rfl rfl ?_
    obtain ⟨m3, hc4, h⟩ := h
    refine pw_cV (z := mX4_nextToken) (av := []) (st := []) eX4_perhaps_7 lk_RX4_251 rfl (by decide) (by decide) sh34 rfl rfl (Nat.le_of_ble_eq_true rfl) rfl hc4 ?_
    show PW S mX4_perhaps Q 10 [some (Aq 34), some (Iq x1), some (Iq x2), some (Iq x3), some (Iq x4)] [] m3
    refine pw_aload_n eX4_perhaps_10 rfl rfl ?_
    refine pw_iload_n eX4_perhaps_11 rfl rfl ?_
    refine pw_iload eX4_perhaps_12 rfl ?_
    obtain ⟨v5, m6, hc7, h⟩ := h
    refine pw_cV (z := mX4_isNumber) (av := [Iq x3, Iq x4]) (st := []) eX4_perhaps_14 lk_RX4_254 rfl (by decide) (by decide) sh34 rfl rfl (Nat.le_of_ble_eq_true rfl) rfl hc7 ?_
    show PW S mX4_perhaps Q 17 [some (Aq 34), some (Iq x1), some (Iq x2), some (Iq x3), some (Iq x4)] [Iq v5] m6
    refine pw_if_ne eX4_perhaps_17 (fun c8 => ?_) (fun c8 => ?_)
    · have h := h.2 c8
      refine pw_aload_n eX4_perhaps_22 rfl rfl ?_
      refine gf_RX4_7 rfl eX4_perhaps_23 sh34 ?_
      refine pw_iload_n eX4_perhaps_26 rfl rfl ?_
      refine pw_aload_n eX4_perhaps_27 rfl rfl ?_
      refine gf_RX4_223 rfl eX4_perhaps_28 sh34 ?_
      obtain ⟨ob9, h⟩ := h
      refine pw_iast eX4_perhaps_31 sh35 ob9 ?_
      refine pw_aload_n eX4_perhaps_32 rfl rfl ?_
      obtain ⟨m11, hc12, h⟩ := h
      refine pw_cV (z := mX4_nextToken) (av := []) (st := []) eX4_perhaps_33 lk_RX4_251 rfl (by decide) (by decide) sh34 rfl rfl (Nat.le_of_ble_eq_true rfl) rfl hc12 ?_
      show PW S mX4_perhaps Q 36 [some (Aq 34), some (Iq x1), some (Iq x2), some (Iq x3), some (Iq x4)] [] m11
      refine pw_iconst eX4_perhaps_36 ⟨by decide, by decide⟩ ?_
      exact pw_iret eX4_perhaps_37 h
    · have h := h.1 (Classical.not_not.mp c8)
      refine pw_iconst eX4_perhaps_20 ⟨by decide, by decide⟩ ?_
      exact pw_iret eX4_perhaps_21 h
  · have h := h.1 (Classical.not_not.mp c1)
    refine pw_iconst eX4_perhaps_4 ⟨by decide, by decide⟩ ?_
    exact pw_iret eX4_perhaps_5 h
set_option maxRecDepth 100000 in
theorem rg_X4_load_0 {S : Sx} {Q : Option PV → Zm → Prop} {mem : Zm}   {x1 : Int} 
    (h : (((wntV mem x1 = 0) → (PW S mX4_load Q 20 [some (Aq 34), some (Iq x1), some (Iq 0)] [] mem)) ∧ (¬ (wntV mem x1 = 0) → ((fOK mem (wntV mem x1)) ∧ Q (some (Iq (wntV mem x1))) (fnds mem (wntV mem x1)))))) :
    PW S mX4_load Q 0 [some (Aq 34), some (Iq x1), none] [] mem := by
  refine pw_aload_n eX4_load_0 rfl rfl ?_
  refine pw_iload_n eX4_load_1 rfl rfl ?_
  refine pw_cV (z := mX4_wants) (av := [Iq x1]) (st := []) eX4_load_2 lk_RX4_175 rfl (by decide) (by decide) sh34 rfl rfl (Nat.le_of_ble_eq_true rfl) rfl (ct_X4_wants (mem := mem)) ?_
  show PW S mX4_load Q 5 [some (Aq 34), some (Iq x1), none] [Iq (wntV mem x1)] mem
  refine pw_if_eq eX4_load_5 (fun c1 => ?_) (fun c1 => ?_)
  · have h := h.1 c1
    refine pw_iconst eX4_load_18 ⟨by decide, by decide⟩ ?_
    refine pw_istore_n (ls2 := [some (Aq 34), some (Iq x1), some (Iq 0)]) eX4_load_19 rfl (by decide) rfl ?_
    exact h
  · have h := h.2 c1
    refine pw_aload_n eX4_load_8 rfl rfl ?_
    refine pw_aload_n eX4_load_9 rfl rfl ?_
    refine pw_iload_n eX4_load_10 rfl rfl ?_
    refine pw_cV (z := mX4_wants) (av := [Iq x1]) (st := [Aq 34]) eX4_load_11 lk_RX4_175 rfl (by decide) (by decide) sh34 rfl rfl (Nat.le_of_ble_eq_true rfl) rfl (ct_X4_wants (mem := mem)) ?_
    show PW S mX4_load Q 14 [some (Aq 34), some (Iq x1), none] [Iq (wntV mem x1), Aq 34] mem
    obtain ⟨ob2, h⟩ := h
    refine pw_cV (z := mX4_finds) (av := [Iq (wntV mem x1)]) (st := []) eX4_load_14 lk_RX4_39 rfl (by decide) (by decide) sh34 rfl rfl (Nat.le_of_ble_eq_true rfl) rfl (ct_X4_finds' (mem := mem) ob2) ?_
    show PW S mX4_load Q 17 [some (Aq 34), some (Iq x1), none] [Iq (wntV mem x1)] (fnds mem (wntV mem x1))
    exact pw_iret eX4_load_17 h

set_option maxRecDepth 100000 in
theorem rg_X4_load_20 {S : Sx} {Q : Option PV → Zm → Prop} {mem : Zm}   {x1 x2 : Int} 
    (h : (0 ≤ x1 ∧ x1 < 4) ∧ (((mem 42 (x1).toNat ≤ x2) → (Q (some (Iq x2)) mem)) ∧ (¬ (mem 42 (x1).toNat ≤ x2) → ((((8 ≤ x2) → (Q (some (Iq x2)) mem)) ∧ (¬ (8 ≤ x2) → ((in32 (40 * x1)) ∧ (in32 ((40 * x1) + x2)) ∧ (0 ≤ (40 * x1) + x2 ∧ (40 * x1) + x2 < 160) ∧ (((0 ≤ mem 43 ((40 * x1) + x2).toNat ∧ mem 43 ((40 * x1) + x2).toNat ≤ 99) → ((in32 (4 + x2)) ∧ (in32 (40 * x1)) ∧ (in32 ((40 * x1) + x2)) ∧ (0 ≤ (40 * x1) + x2 ∧ (40 * x1) + x2 < 160) ∧ (0 ≤ 4 + x2 ∧ 4 + x2 < 134) ∧ (in32 (x2 + 1)) ∧ PW S mX4_load Q 20 [some (Aq 34), some (Iq x1), some (Iq (x2 + 1))] [] (mup mem 35 (4 + x2).toNat (mem 43 ((40 * x1) + x2).toNat)))) ∧ (¬ (0 ≤ mem 43 ((40 * x1) + x2).toNat ∧ mem 43 ((40 * x1) + x2).toNat ≤ 99) → (Q (some (Iq x2)) mem)))))))))) :
    PW S mX4_load Q 20 [some (Aq 34), some (Iq x1), some (Iq x2)] [] mem := by
  refine pw_iload_n eX4_load_20 rfl rfl ?_
  refine pw_aload_n eX4_load_21 rfl rfl ?_
  refine gf_RX4_31 rfl eX4_load_22 sh34 ?_
  refine pw_iload_n eX4_load_25 rfl rfl ?_
  obtain ⟨ob1, h⟩ := h
  refine pw_iald eX4_load_26 sh42 ob1 ?_
  refine pw_icmp_ge eX4_load_27 (fun c2 => ?_) (fun c2 => ?_)
  · have h := h.1 c2
    refine pw_iload_n eX4_load_83 rfl rfl ?_
    exact pw_iret eX4_load_84 h
  · have h := h.2 c2
    refine pw_iload_n eX4_load_30 rfl rfl ?_
    refine pw_bipush eX4_load_31 ⟨by decide, by decide⟩ (by decide) ?_
    refine pw_icmp_ge eX4_load_33 (fun c3 => ?_) (fun c3 => ?_)
    · have h := h.1 c3
      refine pw_iload_n eX4_load_83 rfl rfl ?_
      exact pw_iret eX4_load_84 h
    · have h := h.2 c3
      refine pw_aload_n eX4_load_36 rfl rfl ?_
      refine gf_RX4_34 rfl eX4_load_37 sh34 ?_
      refine pw_bipush eX4_load_40 ⟨by decide, by decide⟩ (by decide) ?_
      refine pw_iload_n eX4_load_42 rfl rfl ?_
      obtain ⟨ob4, h⟩ := h
      refine pw_imul eX4_load_43 ob4 ?_
      refine pw_iload_n eX4_load_44 rfl rfl ?_
      obtain ⟨ob5, h⟩ := h
      refine pw_iadd eX4_load_45 ob5 ?_
      obtain ⟨ob6, h⟩ := h
      refine pw_iald eX4_load_46 sh43 ob6 ?_
      refine pw_i2l eX4_load_47 ?_
      refine pw_lconst (v := 0) eX4_load_48 ⟨by decide, by decide⟩ rfl ?_
      refine pw_ldc2 (n := 99) eX4_load_49 ⟨by decide, by decide⟩ kc_RX4_47 ?_
      refine pw_cS (z := mX4_isIn) (av := [Jq (mem 43 ((40 * x1) + x2).toNat), Jq 0, Jq 99]) (st := []) eX4_load_52 lk_RX4_49 rfl (by decide) (by decide) (Nat.le_of_ble_eq_true rfl) rfl (ct_X4_isIn (mem := mem)) ?_
      show PW S mX4_load Q 55 [some (Aq 34), some (Iq x1), some (Iq x2)] [Iq (bI (0 ≤ mem 43 ((40 * x1) + x2).toNat ∧ mem 43 ((40 * x1) + x2).toNat ≤ 99))] mem
      refine pw_if_eq eX4_load_55 (fun c7 => ?_) (fun c7 => ?_)
      · have h := h.2 (bI0.mp c7)
        refine pw_iload_n eX4_load_83 rfl rfl ?_
        exact pw_iret eX4_load_84 h
      · have h := h.1 (bI1.mp c7)
        refine pw_aload_n eX4_load_58 rfl rfl ?_
        refine gf_RX4_7 rfl eX4_load_59 sh34 ?_
        refine pw_iconst eX4_load_62 ⟨by decide, by decide⟩ ?_
        refine pw_iload_n eX4_load_63 rfl rfl ?_
        obtain ⟨ob8, h⟩ := h
        refine pw_iadd eX4_load_64 ob8 ?_
        refine pw_aload_n eX4_load_65 rfl rfl ?_
        refine gf_RX4_34 rfl eX4_load_66 sh34 ?_
        refine pw_bipush eX4_load_69 ⟨by decide, by decide⟩ (by decide) ?_
        refine pw_iload_n eX4_load_71 rfl rfl ?_
        obtain ⟨ob9, h⟩ := h
        refine pw_imul eX4_load_72 ob9 ?_
        refine pw_iload_n eX4_load_73 rfl rfl ?_
        obtain ⟨ob10, h⟩ := h
        refine pw_iadd eX4_load_74 ob10 ?_
        obtain ⟨ob11, h⟩ := h
        refine pw_iald eX4_load_75 sh43 ob11 ?_
        obtain ⟨ob12, h⟩ := h
        refine pw_iast eX4_load_76 sh35 ob12 ?_
        obtain ⟨ob13, h⟩ := h
        refine pw_iinc (ls2 := [some (Aq 34), some (Iq x1), some (Iq (x2 + 1))]) eX4_load_77 rfl ob13 rfl ?_
        refine pw_goto eX4_load_80 ?_
        exact h
set_option maxRecDepth 100000 in
theorem rg_X4_judge_0 {S : Sx} {Q : Option PV → Zm → Prop} {mem : Zm}   {x1 : Int} 
    (h : (((wntV mem x1 = 0) → (PW S mX4_judge Q 20 [some (Aq 34), some (Iq x1), some (Iq 0)] [] mem)) ∧ (¬ (wntV mem x1 = 0) → ((fOK mem (wntV mem x1)) ∧ Q (some (Iq (wntV mem x1))) (fnds mem (wntV mem x1)))))) :
    PW S mX4_judge Q 0 [some (Aq 34), some (Iq x1), none] [] mem := by
  refine pw_aload_n eX4_judge_0 rfl rfl ?_
  refine pw_iload_n eX4_judge_1 rfl rfl ?_
  refine pw_cV (z := mX4_wants) (av := [Iq x1]) (st := []) eX4_judge_2 lk_RX4_175 rfl (by decide) (by decide) sh34 rfl rfl (Nat.le_of_ble_eq_true rfl) rfl (ct_X4_wants (mem := mem)) ?_
  show PW S mX4_judge Q 5 [some (Aq 34), some (Iq x1), none] [Iq (wntV mem x1)] mem
  refine pw_if_eq eX4_judge_5 (fun c1 => ?_) (fun c1 => ?_)
  · have h := h.1 c1
    refine pw_iconst eX4_judge_18 ⟨by decide, by decide⟩ ?_
    refine pw_istore_n (ls2 := [some (Aq 34), some (Iq x1), some (Iq 0)]) eX4_judge_19 rfl (by decide) rfl ?_
    exact h
  · have h := h.2 c1
    refine pw_aload_n eX4_judge_8 rfl rfl ?_
    refine pw_aload_n eX4_judge_9 rfl rfl ?_
    refine pw_iload_n eX4_judge_10 rfl rfl ?_
    refine pw_cV (z := mX4_wants) (av := [Iq x1]) (st := [Aq 34]) eX4_judge_11 lk_RX4_175 rfl (by decide) (by decide) sh34 rfl rfl (Nat.le_of_ble_eq_true rfl) rfl (ct_X4_wants (mem := mem)) ?_
    show PW S mX4_judge Q 14 [some (Aq 34), some (Iq x1), none] [Iq (wntV mem x1), Aq 34] mem
    obtain ⟨ob2, h⟩ := h
    refine pw_cV (z := mX4_finds) (av := [Iq (wntV mem x1)]) (st := []) eX4_judge_14 lk_RX4_39 rfl (by decide) (by decide) sh34 rfl rfl (Nat.le_of_ble_eq_true rfl) rfl (ct_X4_finds' (mem := mem) ob2) ?_
    show PW S mX4_judge Q 17 [some (Aq 34), some (Iq x1), none] [Iq (wntV mem x1)] (fnds mem (wntV mem x1))
    exact pw_iret eX4_judge_17 h

set_option maxRecDepth 100000 in
theorem rg_X4_judge_20 {S : Sx} {Q : Option PV → Zm → Prop} {mem : Zm}   {x1 x2 : Int} 
    (h : (0 ≤ x1 ∧ x1 < 4) ∧ (((mem 42 (x1).toNat ≤ x2) → ((0 ≤ x1 ∧ x1 < 4) ∧ (((mem 42 (x1).toNat ≤ x2) → (Q (some (Iq 0)) mem)) ∧ (¬ (mem 42 (x1).toNat ≤ x2) → ((in32 (1 + x2)) ∧ Q (some (Iq (1 + x2))) mem))))) ∧ (¬ (mem 42 (x1).toNat ≤ x2) → ((((0 ≤ x2 ∧ x2 < mem 35 0) → ((in32 (40 * x1)) ∧ (in32 ((40 * x1) + x2)) ∧ (0 ≤ (40 * x1) + x2 ∧ (40 * x1) + x2 < 160) ∧ (0 ≤ x2 ∧ x2 < 8) ∧ (((mem 43 ((40 * x1) + x2).toNat = mem 35 (12 + 14 * (x2).toNat + 3)) → ((in32 (x2 + 1)) ∧ PW S mX4_judge Q 20 [some (Aq 34), some (Iq x1), some (Iq (x2 + 1))] [] mem)) ∧ (¬ (mem 43 ((40 * x1) + x2).toNat = mem 35 (12 + 14 * (x2).toNat + 3)) → ((0 ≤ x1 ∧ x1 < 4) ∧ (((mem 42 (x1).toNat ≤ x2) → (Q (some (Iq 0)) mem)) ∧ (¬ (mem 42 (x1).toNat ≤ x2) → ((in32 (1 + x2)) ∧ Q (some (Iq (1 + x2))) mem)))))))) ∧ (¬ (0 ≤ x2 ∧ x2 < mem 35 0) → ((0 ≤ x1 ∧ x1 < 4) ∧ (((mem 42 (x1).toNat ≤ x2) → (Q (some (Iq 0)) mem)) ∧ (¬ (mem 42 (x1).toNat ≤ x2) → ((in32 (1 + x2)) ∧ Q (some (Iq (1 + x2))) mem)))))))))) :
    PW S mX4_judge Q 20 [some (Aq 34), some (Iq x1), some (Iq x2)] [] mem := by
  refine pw_iload_n eX4_judge_20 rfl rfl ?_
  refine pw_aload_n eX4_judge_21 rfl rfl ?_
  refine gf_RX4_31 rfl eX4_judge_22 sh34 ?_
  refine pw_iload_n eX4_judge_25 rfl rfl ?_
  obtain ⟨ob1, h⟩ := h
  refine pw_iald eX4_judge_26 sh42 ob1 ?_
  refine pw_icmp_ge eX4_judge_27 (fun c2 => ?_) (fun c2 => ?_)
  · have h := h.1 c2
    refine pw_iload_n eX4_judge_64 rfl rfl ?_
    refine pw_aload_n eX4_judge_65 rfl rfl ?_
    refine gf_RX4_31 rfl eX4_judge_66 sh34 ?_
    refine pw_iload_n eX4_judge_69 rfl rfl ?_
    obtain ⟨ob3, h⟩ := h
    refine pw_iald eX4_judge_70 sh42 ob3 ?_
    refine pw_icmp_ge eX4_judge_71 (fun c4 => ?_) (fun c4 => ?_)
    · have h := h.1 c4
      refine pw_iconst eX4_judge_80 ⟨by decide, by decide⟩ ?_
      exact pw_iret eX4_judge_81 h
    · have h := h.2 c4
      refine pw_iconst eX4_judge_74 ⟨by decide, by decide⟩ ?_
      refine pw_iload_n eX4_judge_75 rfl rfl ?_
      obtain ⟨ob5, h⟩ := h
      refine pw_iadd eX4_judge_76 ob5 ?_
      refine pw_goto eX4_judge_77 ?_
      exact pw_iret eX4_judge_81 h
  · have h := h.2 c2
    refine pw_aload_n eX4_judge_30 rfl rfl ?_
    refine pw_iload_n eX4_judge_31 rfl rfl ?_
    refine pw_cV (z := mX4_isChild) (av := [Iq x2]) (st := []) eX4_judge_32 lk_RX4_77 rfl (by decide) (by decide) sh34 rfl rfl (Nat.le_of_ble_eq_true rfl) rfl (ct_X4_isChild (mem := mem)) ?_
    show PW S mX4_judge Q 35 [some (Aq 34), some (Iq x1), some (Iq x2)] [Iq (bI (0 ≤ x2 ∧ x2 < mem 35 0))] mem
    refine pw_if_eq eX4_judge_35 (fun c6 => ?_) (fun c6 => ?_)
    · have h := h.2 (bI0.mp c6)
      refine pw_iload_n eX4_judge_64 rfl rfl ?_
      refine pw_aload_n eX4_judge_65 rfl rfl ?_
      refine gf_RX4_31 rfl eX4_judge_66 sh34 ?_
      refine pw_iload_n eX4_judge_69 rfl rfl ?_
      obtain ⟨ob7, h⟩ := h
      refine pw_iald eX4_judge_70 sh42 ob7 ?_
      refine pw_icmp_ge eX4_judge_71 (fun c8 => ?_) (fun c8 => ?_)
      · have h := h.1 c8
        refine pw_iconst eX4_judge_80 ⟨by decide, by decide⟩ ?_
        exact pw_iret eX4_judge_81 h
      · have h := h.2 c8
        refine pw_iconst eX4_judge_74 ⟨by decide, by decide⟩ ?_
        refine pw_iload_n eX4_judge_75 rfl rfl ?_
        obtain ⟨ob9, h⟩ := h
        refine pw_iadd eX4_judge_76 ob9 ?_
        refine pw_goto eX4_judge_77 ?_
        exact pw_iret eX4_judge_81 h
    · have h := h.1 (bI1.mp c6)
      refine pw_aload_n eX4_judge_38 rfl rfl ?_
      refine gf_RX4_34 rfl eX4_judge_39 sh34 ?_
      refine pw_bipush eX4_judge_42 ⟨by decide, by decide⟩ (by decide) ?_
      refine pw_iload_n eX4_judge_44 rfl rfl ?_
      obtain ⟨ob10, h⟩ := h
      refine pw_imul eX4_judge_45 ob10 ?_
      refine pw_iload_n eX4_judge_46 rfl rfl ?_
      obtain ⟨ob11, h⟩ := h
      refine pw_iadd eX4_judge_47 ob11 ?_
      obtain ⟨ob12, h⟩ := h
      refine pw_iald eX4_judge_48 sh43 ob12 ?_
      refine pw_aload_n eX4_judge_49 rfl rfl ?_
      refine pw_iload_n eX4_judge_50 rfl rfl ?_
      refine pw_iconst eX4_judge_51 ⟨by decide, by decide⟩ ?_
      obtain ⟨ob13, h⟩ := h
      refine pw_cV (z := mX4_its) (av := [Iq x2, Iq 3]) (st := [Iq (mem 43 ((40 * x1) + x2).toNat)]) eX4_judge_52 lk_RX4_71 rfl (by decide) (by decide) sh34 rfl rfl (Nat.le_of_ble_eq_true rfl) rfl (ct_X4_its (mem := mem) ⟨ob13.1, ob13.2, by decide, by decide⟩) ?_
      show PW S mX4_judge Q 55 [some (Aq 34), some (Iq x1), some (Iq x2)] [Iq (mem 35 (12 + 14 * (x2).toNat + 3)), Iq (mem 43 ((40 * x1) + x2).toNat)] mem
      refine pw_icmp_ne eX4_judge_55 (fun c14 => ?_) (fun c14 => ?_)
      · have h := h.2 c14
        refine pw_iload_n eX4_judge_64 rfl rfl ?_
        refine pw_aload_n eX4_judge_65 rfl rfl ?_
        refine gf_RX4_31 rfl eX4_judge_66 sh34 ?_
        refine pw_iload_n eX4_judge_69 rfl rfl ?_
        obtain ⟨ob15, h⟩ := h
        refine pw_iald eX4_judge_70 sh42 ob15 ?_
        refine pw_icmp_ge eX4_judge_71 (fun c16 => ?_) (fun c16 => ?_)
        · have h := h.1 c16
          refine pw_iconst eX4_judge_80 ⟨by decide, by decide⟩ ?_
          exact pw_iret eX4_judge_81 h
        · have h := h.2 c16
          refine pw_iconst eX4_judge_74 ⟨by decide, by decide⟩ ?_
          refine pw_iload_n eX4_judge_75 rfl rfl ?_
          obtain ⟨ob17, h⟩ := h
          refine pw_iadd eX4_judge_76 ob17 ?_
          refine pw_goto eX4_judge_77 ?_
          exact pw_iret eX4_judge_81 h
      · have h := h.1 (Classical.not_not.mp c14)
        obtain ⟨ob18, h⟩ := h
        refine pw_iinc (ls2 := [some (Aq 34), some (Iq x1), some (Iq (x2 + 1))]) eX4_judge_58 rfl ob18 rfl ?_
        refine pw_goto eX4_judge_61 ?_
        exact h
set_option maxRecDepth 100000 in
theorem rg_X4_count_0 {S : Sx} {Q : Option PV → Zm → Prop} {mem : Zm}   {x1 : Int} 
    (h : (((x1 = 0) → (Q (some (Iq (mem 35 1))) mem)) ∧ ((x1 = 1) → (Q (some (Iq (mem 35 0))) mem)) ∧ ((x1 = 2) → ((OKA (mem 35)) ∧ Q (some (Iq (sumA (mem 35) 3 (nA (mem 35))))) mem)) ∧ ((x1 = 3) → ((OKA (mem 35)) ∧ Q (some (Iq (sumA (mem 35) 5 (nA (mem 35))))) mem)) ∧ ((x1 = 4) → ((OKA (mem 35)) ∧ Q (some (Iq (sumA (mem 35) 4 (nA (mem 35))))) mem)) ∧ ((x1 = 5) → (Q (some (Iq (mem 34 7))) mem)) ∧ ((x1 = 6) → (Q (some (Iq (mem 35 2))) mem)) ∧ ((x1 = 7) → (PW S mX4_count Q 94 [some (Aq 34), some (Iq x1), some (Iq 0), some (Iq 0)] [] mem)) ∧ ((x1 < 0 ∨ 7 < x1) → ((fOK mem (-1000001)) ∧ Q (some (Iq (-1000001))) (fnds mem (-1000001)))))) :
    PW S mX4_count Q 0 [some (Aq 34), some (Iq x1), none, none] [] mem := by
  refine pw_iconst eX4_count_0 ⟨by decide, by decide⟩ ?_
  refine pw_istore_n (ls2 := [some (Aq 34), some (Iq x1), some (Iq 0), none]) eX4_count_1 rfl (by decide) rfl ?_
  refine pw_iload_n eX4_count_2 rfl rfl ?_
  obtain ⟨hk0, hk1, hk2, hk3, hk4, hk5, hk6, hk7, hkd⟩ := h
  refine pw_tsw (ps := [(0, 48), (1, 55), (2, 62), (3, 68), (4, 74), (5, 80), (6, 85), (7, 92)]) (td := 128) eX4_count_3 rfl (by decide) (by decide) rfl ⟨fun c1 => ?_, fun c1 => ?_, fun c1 => ?_, fun c1 => ?_, fun c1 => ?_, fun c1 => ?_, fun c1 => ?_, fun c1 => ?_, trivial⟩ (fun c1 => ?_)
  · have h := hk0 c1
    refine pw_aload_n eX4_count_48 rfl rfl ?_
    refine gf_RX4_7 rfl eX4_count_49 sh34 ?_
    refine pw_iconst eX4_count_52 ⟨by decide, by decide⟩ ?_
    refine pw_iald eX4_count_53 sh35 (by decide) ?_
    exact pw_iret eX4_count_54 h
  · have h := hk1 c1
    refine pw_aload_n eX4_count_55 rfl rfl ?_
    refine gf_RX4_7 rfl eX4_count_56 sh34 ?_
    refine pw_iconst eX4_count_59 ⟨by decide, by decide⟩ ?_
    refine pw_iald eX4_count_60 sh35 (by decide) ?_
    exact pw_iret eX4_count_61 h
  · have h := hk2 c1
    refine pw_aload_n eX4_count_62 rfl rfl ?_
    refine pw_iconst eX4_count_63 ⟨by decide, by decide⟩ ?_
    obtain ⟨ob2, h⟩ := h
    refine pw_cV (z := mX4_sumOf) (av := [Iq 3]) (st := []) eX4_count_64 lk_RX4_134 rfl (by decide) (by decide) sh34 rfl rfl (Nat.le_of_ble_eq_true rfl) rfl (ct_X4_sumOf (mem := mem) ⟨ob2, by decide, by decide⟩) ?_
    show PW S mX4_count Q 67 [some (Aq 34), some (Iq x1), some (Iq 0), none] [Iq (sumA (mem 35) 3 (nA (mem 35)))] mem
    exact pw_iret eX4_count_67 h
  · have h := hk3 c1
    refine pw_aload_n eX4_count_68 rfl rfl ?_
    refine pw_iconst eX4_count_69 ⟨by decide, by decide⟩ ?_
    obtain ⟨ob3, h⟩ := h
    refine pw_cV (z := mX4_sumOf) (av := [Iq 5]) (st := []) eX4_count_70 lk_RX4_134 rfl (by decide) (by decide) sh34 rfl rfl (Nat.le_of_ble_eq_true rfl) rfl (ct_X4_sumOf (mem := mem) ⟨ob3, by decide, by decide⟩) ?_
    show PW S mX4_count Q 73 [some (Aq 34), some (Iq x1), some (Iq 0), none] [Iq (sumA (mem 35) 5 (nA (mem 35)))] mem
    exact pw_iret eX4_count_73 h
  · have h := hk4 c1
    refine pw_aload_n eX4_count_74 rfl rfl ?_
    refine pw_iconst eX4_count_75 ⟨by decide, by decide⟩ ?_
    obtain ⟨ob4, h⟩ := h
    refine pw_cV (z := mX4_sumOf) (av := [Iq 4]) (st := []) eX4_count_76 lk_RX4_134 rfl (by decide) (by decide) sh34 rfl rfl (Nat.le_of_ble_eq_true rfl) rfl (ct_X4_sumOf (mem := mem) ⟨ob4, by decide, by decide⟩) ?_
    show PW S mX4_count Q 79 [some (Aq 34), some (Iq x1), some (Iq 0), none] [Iq (sumA (mem 35) 4 (nA (mem 35)))] mem
    exact pw_iret eX4_count_79 h
  · have h := hk5 c1
    refine pw_aload_n eX4_count_80 rfl rfl ?_
    refine gf_RX4_202 rfl eX4_count_81 sh34 ?_
    exact pw_iret eX4_count_84 h
  · have h := hk6 c1
    refine pw_aload_n eX4_count_85 rfl rfl ?_
    refine gf_RX4_7 rfl eX4_count_86 sh34 ?_
    refine pw_iconst eX4_count_89 ⟨by decide, by decide⟩ ?_
    refine pw_iald eX4_count_90 sh35 (by decide) ?_
    exact pw_iret eX4_count_91 h
  · have h := hk7 c1
    refine pw_iconst eX4_count_92 ⟨by decide, by decide⟩ ?_
    refine pw_istore_n (ls2 := [some (Aq 34), some (Iq x1), some (Iq 0), some (Iq 0)]) eX4_count_93 rfl (by decide) rfl ?_
    exact h
  · have h := hkd c1
    refine pw_aload_n eX4_count_128 rfl rfl ?_
    refine pw_ldc (n := (-1000001)) eX4_count_129 ⟨by decide, by decide⟩ kc_RX4_37 ?_
    obtain ⟨ob5, h⟩ := h
    refine pw_cV (z := mX4_finds) (av := [Iq (-1000001)]) (st := []) eX4_count_131 lk_RX4_39 rfl (by decide) (by decide) sh34 rfl rfl (Nat.le_of_ble_eq_true rfl) rfl (ct_X4_finds' (mem := mem) ob5) ?_
    show PW S mX4_count Q 134 [some (Aq 34), some (Iq x1), some (Iq 0), none] [Iq (-1000001)] (fnds mem (-1000001))
    exact pw_iret eX4_count_134 h

set_option maxRecDepth 100000 in
theorem rg_X4_count_94 {S : Sx} {Q : Option PV → Zm → Prop} {mem : Zm}   {x1 x2 x3 : Int} 
    (h : (((10 ≤ x3) → (Q (some (Iq x2)) mem)) ∧ (¬ (10 ≤ x3) → ((in32 (124 + x3)) ∧ (0 ≤ 124 + x3 ∧ 124 + x3 < 134) ∧ (((0 ≤ mem 35 (124 + x3).toNat) → ((in32 (x2 + 1)) ∧ (in32 (x3 + 1)) ∧ PW S mX4_count Q 94 [some (Aq 34), some (Iq x1), some (Iq (x2 + 1)), some (Iq (x3 + 1))] [] mem)) ∧ (¬ (0 ≤ mem 35 (124 + x3).toNat) → ((in32 (x2 + 0)) ∧ (in32 (x3 + 1)) ∧ PW S mX4_count Q 94 [some (Aq 34), some (Iq x1), some (Iq (x2 + 0)), some (Iq (x3 + 1))] [] mem))))))) :
    PW S mX4_count Q 94 [some (Aq 34), some (Iq x1), some (Iq x2), some (Iq x3)] [] mem := by
  refine pw_iload_n eX4_count_94 rfl rfl ?_
  refine pw_bipush eX4_count_95 ⟨by decide, by decide⟩ (by decide) ?_
  refine pw_icmp_ge eX4_count_97 (fun c1 => ?_) (fun c1 => ?_)
  · have h := h.1 c1
    refine pw_iload_n eX4_count_126 rfl rfl ?_
    exact pw_iret eX4_count_127 h
  · have h := h.2 c1
    refine pw_iload_n eX4_count_100 rfl rfl ?_
    refine pw_aload_n eX4_count_101 rfl rfl ?_
    refine gf_RX4_7 rfl eX4_count_102 sh34 ?_
    refine pw_bipush eX4_count_105 ⟨by decide, by decide⟩ (by decide) ?_
    refine pw_iload_n eX4_count_107 rfl rfl ?_
    obtain ⟨ob2, h⟩ := h
    refine pw_iadd eX4_count_108 ob2 ?_
    obtain ⟨ob3, h⟩ := h
    refine pw_iald eX4_count_109 sh35 ob3 ?_
    refine pw_if_ge eX4_count_110 (fun c4 => ?_) (fun c4 => ?_)
    · have h := h.1 c4
      refine pw_iconst eX4_count_117 ⟨by decide, by decide⟩ ?_
      obtain ⟨ob5, h⟩ := h
      refine pw_iadd eX4_count_118 ob5 ?_
      refine pw_istore_n (ls2 := [some (Aq 34), some (Iq x1), some (Iq (x2 + 1)), some (Iq x3)]) eX4_count_119 rfl (by decide) rfl ?_
      obtain ⟨ob6, h⟩ := h
      refine pw_iinc (ls2 := [some (Aq 34), some (Iq x1), some (Iq (x2 + 1)), some (Iq (x3 + 1))]) eX4_count_120 rfl ob6 rfl ?_
      refine pw_goto eX4_count_123 ?_
      exact h
    · have h := h.2 c4
      refine pw_iconst eX4_count_113 ⟨by decide, by decide⟩ ?_
      refine pw_goto eX4_count_114 ?_
      obtain ⟨ob7, h⟩ := h
      refine pw_iadd eX4_count_118 ob7 ?_
      refine pw_istore_n (ls2 := [some (Aq 34), some (Iq x1), some (Iq (x2 + 0)), some (Iq x3)]) eX4_count_119 rfl (by decide) rfl ?_
      obtain ⟨ob8, h⟩ := h
      refine pw_iinc (ls2 := [some (Aq 34), some (Iq x1), some (Iq (x2 + 0)), some (Iq (x3 + 1))]) eX4_count_120 rfl ob8 rfl ?_
      refine pw_goto eX4_count_123 ?_
      exact h
end RG
